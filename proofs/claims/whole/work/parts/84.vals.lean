-- lists of words by a number of each
def cntF (f : List Nat → Nat) (l : List (List Nat)) (g : Nat) : Nat := (l.filter (fun w => f w == g)).length
theorem cntF_cons (f : List Nat → Nat) (w : List Nat) (l : List (List Nat)) (g : Nat) : cntF f (w :: l) g = (if f w = g then 1 else 0) + cntF f l g := by
  unfold cntF
  by_cases e : f w = g
  · rw [if_pos e, List.filter_cons_of_pos (by rw [e, beq_self_eq_true]), List.length_cons, Nat.add_comm]
  · rw [if_neg e, List.filter_cons_of_neg (by rw [beq_eq_false_iff_ne.mpr e]; decide), Nat.zero_add]
theorem cntF_pos {f : List Nat → Nat} {l : List (List Nat)} {g : Nat} : cntF f l g ≠ 0 ↔ ∃ w, w ∈ l ∧ f w = g := by
  constructor
  · intro h
    cases hf : l.filter (fun w => f w == g) with
    | nil => exact absurd (by unfold cntF; rw [hf]; rfl) h
    | cons x tl =>
      have hx : x ∈ l.filter (fun w => f w == g) := by rw [hf]; exact List.mem_cons_self
      exact ⟨x, (List.mem_filter.mp hx).1, eq_of_beq (List.mem_filter.mp hx).2⟩
  · rintro ⟨w, hw, e⟩ h
    have hx : w ∈ l.filter (fun w => f w == g) := List.mem_filter.mpr ⟨hw, by rw [e, beq_self_eq_true]⟩
    rw [List.length_eq_zero_iff.mp h] at hx
    cases hx
def tot (f : List Nat → Nat) : List (List Nat) → Nat
  | [] => 0
  | w :: l => f w + tot f l
theorem tot_snoc (f : List Nat → Nat) (q : List Nat) : ∀ l, tot f (l ++ [q]) = tot f l + f q
  | [] => by show f q + 0 = 0 + f q; omega
  | w :: l => by show f w + tot f (l ++ [q]) = f w + tot f l + f q; rw [tot_snoc f q l]; omega
theorem sumF_ix (x : Nat) : ∀ (d k : Nat), sumF (fun p => if x = p then p else 0) k d = if k ≤ x ∧ x < k + d then x else 0
  | 0, k => by rw [if_neg (by omega)]; rfl
  | d + 1, k => by
    show (if x = k then k else 0) + sumF _ (k + 1) d = _
    rw [sumF_ix x d (k + 1)]
    by_cases e : x = k
    · rw [if_pos e, if_neg (by omega), if_pos (by omega), e]; rfl
    · rw [if_neg e]
      by_cases e2 : k + 1 ≤ x ∧ x < k + 1 + d
      · rw [if_pos e2, if_pos (by omega), Nat.zero_add]
      · rw [if_neg e2, if_neg (by omega)]
theorem cnt_ge (f : List Nat → Nat) {b V : Nat} (hb : b ≤ V) : ∀ l : List (List Nat), (∀ w ∈ l, f w < V) → sumF (cntF f l) b (V - b) = (l.filter (fun w => decide (b ≤ f w))).length
  | [], _ => sumF_zero _ _
  | w :: l, h => by
    have ih := cnt_ge f hb l (fun v hv => h v (List.mem_cons_of_mem _ hv))
    have hw := h w List.mem_cons_self
    rw [sumF_cong (g := fun g => (if f w = g then 1 else 0) + cntF f l g) _ _ (fun g _ _ => cntF_cons f w l g), sumF_add, ih, sumF_ind]
    by_cases e : b ≤ f w
    · rw [if_pos (by omega), List.filter_cons_of_pos (p := fun w => decide (b ≤ f w)) (decide_eq_true e), List.length_cons, Nat.add_comm]
    · rw [if_neg (by omega), List.filter_cons_of_neg (p := fun w => decide (b ≤ f w)) (by rw [decide_eq_false e]; decide), Nat.zero_add]
theorem cnt_sum (f : List Nat → Nat) {V : Nat} : ∀ l : List (List Nat), (∀ w ∈ l, f w < V) → sumF (fun g => g * cntF f l g) 0 V = tot f l
  | [], _ => sumF_zero _ _
  | w :: l, h => by
    have ih := cnt_sum f l (fun v hv => h v (List.mem_cons_of_mem _ hv))
    have hw := h w List.mem_cons_self
    rw [sumF_cong (g := fun g => (if f w = g then g else 0) + g * cntF f l g) _ _ (fun g _ _ => by
      rw [cntF_cons, Nat.mul_add]
      by_cases e : f w = g
      · rw [if_pos e, if_pos e, Nat.mul_one]
      · rw [if_neg e, if_neg e, Nat.mul_zero]), sumF_add, ih, sumF_ix, if_pos (by omega)]
    rfl
-- the class's answers
theorem s_atLeast {F : Nat} (hF : 1100000 ≤ F) {fd : Nat → Int32} {V b : Nat} {c : Nat → Nat} (hV : V ≤ 11) (hb : b ≤ V) (h : ∀ g, g < V → fd (576 * 11 + g) = nI (c g)) : f_X4_atLeast F (nI V) fd (nI b) = some (nI (sumF c b (V - b))) := by
  have key := loop_sum (Lp := f_X4_atLeast_L4 F (nI V) fd) (N := V) b (f := c) ?_ ?_ (V - b) F b 0 (Nat.le_refl _) rfl (by omega) (by omega)
  · unfold f_X4_atLeast
    rw [show (0 : Int32) = nI 0 from rfl, key, ob_some, Nat.zero_add]
  · intro n a k h1 h2
    rw [f_X4_atLeast_L4, if_pos (nI_le h1 (by omega))]
  · intro n a k _ hk
    rw [f_X4_atLeast_L4, if_neg (nI_ge hk (by omega)), show (576 : Int32) = nI 576 from rfl, s_number F fd (by decide) (by omega), ob_some, h k hk, nI_add, ob_some, show (1 : Int32) = nI 1 from rfl, nI_add, ob_some]
theorem s_sum {F : Nat} (hF : 1100000 ≤ F) {fd : Nat → Int32} {V : Nat} {c : Nat → Nat} (hV : V ≤ 11) (h : ∀ g, g < V → fd (576 * 11 + g) = nI (c g)) : f_X4_sum F (nI V) fd = some (nI (sumF (fun g => g * c g) 0 V)) := by
  have key := loop_sum (Lp := f_X4_sum_L4 F (nI V) fd) (N := V) 0 (f := fun g => g * c g) ?_ ?_ V F 0 0 (Nat.le_refl _) rfl (by omega) (by omega)
  · unfold f_X4_sum
    rw [show (0 : Int32) = nI 0 from rfl, key, ob_some, Nat.zero_add]
  · intro n a k h1 h2
    rw [f_X4_sum_L4, if_pos (nI_le h1 (by omega))]
  · intro n a k _ hk
    rw [f_X4_sum_L4, if_neg (nI_ge hk (by omega)), show (576 : Int32) = nI 576 from rfl, s_number F fd (by decide) (by omega), ob_some, h k hk, nI_mul, nI_add, ob_some, show (1 : Int32) = nI 1 from rfl, nI_add, ob_some]
theorem s_least {F : Nat} (hF : 1100000 ≤ F) {fd : Nat → Int32} {V v : Nat} {c : Nat → Nat} (hV : V ≤ 11) (h : ∀ g, g < V → fd (576 * 11 + g) = nI (c g) ∧ c g < 2 ^ 31) (hv : v < V) (h1 : c v ≠ 0) (h0 : ∀ y, y < v → c y = 0) : f_X4_least F (nI V) fd = some (nI v) := by
  have key : ∀ (d n k : Nat), k + d = v → d < n → f_X4_least_L2 F (nI V) fd n (nI k) = some (Sum.inl (nI v)) := by
    intro d
    induction d with
    | zero =>
      intro n k hk hn
      obtain ⟨n, rfl⟩ : ∃ k, n = k + 1 := ⟨n - 1, by omega⟩
      obtain rfl : k = v := by omega
      rw [f_X4_least_L2, if_neg (nI_ge hv (by omega)), show (576 : Int32) = nI 576 from rfl, s_number F fd (by decide) (by omega), ob_some, (h k hv).1, if_neg (fun z => h1 ((nI_pos0 (h k hv).2).mp z))]
    | succ d ih =>
      intro n k hk hn
      obtain ⟨n, rfl⟩ : ∃ k, n = k + 1 := ⟨n - 1, by omega⟩
      rw [f_X4_least_L2, if_neg (nI_ge (by omega) (by omega)), show (576 : Int32) = nI 576 from rfl, s_number F fd (by decide) (by omega), ob_some, (h k (by omega)).1, if_pos ((nI_pos0 (h k (by omega)).2).mpr (h0 k (by omega))), show (1 : Int32) = nI 1 from rfl, nI_add, ob_some]
      exact ih n (k + 1) (by omega) (by omega)
  have e : f_X4_least_L2 F (nI V) fd F (0 : Int32) = some (Sum.inl (nI v)) := key v F 0 (Nat.zero_add _) (by omega)
  unfold f_X4_least
  rw [e, ob_some]
  rfl
theorem s_greatest {F : Nat} (hF : 1100000 ≤ F) {fd : Nat → Int32} {V v : Nat} {c : Nat → Nat} (hV : V ≤ 11) (h : ∀ g, g < V → fd (576 * 11 + g) = nI (c g) ∧ c g < 2 ^ 31) (hv : v < V) (h1 : c v ≠ 0) (h0 : ∀ y, v < y → y < V → c y = 0) : f_X4_greatest F (nI V) fd = some (nI v) := by
  have key : ∀ (d n k : Nat), v + d = k → d < n → k < V → f_X4_greatest_L7 F fd n (nI k) = some (if v = 0 then Sum.inr () else Sum.inl (nI v)) := by
    intro d
    induction d with
    | zero =>
      intro n k hk hn hkV
      obtain ⟨n, rfl⟩ : ∃ k, n = k + 1 := ⟨n - 1, by omega⟩
      obtain rfl : v = k := by omega
      by_cases hv0 : v = 0
      · rw [f_X4_greatest_L7, if_pos ((nI_pos0 (by omega)).mpr hv0), if_pos hv0]
      · rw [f_X4_greatest_L7, if_neg (fun z => hv0 ((nI_pos0 (by omega)).mp z)), if_neg hv0, show (576 : Int32) = nI 576 from rfl, s_number F fd (by decide) (by omega), ob_some, (h v hv).1, if_neg (fun z => h1 ((nI_pos0 (h v hv).2).mp z))]
    | succ d ih =>
      intro n k hk hn hkV
      obtain ⟨n, rfl⟩ : ∃ k, n = k + 1 := ⟨n - 1, by omega⟩
      rw [f_X4_greatest_L7, if_neg (fun z => absurd ((nI_pos0 (by omega)).mp z) (by omega)), show (576 : Int32) = nI 576 from rfl, s_number F fd (by decide) (by omega), ob_some, (h k hkV).1, if_pos ((nI_pos0 (h k hkV).2).mpr (h0 k (by omega) hkV)), ← Int32.sub_eq_add_neg, show (1 : Int32) = nI 1 from rfl, nI_sub (by omega), ob_some]
      exact ih n (k - 1) (by omega) (by omega) (by omega)
  have e := key (V - 1 - v) F (V - 1) (by omega) (by omega) (by omega)
  unfold f_X4_greatest
  rw [show (1 : Int32) = nI 1 from rfl, nI_sub (by omega), ob_some, e, ob_some]
  by_cases hv0 : v = 0
  · rw [if_pos hv0, hv0]; rfl
  · rw [if_neg hv0]; rfl
-- the gains of a word are its measure
theorem gs_sum (gg : Nat → Nat → Nat → Nat) : ∀ (q : List Nat) (p last : Nat), gs gg p last q = sumF (fun k => gg (p + k) (if k = 0 then last else gl q (k - 1)) (gl q k)) 0 q.length
  | [], _, _ => rfl
  | x :: q, p, last => by
    show gg p last x + gs gg (p + 1) x q = gg (p + 0) (if 0 = 0 then last else _) x + sumF _ (0 + 1) q.length
    rw [if_pos rfl, sumF_shift, gs_sum gg q (p + 1) x]
    congr 1
    refine sumF_cong _ _ (fun k _ _ => ?_)
    have e : (if k = 0 then x else gl q (k - 1)) = (if k + 1 = 0 then last else gl (x :: q) k) := by
      rw [if_neg (show ¬ k + 1 = 0 from Nat.succ_ne_zero k)]
      cases k with
      | zero => rfl
      | succ k => rfl
    show gg (p + 1 + k) (if k = 0 then x else gl q (k - 1)) (gl q k) = gg (p + (k + 1)) (if k + 1 = 0 then last else gl (x :: q) k) (gl q k)
    rw [e, show p + 1 + k = p + (k + 1) by omega]
theorem gs_ms (w x y : Nat) (r0 : List Nat) (t : Nat → Nat) (q : List Nat) : gs (gn w x y r0 t) 0 0 q = ms w x y r0 t q := by
  rw [gs_sum]
  unfold ms
  refine sumF_cong _ _ (fun k _ _ => ?_)
  rw [Nat.zero_add]
  rfl
theorem gs_le {gg : Nat → Nat → Nat → Nat} (h : ∀ p a b, gg p a b ≤ 1) : ∀ (q : List Nat) (p last : Nat), gs gg p last q ≤ q.length
  | [], _, _ => Nat.le_refl _
  | x :: q, p, last => by
    show gg p last x + gs gg (p + 1) x q ≤ q.length + 1
    have h1 := h p last x
    have h2 := gs_le h q (p + 1) x
    omega
theorem cs_mem (K : WC) {m : Nat} (hm : m ≤ K.r.length) {u : Nat → Nat} {last : Nat} {w : List Nat} (h : w ∈ K.cs m u last) : w.length = m := by
  rw [cs_eq K m u last (K.r.length - m) (by omega)] at h
  exact ((mem_allW _ _).mp (List.mem_filter.mp h).1).1
theorem GsB_gn (K : WC) (w x y : Nat) (r0 : List Nat) (t : Nat → Nat) : GsB K (gn w x y r0 t) (K.r.length + 1) := fun m u last q hm hq => by
  have h1 := gs_le (gn_le w x y r0 t) q (K.r.length - m) last
  have h2 := cs_mem K hm hq
  omega
