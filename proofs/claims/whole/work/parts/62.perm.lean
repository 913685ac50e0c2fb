-- arrangements in the order of the letters
theorem letC_cons (x : Nat) (q : List Nat) (y : Nat) : letC (x :: q) y = (if x = y then 1 else 0) + letC q y := by
  show (if x = y then 1 else 0) + sumF (fun i => if gl (x :: q) i = y then 1 else 0) (0 + 1) q.length = _
  rw [sumF_shift]
  rfl
theorem letC_app (p s : List Nat) (y : Nat) : letC (p ++ s) y = letC p y + letC s y := by
  induction p with
  | nil => rw [List.nil_append]; show _ = 0 + _; omega
  | cons a p ih => rw [List.cons_append, letC_cons, letC_cons, ih]; omega
theorem letC_rev (p : List Nat) (y : Nat) : letC p.reverse y = letC p y := by
  induction p with
  | nil => rfl
  | cons a p ih =>
    rw [List.reverse_cons, letC_app, letC_cons, letC_cons, ih]
    show _ + (_ + 0) = _
    omega
theorem letC_mem {q : List Nat} {y : Nat} (h : 0 < letC q y) : y ∈ q := by
  induction q with
  | nil => exact absurd h (by show ¬ 0 < 0; decide)
  | cons a q ih =>
    rw [letC_cons] at h
    by_cases e : a = y
    · rw [e]; exact List.mem_cons_self
    · rw [if_neg e] at h
      exact List.mem_cons_of_mem _ (ih (by omega))
theorem letC_pos {q : List Nat} {y : Nat} (h : y ∈ q) : 0 < letC q y := by
  induction q with
  | nil => cases h
  | cons a q ih =>
    rw [letC_cons]
    rcases List.mem_cons.mp h with e | e
    · rw [if_pos e.symm]; omega
    · have := ih e; omega
def Llt : List Nat → List Nat → Prop
  | a :: s, b :: t => a < b ∨ (a = b ∧ Llt s t)
  | _, _ => False
theorem Llt_irr : ∀ (q : List Nat), ¬ Llt q q
  | [], h => h
  | a :: q, h => by
    rcases h with h | ⟨-, h⟩
    · omega
    · exact Llt_irr q h
theorem Llt_tr : ∀ (q r s : List Nat), Llt q r → Llt r s → Llt q s
  | a :: q, b :: r, c :: s, h, k => by
    rcases h with h | ⟨h1, h2⟩
    · rcases k with k | ⟨k1, k2⟩
      · exact Or.inl (by omega)
      · exact Or.inl (by omega)
    · rcases k with k | ⟨k1, k2⟩
      · exact Or.inl (by omega)
      · exact Or.inr ⟨by omega, Llt_tr q r s h2 k2⟩
theorem no_more {d : List Nat} (hd : d.Pairwise (fun a b => b ≤ a)) : ∀ (w : List Nat), (∀ y, letC w y = letC d y) → ¬ Llt d w := by
  induction d with
  | nil => intro w _ h; cases w <;> exact h
  | cons a d ih =>
    intro w hw h
    cases w with
    | nil => exact h
    | cons b w =>
      have hb : b ∈ a :: d := letC_mem (by rw [← hw b]; exact letC_pos List.mem_cons_self)
      have hba : b ≤ a := by
        rcases List.mem_cons.mp hb with e | e
        · omega
        · exact (List.pairwise_cons.mp hd).1 b e
      rcases h with h | ⟨rfl, h⟩
      · omega
      · refine ih (List.pairwise_cons.mp hd).2 w (fun y => ?_) h
        have := hw y
        rw [letC_cons, letC_cons] at this
        omega
theorem no_less {s : List Nat} (hs : s.Pairwise (fun a b => a ≤ b)) : ∀ (w : List Nat), (∀ y, letC w y = letC s y) → ¬ Llt w s := by
  induction s with
  | nil => intro w _ h; cases w <;> exact h
  | cons a d ih =>
    intro w hw h
    cases w with
    | nil => exact h
    | cons b w =>
      have hb : b ∈ a :: d := letC_mem (by rw [← hw b]; exact letC_pos List.mem_cons_self)
      have hba : a ≤ b := by
        rcases List.mem_cons.mp hb with e | e
        · omega
        · exact (List.pairwise_cons.mp hs).1 b e
      rcases h with h | ⟨rfl, h⟩
      · omega
      · refine ih (List.pairwise_cons.mp hs).2 w (fun y => ?_) h
        have := hw y
        rw [letC_cons, letC_cons] at this
        omega
theorem no_between {x y : Nat} {d s : List Nat} (hd : d.Pairwise (fun a b => b ≤ a)) (hs : s.Pairwise (fun a b => a ≤ b)) (hc : ∀ z, letC (y :: s) z = letC (x :: d) z) (hz : ∀ z ∈ d, x < z → y ≤ z) : ∀ (p w : List Nat), (∀ z, letC w z = letC (p ++ x :: d) z) → Llt (p ++ x :: d) w → Llt w (p ++ y :: s) → False := by
  intro p
  induction p with
  | nil =>
    intro w hw h1 h2
    rw [List.nil_append] at hw h1 h2
    cases w with
    | nil => exact h1
    | cons z w =>
      rcases h1 with h1 | ⟨rfl, h1⟩
      · rcases h2 with h2 | ⟨rfl, h2⟩
        · have hm : z ∈ x :: d := letC_mem (by rw [← hw z]; exact letC_pos List.mem_cons_self)
          rcases List.mem_cons.mp hm with e | e
          · omega
          · have := hz z e h1
            omega
        · refine no_less hs w (fun y => ?_) h2
          have a1 := hw y
          have a2 := hc y
          rw [letC_cons] at a1 a2
          omega
      · refine no_more hd w (fun y => ?_) h1
        have a1 := hw y
        rw [letC_cons, letC_cons] at a1
        omega
  | cons a p ih =>
    intro w hw h1 h2
    cases w with
    | nil => exact h1
    | cons b w =>
      rw [List.cons_append] at hw h1 h2
      rcases h1 with h1 | ⟨rfl, h1⟩
      · rcases h2 with h2 | ⟨e, h2⟩ <;> omega
      · rcases h2 with h2 | ⟨-, h2⟩
        · omega
        · refine ih w (fun y => ?_) h1 h2
          have a1 := hw y
          rw [letC_cons, letC_cons] at a1
          omega
theorem Llt_step {x y : Nat} {d s : List Nat} (h : x < y) : ∀ (p : List Nat), Llt (p ++ x :: d) (p ++ y :: s)
  | [] => Or.inl h
  | _ :: p => Or.inr ⟨rfl, Llt_step h p⟩
theorem pw_of {R : Nat → Nat → Prop} (tr : ∀ a b c, R a b → R b c → R a c) : ∀ (d : List Nat), (∀ j, j + 1 < d.length → R (gl d j) (gl d (j + 1))) → d.Pairwise R
  | [], _ => List.Pairwise.nil
  | [a], _ => List.pairwise_cons.mpr ⟨fun _ h => (by cases h), List.Pairwise.nil⟩
  | a :: b :: d, h => by
    have ih := pw_of tr (b :: d) (fun j hj => h (j + 1) (by show j + 1 + 1 < (b :: d).length + 1; omega))
    have hab : R a b := h 0 (by show 0 + 1 < d.length + 1 + 1; omega)
    refine List.pairwise_cons.mpr ⟨fun c hc => ?_, ih⟩
    rcases List.mem_cons.mp hc with e | e
    · rw [e]; exact hab
    · exact tr a b c hab ((List.pairwise_cons.mp ih).1 c e)
theorem gl_app (a b : List Nat) (i : Nat) : gl (a ++ b) i = if i < a.length then gl a i else gl b (i - a.length) := by
  unfold gl
  rw [List.getD_eq_getElem?_getD]
  by_cases h : i < a.length
  · rw [if_pos h, List.getElem?_append_left h, List.getD_eq_getElem?_getD]
  · rw [if_neg h, List.getElem?_append_right (by omega), List.getD_eq_getElem?_getD]
theorem gl_cons (x : Nat) (l : List Nat) (i : Nat) : gl (x :: l) i = if i = 0 then x else gl l (i - 1) := by
  cases i with
  | zero => rfl
  | succ i => rw [if_neg (by omega), Nat.add_sub_cancel]; rfl
theorem split3 {q : List Nat} {i : Nat} (h : i < q.length) : q = q.take i ++ gl q i :: q.drop (i + 1) := by
  rw [← drop_gl h, List.take_append_drop]
