def WC.okW (K : WC) : (Nat → Nat) → Nat → Nat → List Nat → Bool
  | _, _, _, [] => true
  | u, last, place, x :: w => match K.step u last place x with | none => false | some u' => K.okW u' x (place + 1) w
theorem cs_eq (K : WC) : ∀ (m : Nat) (u : Nat → Nat) (last place : Nat), place + m = K.r.length → K.cs m u last = (allW m).filter (K.okW u last place)
  | 0, _, _, _, _ => rfl
  | m + 1, u, last, place, h => by
    have hp : K.r.length - (m + 1) = place := by omega
    have b : ∀ x, ((allW m).map (List.cons x)).filter (K.okW u last place) = (match K.step u last place x with | none => [] | some u' => (K.cs m u' x).map (List.cons x)) := by
      intro x
      rw [List.filter_map]
      cases hs : K.step u last place x with
      | none =>
        rw [List.map_eq_nil_iff, List.filter_eq_nil_iff]
        intro w _ hw
        have hw' : (match K.step u last place x with | none => false | some u' => K.okW u' x (place + 1) w) = true := hw
        rw [hs] at hw'
        cases hw'
      | some u' =>
        show _ = (K.cs m u' x).map (List.cons x)
        rw [cs_eq K m u' x (place + 1) (by omega)]
        congr 1
        refine List.filter_congr (fun w _ => ?_)
        show (match K.step u last place x with | none => false | some u' => K.okW u' x (place + 1) w) = _
        rw [hs]
    show _ = List.filter _ (_ ++ (_ ++ (_ ++ _)))
    rw [List.filter_append, List.filter_append, List.filter_append, b, b, b, b, ← hp]
    rfl
-- what a word uses up
def ic (P : Bool) : Nat → Nat → List Nat → Nat → Nat
  | _, _, [], _ => 0
  | last, place, x :: w, i => (if P = true ∧ place = 0 then 0 else if (if P then 4 * last + x else x) = i then 1 else 0) + ic P x (place + 1) w i
def cdW (K : WC) : Nat → Nat → List Nat → Prop
  | _, _, [] => True
  | last, place, x :: w => (K.C = true → place % 2 = 1 → K.t (4 * last + x) = K.t (4 * gl K.r (place - 1) + gl K.r place)) ∧ cdW K x (place + 1) w
theorem okW_iff (K : WC) : ∀ (w : List Nat) (u : Nat → Nat) (last place : Nat), last < 4 → (∀ x ∈ w, x < 4) → (K.okW u last place w = true ↔ (K.P = true → place = 0 → w ≠ [] → gl w 0 = gl K.r 0) ∧ (∀ i, i < 16 → ic K.P last place w i ≤ u i) ∧ cdW K last place w)
  | [], u, last, place, _, _ => ⟨fun _ => ⟨fun _ _ z => absurd rfl z, fun _ _ => Nat.zero_le _, trivial⟩, fun _ => rfl⟩
  | x :: w, u, last, place, hla, hw => by
    have hx := hw x List.mem_cons_self
    have ih := fun u' => okW_iff K w u' x (place + 1) hx (fun y hy => hw y (List.mem_cons_of_mem _ hy))
    show (match K.step u last place x with | none => false | some u' => K.okW u' x (place + 1) w) = true ↔ _
    unfold WC.step
    by_cases a : K.P = true ∧ place = 0
    · rw [if_pos a]
      by_cases b : x = gl K.r 0
      · rw [if_pos b]
        refine (ih u).trans ⟨fun h => ⟨fun _ _ _ => b, fun i hi => ?_, fun _ z => by omega, h.2.2⟩, fun h => ⟨fun _ z => by omega, fun i hi => ?_, h.2.2.2⟩⟩
        · show (if K.P = true ∧ place = 0 then 0 else _) + ic K.P x (place + 1) w i ≤ u i
          rw [if_pos a, Nat.zero_add]
          exact h.2.1 i hi
        · have h2 : (if K.P = true ∧ place = 0 then 0 else _) + ic K.P x (place + 1) w i ≤ u i := h.2.1 i hi
          rw [if_pos a, Nat.zero_add] at h2
          exact h2
      · rw [if_neg b]
        refine ⟨fun z => (by cases z), fun h => absurd (h.1 a.1 a.2 (by intro z; cases z)) b⟩
    · rw [if_neg a]
      have hit : K.it last x < 16 := by
        unfold WC.it
        cases K.P
        · rw [if_neg (by decide)]; omega
        · rw [if_pos rfl]; omega
      have hic : ∀ i, ic K.P last place (x :: w) i = (if K.it last x = i then 1 else 0) + ic K.P x (place + 1) w i := by
        intro i
        show (if K.P = true ∧ place = 0 then 0 else _) + ic K.P x (place + 1) w i = _
        rw [if_neg a]
        rfl
      by_cases b : K.C = true ∧ place % 2 = 1 ∧ K.t (4 * last + x) ≠ K.t (4 * gl K.r (place - 1) + gl K.r place)
      · rw [if_pos b]
        exact ⟨fun z => (by cases z), fun h => absurd (h.2.2.1 b.1 b.2.1) b.2.2⟩
      · rw [if_neg b]
        have hcd : K.C = true → place % 2 = 1 → K.t (4 * last + x) = K.t (4 * gl K.r (place - 1) + gl K.r place) := by
          intro h1 h2
          by_cases h3 : K.t (4 * last + x) = K.t (4 * gl K.r (place - 1) + gl K.r place)
          · exact h3
          · exact absurd ⟨h1, h2, h3⟩ b
        by_cases d : u (K.it last x) = 0
        · rw [if_pos d]
          refine ⟨fun z => (by cases z), fun h => ?_⟩
          have h2 := h.2.1 _ hit
          rw [hic, if_pos rfl] at h2
          omega
        · rw [if_neg d]
          refine (ih _).trans ⟨fun h => ⟨fun h1 h2 => absurd ⟨h1, h2⟩ a, fun i hi => ?_, hcd, h.2.2⟩, fun h => ⟨fun _ z => by omega, fun i hi => ?_, h.2.2.2⟩⟩
          · have h2 := h.2.1 i hi
            rw [hic]
            by_cases e : i = K.it last x
            · rw [if_pos e] at h2
              rw [if_pos e.symm]
              rw [e] at h2 ⊢
              omega
            · rw [if_neg e] at h2
              rw [if_neg (fun z => e z.symm)]
              omega
          · have h2 := h.2.1 i hi
            rw [hic] at h2
            by_cases e : i = K.it last x
            · rw [if_pos e]
              rw [if_pos e.symm] at h2
              rw [e] at h2 ⊢
              omega
            · rw [if_neg e]
              rw [if_neg (fun z => e z.symm)] at h2
              omega
