theorem ic_F : ∀ (w : List Nat) (last place i : Nat), ic false last place w i = letC w i
  | [], _, _, _ => rfl
  | x :: w, last, place, i => by
    show (if false = true ∧ place = 0 then 0 else if x = i then 1 else 0) + ic false x (place + 1) w i = _
    rw [if_neg (show ¬ (false = true ∧ place = 0) from fun z => absurd z.1 (by decide)), ic_F w x (place + 1) i, letC_cons]
theorem pc_cons (a x : Nat) (w : List Nat) (p : Nat) : pc (a :: x :: w) p = (if 4 * a + x = p then 1 else 0) + pc (x :: w) p := by
  show (if 4 * a + x = p then 1 else 0) + sumF (fun k => if 4 * gl (a :: x :: w) (k - 1) + gl (a :: x :: w) k = p then 1 else 0) (1 + 1) w.length = _
  rw [sumF_shift]
  congr 1
  show _ = sumF (fun k => if 4 * gl (x :: w) (k - 1) + gl (x :: w) k = p then 1 else 0) 1 w.length
  refine sumF_cong _ _ (fun k hk _ => ?_)
  obtain ⟨k, rfl⟩ : ∃ i, k = i + 1 := ⟨k - 1, by omega⟩
  rfl
theorem ic_T : ∀ (w : List Nat) (last place i : Nat), 1 ≤ place → ic true last place w i = pc (last :: w) i
  | [], _, _, _, _ => rfl
  | x :: w, last, place, i, h => by
    show (if true = true ∧ place = 0 then 0 else if 4 * last + x = i then 1 else 0) + ic true x (place + 1) w i = _
    rw [if_neg (show ¬ (true = true ∧ place = 0) from fun z => by omega), ic_T w x (place + 1) i (by omega), pc_cons]
theorem ic_T0 (w : List Nat) (i : Nat) : ic true 0 0 w i = pc w i := by
  cases w with
  | nil => rfl
  | cons x w =>
    show (if true = true ∧ 0 = 0 then 0 else _) + ic true x (0 + 1) w i = _
    rw [if_pos ⟨rfl, rfl⟩, Nat.zero_add, ic_T w x (0 + 1) i (by omega)]
theorem cdW_iff (K : WC) : ∀ (w : List Nat) (last place : Nat), cdW K last place w ↔ (K.C = true → ∀ j, j < w.length → (place + j) % 2 = 1 → K.t (4 * gl (last :: w) j + gl w j) = K.t (4 * gl K.r (place + j - 1) + gl K.r (place + j)))
  | [], last, place => ⟨fun _ _ j hj => absurd hj (by show ¬ j < 0; omega), fun _ => trivial⟩
  | x :: w, last, place => by
    show ((K.C = true → place % 2 = 1 → K.t (4 * last + x) = K.t (4 * gl K.r (place - 1) + gl K.r place)) ∧ cdW K x (place + 1) w) ↔ _
    rw [cdW_iff K w x (place + 1)]
    constructor
    · rintro ⟨h1, h2⟩ hC j hj ho
      cases j with
      | zero => exact h1 hC ho
      | succ j =>
        have := h2 hC j (by rw [List.length_cons] at hj; omega) (by omega)
        rw [show place + 1 + j = place + (j + 1) by omega] at this
        exact this
    · intro h
      refine ⟨fun hC ho => h hC 0 (by rw [List.length_cons]; omega) ho, fun hC j hj ho => ?_⟩
      have := h hC (j + 1) (by rw [List.length_cons]; omega) (by omega)
      rw [show place + (j + 1) = place + 1 + j by omega] at this
      exact this
theorem cdW_SC (K : WC) {w : List Nat} (hl : w.length = K.r.length) : cdW K 0 0 w ↔ (K.C = true → SC K.t K.r w) := by
  rw [cdW_iff]
  constructor
  · intro h hC j hj
    have := h hC (2 * j + 1) (by omega) (by omega)
    rw [show 0 + (2 * j + 1) - 1 = 2 * j by omega, Nat.zero_add] at this
    exact this.symm
  · intro h hC j hj ho
    rw [Nat.zero_add] at ho ⊢
    obtain ⟨i, rfl⟩ : ∃ i, j = 2 * i + 1 := ⟨j / 2, by omega⟩
    have := h hC i (by omega)
    rw [show 2 * i + 1 - 1 = 2 * i by omega]
    exact this.symm
theorem letC_in : ∀ (w : List Nat) (a x : Nat), a < 4 → (∀ z ∈ w, z < 4) → x < 4 → letC (a :: w) x = (if a = x then 1 else 0) + inD (pc (a :: w)) x
  | [], a, x, _, _, _ => by
    rw [letC_cons]
    rfl
  | b :: w, a, x, ha, hw, hx => by
    have hb := hw b List.mem_cons_self
    rw [letC_cons, letC_in w b x hb (fun z hz => hw z (List.mem_cons_of_mem _ hz)) hx]
    congr 1
    unfold inD
    rw [sumF_cong (f := fun y => pc (a :: b :: w) (4 * y + x)) (g := fun y => (if 4 * a + b = 4 * y + x then 1 else 0) + pc (b :: w) (4 * y + x)) 4 0 (fun y _ _ => pc_cons a b w _), sumF_add]
    congr 1
    by_cases e : b = x
    · subst e
      rw [if_pos rfl, sumF_cong (f := fun y => if 4 * a + b = 4 * y + b then 1 else 0) (g := fun y => if a = y then 1 else 0) 4 0 (fun y _ _ => by
        by_cases e : a = y
        · rw [if_pos e, if_pos (by omega)]
        · rw [if_neg e, if_neg (by omega)]), sumF_ind, if_pos (by omega)]
    · rw [if_neg e, sumF_cong (f := fun y => if 4 * a + b = 4 * y + x then 1 else 0) (g := fun _ => 0) 4 0 (fun y _ _ => if_neg (by omega)), sumF_zero]
theorem in_cong {r w : List Nat} (h : SP r w) {x : Nat} (hx : x < 4) : inD (pc r) x = inD (pc w) x := sumF_cong _ _ (fun y _ hy => h _ (by omega))
theorem SP_SL {r w : List Nat} (hr : ∀ x ∈ r, x < 4) (hw : ∀ x ∈ w, x < 4) (hl : w.length = r.length) (h : SP r w) (h0 : gl r 0 = gl w 0) : SL r w := by
  intro x hx
  cases r with
  | nil =>
    have : w = [] := List.length_eq_zero_iff.mp hl
    rw [this]
  | cons a r =>
    cases w with
    | nil => cases hl
    | cons b w =>
      rw [letC_in r a x (hr a List.mem_cons_self) (fun z hz => hr z (List.mem_cons_of_mem _ hz)) hx, letC_in w b x (hw b List.mem_cons_self) (fun z hz => hw z (List.mem_cons_of_mem _ hz)) hx, in_cong h hx]
      have h1 : a = b := h0
      rw [h1]
theorem SL_first {r w : List Nat} (hr : ∀ x ∈ r, x < 4) (hw : ∀ x ∈ w, x < 4) (hl : w.length = r.length) (h : SP r w) (hL : SL r w) : gl r 0 = gl w 0 := by
  cases r with
  | nil =>
    have : w = [] := List.length_eq_zero_iff.mp hl
    rw [this]
  | cons a r =>
    cases w with
    | nil => cases hl
    | cons b w =>
      have ha := hr a List.mem_cons_self
      have e := hL a ha
      rw [letC_in r a a ha (fun z hz => hr z (List.mem_cons_of_mem _ hz)) ha, letC_in w b a (hw b List.mem_cons_self) (fun z hz => hw z (List.mem_cons_of_mem _ hz)) ha, in_cong h ha, if_pos rfl] at e
      show a = b
      by_cases c : b = a
      · exact c.symm
      · rw [if_neg c] at e; omega
theorem okW_arr (K : WC) (hr : RowOk K.r) {w : List Nat} (hl : w.length = K.r.length) (hw : ∀ x ∈ w, x < 4) : K.okW K.c 0 0 w = true ↔ SL K.r w ∧ (K.P = true → SP K.r w ∧ gl K.r 0 = gl w 0) ∧ (K.C = true → SC K.t K.r w) := by
  rw [okW_iff K w K.c 0 0 (by decide) hw, cdW_SC K hl]
  cases hP : K.P with
  | false =>
    constructor
    · rintro ⟨-, h, hc⟩
      refine ⟨?_, fun z => absurd z (by decide), hc⟩
      have a := letC_sum hr.2
      have b := letC_sum hw
      have g : ∀ i, i < 4 → letC w i ≤ letC K.r i := by
        intro i hi
        have := h i (by omega)
        rw [ic_F] at this
        unfold WC.c at this
        rw [if_pos (by omega), hP, if_neg (by decide)] at this
        exact this
      have g0 := g 0 (by decide)
      have g1 := g 1 (by decide)
      have g2 := g 2 (by decide)
      have g3 := g 3 (by decide)
      intro x hx
      rcases (show x = 0 ∨ x = 1 ∨ x = 2 ∨ x = 3 by omega) with rfl | rfl | rfl | rfl <;> omega
    · rintro ⟨h, -, hc⟩
      refine ⟨fun z => absurd z (by decide), fun i hi => ?_, hc⟩
      rw [ic_F]
      unfold WC.c
      rw [if_pos hi, hP, if_neg (by decide), SL_all hr.2 hw h]
      exact Nat.le_refl _
  | true =>
    have hc16 : ∀ i, i < 16 → K.c i = pc K.r i := fun i hi => by unfold WC.c; rw [if_pos hi, hP, if_pos rfl]
    constructor
    · rintro ⟨h0, h, hc⟩
      have h1 : gl K.r 0 = gl w 0 := by
        by_cases e : w = []
        · have e2 : K.r = [] := List.length_eq_zero_iff.mp (by rw [← hl, e]; rfl)
          rw [e, e2]
        · exact (h0 rfl rfl e).symm
      have g : ∀ i, i < 16 → pc w i ≤ pc K.r i := by
        intro i hi
        have := h i hi
        rw [ic_T0, hc16 i hi] at this
        exact this
      have hsp : SP K.r w := by
        intro p hp
        by_cases e : pc w p < pc K.r p
        · have := sumF_lt (f := pc w) (g := pc K.r) 16 0 p (Nat.zero_le _) (by omega) (fun i _ hi => g i (by omega)) e
          rw [pc_sum hr.2, pc_sum hw, hl] at this
          omega
        · have := g p hp; omega
      exact ⟨SP_SL hr.2 hw hl hsp h1, fun _ => ⟨hsp, h1⟩, hc⟩
    · rintro ⟨hL, h, hc⟩
      obtain ⟨hsp, h1⟩ := h rfl
      refine ⟨fun _ _ _ => h1.symm, fun i hi => ?_, hc⟩
      rw [ic_T0, hc16 i hi, hsp i hi]
      exact Nat.le_refl _
