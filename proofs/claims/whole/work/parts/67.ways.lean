-- the class's table of ways: what is left, as one number
def WC : Type := List Nat × (Nat → Nat) × Bool × Bool
def WC.r (K : WC) : List Nat := K.1
def WC.t (K : WC) : Nat → Nat := K.2.1
def WC.P (K : WC) : Bool := K.2.2.1
def WC.C (K : WC) : Bool := K.2.2.2
def WC.it (K : WC) (last x : Nat) : Nat := if K.P then 4 * last + x else x
def WC.c (K : WC) (i : Nat) : Nat := if i < 16 then (if K.P then pc K.r i else letC K.r i) else 0
def WC.step (K : WC) (u : Nat → Nat) (last place x : Nat) : Option (Nat → Nat) :=
  if K.P = true ∧ place = 0 then (if x = gl K.r 0 then some u else none)
  else if K.C = true ∧ place % 2 = 1 ∧ K.t (4 * last + x) ≠ K.t (4 * gl K.r (place - 1) + gl K.r place) then none
  else if u (K.it last x) = 0 then none else some (fun i => if i = K.it last x then u i - 1 else u i)
def Wt (c : Nat → Nat) : Nat → Nat
  | 0 => 1
  | i + 1 => Wt c i * (c i + 1)
def lf (c u : Nat → Nat) : Nat → Nat
  | 0 => 0
  | i + 1 => lf c u i + u i * Wt c i
theorem Wt_pos (c : Nat → Nat) : ∀ i, 0 < Wt c i
  | 0 => Nat.one_pos
  | i + 1 => Nat.mul_pos (Wt_pos c i) (Nat.succ_pos _)
theorem Wt_mono (c : Nat → Nat) (i : Nat) : ∀ d, Wt c i ≤ Wt c (i + d)
  | 0 => Nat.le_refl _
  | d + 1 => Nat.le_trans (Wt_mono c i d) (Nat.le_mul_of_pos_right _ (Nat.succ_pos _))
theorem lf_lt {c u : Nat → Nat} (h : ∀ j, u j ≤ c j) : ∀ i, lf c u i < Wt c i
  | 0 => Nat.one_pos
  | i + 1 => by
    have ih := lf_lt h i
    show lf c u i + u i * Wt c i < Wt c i * (c i + 1)
    have e := Nat.mul_le_mul_right (Wt c i) (h i)
    rw [Nat.mul_add, Nat.mul_one, Nat.mul_comm (Wt c i)]
    omega
theorem Wt_dvd (c : Nat → Nat) (i : Nat) : ∀ d, ∃ k, Wt c (i + 1 + d) = Wt c i * ((c i + 1) * k)
  | 0 => ⟨1, by rw [Nat.mul_one]; rfl⟩
  | d + 1 => by
    obtain ⟨k, e⟩ := Wt_dvd c i d
    refine ⟨k * (c (i + 1 + d) + 1), ?_⟩
    show Wt c (i + 1 + d) * (c (i + 1 + d) + 1) = _
    rw [e, Nat.mul_assoc, Nat.mul_assoc]
theorem lf_split (c u : Nat → Nat) (i : Nat) : ∀ d, ∃ k, lf c u (i + 1 + d) = lf c u i + Wt c i * (u i + (c i + 1) * k)
  | 0 => ⟨0, by show lf c u i + u i * Wt c i = _; rw [Nat.mul_zero, Nat.add_zero, Nat.mul_comm (u i)]⟩
  | d + 1 => by
    obtain ⟨k, e⟩ := lf_split c u i d
    obtain ⟨k', e'⟩ := Wt_dvd c i d
    refine ⟨k + u (i + 1 + d) * k', ?_⟩
    show lf c u (i + 1 + d) + u (i + 1 + d) * Wt c (i + 1 + d) = _
    rw [e, e', Nat.add_assoc, Nat.mul_left_comm, ← Nat.mul_add]
    congr 2
    rw [Nat.add_assoc, Nat.mul_left_comm, ← Nat.mul_add]
theorem lf_digit {c u : Nat → Nat} (h : ∀ j, u j ≤ c j) {i n : Nat} (hi : i < n) : lf c u n / Wt c i % (c i + 1) = u i := by
  obtain ⟨d, rfl⟩ : ∃ d, n = i + 1 + d := ⟨n - (i + 1), by omega⟩
  obtain ⟨k, e⟩ := lf_split c u i d
  have h1 := lf_lt h i
  have h2 := h i
  rw [e, Nat.add_mul_div_left _ _ (Wt_pos c i), Nat.div_eq_of_lt h1, Nat.zero_add, Nat.add_mul_mod_self_left, Nat.mod_eq_of_lt (by omega)]
theorem lf_dec {c u : Nat → Nat} {i : Nat} (h0 : u i ≠ 0) : ∀ n, lf c (fun j => if j = i then u j - 1 else u j) n + (if i < n then Wt c i else 0) = lf c u n
  | 0 => by rw [if_neg (by omega)]; rfl
  | n + 1 => by
    have ih := lf_dec (c := c) h0 n
    show lf c (fun j => if j = i then u j - 1 else u j) n + (if n = i then u n - 1 else u n) * Wt c n + _ = lf c u n + u n * Wt c n
    by_cases e : n = i
    · subst e
      rw [if_neg (by omega), Nat.add_zero] at ih
      rw [if_pos rfl, if_pos (by omega), ih, Nat.add_assoc]
      congr 1
      obtain ⟨k, hk⟩ : ∃ k, u n = k + 1 := ⟨u n - 1, by omega⟩
      rw [hk, Nat.add_sub_cancel, Nat.add_mul, Nat.one_mul]
    · rw [if_neg e]
      by_cases e2 : i < n
      · rw [if_pos e2] at ih
        rw [if_pos (by omega)]
        omega
      · rw [if_neg e2] at ih
        rw [if_neg (by omega)]
        omega
theorem lf_inj {c u v : Nat → Nat} (hu : ∀ j, u j ≤ c j) (hv : ∀ j, v j ≤ c j) (hc : ∀ j, 16 ≤ j → c j = 0) (e : lf c u 16 = lf c v 16) : u = v := by
  funext i
  by_cases h : i < 16
  · rw [← lf_digit hu h, e, lf_digit hv h]
  · have := hu i
    have := hv i
    have := hc i (by omega)
    omega
theorem Wt_pow (c : Nat → Nat) : ∀ i, Wt c i ≤ 2 ^ sumF c 0 i := by
  have e : ∀ (d k : Nat) (f : Nat → Nat), sumF f k (d + 1) = sumF f k d + f (k + d) := by
    intro d
    induction d with
    | zero => intro k f; show f k + 0 = 0 + f k; omega
    | succ d ih =>
      intro k f
      show f k + sumF f (k + 1) (d + 1) = (f k + sumF f (k + 1) d) + f (k + (d + 1))
      rw [ih (k + 1) f, show k + 1 + d = k + (d + 1) by omega, Nat.add_assoc]
  have p : ∀ x : Nat, x + 1 ≤ 2 ^ x := fun x => Nat.lt_two_pow_self
  intro i
  induction i with
  | zero => exact Nat.le_refl _
  | succ i ih =>
    rw [e, Nat.zero_add, Nat.pow_add]
    exact Nat.mul_le_mul ih (p (c i))
theorem sumF_add (f g : Nat → Nat) : ∀ d k, sumF (fun i => f i + g i) k d = sumF f k d + sumF g k d
  | 0, _ => rfl
  | d + 1, k => by
    show (f k + g k) + sumF _ (k + 1) d = (f k + sumF f (k + 1) d) + (g k + sumF g (k + 1) d)
    rw [sumF_add f g d (k + 1)]
    omega
theorem sumF_zero : ∀ (d k : Nat), sumF (fun _ => 0) k d = 0
  | 0, _ => rfl
  | d + 1, k => by show 0 + sumF _ (k + 1) d = 0; rw [sumF_zero d]
theorem sumF_ind (x : Nat) : ∀ (d k : Nat), sumF (fun p => if x = p then 1 else 0) k d = if k ≤ x ∧ x < k + d then 1 else 0
  | 0, k => by rw [if_neg (by omega)]; rfl
  | d + 1, k => by
    show (if x = k then 1 else 0) + sumF _ (k + 1) d = _
    rw [sumF_ind x d (k + 1)]
    by_cases e : x = k
    · rw [if_pos e, if_neg (by omega), if_pos (by omega)]
    · rw [if_neg e]
      by_cases e2 : k + 1 ≤ x ∧ x < k + 1 + d
      · rw [if_pos e2, if_pos (by omega)]
      · rw [if_neg e2, if_neg (by omega)]
theorem sumF_swap (g : Nat → Nat → Nat) (n : Nat) : ∀ d k, sumF (fun p => sumF (g p) k d) 0 n = sumF (fun i => sumF (fun p => g p i) 0 n) k d
  | 0, k => sumF_zero n 0
  | d + 1, k => by
    show sumF (fun p => g p k + sumF (g p) (k + 1) d) 0 n = sumF (fun p => g p k) 0 n + sumF _ (k + 1) d
    rw [sumF_add, sumF_swap g n d (k + 1)]
theorem pc_sum {r : List Nat} (h : ∀ x ∈ r, x < 4) : sumF (pc r) 0 16 = r.length - 1 := by
  show sumF (fun p => sumF (fun k => if 4 * gl r (k - 1) + gl r k = p then 1 else 0) 1 (r.length - 1)) 0 16 = _
  rw [sumF_swap (fun p k => if 4 * gl r (k - 1) + gl r k = p then 1 else 0) 16]
  rw [sumF_cong (g := fun _ => 1) _ _ (fun i _ _ => ?_), sumF_one]
  have g1 := gl_lt h i
  have g2 := gl_lt h (i - 1)
  rw [sumF_ind, if_pos (by omega)]
theorem WC.c_big (K : WC) (j : Nat) (h : 16 ≤ j) : K.c j = 0 := if_neg (by omega)
theorem prod144 : ∀ a, a < 11 → ∀ b, b < 11 → ∀ c, c < 11 → ∀ d, d < 11 → a + b + c + d ≤ 10 → (a + 1) * (b + 1) * (c + 1) * (d + 1) ≤ 144 := by decide +kernel
theorem WC.W16 (K : WC) (hr : RowOk K.r) : Wt K.c 16 ≤ if K.P then 512 else 144 := by
  have hl := hr.1
  cases hP : K.P with
  | true =>
    rw [if_pos rfl]
    refine Nat.le_trans (Wt_pow K.c 16) ?_
    have e : sumF K.c 0 16 = sumF (pc K.r) 0 16 := sumF_cong _ _ (fun i _ hi => by unfold WC.c; rw [if_pos (by omega), hP]; rfl)
    rw [e, pc_sum hr.2]
    exact Nat.pow_le_pow_right (n := 2) (by decide) (show K.r.length - 1 ≤ 9 by omega)
  | false =>
    rw [if_neg (by decide)]
    have e4 : ∀ i, 4 ≤ i → K.c i = 0 := by
      intro i hi
      unfold WC.c
      by_cases h : i < 16
      · rw [if_pos h, hP]
        exact letC_ge hr.2 hi
      · rw [if_neg h]
    have e : ∀ d, Wt K.c (4 + d) = Wt K.c 4 := by
      intro d
      induction d with
      | zero => rfl
      | succ d ih =>
        show Wt K.c (4 + d) * (K.c (4 + d) + 1) = _
        rw [ih, e4 (4 + d) (by omega), Nat.zero_add, Nat.mul_one]
    rw [show (16 : Nat) = 4 + 12 from rfl, e 12]
    have ec : ∀ i, i < 4 → K.c i = letC K.r i := fun i hi => by unfold WC.c; rw [if_pos (by omega), hP]; rfl
    have s := letC_sum hr.2
    show 1 * (K.c 0 + 1) * (K.c 1 + 1) * (K.c 2 + 1) * (K.c 3 + 1) ≤ 144
    rw [Nat.one_mul, ec 0 (by decide), ec 1 (by decide), ec 2 (by decide), ec 3 (by decide)]
    exact prod144 _ (by omega) _ (by omega) _ (by omega) _ (by omega) (by omega)
