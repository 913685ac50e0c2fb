-- the states that the table speaks of, and that an entry determines its state
def dec1 (u : Nat → Nat) (i : Nat) : Nat → Nat := fun j => if j = i then u j - 1 else u j
theorem dec1_ind {u : Nat → Nat} {i : Nat} (h : u i ≠ 0) (j : Nat) : u j = dec1 u i j + (if j = i then 1 else 0) := by
  unfold dec1
  by_cases e : j = i
  · subst e; rw [if_pos rfl, if_pos rfl]; omega
  · rw [if_neg e, if_neg e]; rfl
theorem sumF_dec {u : Nat → Nat} {i n : Nat} (h : u i ≠ 0) (hi : i < n) : sumF u 0 n = sumF (dec1 u i) 0 n + 1 := by
  rw [sumF_cong (f := u) (g := fun j => dec1 u i j + (if i = j then 1 else 0)) n 0 (fun j _ _ => by
    rw [dec1_ind h j]
    by_cases e : j = i
    · rw [if_pos e, if_pos e.symm]
    · rw [if_neg e, if_neg (fun z => e z.symm)]), sumF_add, sumF_ind, if_pos (by omega)]
def inD (u : Nat → Nat) (z : Nat) : Nat := sumF (fun y => u (4 * y + z)) 0 4
def outD (u : Nat → Nat) (z : Nat) : Nat := sumF (fun y => u (4 * z + y)) 0 4
theorem inD_dec {u : Nat → Nat} {a x z : Nat} (h : u (4 * a + x) ≠ 0) (ha : a < 4) (hx : x < 4) (hz : z < 4) : inD u z = inD (dec1 u (4 * a + x)) z + (if x = z then 1 else 0) := by
  unfold inD
  by_cases e : x = z
  · subst e
    rw [if_pos rfl, sumF_cong (f := fun y => u (4 * y + x)) (g := fun y => dec1 u (4 * a + x) (4 * y + x) + (if a = y then 1 else 0)) 4 0 (fun y _ _ => by
      rw [dec1_ind h (4 * y + x)]
      by_cases e : a = y
      · rw [if_pos e, if_pos (by omega)]
      · rw [if_neg e, if_neg (by omega)]), sumF_add, sumF_ind, if_pos (by omega)]
  · rw [if_neg e, Nat.add_zero]
    refine sumF_cong _ _ (fun y _ _ => ?_)
    rw [dec1_ind h (4 * y + z), if_neg (by omega)]
    rfl
theorem outD_dec {u : Nat → Nat} {a x z : Nat} (h : u (4 * a + x) ≠ 0) (ha : a < 4) (hx : x < 4) (hz : z < 4) : outD u z = outD (dec1 u (4 * a + x)) z + (if a = z then 1 else 0) := by
  unfold outD
  by_cases e : a = z
  · subst e
    rw [if_pos rfl, sumF_cong (f := fun y => u (4 * a + y)) (g := fun y => dec1 u (4 * a + x) (4 * a + y) + (if x = y then 1 else 0)) 4 0 (fun y _ _ => by
      rw [dec1_ind h (4 * a + y)]
      by_cases e : x = y
      · rw [if_pos e, if_pos (by omega)]
      · rw [if_neg e, if_neg (by omega)]), sumF_add, sumF_ind, if_pos (by omega)]
  · rw [if_neg e, Nat.add_zero]
    refine sumF_cong _ _ (fun y _ _ => ?_)
    rw [dec1_ind h (4 * z + y), if_neg (by omega)]
    rfl
def RS (K : WC) (u : Nat → Nat) (last place : Nat) : Prop := (∀ j, u j ≤ K.c j) ∧ last < 4 ∧ place ≤ K.r.length ∧ (place = 0 → u = K.c ∧ last = 0) ∧ (1 ≤ place → sumF u 0 16 + place = K.r.length ∧ (K.P = true → ∀ z, z < 4 → (if last = z then 1 else 0) + outD K.c z + inD u z = (if gl K.r 0 = z then 1 else 0) + inD K.c z + outD u z))
theorem WC.c_sum (K : WC) (hr : RowOk K.r) : sumF K.c 0 16 + bN K.P = K.r.length ∨ (K.r.length = 0 ∧ sumF K.c 0 16 = 0) := by
  cases hP : K.P with
  | true =>
    have e : sumF K.c 0 16 = sumF (pc K.r) 0 16 := sumF_cong _ _ (fun i _ hi => by unfold WC.c; rw [if_pos (by omega), hP]; rfl)
    rw [e, pc_sum hr.2]
    show K.r.length - 1 + 1 = _ ∨ _
    omega
  | false =>
    left
    have e : sumF K.c 0 16 = sumF (letC K.r) 0 16 := sumF_cong _ _ (fun i _ hi => by unfold WC.c; rw [if_pos (by omega), hP]; rfl)
    have s := letC_sum hr.2
    have z : ∀ i, 4 ≤ i → letC K.r i = 0 := fun i hi => letC_ge hr.2 hi
    rw [e]
    show letC K.r 0 + (letC K.r 1 + (letC K.r 2 + (letC K.r 3 + sumF (letC K.r) 4 12))) + 0 = _
    rw [sumF_cong (f := letC K.r) (g := fun _ => 0) 12 4 (fun i hi _ => z i hi), sumF_zero]
    omega
theorem RS.init (K : WC) : RS K K.c 0 0 := ⟨fun _ => Nat.le_refl _, by decide, Nat.zero_le _, fun _ => ⟨rfl, rfl⟩, fun h => by omega⟩
theorem RS.step {K : WC} (hr : RowOk K.r) {u u' : Nat → Nat} {last place x : Nat} (h : RS K u last place) (hp : place < K.r.length) (hx : x < 4) (e : K.step u last place x = some u') : RS K u' x (place + 1) := by
  obtain ⟨h1, h2, h3, h4, h5⟩ := h
  have cs := K.c_sum hr
  unfold WC.step at e
  by_cases a : K.P = true ∧ place = 0
  · rw [if_pos a] at e
    by_cases b : x = gl K.r 0
    · rw [if_pos b] at e
      cases e
      obtain ⟨rfl, -⟩ := h4 a.2
      rw [a.1] at cs
      have cs' : sumF K.c 0 16 + 1 = K.r.length ∨ (K.r.length = 0 ∧ sumF K.c 0 16 = 0) := cs
      refine ⟨h1, hx, by omega, fun z => by omega, fun _ => ⟨by omega, fun _ z hz => ?_⟩⟩
      rw [b, Nat.add_assoc, Nat.add_assoc, Nat.add_comm (outD K.c z)]
    · rw [if_neg b] at e; cases e
  · rw [if_neg a] at e
    by_cases b : K.C = true ∧ place % 2 = 1 ∧ K.t (4 * last + x) ≠ K.t (4 * gl K.r (place - 1) + gl K.r place)
    · rw [if_pos b] at e; cases e
    · rw [if_neg b] at e
      by_cases d : u (K.it last x) = 0
      · rw [if_pos d] at e; cases e
      · rw [if_neg d] at e
        have e' : dec1 u (K.it last x) = u' := Option.some.inj e
        subst e'
        have hit : K.it last x < 16 := by
          unfold WC.it
          cases K.P
          · rw [if_neg (by decide)]; omega
          · rw [if_pos rfl]; omega
        have s := sumF_dec d hit
        refine ⟨fun j => ?_, hx, by omega, fun z => by omega, fun _ => ⟨?_, fun hP z hz => ?_⟩⟩
        · have := h1 j
          unfold dec1
          by_cases e2 : j = K.it last x
          · rw [if_pos e2]; omega
          · rw [if_neg e2]; exact this
        · by_cases p0 : place = 0
          · obtain ⟨rfl, -⟩ := h4 p0
            have hPf : K.P = false := by
              cases hP : K.P
              · rfl
              · exact absurd ⟨hP, p0⟩ a
            rw [hPf] at cs
            have cs' : sumF K.c 0 16 + 0 = K.r.length ∨ (K.r.length = 0 ∧ sumF K.c 0 16 = 0) := cs
            omega
          · have := (h5 (by omega)).1
            omega
        · have p0 : 1 ≤ place := by
            rcases Nat.eq_zero_or_pos place with p0 | p0
            · exact absurd ⟨hP, p0⟩ a
            · exact p0
          have q := (h5 p0).2 hP z hz
          have it : K.it last x = 4 * last + x := by unfold WC.it; rw [if_pos hP]
          rw [it] at d ⊢
          have q1 := inD_dec d h2 hx hz
          have q2 := outD_dec d h2 hx hz
          omega
def WC.E (K : WC) (u : Nat → Nat) (last place : Nat) : Nat := if place = 0 then 576 else if K.P then lf K.c u 16 else 4 * lf K.c u 16 + last
theorem RS.E_lt {K : WC} (hr : RowOk K.r) {u : Nat → Nat} {last place : Nat} (h : RS K u last place) : K.E u last place ≤ 576 ∧ (place ≠ 0 → K.E u last place < 576) := by
  have b1 := lf_lt h.1 16
  have b2 := K.W16 hr
  have b3 := h.2.1
  unfold WC.E
  by_cases p : place = 0
  · rw [if_pos p]; exact ⟨Nat.le_refl _, fun z => absurd p z⟩
  · rw [if_neg p]
    cases hP : K.P with
    | true => rw [hP, if_pos rfl] at b2; rw [if_pos rfl]; omega
    | false => rw [hP, if_neg (by decide)] at b2; rw [if_neg (by decide)]; omega
theorem RS.E_inj {K : WC} (hr : RowOk K.r) {u v : Nat → Nat} {la lb pa pb : Nat} (h : RS K u la pa) (k : RS K v lb pb) (e : K.E u la pa = K.E v lb pb) : u = v ∧ la = lb ∧ pa = pb := by
  have e1 := h.E_lt hr
  have e2 := k.E_lt hr
  by_cases p : pa = 0
  · have pe : K.E u la pa = 576 := if_pos p
    by_cases q : pb = 0
    · obtain ⟨rfl, rfl⟩ := h.2.2.2.1 p
      obtain ⟨rfl, rfl⟩ := k.2.2.2.1 q
      exact ⟨rfl, rfl, by omega⟩
    · have := e2.2 q; omega
  · by_cases q : pb = 0
    · have qe : K.E v lb pb = 576 := if_pos q
      have := e1.2 p; omega
    · obtain ⟨h1, h2, -, -, h5⟩ := h
      obtain ⟨k1, k2, -, -, k5⟩ := k
      obtain ⟨h6, h7⟩ := h5 (by omega)
      obtain ⟨k6, k7⟩ := k5 (by omega)
      unfold WC.E at e
      rw [if_neg p, if_neg q] at e
      cases hP : K.P with
      | true =>
        rw [hP, if_pos rfl, if_pos rfl] at e
        obtain rfl := lf_inj h1 k1 K.c_big e
        refine ⟨rfl, ?_, by omega⟩
        have a := h7 hP la h2
        have b := k7 hP la h2
        rw [if_pos rfl] at a
        by_cases c : lb = la
        · exact c.symm
        · rw [if_neg c] at b; omega
      | false =>
        rw [hP, if_neg (by decide), if_neg (by decide)] at e
        obtain rfl := lf_inj h1 k1 K.c_big (show lf K.c u 16 = lf K.c v 16 by omega)
        exact ⟨rfl, by omega, by omega⟩
