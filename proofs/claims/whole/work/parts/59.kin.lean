theorem loop_allS {Lp : Nat → Int32 → Option (Unit ⊕ Unit)} {N : Nat} {P : Nat → Prop} (ix : Nat → Int32) (hx : ∀ n, Lp (n + 1) (ix N) = some (Sum.inr ())) (h1 : ∀ n k, k < N → P k → Lp (n + 1) (ix k) = Lp n (ix (k + 1))) (h0 : ∀ n k, k < N → ¬ P k → Lp (n + 1) (ix k) = some (Sum.inl ())) [Decidable (∀ k, k < N → P k)] {n : Nat} (hn : N < n) : Lp n (ix 0) = some (if ∀ k, k < N → P k then Sum.inr () else Sum.inl ()) := by
  have key : ∀ (d n k : Nat), k + d = N → d < n → ((∀ j, k ≤ j → j < N → P j) → Lp n (ix k) = some (Sum.inr ())) ∧ ((¬ ∀ j, k ≤ j → j < N → P j) → Lp n (ix k) = some (Sum.inl ())) := by
    intro d
    induction d with
    | zero =>
      intro n k hk hn
      obtain ⟨m, rfl⟩ : ∃ m, n = m + 1 := ⟨n - 1, by omega⟩
      obtain rfl : k = N := by omega
      exact ⟨fun _ => hx m, fun z => absurd (fun j a b => by omega) z⟩
    | succ d ih =>
      intro n k hk hn
      obtain ⟨m, rfl⟩ : ∃ m, n = m + 1 := ⟨n - 1, by omega⟩
      have hh := ih m (k + 1) (by omega) (by omega)
      constructor
      · intro z
        rw [h1 m k (by omega) (z k (Nat.le_refl _) (by omega))]
        exact hh.1 (fun j a b => z j (by omega) b)
      · intro z
        by_cases p : P k
        · rw [h1 m k (by omega) p]
          refine hh.2 (fun y => z (fun j a b => ?_))
          by_cases e : j = k
          · rw [e]; exact p
          · exact y j (by omega) b
        · exact h0 m k (by omega) p
  have h := key N n 0 (by omega) hn
  by_cases e : ∀ k, k < N → P k
  · rw [if_pos e]; exact h.1 (fun j _ b => e j b)
  · rw [if_neg e]; exact h.2 (fun z => e (fun j b => z j (Nat.zero_le _) b))
theorem loop_allM {Lp : Nat → Int32 → Int32 → Option Int32} {N : Nat} {P : Nat → Prop} (ix : Nat → Int32) (hx : ∀ n u, Lp (n + 1) u (ix N) = some u) (hz : ∀ n k, k < N → Lp (n + 1) 0 (ix k) = some 0 ∨ Lp (n + 1) 0 (ix k) = Lp n 0 (ix (k + 1))) (h1 : ∀ n k, k < N → P k → Lp (n + 1) 1 (ix k) = Lp n 1 (ix (k + 1))) (h0 : ∀ n k, k < N → ¬ P k → Lp (n + 1) 1 (ix k) = Lp n 0 (ix (k + 1))) [Decidable (∀ k, k < N → P k)] {n : Nat} (hn : N < n) : Lp n 1 (ix 0) = some (nI (if ∀ k, k < N → P k then 1 else 0)) := by
  have kz : ∀ (d n k : Nat), k + d = N → d < n → Lp n 0 (ix k) = some 0 := by
    intro d
    induction d with
    | zero =>
      intro n k hk hn
      obtain ⟨m, rfl⟩ : ∃ m, n = m + 1 := ⟨n - 1, by omega⟩
      obtain rfl : k = N := by omega
      exact hx m 0
    | succ d ih =>
      intro n k hk hn
      obtain ⟨m, rfl⟩ : ∃ m, n = m + 1 := ⟨n - 1, by omega⟩
      rcases hz m k (by omega) with e | e
      · exact e
      · rw [e]; exact ih m (k + 1) (by omega) (by omega)
  have key : ∀ (d n k : Nat), k + d = N → d < n → ((∀ j, k ≤ j → j < N → P j) → Lp n 1 (ix k) = some 1) ∧ ((¬ ∀ j, k ≤ j → j < N → P j) → Lp n 1 (ix k) = some 0) := by
    intro d
    induction d with
    | zero =>
      intro n k hk hn
      obtain ⟨m, rfl⟩ : ∃ m, n = m + 1 := ⟨n - 1, by omega⟩
      obtain rfl : k = N := by omega
      exact ⟨fun _ => hx m 1, fun z => absurd (fun j a b => by omega) z⟩
    | succ d ih =>
      intro n k hk hn
      obtain ⟨m, rfl⟩ : ∃ m, n = m + 1 := ⟨n - 1, by omega⟩
      have hh := ih m (k + 1) (by omega) (by omega)
      constructor
      · intro z
        rw [h1 m k (by omega) (z k (Nat.le_refl _) (by omega))]
        exact hh.1 (fun j a b => z j (by omega) b)
      · intro z
        by_cases p : P k
        · rw [h1 m k (by omega) p]
          refine hh.2 (fun y => z (fun j a b => ?_))
          by_cases e : j = k
          · rw [e]; exact p
          · exact y j (by omega) b
        · rw [h0 m k (by omega) p]
          exact kz d m (k + 1) (by omega) (by omega)
  have h := key N n 0 (by omega) hn
  by_cases e : ∀ k, k < N → P k
  · rw [if_pos e]; exact h.1 (fun j _ b => e j b)
  · rw [if_neg e]; exact h.2 (fun z => e (fun j b => z j (Nat.zero_le _) b))
abbrev SL (r q : List Nat) : Prop := ∀ x, x < 4 → letC r x = letC q x
abbrev SP (r q : List Nat) : Prop := ∀ p, p < 16 → pc r p = pc q p
abbrev SC (t : Nat → Nat) (r q : List Nat) : Prop := ∀ j, j < r.length / 2 → t (4 * gl r (2 * j) + gl r (2 * j + 1)) = t (4 * gl q (2 * j) + gl q (2 * j + 1))
def okN (k : Nat) (r : List Nat) (t : Nat → Nat) (q : List Nat) : Nat :=
  match k with
  | 0 => 1
  | 1 => if SP r q then 1 else 0
  | 2 => if SP r q ∧ gl r 0 = gl q 0 then 1 else 0
  | _ => if SC t r q then 1 else 0
theorem s_sameLetters {F : Nat} (hF : 1100000 ≤ F) {r q : List Nat} (hr : RowOk r) (hq : RowOk q) : f_X5_sameLetters F (encR r) (encR q) = some (nI (if SL r q then 1 else 0)) := by
  have hl := hr.1
  have hl2 := hq.1
  have key := loop_allS (Lp := f_X5_sameLetters_L2 F (encR r) (encR q)) (N := 4) (P := fun x => letC r x = letC q x) nI ?_ ?_ ?_ (n := F) (by omega)
  · unfold f_X5_sameLetters
    rw [show (0 : Int32) = nI 0 from rfl, key, ob_some]
    by_cases e : SL r q
    · rw [if_pos e, if_pos e]; rfl
    · rw [if_neg e, if_neg e]; rfl
  · intro n
    rw [f_X5_sameLetters_L2, if_pos (show (4 : Int32) ≤ nI 4 from nI_le (a := 4) (b := 4) (by omega) (by decide))]
  · intro n k hk e
    rw [f_X5_sameLetters_L2, if_neg (show ¬ (4 : Int32) ≤ nI k from nI_ge hk (by decide)), s_lettersIn hF hr hk, ob_some, s_lettersIn hF hq hk, ob_some, if_pos (by rw [e]), show (1 : Int32) = nI 1 from rfl, nI_add, ob_some]
  · intro n k hk e
    have b1 := letC_le r k
    have b2 := letC_le q k
    rw [f_X5_sameLetters_L2, if_neg (show ¬ (4 : Int32) ≤ nI k from nI_ge hk (by decide)), s_lettersIn hF hr hk, ob_some, s_lettersIn hF hq hk, ob_some, if_neg (nIlit (by omega) (by omega) e)]
theorem s_samePairs {F : Nat} (hF : 1100000 ≤ F) {r q : List Nat} (hr : RowOk r) (hq : RowOk q) : f_X5_samePairs F (encR r) (encR q) = some (nI (if SP r q then 1 else 0)) := by
  have hl := hr.1
  have hl2 := hq.1
  have key := loop_allS (Lp := f_X5_samePairs_L2 F (encR r) (encR q)) (N := 16) (P := fun x => pc r x = pc q x) nI ?_ ?_ ?_ (n := F) (by omega)
  · unfold f_X5_samePairs
    rw [show (0 : Int32) = nI 0 from rfl, key, ob_some]
    by_cases e : SP r q
    · rw [if_pos e, if_pos e]; rfl
    · rw [if_neg e, if_neg e]; rfl
  · intro n
    rw [f_X5_samePairs_L2, if_pos (show (16 : Int32) ≤ nI 16 from nI_le (a := 16) (b := 16) (by omega) (by decide))]
  · intro n k hk e
    rw [f_X5_samePairs_L2, if_neg (show ¬ (16 : Int32) ≤ nI k from nI_ge hk (by decide)), show (4 : Int32) = nI 4 from rfl, nI_div (by omega) (by decide) (by decide), ob_some, nI_irem (by omega) (by decide) (by decide), ob_some, s_pairsIn hF hr (by omega) (Nat.mod_lt _ (by decide)), ob_some, s_pairsIn hF hq (by omega) (Nat.mod_lt _ (by decide)), ob_some, show 4 * (k / 4) + k % 4 = k by omega, if_pos (by rw [e]), show (1 : Int32) = nI 1 from rfl, nI_add, ob_some]
  · intro n k hk e
    have b1 := pc_le r k
    have b2 := pc_le q k
    rw [f_X5_samePairs_L2, if_neg (show ¬ (16 : Int32) ≤ nI k from nI_ge hk (by decide)), show (4 : Int32) = nI 4 from rfl, nI_div (by omega) (by decide) (by decide), ob_some, nI_irem (by omega) (by decide) (by decide), ob_some, s_pairsIn hF hr (by omega) (Nat.mod_lt _ (by decide)), ob_some, s_pairsIn hF hq (by omega) (Nat.mod_lt _ (by decide)), ob_some, show 4 * (k / 4) + k % 4 = k by omega, if_neg (nIlit (by omega) (by omega) e)]
theorem s_wordCode (F : Nat) {tb : Int32} {t : Nat → Nat} (ht : TabC tb t) {q : List Nat} (hq : RowOk q) {j : Nat} (hj : 2 * j + 1 < 10) : f_X5_wordCode F tb (encR q) (nI (1 + 2 * j)) = some (nI (t (4 * gl q (2 * j) + gl q (2 * j + 1)))) := by
  unfold f_X5_wordCode
  rw [show (1 : Int32) = nI 1 from rfl, nI_sub (by omega), show 1 + 2 * j - 1 = 2 * j by omega, s_letterOf F hq (by omega), ob_some, s_letterOf F hq (by omega), ob_some, show 1 + 2 * j = 2 * j + 1 by omega, s_codeIn F ht (gl_lt hq.2 _) (gl_lt hq.2 _), ob_some]
theorem s_sameCodes {F : Nat} (hF : 1100000 ≤ F) {tb : Int32} {t : Nat → Nat} (ht : TabC tb t) {r q : List Nat} (hr : RowOk r) (hq : RowOk q) : f_X5_sameCodes F tb (encR r) (encR q) = some (nI (if SC t r q then 1 else 0)) := by
  have hl := hr.1
  have key := loop_allS (Lp := f_X5_sameCodes_L2 F tb (encR r) (encR q)) (N := r.length / 2) (P := fun j => t (4 * gl r (2 * j) + gl r (2 * j + 1)) = t (4 * gl q (2 * j) + gl q (2 * j + 1))) (fun j => nI (1 + 2 * j)) ?_ ?_ ?_ (n := F) (by omega)
  · have key' : f_X5_sameCodes_L2 F tb (encR r) (encR q) F (1 : Int32) = _ := key
    unfold f_X5_sameCodes
    rw [key', ob_some]
    by_cases e : SC t r q
    · rw [if_pos e, if_pos e]; rfl
    · rw [if_neg e, if_neg e]; rfl
  · intro n
    rw [f_X5_sameCodes_L2, s_lengthOf F hr, ob_some, if_pos (nI_le (by omega) (by omega))]
  · intro n k hk e
    rw [f_X5_sameCodes_L2, s_lengthOf F hr, ob_some, if_neg (nI_ge (by omega) (by omega)), s_wordCode F ht hr (by omega), ob_some, s_wordCode F ht hq (by omega), ob_some, if_pos (by rw [e]), show (2 : Int32) = nI 2 from rfl, nI_add, ob_some]
    rfl
  · intro n k hk e
    have g1 := gl_lt hr.2 (2 * k)
    have g2 := gl_lt hr.2 (2 * k + 1)
    have g3 := gl_lt hq.2 (2 * k)
    have g4 := gl_lt hq.2 (2 * k + 1)
    have b1 := (ht (4 * gl r (2 * k) + gl r (2 * k + 1)) (by omega)).2
    have b2 := (ht (4 * gl q (2 * k) + gl q (2 * k + 1)) (by omega)).2
    rw [f_X5_sameCodes_L2, s_lengthOf F hr, ob_some, if_neg (nI_ge (by omega) (by omega)), s_wordCode F ht hr (by omega), ob_some, s_wordCode F ht hq (by omega), ob_some, if_neg (nIlit (by omega) (by omega) e)]
theorem i10 (c : Prop) [Decidable c] : (nI (if c then 1 else 0) = (0 : Int32)) ↔ ¬ c := by
  by_cases h : c
  · rw [if_pos h]; exact ⟨fun e => absurd e ne10, fun e => absurd h e⟩
  · rw [if_neg h]; exact ⟨fun _ => h, fun _ => rfl⟩
theorem s_isShuffle {F : Nat} (hF : 1100000 ≤ F) {tb : Int32} {t : Nat → Nat} (ht : TabC tb t) {r q : List Nat} (hr : RowOk r) (hq : RowOk q) {k : Nat} (hk : k < 4) : f_X5_isShuffle F (encR r) tb (nI k) (encR q) = some (nI (if SL r q then okN k r t q else 0)) := by
  unfold f_X5_isShuffle f_X5_keepsPairs f_X5_keepsCodes
  rw [s_sameLetters hF hr hq, ob_some]
  by_cases h : SL r q
  · rw [if_neg (fun z => (i10 _).mp z h), if_pos h]
    have g1 := gl_lt hr.2 0
    have g2 := gl_lt hq.2 0
    rcases (show k = 0 ∨ k = 1 ∨ k = 2 ∨ k = 3 by omega) with rfl | rfl | rfl | rfl
    · rfl
    · show ((f_X5_samePairs F (encR r) (encR q)).bind fun z31 => if z31 = 0 then some (0 : Int32) else some 1) = some (nI (if SP r q then 1 else 0))
      rw [s_samePairs hF hr hq, ob_some, bI]
    · show ((f_X5_samePairs F (encR r) (encR q)).bind fun z31 => if z31 = 0 then some (0 : Int32) else (f_X5_letterOf F (encR r) (nI 0)).bind fun z43 => (f_X5_letterOf F (encR q) (nI 0)).bind fun z45 => if z43 = z45 then some 1 else some 0) = some (nI (if SP r q ∧ gl r 0 = gl q 0 then 1 else 0))
      rw [s_samePairs hF hr hq, ob_some, s_letterOf F hr (by decide), ob_some, s_letterOf F hq (by decide), ob_some]
      by_cases e : SP r q
      · rw [if_neg (fun z => (i10 _).mp z e)]
        by_cases e2 : gl r 0 = gl q 0
        · rw [if_pos (by rw [e2]), if_pos ⟨e, e2⟩]; rfl
        · rw [if_neg (nIlit (by omega) (by omega) e2), if_neg (fun z => e2 z.2)]; rfl
      · rw [if_pos ((i10 _).mpr e), if_neg (fun z => e z.1)]; rfl
    · show ((((f_X5_sameCodes F tb (encR r) (encR q)).bind fun z24 => if z24 = 0 then some (0 : Int32) else some 1) : Option Int32).bind fun t21 => (ckz t21).bind fun _ => some t21) = some (nI (if SC t r q then 1 else 0))
      rw [s_sameCodes hF ht hr hq, ob_some, bI, ob_some]
      by_cases e : SC t r q
      · rw [if_pos e]; rfl
      · rw [if_neg e]; rfl
  · rw [if_pos ((i10 _).mpr h), if_neg h]; rfl
