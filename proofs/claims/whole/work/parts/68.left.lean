def bN (b : Bool) : Nat := if b then 1 else 0
def WLf (K : WC) (stock weight : Nat → Int32) : Prop := ∀ i, i < 16 → stock i = nI (K.c i) ∧ weight i = nI (Wt K.c i)
theorem ckd_ok {n : Nat} (h0 : n ≠ 0) (h : n < 2 ^ 31) : ckd (nI n) = some () := by
  unfold ckd
  rw [if_neg (show ¬ nI n = (0 : Int32) from nIlit (m := 0) h (by decide) h0)]
theorem WC.W512 (K : WC) (hr : RowOk K.r) : Wt K.c 16 ≤ 512 := by
  have := K.W16 hr
  cases hP : K.P <;> rw [hP] at this
  · rw [if_neg (by decide)] at this; omega
  · rw [if_pos rfl] at this; exact this
theorem WC.c_lt (K : WC) (hr : RowOk K.r) (i : Nat) : K.c i < 512 := by
  have h := K.W512 hr
  by_cases hi : i < 16
  · have h1 := Wt_mono K.c (i + 1) (15 - i)
    rw [show i + 1 + (15 - i) = 16 by omega] at h1
    have h2 : K.c i + 1 ≤ Wt K.c (i + 1) := Nat.le_mul_of_pos_left _ (Wt_pos K.c i)
    omega
  · rw [K.c_big i (by omega)]; decide
theorem s_leftWithout (F : Nat) {K : WC} (hr : RowOk K.r) {stock weight : Nat → Int32} (hL : WLf K stock weight) {u : Nat → Nat} (hu : ∀ j, u j ≤ K.c j) {i : Nat} (hi : i < 16) : f_X4_leftWithout F stock weight (nI (lf K.c u 16)) (nI i) = some (if u i = 0 then -1 else nI (lf K.c (fun j => if j = i then u j - 1 else u j) 16)) := by
  obtain ⟨e1, e2⟩ := hL i hi
  have b1 := lf_lt hu 16
  have b2 := K.W512 hr
  have b3 := K.c_lt hr i
  have b4 := Wt_pos K.c i
  have b5 := Wt_mono K.c i (16 - i)
  rw [show i + (16 - i) = 16 by omega] at b5
  have hd := lf_digit hu hi
  have hui := hu i
  unfold f_X4_leftWithout
  rw [if_neg (nI_pos (by omega)), if_neg (show ¬ (16 : Int32) ≤ nI i from nI_ge hi (by decide)), if_neg (show ¬ (16 : Int32) ≤ nI i from nI_ge hi (by decide)), if_pos (show (0 : Int32) ≤ nI (lf K.c u 16) from nI_le (a := 0) (Nat.zero_le _) (by omega)), rd_ok _ hi (by decide), ob_some, rd_ok _ hi (by decide), ob_some, e1, e2, show (1 : Int32) = nI 1 from rfl, nI_add, ob_some, if_neg (nI_nlt (by omega) (by omega)), if_pos (nI_le (by omega) (by omega)), ckd_ok (by omega) (by omega), ob_some, ckd_ok (by omega) (by omega), ob_some, nI_div (by omega) b4 (by omega), nI_irem (Nat.lt_of_le_of_lt (Nat.div_le_self _ _) (by omega)) (by omega) (by omega), hd]
  by_cases h0 : u i = 0
  · rw [if_pos (show nI (u i) ≤ (0 : Int32) from (nI_pos0 (by omega)).mpr h0), if_pos h0]
    rfl
  · rw [if_neg (fun z => h0 ((nI_pos0 (by omega)).mp z)), if_neg h0, ob_some]
    have e := lf_dec (c := K.c) h0 16
    rw [if_pos hi] at e
    rw [← e, nI_sub (by omega), Nat.add_sub_cancel]
def WC.cds (K : WC) : Nat → List Nat
  | 0 => []
  | n + 1 => K.cds n ++ [K.t (4 * gl K.r (2 * n) + gl K.r (2 * n + 1))]
theorem WC.cds_len (K : WC) : ∀ n, (K.cds n).length = n
  | 0 => rfl
  | n + 1 => by show (K.cds n ++ [_]).length = _; rw [List.length_append, K.cds_len n]; rfl
theorem WC.cds_gl (K : WC) : ∀ n j, j < n → gl (K.cds n) j = K.t (4 * gl K.r (2 * j) + gl K.r (2 * j + 1))
  | 0, _, h => by omega
  | n + 1, j, h => by
    show gl (K.cds n ++ [_]) j = _
    by_cases e : j = n
    · subst e
      have := gl_last (r := K.cds j) (x := K.t (4 * gl K.r (2 * j) + gl K.r (2 * j + 1)))
      rw [K.cds_len] at this
      exact this
    · rw [gl_snoc (by rw [K.cds_len]; omega)]
      exact K.cds_gl n j (by omega)
theorem WC.cds_ok (K : WC) (hr : RowOk K.r) (ht : ∀ k, k < 16 → K.t k < 4) : ∀ n, n ≤ 5 → RowOk (K.cds n)
  | 0, _ => RowOk.nil
  | n + 1, h => by
    have g1 := gl_lt hr.2 (2 * n)
    have g2 := gl_lt hr.2 (2 * n + 1)
    exact (K.cds_ok hr ht n (by omega)).snoc (by rw [K.cds_len]; omega) (ht _ (by omega))
theorem s_leftAfter (F : Nat) {K : WC} (hr : RowOk K.r) (ht : ∀ k, k < 16 → K.t k < 4) {tb : Int32} (hT : TabC tb K.t) {stock weight : Nat → Int32} (hL : WLf K stock weight) {u : Nat → Nat} (hu : ∀ j, u j ≤ K.c j) {last place x : Nat} (hla : last < 4) (hpl : place < K.r.length) (hx : x < 4) : f_X4_leftAfter F (encR K.r) (encR (K.cds (K.r.length / 2))) tb (nI (bN K.P)) (nI (bN K.C)) stock weight (nI (lf K.c u 16)) (nI last) (nI place) (nI x) = some (match K.step u last place x with | none => -1 | some u' => nI (lf K.c u' 16)) := by
  have hl := hr.1
  have hit : K.it last x < 16 := by
    unfold WC.it
    cases K.P
    · rw [if_neg (by decide)]; omega
    · rw [if_pos rfl]; omega
  have hlw := s_leftWithout F hr hL hu hit
  have heit : ((if nI (bN K.P) = 0 then some (nI x) else some (nI last * 4 + nI x)) : Option Int32) = some (nI (K.it last x)) := by
    unfold WC.it
    cases K.P
    · rfl
    · show some _ = some (nI (4 * last + x))
      rw [show (4 : Int32) = nI 4 from rfl, nI_mul, nI_add, Nat.mul_comm]
  have hend : ((some (nI (K.it last x)) : Option Int32).bind fun t1 => (f_X4_leftWithout F stock weight (nI (lf K.c u 16)) t1).bind fun z5 => some z5) = some (match (if u (K.it last x) = 0 then none else some (fun i => if i = K.it last x then u i - 1 else u i) : Option (Nat → Nat)) with | none => -1 | some u' => nI (lf K.c u' 16)) := by
    rw [ob_some, hlw, ob_some]
    by_cases h0 : u (K.it last x) = 0
    · rw [if_pos h0, if_pos h0]
    · rw [if_neg h0, if_neg h0]
  have hcode : place % 2 = 1 → f_X5_codeIn F tb (nI last) (nI x) = some (nI (K.t (4 * last + x))) ∧ f_X5_letterOf F (encR (K.cds (K.r.length / 2))) (nI place / 2) = some (nI (K.t (4 * gl K.r (place - 1) + gl K.r place))) := by
    intro ho
    refine ⟨s_codeIn F hT hla hx, ?_⟩
    rw [show (2 : Int32) = nI 2 from rfl, nI_div (by omega) (by decide) (by decide), s_letterOf F (K.cds_ok hr ht _ (by omega)) (by omega), K.cds_gl _ _ (by omega), show 2 * (place / 2) = place - 1 by omega, show place - 1 + 1 = place by omega]
  have ho2 : irem (nI place) 2 = nI (place % 2) := by rw [show (2 : Int32) = nI 2 from rfl, nI_irem (by omega) (by decide) (by decide)]
  have b1 := ht (4 * last + x) (by omega)
  have g1 := gl_lt hr.2 (place - 1)
  have g2 := gl_lt hr.2 place
  have b2 := ht (4 * gl K.r (place - 1) + gl K.r place) (by omega)
  have hmid : (if nI (bN K.C) = 0 then (if nI (bN K.P) = 0 then some (nI x) else some (nI last * 4 + nI x) : Option Int32).bind fun t1 => (f_X4_leftWithout F stock weight (nI (lf K.c u 16)) t1).bind fun z5 => some z5 else if irem (nI place) 2 = 1 then (f_X5_codeIn F tb (nI last) (nI x)).bind fun z13 => (f_X5_letterOf F (encR (K.cds (K.r.length / 2))) (nI place / 2)).bind fun z15 => if z13 = z15 then (if nI (bN K.P) = 0 then some (nI x) else some (nI last * 4 + nI x) : Option Int32).bind fun t1 => (f_X4_leftWithout F stock weight (nI (lf K.c u 16)) t1).bind fun z5 => some z5 else some (-1) else (if nI (bN K.P) = 0 then some (nI x) else some (nI last * 4 + nI x) : Option Int32).bind fun t1 => (f_X4_leftWithout F stock weight (nI (lf K.c u 16)) t1).bind fun z5 => some z5) = some (match (if K.C = true ∧ place % 2 = 1 ∧ K.t (4 * last + x) ≠ K.t (4 * gl K.r (place - 1) + gl K.r place) then none else if u (K.it last x) = 0 then none else some (fun i => if i = K.it last x then u i - 1 else u i) : Option (Nat → Nat)) with | none => -1 | some u' => nI (lf K.c u' 16)) := by
    rw [heit]
    cases hC : K.C with
    | false =>
      rw [if_pos (show nI (bN false) = (0 : Int32) from rfl), if_neg (fun z => absurd z.1 (by decide))]
      exact hend
    | true =>
      rw [if_neg (show ¬ nI (bN true) = (0 : Int32) from ne10), ho2]
      by_cases ho : place % 2 = 1
      · obtain ⟨c1, c2⟩ := hcode ho
        rw [if_pos (show nI (place % 2) = (1 : Int32) by rw [ho]; rfl), c1, ob_some, c2, ob_some]
        by_cases e : K.t (4 * last + x) = K.t (4 * gl K.r (place - 1) + gl K.r place)
        · rw [if_pos (by rw [e]), if_neg (fun z => z.2.2 e)]
          exact hend
        · rw [if_neg (nIlit (by omega) (by omega) e), if_pos ⟨rfl, ho, e⟩]
      · rw [if_neg (show ¬ nI (place % 2) = (1 : Int32) from nIlit (m := 1) (by omega) (by decide) ho), if_neg (fun z => ho z.2.1)]
        exact hend
  unfold f_X4_leftAfter WC.step
  cases hP : K.P with
  | false =>
    rw [if_pos (show nI (bN false) = (0 : Int32) from rfl), if_neg (show ¬ (false = true ∧ place = 0) from fun z => absurd z.1 (by decide))]
    rw [hP] at hmid
    exact hmid
  | true =>
    rw [if_neg (show ¬ nI (bN true) = (0 : Int32) from ne10)]
    rw [hP] at hmid
    by_cases h0 : place = 0
    · have g0 := gl_lt hr.2 0
      rw [if_pos (show nI place = (0 : Int32) by rw [h0]; rfl), if_pos ⟨rfl, h0⟩, show (0 : Int32) = nI 0 from rfl, s_letterOf F hr (by decide), ob_some]
      by_cases e : x = gl K.r 0
      · rw [if_pos (by rw [e]), if_pos e, ob_some]
      · rw [if_neg (nIlit (by omega) (by omega) e), if_neg e, ob_some]
    · rw [if_neg (show ¬ nI place = (0 : Int32) from nIlit (m := 0) (by omega) (by decide) h0), if_neg (show ¬ (true = true ∧ place = 0) from fun z => h0 z.2)]
      exact hmid
