theorem kid_le (K : WC) : ∀ (m : Nat), (∀ u last, (K.cs m u last).length ≤ 4 ^ m) ∧ (∀ u last x, (K.kid m u last x).length ≤ 4 ^ m)
  | 0 => by
    have h : ∀ u last, (K.cs 0 u last).length ≤ 4 ^ 0 := fun u last => Nat.le_refl 1
    refine ⟨h, fun u last x => ?_⟩
    unfold WC.kid
    cases K.step u last (K.r.length - (0 + 1)) x with
    | none => exact Nat.zero_le _
    | some u' => exact h u' x
  | m + 1 => by
    have ih := kid_le K m
    have h : ∀ u last, (K.cs (m + 1) u last).length ≤ 4 ^ (m + 1) := by
      intro u last
      rw [cs_succ, List.length_append, List.length_append, List.length_append, blk_len, blk_len, blk_len, blk_len, Nat.pow_succ]
      have h0 := ih.2 u last 0
      have h1 := ih.2 u last 1
      have h2 := ih.2 u last 2
      have h3 := ih.2 u last 3
      omega
    refine ⟨h, fun u last x => ?_⟩
    unfold WC.kid
    cases K.step u last (K.r.length - (m + 1 + 1)) x with
    | none => exact Nat.zero_le _
    | some u' => exact h u' x
theorem kid_bd (K : WC) (hr : RowOk K.r) {m place : Nat} (hm : place + (m + 1) = K.r.length) (u : Nat → Nat) (last x : Nat) : (K.kid m u last x).length < 2 ^ 20 := by
  have h := (kid_le K m).2 u last x
  have h2 : 4 ^ m ≤ 4 ^ 9 := Nat.pow_le_pow_right (by decide) (by have := hr.1; omega)
  omega
theorem s_row28 {F : Nat} (hF : 1100000 ≤ F) {K : WC} (hr : RowOk K.r) (ht : ∀ k, k < 16 → K.t k < 4) {tb : Int32} (hT : TabC tb K.t) {stock weight : Nat → Int32} (hL : WLf K stock weight) {kn fd : Nat → Int32} (i : Inv4 K g00 1 0 kn fd) (cl : Cl4 K 0 kn) {u : Nat → Nat} {last place m x j : Nat} (hS : RS K u last place) (hk : kn (K.E u last place) ≠ 0) (hm : place + (m + 1) = K.r.length) (hx : x < 4) (hj : x < 3 → j < (K.kid m u last x).length) : ∀ (d n y : Nat), y + d = x → d < n → j + sumF (fun y => (K.kid m u last y).length) y d < 2 ^ 31 → ∃ e, f_X4_rowAt_L28 F (nI 1) (encR K.r) (encR (K.cds (K.r.length / 2))) tb (nI (bN K.P)) (nI (bN K.C)) stock weight fd (nI (lf K.c u 16)) (nI last) (nI place) n (nI (j + sumF (fun y => (K.kid m u last y).length) y d)) (nI y) = some e ∧ (e = Sum.inl (nI j, nI x) ∨ e = Sum.inr (nI j, nI x)) := by
  intro d
  induction d with
  | zero =>
    intro n y hy hn hb
    obtain ⟨n, rfl⟩ : ∃ k, n = k + 1 := ⟨n - 1, by omega⟩
    obtain rfl : y = x := by omega
    show ∃ e, f_X4_rowAt_L28 F (nI 1) (encR K.r) (encR (K.cds (K.r.length / 2))) tb (nI (bN K.P)) (nI (bN K.C)) stock weight fd (nI (lf K.c u 16)) (nI last) (nI place) (n + 1) (nI j) (nI y) = some e ∧ _
    by_cases h3 : 3 ≤ y
    · refine ⟨_, by rw [f_X4_rowAt_L28, if_pos (show (3 : Int32) ≤ nI y from nI_le (a := 3) h3 (by omega))], Or.inr rfl⟩
    · refine ⟨_, by rw [f_X4_rowAt_L28, if_neg (show ¬ (3 : Int32) ≤ nI y from nI_ge (b := 3) (by omega) (by decide)), s_continued hF hr ht hT hL (by decide) (GsB00 K) i cl hS hk hm hx, ob_some, if_neg (nI_ge (hj (by omega)) (by have := kid_bd K hr hm u last y; omega))], Or.inl rfl⟩
  | succ d ih =>
    intro n y hy hn hb
    obtain ⟨n, rfl⟩ : ∃ k, n = k + 1 := ⟨n - 1, by omega⟩
    have es : j + sumF (fun y => (K.kid m u last y).length) y (d + 1) = (K.kid m u last y).length + (j + sumF (fun y => (K.kid m u last y).length) (y + 1) d) := by
      show j + ((K.kid m u last y).length + sumF (fun y => (K.kid m u last y).length) (y + 1) d) = _
      omega
    rw [es] at hb ⊢
    obtain ⟨e, e1, e2⟩ := ih n (y + 1) (by omega) (by omega) (by omega)
    refine ⟨e, ?_, e2⟩
    rw [f_X4_rowAt_L28, if_neg (show ¬ (3 : Int32) ≤ nI y from nI_ge (b := 3) (by omega) (by decide)), s_continued hF hr ht hT hL (by decide) (GsB00 K) i cl hS hk hm (by omega), ob_some, if_pos (nI_le (Nat.le_add_right _ _) hb), nI_sub (Nat.le_add_right _ _), Nat.add_sub_cancel_left, ob_some, show (1 : Int32) = nI 1 from rfl, nI_add, ob_some]
    exact e1
theorem s_row16 {F : Nat} (hF : 1100000 ≤ F) {K : WC} (hr : RowOk K.r) (ht : ∀ k, k < 16 → K.t k < 4) {tb : Int32} (hT : TabC tb K.t) {stock weight : Nat → Int32} (hL : WLf K stock weight) {kn fd : Nat → Int32} (i : Inv4 K g00 1 0 kn fd) (cl : Cl4 K 0 kn) : ∀ (m n : Nat) (u : Nat → Nat) (last place j : Nat) (pre w : List Nat), place + m = K.r.length → m < n → RS K u last place → kn (K.E u last place) ≠ 0 → pre.length = place → RowOk pre → (K.cs m u last)[j]? = some w → f_X4_rowAt_L16 F (nI 1) (encR K.r) (encR (K.cds (K.r.length / 2))) tb (nI K.r.length) (nI (bN K.P)) (nI (bN K.C)) stock weight fd n (encR pre) (nI j) (nI (lf K.c u 16)) (nI last) (nI place) = some (encR (pre ++ w)) := by
  have hl := hr.1
  intro m
  induction m with
  | zero =>
    intro n u last place j pre w hm hn hS hk hp hpr hw
    obtain ⟨n, rfl⟩ : ∃ k, n = k + 1 := ⟨n - 1, by omega⟩
    have hw' : ([[]] : List (List Nat))[j]? = some w := hw
    have hwn : w = [] := List.mem_singleton.mp (List.mem_of_getElem? hw')
    rw [f_X4_rowAt_L16, if_pos (nI_le (by omega) (by omega)), hwn, List.append_nil]
  | succ m ih =>
    intro n u last place j pre w hm hn hS hk hp hpr hw
    obtain ⟨n, rfl⟩ : ∃ k, n = k + 1 := ⟨n - 1, by omega⟩
    have hpl : K.r.length - (m + 1) = place := by omega
    have hjl : j < 4 ^ (m + 1) := Nat.lt_of_lt_of_le (List.getElem?_eq_some_iff.mp hw).1 ((kid_le K (m + 1)).1 u last)
    have h4 : 4 ^ (m + 1) ≤ 4 ^ 10 := Nat.pow_le_pow_right (by decide) (by omega)
    obtain ⟨x, i2, hx, hj, hb⟩ := cs_at K hw
    have hbl : i2 < (K.kid m u last x).length := by rw [← blk_len]; exact (List.getElem?_eq_some_iff.mp hb).1
    unfold WC.blk at hb
    rw [hpl] at hb
    cases hst : K.step u last place x with
    | none => rw [hst] at hb; cases hb
    | some u' =>
      rw [hst] at hb
      have hb' : ((K.cs m u' x).map (List.cons x))[i2]? = some w := hb
      rw [List.getElem?_map] at hb'
      obtain ⟨w', hw1, hw2⟩ := Option.map_eq_some_iff.mp hb'
      subst hw2
      have hS' := hS.step hr (show place < K.r.length by omega) hx hst
      have hk' := cl u last place hS (Nat.zero_le _) hk (by omega) _ u' hx hst
      have hj2 : j = i2 + sumF (fun y => (K.kid m u last y).length) 0 x := by rw [hj]; exact Nat.add_comm _ _
      obtain ⟨e, e1, e2⟩ := s_row28 hF hr ht hT hL i cl hS hk hm hx (fun _ => hbl) x F 0 (Nat.zero_add _) (by omega) (by omega)
      have ih' := ih n u' x (place + 1) i2 (pre ++ [x]) w' (by omega) (by omega) hS' hk' (by rw [List.length_append, hp]; rfl) (hpr.snoc (by omega) hx) hw1
      rw [List.append_assoc] at ih'
      have la := s_leftAfter F hr ht hT hL hS.1 hS.2.1 (show place < K.r.length by omega) hx
      rw [hst] at la
      have e1' : f_X4_rowAt_L28 F (nI 1) (encR K.r) (encR (K.cds (K.r.length / 2))) tb (nI (bN K.P)) (nI (bN K.C)) stock weight fd (nI (lf K.c u 16)) (nI last) (nI place) F (nI j) (0 : Int32) = some e := by rw [hj2]; exact e1
      rw [f_X4_rowAt_L16, if_neg (nI_ge (by omega) (by omega)), e1', ob_some]
      have go : ((f_X5_longer F (encR pre) (nI x)).bind fun z29 => (f_X4_leftAfter F (encR K.r) (encR (K.cds (K.r.length / 2))) tb (nI (bN K.P)) (nI (bN K.C)) stock weight (nI (lf K.c u 16)) (nI last) (nI place) (nI x)).bind fun z31 => (some (nI place + 1)).bind fun v33 => f_X4_rowAt_L16 F (nI 1) (encR K.r) (encR (K.cds (K.r.length / 2))) tb (nI K.r.length) (nI (bN K.P)) (nI (bN K.C)) stock weight fd n z29 (nI i2) z31 (nI x) v33) = some (encR (pre ++ x :: w')) := by
        rw [s_longer F hpr (by omega) hx, ob_some, la, ob_some, show nI place + 1 = nI (place + 1) from nI_add place 1, ob_some]
        exact ih'
      rcases e2 with rfl | rfl
      · exact go
      · exact go
theorem s_ways {F : Nat} (hF : 1100000 ≤ F) {k : Nat} (hk : k < 4) {r : List Nat} {t : Nat → Nat} (hr : RowOk r) (bk : List (List Nat)) {tb : Int32} (hT : TabC tb t) (stock weight known found : Nat → Int32) (mw mx my mr mt : Int32) {pre post : List (List Nat)} (hS : SH k (r, t, bk) = pre ++ r :: post) : ∃ z, f_X4_open F stock weight known found mw mx my mr mt (encR r) tb (nI k) = some z ∧ f_X4_total F z.2.1 z.2.2.2.2.2.2.2.2.2.2.2.2 = some (nI (SH k (r, t, bk)).length) ∧ f_X4_placeOfRow F z.2.1 z.2.2.1 z.2.2.2.1 z.2.2.2.2.1 z.2.2.2.2.2.1 z.2.2.2.2.2.2.1 z.2.2.2.2.2.2.2.1 z.2.2.2.2.2.2.2.2.1 z.2.2.2.2.2.2.2.2.2.1 z.2.2.2.2.2.2.2.2.2.2.1 z.2.2.2.2.2.2.2.2.2.2.2.2 = some (nI pre.length) ∧ ∀ (j : Nat) (w : List Nat), (SH k (r, t, bk))[j]? = some w → f_X4_rowAt F z.2.1 z.2.2.1 z.2.2.2.1 z.2.2.2.2.1 z.2.2.2.2.2.1 z.2.2.2.2.2.2.1 z.2.2.2.2.2.2.2.1 z.2.2.2.2.2.2.2.2.1 z.2.2.2.2.2.2.2.2.2.1 z.2.2.2.2.2.2.2.2.2.2.1 z.2.2.2.2.2.2.2.2.2.2.2.2 (nI j) = some (encR w) := by
  obtain ⟨st, w', kn, fd, eo, hL, i, kk, cl⟩ := s_open hF hk hr hT stock weight known found mw mx my mr mt
  have ht : ∀ k, k < 16 → t k < 4 := fun k hk => (hT k hk).2
  have hl := hr.1
  have et := s_total hF i kk
  have hcs : ((KW k r t).cs (KW k r t).r.length (KW k r t).c 0) = SH k (r, t, bk) := KW_cs hk hr bk
  rw [hcs] at et
  refine ⟨_, eo, et, s_placeOfRow hF hk hr bk hT hL i kk cl hS, fun j w hw => ?_⟩
  rw [← KW_cs hk hr bk] at hw
  have h1 := s_row16 hF (K := KW k r t) hr ht hT hL i cl r.length F (KW k r t).c 0 0 j [] w (Nat.zero_add _) (by omega) (RS.init _) kk rfl RowOk.nil hw
  have h1' : f_X4_rowAt_L16 F (nI 1) (encR r) (encR ((KW k r t).cds (r.length / 2))) tb (nI r.length) (nI (bN (KW k r t).P)) (nI (bN (KW k r t).C)) st w' fd F (0 : Int32) (nI j) (nI (lf (KW k r t).c (KW k r t).c 16)) (0 : Int32) (0 : Int32) = some (encR w) := h1
  show f_X4_rowAt F (nI 1) (encR r) (encR ((KW k r t).cds (r.length / 2))) tb (nI r.length) (nI (lf (KW k r t).c (KW k r t).c 16)) (nI (bN (KW k r t).P)) (nI (bN (KW k r t).C)) st w' fd (nI j) = _
  unfold f_X4_rowAt
  rw [h1', ob_some]
theorem SH_ok {k : Nat} {r : List Nat} {t : Nat → Nat} {bk : List (List Nat)} (hr : RowOk r) {j : Nat} {w : List Nat} (h : (SH k (r, t, bk))[j]? = some w) : RowOk w ∧ w.length = r.length := by
  have h1 := (mem_Arr.mp (List.mem_filter.mp (List.mem_of_getElem? h)).1)
  have h2 : w.length = r.length := h1.1
  have h3 := hr.1
  exact ⟨⟨by omega, h1.2.1⟩, h2⟩
theorem SH_len {k : Nat} {r : List Nat} {t : Nat → Nat} {bk : List (List Nat)} (hr : RowOk r) : (SH k (r, t, bk)).length ≤ 1048576 := Nat.le_trans (List.length_filter_le _ _) (Arr_len hr.1)
