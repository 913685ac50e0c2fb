def WC.plc (K : WC) : Nat → (Nat → Nat) → Nat → List Nat → Nat
  | m + 1, u, last, x :: w => sumF (fun y => (K.kid m u last y).length) 0 x + (match K.step u last (K.r.length - (m + 1)) x with | none => 0 | some u' => K.plc m u' x w)
  | _, _, _, _ => 0
theorem s_place35 {F : Nat} (hF : 1100000 ≤ F) {K : WC} (hr : RowOk K.r) (ht : ∀ k, k < 16 → K.t k < 4) {tb : Int32} (hT : TabC tb K.t) {stock weight : Nat → Int32} (hL : WLf K stock weight) {kn fd : Nat → Int32} (i : Inv4 K g00 1 0 kn fd) (cl : Cl4 K 0 kn) {u : Nat → Nat} {last place m x : Nat} (hS : RS K u last place) (hk : kn (K.E u last place) ≠ 0) (hm : place + (m + 1) = K.r.length) (hx : x < 4) (a : Nat) : f_X4_placeOfRow_L35 F (nI 1) (encR K.r) (encR (K.cds (K.r.length / 2))) tb (nI (bN K.P)) (nI (bN K.C)) stock weight fd (nI (lf K.c u 16)) (nI last) (nI place) (nI x) F (nI a) (0 : Int32) = some (nI (a + sumF (fun y => (K.kid m u last y).length) 0 x)) := by
  have key := loop_sum (Lp := f_X4_placeOfRow_L35 F (nI 1) (encR K.r) (encR (K.cds (K.r.length / 2))) tb (nI (bN K.P)) (nI (bN K.C)) stock weight fd (nI (lf K.c u 16)) (nI last) (nI place) (nI x)) (N := x) 0 (f := fun y => (K.kid m u last y).length) ?_ ?_ x F 0 a (Nat.le_refl _) rfl (by omega) (by omega)
  · exact key
  · intro n a k h1 h2
    rw [f_X4_placeOfRow_L35, if_pos (nI_le h1 (by omega))]
  · intro n a k _ hk2
    rw [f_X4_placeOfRow_L35, if_neg (nI_ge hk2 (by omega)), s_continued hF hr ht hT hL (by decide) (GsB00 K) i cl hS hk hm (by omega), ob_some, nI_add, ob_some, show (1 : Int32) = nI 1 from rfl, nI_add, ob_some]
theorem s_place12 {F : Nat} (hF : 1100000 ≤ F) {K : WC} (hr : RowOk K.r) (ht : ∀ k, k < 16 → K.t k < 4) {tb : Int32} (hT : TabC tb K.t) {stock weight : Nat → Int32} (hL : WLf K stock weight) {kn fd : Nat → Int32} (i : Inv4 K g00 1 0 kn fd) (cl : Cl4 K 0 kn) : ∀ (m n : Nat) (u : Nat → Nat) (last place a : Nat), place + m = K.r.length → m < n → RS K u last place → kn (K.E u last place) ≠ 0 → K.okW u last place (K.r.drop place) = true → f_X4_placeOfRow_L12 F (nI 1) (encR K.r) (encR (K.cds (K.r.length / 2))) tb (nI K.r.length) (nI (bN K.P)) (nI (bN K.C)) stock weight fd n (nI a) (nI (lf K.c u 16)) (nI last) (nI place) = some (nI (a + K.plc m u last (K.r.drop place))) := by
  have hl := hr.1
  intro m
  induction m with
  | zero =>
    intro n u last place a hm hn hS hk hw
    obtain ⟨n, rfl⟩ : ∃ k, n = k + 1 := ⟨n - 1, by omega⟩
    rw [f_X4_placeOfRow_L12, if_pos (nI_le (by omega) (by omega))]
    rfl
  | succ m ih =>
    intro n u last place a hm hn hS hk hw
    obtain ⟨n, rfl⟩ : ∃ k, n = k + 1 := ⟨n - 1, by omega⟩
    have hx := gl_lt hr.2 place
    have hpl : K.r.length - (m + 1) = place := by omega
    rw [drop_gl (show place < K.r.length by omega)] at hw ⊢
    have hw' : (match K.step u last place (gl K.r place) with | none => false | some u' => K.okW u' (gl K.r place) (place + 1) (K.r.drop (place + 1))) = true := hw
    rw [f_X4_placeOfRow_L12, if_neg (nI_ge (by omega) (by omega)), s_letterOf F hr (by omega), ob_some, s_place35 hF hr ht hT hL i cl hS hk hm hx a, ob_some, s_leftAfter F hr ht hT hL hS.1 hS.2.1 (show place < K.r.length by omega) hx, ob_some, show nI place + 1 = nI (place + 1) from nI_add place 1, ob_some]
    cases hst : K.step u last place (gl K.r place) with
    | none => rw [hst] at hw'; cases hw'
    | some u' =>
      rw [hst] at hw'
      have hS' := hS.step hr (show place < K.r.length by omega) hx hst
      have hk' := cl u last place hS (Nat.zero_le _) hk (by omega) _ u' hx hst
      have e := ih n u' (gl K.r place) (place + 1) (a + sumF (fun y => (K.kid m u last y).length) 0 (gl K.r place)) (by omega) (by omega) hS' hk' hw'
      refine e.trans ?_
      show _ = some (nI (a + (_ + (match K.step u last (K.r.length - (m + 1)) (gl K.r place) with | none => 0 | some u' => K.plc m u' (gl K.r place) (K.r.drop (place + 1))))))
      rw [hpl, hst, Nat.add_assoc]
