def WC.plc (K : WC) : Nat → (Nat → Nat) → Nat → List Nat → Nat
  | m + 1, u, last, x :: w => sumF (fun y => (K.kid m u last y).length) 0 x + (match K.step u last (K.r.length - (m + 1)) x with | none => 0 | some u' => K.plc m u' x w)
  | _, _, _, _ => 0
theorem s_place35 {F : Nat} (hF : 1100000 ≤ F) {K : WC} (hr : RowOk K.r) (ht : ∀ k, k < 16 → K.t k < 4) {tb : Int32} (hT : TabC tb K.t) {stock weight : Nat → Int32} (hL : WLf K stock weight) {kn fd : Nat → Int32} (i : Inv4 K g00 1 0 kn fd) (cl : Cl4 K 0 kn) {u : Nat → Nat} {last place m x : Nat} (hS : RS K u last place) (hk : kn (K.E u last place) ≠ 0) (hm : place + (m + 1) = K.r.length) (hx : x < 4) (a : Nat) : f_X4_placeOfRow_L35 F (nI 1) (encR K.r) (encR (K.cds (K.r.length / 2))) tb (nI (bN K.P)) (nI (bN K.C)) stock weight fd (nI (lf K.c u 16)) (nI last) (nI place) (nI x) F (nI a) (0 : Int32) = some (nI (a + sumF (fun y => (K.kid m u last y).length) 0 x)) := by
  have key := loop_sum (Lp := f_X4_placeOfRow_L35 F (nI 1) (encR K.r) (encR (K.cds (K.r.length / 2))) tb (nI (bN K.P)) (nI (bN K.C)) stock weight fd (nI (lf K.c u 16)) (nI last) (nI place) (nI x)) (N := x) 0 (f := fun y => (K.kid m u last y).length) ?_ ?_ x F 0 a (Nat.le_refl _) rfl (by omega) (by omega)
  · exact key
  · intro n a k h1 h2
    rw [f_X4_placeOfRow_L35, if_pos (nI_le h1 (by omega))]
  · intro n a k _ hk2
    rw [f_X4_placeOfRow_L35, if_neg (nI_ge hk2 (by omega)), s_continued hF hr ht hT hL i cl hS hk hm (by omega), ob_some, nI_add, ob_some, show (1 : Int32) = nI 1 from rfl, nI_add, ob_some]
