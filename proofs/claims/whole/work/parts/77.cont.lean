def WC.kid (K : WC) (m : Nat) (u : Nat → Nat) (last x : Nat) : List (List Nat) := match K.step u last (K.r.length - (m + 1)) x with | none => [] | some u' => K.cs m u' x
theorem cnV (K : WC) (gg : Nat → Nat → Nat → Nat) {V m : Nat} {u : Nat → Nat} {last : Nat} (h : ∀ w, w ∈ K.cs m u last → gs gg (K.r.length - m) last w < V) : sumF (K.cn gg m u last) 0 V = (K.cs m u last).length := part_len (fun w => gs gg (K.r.length - m) last w) V (K.cs m u last) h
def GsB (K : WC) (gg : Nat → Nat → Nat → Nat) (V : Nat) : Prop := ∀ (m : Nat) (u : Nat → Nat) (last : Nat) (w : List Nat), m ≤ K.r.length → w ∈ K.cs m u last → gs gg (K.r.length - m) last w < V
theorem GsB00 (K : WC) : GsB K g00 1 := fun m u last w _ _ => by rw [gs00]; decide
theorem s_continued {F : Nat} (hF : 1100000 ≤ F) {K : WC} (hr : RowOk K.r) (ht : ∀ k, k < 16 → K.t k < 4) {tb : Int32} (hT : TabC tb K.t) {stock weight : Nat → Int32} (hL : WLf K stock weight) {gg : Nat → Nat → Nat → Nat} {V : Nat} (hV : V ≤ 11) (hB : GsB K gg V) {kn fd : Nat → Int32} (i : Inv4 K gg V 0 kn fd) (cl : Cl4 K 0 kn) {u : Nat → Nat} {last place m x : Nat} (hS : RS K u last place) (hk : kn (K.E u last place) ≠ 0) (hm : place + (m + 1) = K.r.length) (hx : x < 4) : f_X4_continued F (nI V) (encR K.r) (encR (K.cds (K.r.length / 2))) tb (nI (bN K.P)) (nI (bN K.C)) stock weight fd (nI (lf K.c u 16)) (nI last) (nI place) (nI x) = some (nI (K.kid m u last x).length) := by
  have hl := hr.1
  have hpl : K.r.length - (m + 1) = place := by omega
  unfold f_X4_continued WC.kid
  rw [s_leftAfter F hr ht hT hL hS.1 hS.2.1 (show place < K.r.length by omega) hx, ob_some, hpl]
  cases hst : K.step u last place x with
  | none =>
    rw [if_pos rfl, ob_some]
    rfl
  | some u' =>
    have hS' := hS.step hr (show place < K.r.length by omega) hx hst
    have hE' := (hS'.E_lt hr).1
    have hlt' := lf_lt hS'.1 16
    have h512 := K.W512 hr
    have hm1 : ¬ nI (lf K.c u' 16) = (-1 : Int32) := fun z => nI_pos (show lf K.c u' 16 < 2 ^ 31 by omega) (by rw [z]; decide)
    have hk' := cl u last place hS (Nat.zero_le _) hk (by omega) x u' hx hst
    have h := i u' x (place + 1) hS' (Nat.zero_le _) hk'
    have e := s_allOf hF (e := K.E u' x (place + 1)) (V := V) (c := K.cn gg (K.r.length - (place + 1)) u' x) hE' hV h
    rw [cnV K gg (fun w hw => hB _ _ _ w (by omega) hw), show K.r.length - (place + 1) = m by omega] at e
    dsimp only
    rw [if_neg hm1, show nI place + 1 = nI (place + 1) from nI_add place 1, s_entryOf F K u' x (place + 1) (by omega), ob_some, e, ob_some, ob_some]
