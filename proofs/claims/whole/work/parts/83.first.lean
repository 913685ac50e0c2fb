-- the first word with a gain, found block by block
def WC.fi (K : WC) (gg : Nat → Nat → Nat → Nat) (m : Nat) (u : Nat → Nat) (last R : Nat) : Nat := (K.cs m u last).findIdx (fun w => gs gg (K.r.length - m) last w == R)
theorem fI_skip {α : Type} {p : α → Bool} {a b : List α} (h : (a.filter p).length = 0) : (a ++ b).findIdx p = a.length + b.findIdx p := by
  have h1 : a.findIdx p = a.length := List.findIdx_eq_length_of_false (fun x hx => by
    have h2 := List.filter_eq_nil_iff.mp (List.length_eq_zero_iff.mp h) x hx
    cases hp : p x with
    | false => rfl
    | true => exact absurd hp h2)
  rw [List.findIdx_append, h1, if_neg (Nat.lt_irrefl _), Nat.add_comm]
theorem fI_here {α : Type} {p : α → Bool} {a b : List α} (h : (a.filter p).length ≠ 0) : (a ++ b).findIdx p = a.findIdx p := by
  have h1 : a.findIdx p < a.length := by
    refine List.findIdx_lt_length_of_exists ?_
    cases hf : a.filter p with
    | nil => rw [hf] at h; exact absurd rfl h
    | cons x l =>
      have hx : x ∈ a.filter p := by rw [hf]; exact List.mem_cons_self
      exact ⟨x, (List.mem_filter.mp hx).1, (List.mem_filter.mp hx).2⟩
  rw [List.findIdx_append, if_pos h1]
theorem blk_cx (K : WC) (gg : Nat → Nat → Nat → Nat) {m : Nat} (hm : m + 1 ≤ K.r.length) (u : Nat → Nat) (last R x : Nat) : ((K.blk m u last x).filter (fun w => gs gg (K.r.length - (m + 1)) last w == R)).length = K.cx gg m u last R x := cx_eq K gg hm u last R x
theorem fi_succ (K : WC) (gg : Nat → Nat → Nat → Nat) {m : Nat} (hm : m + 1 ≤ K.r.length) (u : Nat → Nat) (last R : Nat) {x : Nat} (hx : x < 4) (h0 : ∀ y, y < x → K.cx gg m u last R y = 0) (h1 : K.cx gg m u last R x ≠ 0) : K.fi gg (m + 1) u last R = K.off m u last x + (K.blk m u last x).findIdx (fun w => gs gg (K.r.length - (m + 1)) last w == R) := by
  have b := blk_cx K gg hm u last R
  unfold WC.fi
  rw [cs_succ]
  rcases (show x = 0 ∨ x = 1 ∨ x = 2 ∨ x = 3 by omega) with rfl | rfl | rfl | rfl
  · rw [fI_here (by rw [b]; exact h1)]
    exact (Nat.zero_add _).symm
  · rw [fI_skip (by rw [b]; exact h0 0 (by decide)), fI_here (by rw [b]; exact h1), blk_len]
    rfl
  · rw [fI_skip (by rw [b]; exact h0 0 (by decide)), fI_skip (by rw [b]; exact h0 1 (by decide)), fI_here (by rw [b]; exact h1), blk_len, blk_len]
    show _ = (K.kid m u last 0).length + ((K.kid m u last 1).length + 0) + _
    omega
  · have e3 : ∀ p : List Nat → Bool, (K.blk m u last 3).findIdx p = (K.blk m u last 3).findIdx p := fun _ => rfl
    rw [fI_skip (by rw [b]; exact h0 0 (by decide)), fI_skip (by rw [b]; exact h0 1 (by decide)), fI_skip (by rw [b]; exact h0 2 (by decide)), blk_len, blk_len, blk_len]
    show _ = (K.kid m u last 0).length + ((K.kid m u last 1).length + ((K.kid m u last 2).length + 0)) + _
    omega
theorem fi_blk (K : WC) (gg : Nat → Nat → Nat → Nat) {m : Nat} (hm : m + 1 ≤ K.r.length) {u u' : Nat → Nat} {last R x : Nat} (hst : K.step u last (K.r.length - (m + 1)) x = some u') (hg : gg (K.r.length - (m + 1)) last x ≤ R) : (K.blk m u last x).findIdx (fun w => gs gg (K.r.length - (m + 1)) last w == R) = K.fi gg m u' x (R - gg (K.r.length - (m + 1)) last x) := by
  unfold WC.blk WC.fi
  rw [hst]
  show ((K.cs m u' x).map (List.cons x)).findIdx _ = _
  rw [List.findIdx_map]
  congr 1
  funext w
  show (gg (K.r.length - (m + 1)) last x + gs gg (K.r.length - (m + 1) + 1) x w == R) = (gs gg (K.r.length - m) x w == R - gg (K.r.length - (m + 1)) last x)
  rw [show K.r.length - (m + 1) + 1 = K.r.length - m by omega]
  by_cases e : gs gg (K.r.length - m) x w = R - gg (K.r.length - (m + 1)) last x
  · rw [e, beq_self_eq_true, show gg (K.r.length - (m + 1)) last x + (R - gg (K.r.length - (m + 1)) last x) = R by omega, beq_self_eq_true]
  · rw [beq_eq_false_iff_ne.mpr e, beq_eq_false_iff_ne.mpr (by omega)]
theorem s_num_neg (F : Nat) (found : Nat → Int32) (e : Int32) : f_X4_number F found e (-1) = some 0 := by
  unfold f_X4_number
  rw [ob_some, if_pos (show (-1 : Int32) < 0 by decide), ob_some, if_pos rfl, ob_some]
theorem cn_le (K : WC) (gg : Nat → Nat → Nat → Nat) (m : Nat) (u : Nat → Nat) (last g : Nat) : K.cn gg m u last g ≤ 4 ^ m := Nat.le_trans (List.length_filter_le _ _) ((kid_le K m).1 u last)
theorem s_canGain {F : Nat} {K : WC} (hr : RowOk K.r) (ht : ∀ k, k < 16 → K.t k < 4) {tb : Int32} (hT : TabC tb K.t) {stock weight : Nat → Int32} (hL : WLf K stock weight) {mm : Bool} {mw mx my mr mt : Int32} {gg : Nat → Nat → Nat → Nat} {V : Nat} (hV : V ≤ 11) (hG : ∀ p a b, p < K.r.length → a < 4 → b < 4 → f_X4_gain F mm mw mx my mr mt (nI p) (nI a) (nI b) = some (nI (gg p a b)) ∧ gg p a b ≤ 1) {kn fd : Nat → Int32} (i : Inv4 K gg V 0 kn fd) (cl : Cl4 K 0 kn) {u : Nat → Nat} {last place m x R : Nat} (hS : RS K u last place) (hk : kn (K.E u last place) ≠ 0) (hm : place + (m + 1) = K.r.length) (hx : x < 4) (hR : R < V) : f_X4_canGain F mm (encR K.r) (encR (K.cds (K.r.length / 2))) tb (nI (bN K.P)) (nI (bN K.C)) stock weight fd mw mx my mr mt (nI (lf K.c u 16)) (nI last) (nI place) (nI x) (nI R) = some (if K.cx gg m u last R x = 0 then 0 else 1) := by
  have hl := hr.1
  have hpl : K.r.length - (m + 1) = place := by omega
  obtain ⟨g1, g2⟩ := hG place last x (by omega) hS.2.1 hx
  unfold f_X4_canGain WC.cx
  rw [s_leftAfter F hr ht hT hL hS.1 hS.2.1 (show place < K.r.length by omega) hx, ob_some, g1, ob_some, ob_some, hpl]
  cases hst : K.step u last place x with
  | none =>
    dsimp only
    rw [if_pos rfl, ob_some, if_pos rfl, ckz0, ob_some]
  | some u' =>
    have hS' := hS.step hr (show place < K.r.length by omega) hx hst
    have hE' := (hS'.E_lt hr).1
    have hlt' := lf_lt hS'.1 16
    have h512 := K.W512 hr
    have hm1 : ¬ nI (lf K.c u' 16) = (-1 : Int32) := fun z => nI_pos (show lf K.c u' 16 < 2 ^ 31 by omega) (by rw [z]; decide)
    have hk' := cl u last place hS (Nat.zero_le _) hk (by omega) x u' hx hst
    have h := i u' x (place + 1) hS' (Nat.zero_le _) hk'
    dsimp only
    rw [if_neg hm1, show nI place + 1 = nI (place + 1) from nI_add place 1, s_entryOf F K u' x (place + 1) (by omega), ob_some]
    by_cases hg : gg place last x ≤ R
    · have hc := cn_le K gg m u' x (R - gg place last x)
      have h4 : 4 ^ m ≤ 4 ^ 9 := Nat.pow_le_pow_right (by decide) (by omega)
      simp only [if_pos hg]
      rw [nI_sub hg, s_number F fd hE' (by omega), h _ (by omega), ob_some, show K.r.length - (place + 1) = m by omega]
      by_cases h0 : K.cn gg m u' x (R - gg place last x) = 0
      · rw [if_pos h0, if_pos ((nI_pos0 (by omega)).mpr h0), ob_some, ckz0, ob_some]
      · rw [if_neg h0, if_neg (fun z => h0 ((nI_pos0 (by omega)).mp z)), ob_some, ckz1, ob_some]
    · simp only [if_neg hg]
      rw [show nI R - nI (gg place last x) = (-1 : Int32) by rw [show R = 0 by omega, show gg place last x = 1 by omega]; rfl, s_num_neg, ob_some, if_pos (by decide), ob_some, if_pos trivial, ckz0, ob_some]
theorem s_first28 {F : Nat} (hF : 1100000 ≤ F) {K : WC} (hr : RowOk K.r) (ht : ∀ k, k < 16 → K.t k < 4) {tb : Int32} (hT : TabC tb K.t) {stock weight : Nat → Int32} (hL : WLf K stock weight) {mm : Bool} {mw mx my mr mt : Int32} {gg : Nat → Nat → Nat → Nat} {V : Nat} (hV : V ≤ 11) (hB : GsB K gg V) (hG : ∀ p a b, p < K.r.length → a < 4 → b < 4 → f_X4_gain F mm mw mx my mr mt (nI p) (nI a) (nI b) = some (nI (gg p a b)) ∧ gg p a b ≤ 1) {kn fd : Nat → Int32} (i : Inv4 K gg V 0 kn fd) (cl : Cl4 K 0 kn) {u : Nat → Nat} {last place m x R : Nat} (hS : RS K u last place) (hk : kn (K.E u last place) ≠ 0) (hm : place + (m + 1) = K.r.length) (hx : x < 4) (hR : R < V) (h0 : ∀ y, y < x → K.cx gg m u last R y = 0) (h1 : K.cx gg m u last R x ≠ 0) : ∀ (d n y a : Nat), y + d = x → d < n → f_X4_firstPlaceWith_L28 F mm (nI V) (encR K.r) (encR (K.cds (K.r.length / 2))) tb (nI (bN K.P)) (nI (bN K.C)) stock weight fd mw mx my mr mt (nI R) (nI (lf K.c u 16)) (nI last) (nI place) n (nI a) (nI y) = some (nI (a + sumF (fun y => (K.kid m u last y).length) y d), nI x) := by
  intro d
  induction d with
  | zero =>
    intro n y a hy hn
    obtain ⟨n, rfl⟩ : ∃ k, n = k + 1 := ⟨n - 1, by omega⟩
    obtain rfl : y = x := by omega
    by_cases h3 : 3 ≤ y
    · rw [f_X4_firstPlaceWith_L28, if_pos (show (3 : Int32) ≤ nI y from nI_le (a := 3) h3 (by omega))]
      rfl
    · rw [f_X4_firstPlaceWith_L28, if_neg (show ¬ (3 : Int32) ≤ nI y from nI_ge (b := 3) (by omega) (by decide)), s_canGain hr ht hT hL hV hG i cl hS hk hm hx hR, ob_some, if_neg h1, if_neg ne10]
      rfl
  | succ d ih =>
    intro n y a hy hn
    obtain ⟨n, rfl⟩ : ∃ k, n = k + 1 := ⟨n - 1, by omega⟩
    rw [f_X4_firstPlaceWith_L28, if_neg (show ¬ (3 : Int32) ≤ nI y from nI_ge (b := 3) (by omega) (by decide)), s_canGain hr ht hT hL hV hG i cl hS hk hm (by omega) hR, ob_some, if_pos (h0 y (by omega)), if_pos rfl, s_continued hF hr ht hT hL hV hB i cl hS hk hm (by omega), ob_some, nI_add, ob_some, show (1 : Int32) = nI 1 from rfl, nI_add, ob_some, ih n (y + 1) _ (by omega) (by omega), Nat.add_assoc]
    rfl
theorem first_x (f : Nat → Nat) (h : sumF f 0 4 ≠ 0) : ∃ x, x < 4 ∧ (∀ y, y < x → f y = 0) ∧ f x ≠ 0 := by
  have h' : f 0 + (f 1 + (f 2 + (f 3 + 0))) ≠ 0 := h
  by_cases h0 : f 0 = 0
  · by_cases h1 : f 1 = 0
    · by_cases h2 : f 2 = 0
      · exact ⟨3, by decide, fun y hy => by rcases (show y = 0 ∨ y = 1 ∨ y = 2 by omega) with rfl | rfl | rfl <;> assumption, by omega⟩
      · exact ⟨2, by decide, fun y hy => by rcases (show y = 0 ∨ y = 1 by omega) with rfl | rfl <;> assumption, h2⟩
    · exact ⟨1, by decide, fun y hy => by obtain rfl : y = 0 := by omega
                                          exact h0, h1⟩
  · exact ⟨0, by decide, fun y hy => absurd hy (by omega), h0⟩
theorem s_first16 {F : Nat} (hF : 1100000 ≤ F) {K : WC} (hr : RowOk K.r) (ht : ∀ k, k < 16 → K.t k < 4) {tb : Int32} (hT : TabC tb K.t) {stock weight : Nat → Int32} (hL : WLf K stock weight) {mm : Bool} {mw mx my mr mt : Int32} {gg : Nat → Nat → Nat → Nat} {V : Nat} (hV : V ≤ 11) (hB : GsB K gg V) (hG : ∀ p a b, p < K.r.length → a < 4 → b < 4 → f_X4_gain F mm mw mx my mr mt (nI p) (nI a) (nI b) = some (nI (gg p a b)) ∧ gg p a b ≤ 1) {kn fd : Nat → Int32} (i : Inv4 K gg V 0 kn fd) (cl : Cl4 K 0 kn) : ∀ (m n : Nat) (u : Nat → Nat) (last place R a : Nat), place + m = K.r.length → m < n → RS K u last place → kn (K.E u last place) ≠ 0 → R < V → K.cn gg m u last R ≠ 0 → f_X4_firstPlaceWith_L16 F mm (nI V) (encR K.r) (encR (K.cds (K.r.length / 2))) tb (nI K.r.length) (nI (bN K.P)) (nI (bN K.C)) stock weight fd mw mx my mr mt n (nI a) (nI R) (nI (lf K.c u 16)) (nI last) (nI place) = some (nI (a + K.fi gg m u last R)) := by
  have hl := hr.1
  intro m
  induction m with
  | zero =>
    intro n u last place R a hm hn hS hk hR hc
    obtain ⟨n, rfl⟩ : ∃ k, n = k + 1 := ⟨n - 1, by omega⟩
    have e0 : K.fi gg 0 u last R = 0 := by
      have hc' : (([[]] : List (List Nat)).filter (fun w => gs gg (K.r.length - 0) last w == R)).length ≠ 0 := hc
      have h := fI_here (b := []) hc'
      unfold WC.fi
      show ([[]] : List (List Nat)).findIdx _ = 0
      have h2 : ([[]] : List (List Nat)).findIdx (fun w => gs gg (K.r.length - 0) last w == R) < 1 := by
        refine List.findIdx_lt_length_of_exists ?_
        cases hp : (gs gg (K.r.length - 0) last [] == R) with
        | true => exact ⟨[], List.mem_cons_self, hp⟩
        | false => rw [List.filter_cons_of_neg (by rw [hp]; decide)] at hc'; exact absurd rfl hc'
      omega
    rw [f_X4_firstPlaceWith_L16, if_pos (nI_le (by omega) (by omega)), e0, Nat.add_zero]
  | succ m ih =>
    intro n u last place R a hm hn hS hk hR hc
    obtain ⟨n, rfl⟩ : ∃ k, n = k + 1 := ⟨n - 1, by omega⟩
    have hpl : K.r.length - (m + 1) = place := by omega
    rw [cn_succ K gg (by omega)] at hc
    obtain ⟨x, hx, h0, h1⟩ := first_x _ hc
    have hcx := h1
    unfold WC.cx at hcx
    rw [hpl] at hcx
    cases hst : K.step u last place x with
    | none => rw [hst] at hcx; exact absurd rfl hcx
    | some u' =>
      rw [hst] at hcx
      have hcx' : (if gg place last x ≤ R then K.cn gg m u' x (R - gg place last x) else 0) ≠ 0 := hcx
      by_cases hg : gg place last x ≤ R
      · rw [if_pos hg] at hcx'
        have hS' := hS.step hr (show place < K.r.length by omega) hx hst
        have hk' := cl u last place hS (Nat.zero_le _) hk (by omega) _ u' hx hst
        have e28 := s_first28 hF hr ht hT hL hV hB hG i cl hS hk hm hx hR h0 h1 x F 0 a (Nat.zero_add _) (by omega)
        have ih' := ih n u' x (place + 1) (R - gg place last x) (a + K.off m u last x) (by omega) (by omega) hS' hk' (by omega) hcx'
        have la := s_leftAfter F hr ht hT hL hS.1 hS.2.1 (show place < K.r.length by omega) hx
        rw [hst] at la
        have la' : f_X4_leftAfter F (encR K.r) (encR (K.cds (K.r.length / 2))) tb (nI (bN K.P)) (nI (bN K.C)) stock weight (nI (lf K.c u 16)) (nI last) (nI place) (nI x) = some (nI (lf K.c u' 16)) := la
        have e28' : f_X4_firstPlaceWith_L28 F mm (nI V) (encR K.r) (encR (K.cds (K.r.length / 2))) tb (nI (bN K.P)) (nI (bN K.C)) stock weight fd mw mx my mr mt (nI R) (nI (lf K.c u 16)) (nI last) (nI place) F (nI a) (0 : Int32) = some (nI (a + K.off m u last x), nI x) := e28
        rw [f_X4_firstPlaceWith_L16, if_neg (nI_ge (by omega) (by omega)), e28', ob_some, (hG place last x (by omega) hS.2.1 hx).1, ob_some, nI_sub hg, ob_some, la', ob_some, show nI place + 1 = nI (place + 1) from nI_add place 1, ob_some, ih', fi_succ K gg (by omega) u last R hx h0 h1, fi_blk K gg (by omega) (by rw [hpl]; exact hst) (by rw [hpl]; exact hg), hpl, Nat.add_assoc]
      · rw [if_neg hg] at hcx'; exact absurd rfl hcx'
