-- the words of a table, block by block
def WC.blk (K : WC) (m : Nat) (u : Nat → Nat) (last x : Nat) : List (List Nat) := match K.step u last (K.r.length - (m + 1)) x with | none => [] | some u' => (K.cs m u' x).map (List.cons x)
theorem cs_succ (K : WC) (m : Nat) (u : Nat → Nat) (last : Nat) : K.cs (m + 1) u last = K.blk m u last 0 ++ (K.blk m u last 1 ++ (K.blk m u last 2 ++ K.blk m u last 3)) := rfl
theorem blk_len (K : WC) (m : Nat) (u : Nat → Nat) (last x : Nat) : (K.blk m u last x).length = (K.kid m u last x).length := by
  unfold WC.blk WC.kid
  cases K.step u last (K.r.length - (m + 1)) x with
  | none => rfl
  | some u' => exact List.length_map _
theorem get_r {α : Type} {a b : List α} {i : Nat} {w : α} (h : b[i]? = some w) : (a ++ b)[a.length + i]? = some w := by
  rw [List.getElem?_append_right (Nat.le_add_right _ _), Nat.add_sub_cancel_left]; exact h
theorem get_l {α : Type} {a b : List α} {i : Nat} {w : α} (h : a[i]? = some w) : (a ++ b)[i]? = some w := by
  rw [List.getElem?_append_left (List.getElem?_eq_some_iff.mp h).1]; exact h
theorem get_split {α : Type} {a b : List α} {j : Nat} {w : α} (h : (a ++ b)[j]? = some w) : a[j]? = some w ∨ ∃ i, j = a.length + i ∧ b[i]? = some w := by
  rcases Nat.lt_or_ge j a.length with h1 | h1
  · rw [List.getElem?_append_left h1] at h; exact Or.inl h
  · rw [List.getElem?_append_right h1] at h; exact Or.inr ⟨j - a.length, by omega, h⟩
def WC.off (K : WC) (m : Nat) (u : Nat → Nat) (last x : Nat) : Nat := sumF (fun y => (K.kid m u last y).length) 0 x
theorem cs_get (K : WC) {m : Nat} {u : Nat → Nat} {last x i : Nat} {w : List Nat} (hx : x < 4) (h : (K.blk m u last x)[i]? = some w) : (K.cs (m + 1) u last)[K.off m u last x + i]? = some w := by
  rw [cs_succ]
  rcases (show x = 0 ∨ x = 1 ∨ x = 2 ∨ x = 3 by omega) with rfl | rfl | rfl | rfl
  · rw [show K.off m u last 0 + i = i from Nat.zero_add i]
    exact get_l h
  · rw [show K.off m u last 1 + i = (K.blk m u last 0).length + i by rw [blk_len]; rfl]
    exact get_r (get_l h)
  · rw [show K.off m u last 2 + i = (K.blk m u last 0).length + ((K.blk m u last 1).length + i) by
      rw [blk_len, blk_len]
      show (K.kid m u last 0).length + ((K.kid m u last 1).length + 0) + i = _
      omega]
    exact get_r (get_r (get_l h))
  · rw [show K.off m u last 3 + i = (K.blk m u last 0).length + ((K.blk m u last 1).length + ((K.blk m u last 2).length + i)) by
      rw [blk_len, blk_len, blk_len]
      show (K.kid m u last 0).length + ((K.kid m u last 1).length + ((K.kid m u last 2).length + 0)) + i = _
      omega]
    exact get_r (get_r (get_r h))
theorem cs_at (K : WC) {m : Nat} {u : Nat → Nat} {last j : Nat} {w : List Nat} (h : (K.cs (m + 1) u last)[j]? = some w) : ∃ x i, x < 4 ∧ j = K.off m u last x + i ∧ (K.blk m u last x)[i]? = some w := by
  rw [cs_succ] at h
  rcases get_split h with h | ⟨j1, e1, h⟩
  · exact ⟨0, j, by decide, (Nat.zero_add j).symm, h⟩
  rcases get_split h with h | ⟨j2, e2, h⟩
  · exact ⟨1, j1, by decide, by rw [e1, blk_len]; rfl, h⟩
  rcases get_split h with h | ⟨j3, e3, h⟩
  · refine ⟨2, j2, by decide, ?_, h⟩
    rw [e1, e2, blk_len, blk_len]
    show _ = (K.kid m u last 0).length + ((K.kid m u last 1).length + 0) + j2
    omega
  · refine ⟨3, j3, by decide, ?_, h⟩
    rw [e1, e2, e3, blk_len, blk_len, blk_len]
    show _ = (K.kid m u last 0).length + ((K.kid m u last 1).length + ((K.kid m u last 2).length + 0)) + j3
    omega
theorem plc_at (K : WC) : ∀ (m : Nat) (u : Nat → Nat) (last : Nat) (w : List Nat), w.length = m → (∀ x ∈ w, x < 4) → m ≤ K.r.length → K.okW u last (K.r.length - m) w = true → (K.cs m u last)[K.plc m u last w]? = some w
  | 0, u, last, w, hl, _, _, _ => by
    rw [List.length_eq_zero_iff.mp hl]
    rfl
  | m + 1, u, last, [], hl, _, _, _ => by cases hl
  | m + 1, u, last, x :: w, hl, hx, hm, hw => by
    have hw' : (match K.step u last (K.r.length - (m + 1)) x with | none => false | some u' => K.okW u' x (K.r.length - (m + 1) + 1) w) = true := hw
    show (K.cs (m + 1) u last)[K.off m u last x + (match K.step u last (K.r.length - (m + 1)) x with | none => 0 | some u' => K.plc m u' x w)]? = some (x :: w)
    refine cs_get K (hx x List.mem_cons_self) ?_
    unfold WC.blk
    cases hst : K.step u last (K.r.length - (m + 1)) x with
    | none => rw [hst] at hw'; cases hw'
    | some u' =>
      rw [hst] at hw'
      have hw2 : K.okW u' x (K.r.length - m) w = true := by
        rw [show K.r.length - m = K.r.length - (m + 1) + 1 by omega]; exact hw'
      have ih := plc_at K m u' x w (Nat.succ.inj hl) (fun y hy => hx y (List.mem_cons_of_mem _ hy)) (by omega) hw2
      show ((K.cs m u' x).map (List.cons x))[K.plc m u' x w]? = _
      rw [List.getElem?_map, ih]
      rfl
theorem Llt_ne {l : List (List Nat)} (h : l.Pairwise Llt) {i j : Nat} {w : List Nat} (hi : l[i]? = some w) (hj : l[j]? = some w) : i = j := by
  have key : ∀ {a b : Nat}, l[a]? = some w → l[b]? = some w → a < b → False := by
    intro a b ha hb hab
    obtain ⟨a1, a2⟩ := List.getElem?_eq_some_iff.mp ha
    obtain ⟨b1, b2⟩ := List.getElem?_eq_some_iff.mp hb
    have := List.pairwise_iff_getElem.mp h a b a1 b1 hab
    rw [a2, b2] at this
    exact Llt_irr w this
  rcases Nat.lt_trichotomy i j with c | c | c
  · exact (key hi hj c).elim
  · exact c
  · exact (key hj hi c).elim
theorem SH_pw (k : Nat) (S : AS) : (SH k S).Pairwise Llt := (Arr_pw S.1).filter _
theorem s_placeOfRow {F : Nat} (hF : 1100000 ≤ F) {k : Nat} (hk : k < 4) {r : List Nat} {t : Nat → Nat} (hr : RowOk r) (bk : List (List Nat)) {tb : Int32} (hT : TabC tb t) {stock weight : Nat → Int32} (hL : WLf (KW k r t) stock weight) {kn fd : Nat → Int32} (i : Inv4 (KW k r t) g00 1 0 kn fd) (kk : kn 576 ≠ 0) (cl : Cl4 (KW k r t) 0 kn) {pre post : List (List Nat)} (hS : SH k (r, t, bk) = pre ++ r :: post) : f_X4_placeOfRow F (nI 1) (encR r) (encR ((KW k r t).cds (r.length / 2))) tb (nI r.length) (nI (lf (KW k r t).c (KW k r t).c 16)) (nI (bN (KW k r t).P)) (nI (bN (KW k r t).C)) stock weight fd = some (nI pre.length) := by
  have ht : ∀ k, k < 16 → t k < 4 := fun k hk => (hT k hk).2
  have hl := hr.1
  have ok : (KW k r t).okW (KW k r t).c 0 0 r = true := by
    rw [KW_ok hk hr rfl hr.2, okN_self, decide_eq_true (fun _ _ => rfl)]; rfl
  have h1 := s_place12 hF (K := KW k r t) hr ht hT hL i cl r.length F (KW k r t).c 0 0 0 (Nat.zero_add _) (by omega) (RS.init _) kk ok
  have h2 := plc_at (KW k r t) r.length (KW k r t).c 0 r rfl hr.2 (Nat.le_refl _) (by rw [show (KW k r t).r.length - r.length = 0 from Nat.sub_self _]; exact ok)
  rw [KW_cs hk hr bk] at h2
  have h3 : (SH k (r, t, bk))[pre.length]? = some r := by rw [hS]; exact get_r (i := 0) rfl
  have h4 := Llt_ne (SH_pw _ _) h2 h3
  have h1' : f_X4_placeOfRow_L12 F (nI 1) (encR r) (encR ((KW k r t).cds (r.length / 2))) tb (nI r.length) (nI (bN (KW k r t).P)) (nI (bN (KW k r t).C)) stock weight fd F (0 : Int32) (nI (lf (KW k r t).c (KW k r t).c 16)) (0 : Int32) (0 : Int32) = some (nI (0 + (KW k r t).plc r.length (KW k r t).c 0 r)) := h1
  unfold f_X4_placeOfRow
  rw [h1', ob_some, h4, Nat.zero_add]
