theorem s_isKnown (F : Nat) (known : Nat → Int32) {e : Nat} (he : e ≤ 576) : f_X4_isKnown F known (nI e) = some (if known e = 0 then 0 else 1) := by
  unfold f_X4_isKnown
  rw [if_neg (nI_pos (by omega)), if_neg (show ¬ (577 : Int32) ≤ nI e from nI_ge (show e < 577 by omega) (by decide)), rd_ok _ (by omega) (by decide), ob_some]
  by_cases h : known e = 0
  · rw [if_pos h, if_pos h]; rfl
  · rw [if_neg h, if_neg h]; rfl
theorem s_begin4 {F : Nat} (hF : 1100000 ≤ F) (known found : Nat → Int32) {e : Nat} (he : e ≤ 576) : f_X4_begin F known found (nI e) = some (upd known e 1, fun j => if e * 11 ≤ j ∧ j < e * 11 + 11 then 0 else found j) := by
  have k2 := loop_fill0 (Lp := fun n k g => f_X4_begin_L26 F (nI (e * 11)) n (nI (e * 11) + k) g) (N := 11) (a := e * 11) (h := fun _ => 0) found ?_ ?_ (n := F) (by omega)
  · have k3 : f_X4_begin_L26 F (nI (e * 11)) F (nI (e * 11)) found = some (fun j => if e * 11 ≤ j ∧ j < e * 11 + 11 then 0 else found j) := by
      have e0 : nI (e * 11) + (0 : Int32) = nI (e * 11) := nI_add (e * 11) 0
      have k4 : f_X4_begin_L26 F (nI (e * 11)) F (nI (e * 11) + 0) found = some (fun j => if e * 11 ≤ j ∧ j < e * 11 + 11 then 0 else found j) := k2
      rw [e0] at k4
      exact k4
    unfold f_X4_begin
    rw [if_neg (nI_pos (by omega)), if_pos (show nI e < (577 : Int32) from nI_lt (show e < 577 by omega) (by decide)), wr_ok _ _ (by omega) (by decide), ob_some, show (11 : Int32) = nI 11 from rfl, nI_mul, ob_some, k3, ob_some]
  · intro n g
    rw [f_X4_begin_L26, show (11 : Int32) = nI 11 from rfl, nI_add, if_pos (nI_le (Nat.le_refl _) (by omega))]
  · intro n k g hk hg
    rw [f_X4_begin_L26, show (11 : Int32) = nI 11 from rfl, nI_add, nI_add, if_neg (nI_ge (by omega) (by omega)), if_neg (show ¬ (6347 : Int32) ≤ nI (e * 11 + k) from nI_ge (show e * 11 + k < 6347 by omega) (by decide)), wr_ok _ _ (by omega) (by decide), ob_some, show (1 : Int32) = nI 1 from rfl, nI_add, ob_some, nI_add, Nat.add_assoc]
theorem s_number (F : Nat) (found : Nat → Int32) {e g : Nat} (he : e ≤ 576) (hg : g < 11) : f_X4_number F found (nI e) (nI g) = some (found (e * 11 + g)) := by
  unfold f_X4_number
  rw [show (11 : Int32) = nI 11 from rfl, nI_mul, nI_add, ob_some, if_neg (nI_pos (by omega)), if_neg (nI_ge hg (by omega)), if_neg (nI_pos (by omega)), if_neg (show ¬ (6347 : Int32) ≤ nI (e * 11 + g) from nI_ge (show e * 11 + g < 6347 by omega) (by decide)), ob_some, if_neg ne10, rd_ok _ (by omega) (by decide), ob_some, ob_some]
theorem s_add (F : Nat) (found : Nat → Int32) {e g : Nat} (he : e ≤ 576) (hg : g < 11) (x : Int32) : f_X4_add F found (nI e) (nI g) x = some (upd found (e * 11 + g) (found (e * 11 + g) + x)) := by
  unfold f_X4_add
  rw [show (11 : Int32) = nI 11 from rfl, nI_mul, nI_add, ob_some, if_neg (nI_pos (by omega)), if_neg (nI_ge hg (by omega)), if_neg (nI_pos (by omega)), if_neg (show ¬ (6347 : Int32) ≤ nI (e * 11 + g) from nI_ge (show e * 11 + g < 6347 by omega) (by decide)), rd_ok _ (by omega) (by decide), ob_some, wr_ok _ _ (by omega) (by decide), ob_some, ob_some]
theorem s_join {F : Nat} (hF : 1100000 ≤ F) (found : Nat → Int32) {V e ch gain : Nat} (hV : V ≤ 11) (he : e ≤ 576) (hch : ch ≤ 576) (hne : e ≠ ch) (hg : gain ≤ 1) : f_X4_join F (nI V) found (nI e) (nI ch) (nI gain) = some (fun j => if e * 11 + gain ≤ j ∧ j < e * 11 + gain + (V - gain) then found (e * 11 + gain + (j - (e * 11 + gain))) + found (ch * 11 + (j - (e * 11 + gain))) else found j) := by
  have k2 := loop_fill0 (Lp := f_X4_join_L3 F (nI V) (nI e) (nI ch) (nI gain)) (N := V - gain) (a := e * 11 + gain) (h := fun k => found (e * 11 + gain + k) + found (ch * 11 + k)) found ?_ ?_ (n := F) (by omega)
  · unfold f_X4_join
    rw [k2, ob_some]
  · intro n g
    rw [f_X4_join_L3, nI_add, if_pos (nI_le (by omega) (by omega))]
  · intro n k g hk hgg
    rw [f_X4_join_L3, nI_add, if_neg (nI_ge (by omega) (by omega)), s_number F g hch (by omega), ob_some, s_add F g he (by omega), ob_some, show (1 : Int32) = nI 1 from rfl, nI_add, ob_some, hgg (ch * 11 + k) (by omega), show e * 11 + (k + gain) = e * 11 + gain + k by omega, hgg (e * 11 + gain + k) (by omega)]
-- the words that complete a row, and how many of them gain so much
def WC.cs (K : WC) : Nat → (Nat → Nat) → Nat → List (List Nat)
  | 0, _, _ => [[]]
  | m + 1, u, last =>
    (match K.step u last (K.r.length - (m + 1)) 0 with | none => [] | some u' => (K.cs m u' 0).map (List.cons 0)) ++
    ((match K.step u last (K.r.length - (m + 1)) 1 with | none => [] | some u' => (K.cs m u' 1).map (List.cons 1)) ++
    ((match K.step u last (K.r.length - (m + 1)) 2 with | none => [] | some u' => (K.cs m u' 2).map (List.cons 2)) ++
    (match K.step u last (K.r.length - (m + 1)) 3 with | none => [] | some u' => (K.cs m u' 3).map (List.cons 3))))
def gs (gg : Nat → Nat → Nat → Nat) : Nat → Nat → List Nat → Nat
  | _, _, [] => 0
  | p, last, x :: w => gg p last x + gs gg (p + 1) x w
def WC.cn (K : WC) (gg : Nat → Nat → Nat → Nat) (m : Nat) (u : Nat → Nat) (last g : Nat) : Nat := ((K.cs m u last).filter (fun w => gs gg (K.r.length - m) last w == g)).length
def WC.cx (K : WC) (gg : Nat → Nat → Nat → Nat) (m : Nat) (u : Nat → Nat) (last g x : Nat) : Nat :=
  match K.step u last (K.r.length - (m + 1)) x with
  | none => 0
  | some u' => if gg (K.r.length - (m + 1)) last x ≤ g then K.cn gg m u' x (g - gg (K.r.length - (m + 1)) last x) else 0
theorem cx_eq (K : WC) (gg : Nat → Nat → Nat → Nat) {m : Nat} (hm : m + 1 ≤ K.r.length) (u : Nat → Nat) (last g x : Nat) : ((match K.step u last (K.r.length - (m + 1)) x with | none => [] | some u' => (K.cs m u' x).map (List.cons x)).filter (fun w => gs gg (K.r.length - (m + 1)) last w == g)).length = K.cx gg m u last g x := by
  unfold WC.cx
  cases K.step u last (K.r.length - (m + 1)) x with
  | none => rfl
  | some u' =>
    show (((K.cs m u' x).map (List.cons x)).filter _).length = _
    rw [List.filter_map, List.length_map]
    show _ = if gg (K.r.length - (m + 1)) last x ≤ g then _ else 0
    have hp : K.r.length - (m + 1) + 1 = K.r.length - m := by omega
    by_cases h : gg (K.r.length - (m + 1)) last x ≤ g
    · rw [if_pos h]
      unfold WC.cn
      congr 1
      refine List.filter_congr (fun w _ => ?_)
      show (gg (K.r.length - (m + 1)) last x + gs gg (K.r.length - (m + 1) + 1) x w == g) = (gs gg (K.r.length - m) x w == g - gg (K.r.length - (m + 1)) last x)
      rw [hp]
      by_cases e : gs gg (K.r.length - m) x w = g - gg (K.r.length - (m + 1)) last x
      · rw [e, beq_self_eq_true, show gg (K.r.length - (m + 1)) last x + (g - gg (K.r.length - (m + 1)) last x) = g by omega, beq_self_eq_true]
      · rw [beq_eq_false_iff_ne.mpr e, beq_eq_false_iff_ne.mpr (by omega)]
    · rw [if_neg h]
      rw [List.length_eq_zero_iff, List.filter_eq_nil_iff]
      intro w _ hw
      have hw' : gg (K.r.length - (m + 1)) last x + gs gg (K.r.length - (m + 1) + 1) x w = g := eq_of_beq hw
      omega
theorem cn_succ (K : WC) (gg : Nat → Nat → Nat → Nat) {m : Nat} (hm : m + 1 ≤ K.r.length) (u : Nat → Nat) (last g : Nat) : K.cn gg (m + 1) u last g = sumF (K.cx gg m u last g) 0 4 := by
  show (List.filter _ (_ ++ (_ ++ (_ ++ _)))).length = K.cx gg m u last g 0 + (K.cx gg m u last g 1 + (K.cx gg m u last g 2 + (K.cx gg m u last g 3 + 0)))
  rw [List.filter_append, List.filter_append, List.filter_append, List.length_append, List.length_append, List.length_append, cx_eq K gg hm, cx_eq K gg hm, cx_eq K gg hm, cx_eq K gg hm]
  rfl
