theorem s_init1 (F : Nat) : f_X1_init F = some (-1823589916 : Int32) := by
  unfold f_X1_init f_X5_withCode
  simp only [ob_some]
  exact congrArg some (by decide +kernel)
def t00 (k : Nat) : Nat := (k / 4 + k % 4) % 4
theorem tab00 : TabC (-1823589916 : Int32) t00 := by
  have h : ∀ k : Nat, k < 16 → ushr (-1823589916 : Int32) (nI (2 * k)) &&& 3 = nI (t00 k) ∧ t00 k < 4 := by decide +kernel
  exact h
theorem st_init {F : Nat} (hF : 1100000 ≤ F) : ∃ rx rm, f_X5_init F = some rx ∧ f_X6_init F = some rm ∧ Rel (0 : Int32) (0 : Int32) rx.1 (0 : Int32) zf (0 : Int32) zf (0 : Int32) rx.2.2.1 (0 : Int32) zf (0 : Int32) rx.2.2.2.1 (0 : Int32) zf (0 : Int32) rx.2.2.2.2.1 (0 : Int32) zf (0 : Int32) rx.2.2.2.2.2 (0 : Int32) zf (0 : Int32) (0 : Int32) (0 : Int32) rm zf zf := by
  apply mkst
  · unfold f_X5_init f_X2_init f_X3_init f_X4_init f_X0_init
    rw [s_init1, ob_some, ob_some, ob_some, ob_some, ob_some, ob_some, ob_some, ob_some, ob_some, ob_some]
  · unfold f_X6_init
    rw [show (11 : Int32) = nI 11 from rfl, show (12 : Int32) = nI 12 from rfl, show (13 : Int32) = nI 13 from rfl, show (14 : Int32) = nI 14 from rfl, show (15 : Int32) = nI 15 from rfl, show (16 : Int32) = nI 16 from rfl, show (17 : Int32) = nI 17 from rfl, show (18 : Int32) = nI 18 from rfl, show (19 : Int32) = nI 19 from rfl, show (20 : Int32) = nI 20 from rfl, show (21 : Int32) = nI 21 from rfl, show (22 : Int32) = nI 22 from rfl, show (23 : Int32) = nI 23 from rfl, show (24 : Int32) = nI 24 from rfl, show (25 : Int32) = nI 25 from rfl, show (26 : Int32) = nI 26 from rfl]
    rw [wr_ok _ _ (by decide) (by decide), ob_some, wr_ok _ _ (by decide) (by decide), ob_some, wr_ok _ _ (by decide) (by decide), ob_some, wr_ok _ _ (by decide) (by decide), ob_some, wr_ok _ _ (by decide) (by decide), ob_some, wr_ok _ _ (by decide) (by decide), ob_some, wr_ok _ _ (by decide) (by decide), ob_some, wr_ok _ _ (by decide) (by decide), ob_some, wr_ok _ _ (by decide) (by decide), ob_some, wr_ok _ _ (by decide) (by decide), ob_some, wr_ok _ _ (by decide) (by decide), ob_some, wr_ok _ _ (by decide) (by decide), ob_some, wr_ok _ _ (by decide) (by decide), ob_some, wr_ok _ _ (by decide) (by decide), ob_some, wr_ok _ _ (by decide) (by decide), ob_some, wr_ok _ _ (by decide) (by decide), ob_some]
  · refine ⟨([], t00, []), [], [], ⟨rfl, RowOk.nil, tab00, rfl, by decide, fun j q h => (by cases h)⟩, ⟨rfl, fun i hi => absurd hi (by show ¬ i < 0; omega), ?_, rfl, fun j q h => (by cases h)⟩, ⟨rfl, by decide, fun S h => (by cases h), fun S h => (by cases h), fun S h => (by cases h), fun S h => (by cases h)⟩, ⟨rfl, fun j S h => (by cases h)⟩, rfl, rfl, rfl, by decide, fun i hi => absurd hi (by show ¬ i < 0; omega)⟩
    intro k hk
    rcases (show k = 0 ∨ k = 1 ∨ k = 2 ∨ k = 3 ∨ k = 4 ∨ k = 5 ∨ k = 6 ∨ k = 7 ∨ k = 8 ∨ k = 9 ∨ k = 10 ∨ k = 11 ∨ k = 12 ∨ k = 13 ∨ k = 14 ∨ k = 15 by omega) with rfl | rfl | rfl | rfl | rfl | rfl | rfl | rfl | rfl | rfl | rfl | rfl | rfl | rfl | rfl | rfl <;> rfl
