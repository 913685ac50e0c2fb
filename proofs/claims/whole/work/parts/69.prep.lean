theorem sumF_snoc (f : Nat → Nat) : ∀ (d k : Nat), sumF f k (d + 1) = sumF f k d + f (k + d) := by
  intro d
  induction d with
  | zero => intro k; show f k + 0 = 0 + f k; omega
  | succ d ih =>
    intro k
    show f k + sumF f (k + 1) (d + 1) = (f k + sumF f (k + 1) d) + f (k + (d + 1))
    rw [ih (k + 1), show k + 1 + d = k + (d + 1) by omega, Nat.add_assoc]
theorem s_fill {F : Nat} (hF : 1100000 ≤ F) {N : Nat} (hN : N < 100000) (b0 : Nat → Int32) (x : Int32) : ∃ b, f_J7_fill_53178 F N b0 x = some b ∧ ∀ i, i < N → b i = x := by
  have k2 := loop_fill0 (Lp := f_J7_fill_53178_L5 F N x (nI N)) (N := N) (a := 0) (h := fun _ => x) b0 ?_ ?_ (n := F) (by omega)
  · refine ⟨_, by unfold f_J7_fill_53178; rw [ob_some, show Int32.ofNat N = nI N from rfl, k2, ob_some], fun i hi => ?_⟩
    rw [if_pos (by omega)]
  · intro n g
    rw [f_J7_fill_53178_L5, if_pos (nI_le (Nat.le_refl _) (by omega))]
  · intro n k g hk hg
    rw [f_J7_fill_53178_L5, if_neg (nI_ge hk (by omega)), wr_ok _ _ hk (by omega), ob_some, show (1 : Int32) = nI 1 from rfl, nI_add, ob_some, Nat.zero_add]
def WC.im (K : WC) (j : Nat) : Nat := if K.P then 4 * gl K.r (j - 1) + gl K.r j else gl K.r j
theorem WC.im_lt (K : WC) (hr : RowOk K.r) (j : Nat) : K.im j < 16 := by
  have g1 := gl_lt hr.2 j
  have g2 := gl_lt hr.2 (j - 1)
  unfold WC.im
  cases K.P
  · rw [if_neg (by decide)]; omega
  · rw [if_pos rfl]; omega
theorem WC.c_im (K : WC) {i : Nat} (hi : i < 16) : K.c i = sumF (fun j => if K.im j = i then 1 else 0) (bN K.P) (K.r.length - bN K.P) := by
  unfold WC.c WC.im
  rw [if_pos hi]
  cases K.P <;> rfl
theorem s_countStock {F : Nat} (hF : 1100000 ≤ F) {K : WC} (hr : RowOk K.r) (stock : Nat → Int32) : ∃ st, f_X4_countStock F (encR K.r) (nI K.r.length) (nI (bN K.P)) stock = some st ∧ ∀ i, i < 16 → st i = nI (K.c i) := by
  have hl := hr.1
  obtain ⟨b, eb, hb⟩ := s_fill hF (N := 16) (by decide) stock 0
  have hbn : bN K.P ≤ 1 := by cases K.P <;> decide
  have key : ∀ (d n m : Nat) (g : Nat → Int32), m + d = K.r.length - bN K.P → d < n → (∀ i, i < 16 → g i = nI (sumF (fun j => if K.im j = i then 1 else 0) (bN K.P) m)) → ∃ g', f_X4_countStock_L21 F (encR K.r) (nI K.r.length) (nI (bN K.P)) n (nI (bN K.P + m)) g = some g' ∧ ∀ i, i < 16 → g' i = nI (K.c i) := by
    intro d
    induction d with
    | zero =>
      intro n m g hm hn hg
      obtain ⟨n, rfl⟩ : ∃ k, n = k + 1 := ⟨n - 1, by omega⟩
      refine ⟨g, by rw [f_X4_countStock_L21, if_pos (nI_le (by omega) (by omega))], fun i hi => ?_⟩
      rw [hg i hi, K.c_im hi, show m = K.r.length - bN K.P by omega]
    | succ d ih =>
      intro n m g hm hn hg
      obtain ⟨n, rfl⟩ : ∃ k, n = k + 1 := ⟨n - 1, by omega⟩
      have him := K.im_lt hr (bN K.P + m)
      have hi2 : ((if nI (bN K.P) = 0 then some (nI (gl K.r (bN K.P + m))) else (f_X5_letterOf F (encR K.r) (nI (bN K.P + m) - 1)).bind fun z20 => some (z20 * 4 + nI (gl K.r (bN K.P + m)))) : Option Int32) = some (nI (K.im (bN K.P + m))) := by
        unfold WC.im
        cases K.P with
        | false => rfl
        | true =>
          rw [if_neg (show ¬ nI (bN true) = (0 : Int32) from ne10), if_pos rfl, show (1 : Int32) = nI 1 from rfl, nI_sub (by show 1 ≤ 1 + m; omega), s_letterOf F hr (by show 1 + m - 1 < 10; omega), ob_some, show (4 : Int32) = nI 4 from rfl, nI_mul, nI_add, Nat.mul_comm]
      obtain ⟨g', e, p⟩ := ih n (m + 1) (upd g (K.im (bN K.P + m)) (g (K.im (bN K.P + m)) + 1)) (by omega) (by omega) (fun i hi => by
        rw [sumF_snoc]
        by_cases e : i = K.im (bN K.P + m)
        · rw [← e, upd_s, hg i hi, if_pos rfl, show (1 : Int32) = nI 1 from rfl, nI_add]
        · rw [upd_n _ _ e, hg i hi, if_neg (fun z => e z.symm), Nat.add_zero])
      refine ⟨g', ?_, p⟩
      rw [f_X4_countStock_L21, if_neg (nI_ge (by omega) (by omega)), s_letterOf F hr (by omega), ob_some, hi2, ob_some, if_neg (nI_pos (by omega)), if_neg (show ¬ (16 : Int32) ≤ nI (K.im (bN K.P + m)) from nI_ge him (by decide)), rd_ok _ him (by decide), ob_some, wr_ok _ _ him (by decide), ob_some, ob_some, show nI (bN K.P + m) + 1 = nI (bN K.P + m + 1) from nI_add _ 1, ob_some]
      exact e
  obtain ⟨g', e, p⟩ := key (K.r.length - bN K.P) F 0 b (by omega) (by omega) (fun i hi => hb i hi)
  refine ⟨g', ?_, p⟩
  unfold f_X4_countStock
  rw [eb, ob_some, show ((if nI (bN K.P) = 0 then some 0 else some 1 : Option Int32)) = some (nI (bN K.P)) by cases K.P <;> rfl, ob_some]
  rw [Nat.add_zero] at e
  rw [e, ob_some]
theorem s_weighStock {F : Nat} (hF : 1100000 ≤ F) {c : Nat → Nat} {st : Nat → Int32} (h : ∀ i, i < 16 → st i = nI (c i)) (weight : Nat → Int32) : ∃ w', f_X4_weighStock F st weight = some (nI (lf c c 16), w') ∧ ∀ i, i < 16 → w' i = nI (Wt c i) := by
  have key : ∀ (d n i : Nat) (g : Nat → Int32), i + d = 16 → d < n → (∀ j, j < i → g j = nI (Wt c j)) → ∃ g', f_X4_weighStock_L9 F st n (nI (Wt c i)) (nI i) g (nI (lf c c i)) = some (g', nI (lf c c 16)) ∧ ∀ j, j < 16 → g' j = nI (Wt c j) := by
    intro d
    induction d with
    | zero =>
      intro n i g hi hn hg
      obtain ⟨n, rfl⟩ : ∃ k, n = k + 1 := ⟨n - 1, by omega⟩
      obtain rfl : i = 16 := by omega
      exact ⟨g, by rw [f_X4_weighStock_L9, if_pos (show (16 : Int32) ≤ nI 16 from nI_le (a := 16) (b := 16) (by omega) (by decide))], hg⟩
    | succ d ih =>
      intro n i g hi hn hg
      obtain ⟨n, rfl⟩ : ∃ k, n = k + 1 := ⟨n - 1, by omega⟩
      have h16 : i < 16 := by omega
      obtain ⟨g', e, p⟩ := ih n (i + 1) (upd g i (nI (Wt c i))) (by omega) (by omega) (fun j hj => by
        by_cases e : j = i
        · rw [e, upd_s]
        · rw [upd_n _ _ e]; exact hg j (by omega))
      refine ⟨g', ?_, p⟩
      rw [f_X4_weighStock_L9, if_neg (show ¬ (16 : Int32) ≤ nI i from nI_ge h16 (by decide)), if_neg (show ¬ (16 : Int32) ≤ nI i from nI_ge h16 (by decide)), wr_ok _ _ h16 (by decide), ob_some, rd_ok _ h16 (by decide), ob_some, h i h16, nI_mul, nI_add, ob_some, ob_some, show (1 : Int32) = nI 1 from rfl, nI_add, nI_mul, ob_some, nI_add, ob_some, Nat.mul_comm (Wt c i) (c i)]
      exact e
  obtain ⟨g', e, p⟩ := key 16 F 0 weight (by omega) (by omega) (fun j hj => absurd hj (by omega))
  refine ⟨g', ?_, p⟩
  have e' : f_X4_weighStock_L9 F st F (1 : Int32) (0 : Int32) weight (0 : Int32) = some (g', nI (lf c c 16)) := e
  unfold f_X4_weighStock
  rw [e', ob_some]
theorem s_prepare {F : Nat} (hF : 1100000 ≤ F) {K : WC} (hr : RowOk K.r) (ht : ∀ k, k < 16 → K.t k < 4) {tb : Int32} (hT : TabC tb K.t) (mm : Bool) (stock weight known : Nat → Int32) : ∃ st w' kn, f_X4_prepare F mm (nI (bN K.P)) stock weight known (encR K.r) tb = some (nI (if mm then 1 else K.r.length + 1), encR K.r, encR (K.cds (K.r.length / 2)), tb, nI K.r.length, nI (lf K.c K.c 16), st, w', kn) ∧ WLf K st w' ∧ ∀ i, i < 577 → kn i = 0 := by
  have hl := hr.1
  obtain ⟨st, es, hs⟩ := s_countStock hF hr stock
  obtain ⟨w', ew, hw⟩ := s_weighStock hF hs weight
  obtain ⟨kn, ek, hk⟩ := s_fill hF (N := 577) (by decide) known 0
  have key : ∀ (d n j : Nat), j + d = K.r.length / 2 → d < n → f_X4_prepare_L60 F (encR K.r) tb (nI K.r.length) n (nI (1 + 2 * j)) (encR (K.cds j)) = some (encR (K.cds (K.r.length / 2))) := by
    intro d
    induction d with
    | zero =>
      intro n j hj hn
      obtain ⟨n, rfl⟩ : ∃ k, n = k + 1 := ⟨n - 1, by omega⟩
      rw [f_X4_prepare_L60, if_pos (nI_le (by omega) (by omega)), show j = K.r.length / 2 by omega]
    | succ d ih =>
      intro n j hj hn
      obtain ⟨n, rfl⟩ : ∃ k, n = k + 1 := ⟨n - 1, by omega⟩
      have g1 := gl_lt hr.2 (2 * j)
      have g2 := gl_lt hr.2 (2 * j + 1)
      rw [f_X4_prepare_L60, if_neg (nI_ge (by omega) (by omega)), s_wordCode F hT hr (by omega), ob_some, s_longer F (K.cds_ok hr ht j (by omega)) (by rw [K.cds_len]; omega) (ht _ (by omega)), ob_some, show (2 : Int32) = nI 2 from rfl, nI_add, ob_some]
      exact ih n (j + 1) (by omega) (by omega)
  have e60 := key (K.r.length / 2) F 0 (by omega) (by omega)
  have e60' : f_X4_prepare_L60 F (encR K.r) tb (nI K.r.length) F (1 : Int32) (0 : Int32) = some (encR (K.cds (K.r.length / 2))) := e60
  refine ⟨st, w', kn, ?_, fun i hi => ⟨hs i hi, hw i hi⟩, hk⟩
  unfold f_X4_prepare
  rw [s_lengthOf F hr, ob_some]
  have ev : ((if mm = false then some (minI (nI K.r.length + 1) 11) else some 1 : Option Int32)) = some (nI (if mm then 1 else K.r.length + 1)) := by
    cases mm with
    | false =>
      rw [if_pos rfl, if_neg (by decide), show nI K.r.length + 1 = nI (K.r.length + 1) from nI_add _ 1]
      unfold minI
      rw [if_neg (show ¬ (11 : Int32) < nI (K.r.length + 1) from nI_nlt (a := 11) (by omega) (by decide))]
    | true => rfl
  rw [ev, ob_some, e60', ob_some, es, ob_some, ew, ob_some, ek, ob_some]
