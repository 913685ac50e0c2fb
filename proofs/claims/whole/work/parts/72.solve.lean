def Inv4 (K : WC) (gg : Nat → Nat → Nat → Nat) (V p : Nat) (kn fd : Nat → Int32) : Prop := ∀ u last place, RS K u last place → p ≤ place → kn (K.E u last place) ≠ 0 → ∀ g, g < V → fd (K.E u last place * 11 + g) = nI (K.cn gg (K.r.length - place) u last g)
def Cl4 (K : WC) (p : Nat) (kn : Nat → Int32) : Prop := ∀ u last place, RS K u last place → p ≤ place → kn (K.E u last place) ≠ 0 → place < K.r.length → ∀ x u', x < 4 → K.step u last place x = some u' → kn (K.E u' x (place + 1)) ≠ 0
def Far (K : WC) (p e : Nat) : Prop := ∀ u last place, RS K u last place → p ≤ place → K.E u last place ≠ e
theorem s_entryOf (F : Nat) (K : WC) (u : Nat → Nat) (last place : Nat) (hp : place < 100) : f_X4_entryOf F (nI (bN K.P)) (nI (lf K.c u 16)) (nI last) (nI place) = some (nI (K.E u last place)) := by
  unfold f_X4_entryOf WC.E
  by_cases h : place = 0
  · rw [if_pos (show nI place = (0 : Int32) by rw [h]; rfl), if_pos h]; rfl
  · rw [if_neg (show ¬ nI place = (0 : Int32) from nIlit (m := 0) (by omega) (by decide) h), if_neg h]
    cases K.P with
    | true => rfl
    | false =>
      rw [if_pos (show nI (bN false) = (0 : Int32) from rfl), if_neg (by decide), show (4 : Int32) = nI 4 from rfl, nI_mul, nI_add, ob_some, Nat.mul_comm]
theorem s_solve {F : Nat} (hF : 1100000 ≤ F) {K : WC} (hr : RowOk K.r) (ht : ∀ k, k < 16 → K.t k < 4) {tb : Int32} (hT : TabC tb K.t) {stock weight : Nat → Int32} (hL : WLf K stock weight) {mm : Bool} {mw mx my mr mt : Int32} {gg : Nat → Nat → Nat → Nat} {V : Nat} (hV0 : 1 ≤ V) (hV : V ≤ 11) (hG : ∀ p a b, p < K.r.length → a < 4 → b < 4 → f_X4_gain F mm mw mx my mr mt (nI p) (nI a) (nI b) = some (nI (gg p a b)) ∧ gg p a b ≤ 1) : ∀ (m n : Nat) (u : Nat → Nat) (last place : Nat) (known found : Nat → Int32), place + m = K.r.length → m < n → RS K u last place → Inv4 K gg V place known found → Cl4 K place known → ∃ kn fd, f_X4_solve F n mm (nI V) (encR K.r) (encR (K.cds (K.r.length / 2))) tb (nI K.r.length) (nI (bN K.P)) (nI (bN K.C)) stock weight known found mw mx my mr mt (nI (lf K.c u 16)) (nI last) (nI place) = some (kn, fd) ∧ Inv4 K gg V place kn fd ∧ kn (K.E u last place) ≠ 0 ∧ (∀ e, Far K place e → kn e = known e ∧ ∀ g, g < 11 → fd (e * 11 + g) = found (e * 11 + g)) ∧ (∀ e, known e ≠ 0 → kn e ≠ 0) ∧ Cl4 K place kn := by
  have hl := hr.1
  intro m
  induction m with
  | zero =>
    intro n u last place known found hpm hn hS hI hCl
    obtain ⟨n, rfl⟩ : ∃ k, n = k + 1 := ⟨n - 1, by omega⟩
    have hE := (hS.E_lt hr).1
    rw [f_X4_solve]
    unfold f_X4_solve_B
    rw [s_entryOf F K u last place (by omega), ob_some, if_neg (nI_nlt (by omega) (by omega)), s_isKnown F known hE, ob_some]
    by_cases hk : known (K.E u last place) = 0
    · have ea : f_X4_add F (fun j => if K.E u last place * 11 ≤ j ∧ j < K.E u last place * 11 + 11 then (0 : Int32) else found j) (nI (K.E u last place)) (0 : Int32) (1 : Int32) = some (upd (fun j => if K.E u last place * 11 ≤ j ∧ j < K.E u last place * 11 + 11 then (0 : Int32) else found j) (K.E u last place * 11 + 0) ((fun j => if K.E u last place * 11 ≤ j ∧ j < K.E u last place * 11 + 11 then (0 : Int32) else found j) (K.E u last place * 11 + 0) + 1)) := s_add F _ hE (g := 0) (by decide) 1
      rw [if_pos hk, if_pos rfl, s_begin4 hF known found hE, ob_some, if_pos (show nI place = nI K.r.length by rw [show place = K.r.length by omega])]
      dsimp only
      rw [ea, ob_some]
      refine ⟨_, _, rfl, ?_, ?_, ?_, ?_, fun u' last' place' hS' hp' _ hlt => by omega⟩
      · intro u' last' place' hS' hp' hk' g hg
        have hpl : place' = place := by have := hS'.2.2.1; omega
        by_cases e : K.E u' last' place' = K.E u last place
        · obtain ⟨rfl, rfl, rfl⟩ := hS'.E_inj hr hS e
          have hc : K.cn gg (K.r.length - place') u' last' g = if g = 0 then 1 else 0 := by
            rw [show K.r.length - place' = 0 by omega]
            by_cases g0 : g = 0
            · rw [g0]; rfl
            · rw [if_neg g0]
              show (List.filter (fun w => gs gg (K.r.length - 0) last' w == g) [[]]).length = 0
              rw [List.filter_cons_of_neg (by show ¬ ((0 == g) = true); rw [beq_iff_eq]; omega)]
              rfl
          rw [hc]
          by_cases g0 : g = 0
          · rw [g0, upd_s, if_pos (show (0 : Nat) = 0 from rfl)]
            dsimp only
            rw [if_pos (by omega)]
            rfl
          · rw [upd_n _ _ (by omega), if_pos (by omega), if_neg g0]; rfl
        · have hE' := (hS'.E_lt hr).1
          rw [upd_n _ _ e] at hk'
          rw [upd_n _ _ (by omega), if_neg (by omega)]
          exact hI u' last' place' hS' hp' hk' g hg
      · rw [upd_s]; exact ne10
      · intro e he
        have hne : K.E u last place ≠ e := he u last place hS (Nat.le_refl _)
        refine ⟨upd_n _ _ (fun z => hne z.symm), fun g hg => ?_⟩
        rw [upd_n _ _ (by omega), if_neg (by omega)]
      · intro e he
        by_cases z : e = K.E u last place
        · rw [z, upd_s]; exact ne10
        · rw [upd_n _ _ z]; exact he
    · rw [if_neg hk, if_neg ne10]
      exact ⟨known, found, rfl, hI, hk, fun e _ => ⟨rfl, fun _ _ => rfl⟩, fun e he => he, hCl⟩
  | succ m ih =>
    intro n u last place known found hpm hn hS hI hCl
    obtain ⟨n, rfl⟩ : ∃ k, n = k + 1 := ⟨n - 1, by omega⟩
    have hE := (hS.E_lt hr).1
    have hpl : K.r.length - (m + 1) = place := by omega
    have hFar : Far K (place + 1) (K.E u last place) := by
      intro u' last' place' hS' hp' e
      have := (hS'.E_inj hr hS e).2.2
      omega
    rw [f_X4_solve]
    unfold f_X4_solve_B
    rw [s_entryOf F K u last place (by omega), ob_some, if_neg (nI_nlt (by omega) (by omega)), s_isKnown F known hE, ob_some]
    by_cases hk : known (K.E u last place) = 0
    · rw [if_pos hk, if_pos rfl, s_begin4 hF known found hE, ob_some, if_neg (nIlit (by omega) (by omega) (by omega))]
      have loop : ∀ (d nn x : Nat) (kn fd : Nat → Int32), x + d = 4 → d < nn → Inv4 K gg V (place + 1) kn fd → kn (K.E u last place) ≠ 0 → (∀ g, g < V → fd (K.E u last place * 11 + g) = nI (sumF (K.cx gg m u last g) 0 x)) → (∀ e, e ≠ K.E u last place → Far K (place + 1) e → kn e = known e ∧ ∀ g, g < 11 → fd (e * 11 + g) = found (e * 11 + g)) → (∀ e, known e ≠ 0 → kn e ≠ 0) → Cl4 K (place + 1) kn → (∀ y u', y < x → K.step u last place y = some u' → kn (K.E u' y (place + 1)) ≠ 0) → ∃ kn' fd', f_X4_solve_L53 F (f_X4_solve F n) mm (nI V) (encR K.r) (encR (K.cds (K.r.length / 2))) tb (nI K.r.length) (nI (bN K.P)) (nI (bN K.C)) stock weight mw mx my mr mt (nI (lf K.c u 16)) (nI last) (nI place) (nI (K.E u last place)) nn (nI x) fd kn = some (fd', kn') ∧ Inv4 K gg V (place + 1) kn' fd' ∧ kn' (K.E u last place) ≠ 0 ∧ (∀ g, g < V → fd' (K.E u last place * 11 + g) = nI (sumF (K.cx gg m u last g) 0 4)) ∧ (∀ e, e ≠ K.E u last place → Far K (place + 1) e → kn' e = known e ∧ ∀ g, g < 11 → fd' (e * 11 + g) = found (e * 11 + g)) ∧ (∀ e, known e ≠ 0 → kn' e ≠ 0) ∧ Cl4 K (place + 1) kn' ∧ (∀ y u', y < 4 → K.step u last place y = some u' → kn' (K.E u' y (place + 1)) ≠ 0) := by
        intro d
        induction d with
        | zero =>
          intro nn x kn fd hx hnn q1 q2 q3 q4 q5 q6 q7
          obtain ⟨nn, rfl⟩ : ∃ k, nn = k + 1 := ⟨nn - 1, by omega⟩
          obtain rfl : x = 4 := by omega
          exact ⟨kn, fd, by rw [f_X4_solve_L53, if_pos (show (4 : Int32) ≤ nI 4 from nI_le (a := 4) (b := 4) (by omega) (by decide))], q1, q2, q3, q4, q5, q6, q7⟩
        | succ d ihd =>
          intro nn x kn fd hx hnn q1 q2 q3 q4 q5 q6 q7
          obtain ⟨nn, rfl⟩ : ∃ k, nn = k + 1 := ⟨nn - 1, by omega⟩
          have hx4 : x < 4 := by omega
          have hla := s_leftAfter F hr ht hT hL hS.1 hS.2.1 (show place < K.r.length by omega) hx4
          rw [f_X4_solve_L53, if_neg (show ¬ (4 : Int32) ≤ nI x from nI_ge hx4 (by decide)), hla, ob_some]
          cases hst : K.step u last place x with
          | none =>
            rw [if_pos rfl, ob_some, show (1 : Int32) = nI 1 from rfl, nI_add, ob_some]
            refine ihd nn (x + 1) kn fd (by omega) (by omega) q1 q2 (fun g hg => ?_) q4 q5 q6 (fun y u2 hy hs2 => by
              by_cases e : y = x
              · rw [e, hst] at hs2; cases hs2
              · exact q7 y u2 (by omega) hs2)
            have hcx : K.cx gg m u last g x = 0 := by
              unfold WC.cx
              rw [hpl, hst]
            rw [sumF_snoc, q3 g hg, Nat.zero_add, hcx]
            rfl
          | some u' =>
            have hS' := hS.step hr (show place < K.r.length by omega) hx4 hst
            have hE' := (hS'.E_lt hr).1
            have hlt' := lf_lt hS'.1 16
            have h512 := K.W512 hr
            obtain ⟨kn1, fd1, e1, i1, k1, f1, m1, c1⟩ := ih n u' x (place + 1) kn fd (by omega) (by omega) hS' q1 q6
            obtain ⟨eg, bg⟩ := hG place last x (by omega) hS.2.1 hx4
            have hne : K.E u last place ≠ K.E u' x (place + 1) := fun z => hFar u' x (place + 1) hS' (Nat.le_refl _) z.symm
            have hm1 : ¬ nI (lf K.c u' 16) = (-1 : Int32) := fun z => nI_pos (show lf K.c u' 16 < 2 ^ 31 by omega) (by rw [z]; decide)
            dsimp only
            rw [if_neg hm1, show (1 : Int32) = nI 1 from rfl, nI_add, e1, ob_some, s_entryOf F K u' x (place + 1) (by omega), ob_some, eg, ob_some, s_join hF fd1 hV hE hE' hne bg, ob_some, ob_some, nI_add, ob_some]
            refine ihd nn (x + 1) kn1 _ (by omega) (by omega) ?_ ?_ ?_ ?_ ?_ c1 (fun y u2 hy hs2 => by
              by_cases e : y = x
              · rw [e, hst] at hs2; cases hs2; rw [e]; exact k1
              · exact m1 _ (q7 y u2 (by omega) hs2))
            · intro u2 last2 place2 hS2 hp2 hk2 g hg
              have hne2 := hFar u2 last2 place2 hS2 hp2
              dsimp only
              rw [if_neg (by omega)]
              exact i1 u2 last2 place2 hS2 hp2 hk2 g hg
            · exact m1 _ q2
            · intro g hg
              have o1 := (f1 _ hFar).2
              dsimp only
              have hcx : K.cx gg m u last g x = if gg place last x ≤ g then K.cn gg m u' x (g - gg place last x) else 0 := by
                unfold WC.cx
                rw [hpl, hst]
              rw [sumF_snoc, Nat.zero_add, hcx]
              by_cases c : gg place last x ≤ g
              · have o2 := i1 u' x (place + 1) hS' (Nat.le_refl _) k1 (g - gg place last x) (by omega)
                rw [if_pos (by omega), if_pos c, show K.E u last place * 11 + gg place last x + (K.E u last place * 11 + g - (K.E u last place * 11 + gg place last x)) = K.E u last place * 11 + g by omega, show K.E u last place * 11 + g - (K.E u last place * 11 + gg place last x) = g - gg place last x by omega, o1 g (by omega), q3 g hg, o2, nI_add, show K.r.length - (place + 1) = m by omega]
              · rw [if_neg (by omega), if_neg c, o1 g (by omega), q3 g hg, Nat.add_zero]
            · intro e hne3 hfe
              obtain ⟨a1, a2⟩ := f1 e hfe
              obtain ⟨b1, b2⟩ := q4 e hne3 hfe
              refine ⟨a1.trans b1, fun g hg => ?_⟩
              dsimp only
              rw [if_neg (by omega)]
              exact (a2 g hg).trans (b2 g hg)
            · exact fun e he => m1 e (q5 e he)
      obtain ⟨kn', fd', e1, i1, k1, v1, f1, m1, c1, c2⟩ := loop 4 F 0 (upd known (K.E u last place) 1) (fun j => if K.E u last place * 11 ≤ j ∧ j < K.E u last place * 11 + 11 then 0 else found j) (by omega) (by omega) (by
        intro u' last' place' hS' hp' hk' g hg
        have hne := hFar u' last' place' hS' hp'
        rw [upd_n _ _ hne] at hk'
        refine Eq.trans (if_neg (by omega)) ?_
        exact hI u' last' place' hS' (by omega) hk' g hg) (by rw [upd_s]; exact ne10) (by
        intro g hg
        rw [if_pos (by omega)]
        rfl) (by
        intro e hne hfe
        refine ⟨upd_n _ _ hne, fun g hg => ?_⟩
        rw [if_neg (by omega)]) (by
        intro e he
        by_cases z : e = K.E u last place
        · rw [z, upd_s]; exact ne10
        · rw [upd_n _ _ z]; exact he) (by
        intro u' last' place' hS' hp' hk' hlt x u2 hx hs2
        have hne := hFar u' last' place' hS' hp'
        rw [upd_n _ _ hne] at hk'
        rw [upd_n _ _ (hFar u2 x (place' + 1) (hS'.step hr hlt hx hs2) (by omega))]
        exact hCl u' last' place' hS' (by omega) hk' hlt x u2 hx hs2) (fun y u2 hy => by omega)
      have e1' : f_X4_solve_L53 F (f_X4_solve F n) mm (nI V) (encR K.r) (encR (K.cds (K.r.length / 2))) tb (nI K.r.length) (nI (bN K.P)) (nI (bN K.C)) stock weight mw mx my mr mt (nI (lf K.c u 16)) (nI last) (nI place) (nI (K.E u last place)) F (0 : Int32) (fun j => if K.E u last place * 11 ≤ j ∧ j < K.E u last place * 11 + 11 then 0 else found j) (upd known (K.E u last place) 1) = some (fd', kn') := e1
      dsimp only
      rw [e1', ob_some]
      refine ⟨kn', fd', rfl, ?_, k1, ?_, m1, ?_⟩
      · intro u' last' place' hS' hp' hk' g hg
        by_cases hp1 : place + 1 ≤ place'
        · exact i1 u' last' place' hS' hp1 hk' g hg
        · have hpe : place' = place := by omega
          by_cases e : K.E u' last' place' = K.E u last place
          · obtain ⟨rfl, rfl, rfl⟩ := hS'.E_inj hr hS e
            rw [v1 g hg, show K.r.length - place' = m + 1 by omega, cn_succ K gg (by omega)]
          · have hfar' : Far K (place + 1) (K.E u' last' place') := by
              intro u2 last2 place2 hS2 hp2 e2
              have := (hS2.E_inj hr hS' e2).2.2
              omega
            obtain ⟨a1, a2⟩ := f1 _ e hfar'
            rw [a1] at hk'
            rw [a2 g (by omega)]
            exact hI u' last' place' hS' hp' hk' g hg
      · intro e he
        exact f1 e (fun z => he u last place hS (Nat.le_refl _) z.symm) (fun u' last' place' hS' hp' => he u' last' place' hS' (by omega))
      · intro u' last' place' hS' hp' hk' hlt x u2 hx hs2
        by_cases hp1 : place + 1 ≤ place'
        · exact c1 u' last' place' hS' hp1 hk' hlt x u2 hx hs2
        · have hpe : place' = place := by omega
          by_cases e : K.E u' last' place' = K.E u last place
          · obtain ⟨rfl, rfl, rfl⟩ := hS'.E_inj hr hS e
            exact c2 x u2 hx hs2
          · have hfar' : Far K (place + 1) (K.E u' last' place') := by
              intro u3 last3 place3 hS3 hp3 e3
              have := (hS3.E_inj hr hS' e3).2.2
              omega
            rw [(f1 _ e hfar').1] at hk'
            exact m1 _ (hCl u' last' place' hS' hp' hk' hlt x u2 hx hs2)
    · rw [if_neg hk, if_neg ne10]
      exact ⟨known, found, rfl, hI, hk, fun e _ => ⟨rfl, fun _ _ => rfl⟩, fun e he => he, hCl⟩
