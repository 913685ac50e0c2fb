-- all orders are done alike
theorem m_end (F : Nat) (typed : Int32) (text : Nat → Int32) (n : Nat) (u1 : Int32) (u2 u3 u4 u5 : Nat → Int32) (u6 u7 u8 u9 u10 u11 u12 : Int32) (h : ¬ u6 = 0) : f_X6_plays_L27 F typed text (n + 1) u1 u2 u3 u4 u5 u6 u7 u8 u9 u10 u11 u12 = some (u1, u2, u3, u4, u5, u6, u7, u8, u9, u10, u11, u12) := by
  rw [f_X6_plays_L27]
  by_cases c : typed ≤ u12
  · rw [if_pos c]
  · rw [if_neg c, if_neg h]
theorem m_stepD (F : Nat) {typed : Int32} {text : Nat → Int32} {n : Nat} {u1 u7 u8 kn pn ps p q e k' n' v : Int32} {w : Nat} {u2 u3 past s : Nat → Int32} {zm : Int32 × Int32 × (Nat → Int32) × (Nat → Int32) × (Nat → Int32) × (Nat → Int32)} (hp : ¬ typed ≤ p) (hL : f_X6_plays_L50 F typed text F p = some e) (hw0 : w ≠ 0) (hw5 : w ≤ 5) (hW : f_X6_wordAt F e text p = some (nI (w - 1))) (hf : f_X6_isForm F typed e kn pn text (nI (w - 1)) = some (1, q, k', n')) (hk : w = 3 ∨ w = 4 → k' ≤ 3) (hd : f_X6_does F ps 1 q k' n' s past text u3 u2 (nI (w - 1)) p = some zm) (hv : (if zm.1 ≤ 0 then some (0 : Int32) else some 3) = some v) : f_X6_plays_L27 F typed text (n + 1) u1 u2 u3 past s 0 u7 u8 kn pn ps p = f_X6_plays_L27 F typed text n p zm.2.2.2.2.2 zm.2.2.2.2.1 zm.2.2.2.1 zm.2.2.1 v zm.1 (u8 + 1) k' n' zm.2.1 q := by
  rw [f_X6_plays_L27, if_neg hp, if_pos rfl, hL, ob_some, hW, ob_some, if_neg (nI_pos (show w - 1 < 2 ^ 31 by omega)), hf, ob_some, if_neg ne10]
  rcases (show w = 1 ∨ w = 2 ∨ w = 3 ∨ w = 4 ∨ w = 5 by omega) with rfl | rfl | rfl | rfl | rfl
  · rw [if_neg (show ¬ nI (1 - 1) = (2 : Int32) by decide), if_neg (show ¬ nI (1 - 1) = (3 : Int32) by decide), hd, ob_some, hv, ob_some, ob_some, ob_some]
  · rw [if_neg (show ¬ nI (2 - 1) = (2 : Int32) by decide), if_neg (show ¬ nI (2 - 1) = (3 : Int32) by decide), hd, ob_some, hv, ob_some, ob_some, ob_some]
  · rw [if_pos (show nI (3 - 1) = (2 : Int32) from rfl), if_pos (hk (Or.inl rfl)), hd, ob_some, hv, ob_some, ob_some, ob_some]
  · rw [if_neg (show ¬ nI (4 - 1) = (2 : Int32) by decide), if_pos (show nI (4 - 1) = (3 : Int32) from rfl), if_pos (hk (Or.inr rfl)), hd, ob_some, hv, ob_some, ob_some, ob_some]
  · rw [if_neg (show ¬ nI (5 - 1) = (2 : Int32) by decide), if_neg (show ¬ nI (5 - 1) = (3 : Int32) by decide), hd, ob_some, hv, ob_some, ob_some, ob_some]
theorem m_stepK (F : Nat) {typed : Int32} {text : Nat → Int32} {n : Nat} {u1 u7 u8 kn pn ps p q e k' n' : Int32} {w : Nat} {u2 u3 past s : Nat → Int32} (hp : ¬ typed ≤ p) (hL : f_X6_plays_L50 F typed text F p = some e) (hw : w = 3 ∨ w = 4) (hW : f_X6_wordAt F e text p = some (nI (w - 1))) (hf : f_X6_isForm F typed e kn pn text (nI (w - 1)) = some (1, q, k', n')) (hk : ¬ k' ≤ 3) : f_X6_plays_L27 F typed text (n + 1 + 1) u1 u2 u3 past s 0 u7 u8 kn pn ps p = some (p, u2, u3, past, s, 2, -1000004, u8, k', n', ps, q) := by
  rw [f_X6_plays_L27, if_neg hp, if_pos rfl, hL, ob_some, hW, ob_some, if_neg (nI_pos (show w - 1 < 2 ^ 31 by omega)), hf, ob_some, if_neg ne10]
  rcases hw with rfl | rfl
  · rw [if_pos (show nI (3 - 1) = (2 : Int32) from rfl), if_neg hk, ob_some]
    exact m_end F typed text n _ _ _ _ _ _ _ _ _ _ _ _ (show ¬ (2 : Int32) = 0 by decide)
  · rw [if_neg (show ¬ nI (4 - 1) = (2 : Int32) by decide), if_pos (show nI (4 - 1) = (3 : Int32) from rfl), if_neg hk, ob_some]
    exact m_end F typed text n _ _ _ _ _ _ _ _ _ _ _ _ (show ¬ (2 : Int32) = 0 by decide)
theorem m_stepB (F : Nat) {typed : Int32} {text : Nat → Int32} {n : Nat} {u1 u7 u8 kn pn ps e k' n' : Int32} {p q w : Nat} {u2 u3 past s : Nat → Int32} (hp : ¬ typed ≤ nI p) (hL : f_X6_plays_L50 F typed text F (nI p) = some e) (hw5 : w ≤ 5) (hW : f_X6_wordAt F e text (nI p) = some (nI (w - 1))) (hpq : p ≤ q) (hf : f_X6_isForm F typed e kn pn text (nI (w - 1)) = some (0, nI q, k', n')) : f_X6_plays_L27 F typed text (n + 1 + 1) u1 u2 u3 past s 0 u7 u8 kn pn ps (nI p) = some (nI p, u2, u3, past, s, 1, nI (q - p), u8, k', n', ps, nI q) := by
  rw [f_X6_plays_L27, if_neg hp, if_pos rfl, hL, ob_some, hW, ob_some, if_neg (nI_pos (show w - 1 < 2 ^ 31 by omega)), hf, ob_some, if_pos rfl, if_pos (nI_pos' (show w - 1 < 2 ^ 31 by omega)), ob_some, nI_sub hpq]
  exact m_end F typed text n _ _ _ _ _ _ _ _ _ _ _ _ (show ¬ (1 : Int32) = 0 by decide)
theorem m_stepN (F : Nat) {typed : Int32} {text : Nat → Int32} {n : Nat} {u1 u7 u8 kn pn ps e p : Int32} {u2 u3 past s : Nat → Int32} (hp : ¬ typed ≤ p) (hL : f_X6_plays_L50 F typed text F p = some e) (hW : f_X6_wordAt F e text p = some (-1000004)) : f_X6_plays_L27 F typed text (n + 1 + 1) u1 u2 u3 past s 0 u7 u8 kn pn ps p = some (p, u2, u3, past, s, 1, 0, u8, kn, pn, ps, e) := by
  rw [f_X6_plays_L27, if_neg hp, if_pos rfl, hL, ob_some, hW, ob_some, if_pos (show (-1000004 : Int32) < 0 by decide), if_neg (show ¬ (0 : Int32) ≤ -1000004 by decide), ob_some, ob_some]
  exact m_end F typed text n _ _ _ _ _ _ _ _ _ _ _ _ (show ¬ (1 : Int32) = 0 by decide)
theorem loop_both {F : Nat} (hF : 1100000 ≤ F) {len : Int32} {signs : Nat → Int32} {typed : Int32} {text : Nat → Int32} {tx : List Nat} (hT : TxR len signs typed text tx) (mw mx my mr mt : Int32) {z1 : Int32 × Int32 × Int32 × (Nat → Int32)} {t : Nat → Nat} (ps : Int32) (past : Nat → Int32) : ∀ (d p i o n m : Nat), tx.length - p ≤ d → p ≤ tx.length → i ≤ p → d < n → d + 1 < m → ∀ (S : AS) (row kept : Int32) (book : Nat → Int32) (s : Nat → Int32) (now kp : Nat → Int32) (kn pn u1 u7 cz : Int32) (c4 c5 c6 c7 : Nat → Int32) (c9 c10 c11 c12 c13 c14 c15 c16 c17 : Int32) (c18 : Bool) (c19 c20 c21 c22 c23 : Int32), S.2.1 = t → StC row z1.2.1 kept book S → StM s S → ∃ ec em, f_X3_run_L31 F len signs mw mx my mr mt z1 n (nI i) c4 c5 c6 c7 book c9 c10 c11 c12 c13 c14 c15 c16 c17 c18 c19 c20 c21 c22 c23 (nI o) (nI p) cz row kept = some ec ∧ f_X6_plays_L27 F typed text m u1 kp now past s 0 u7 (nI o) kn pn ps (nI p) = some em ∧ em.2.2.2.2.2.2.2.2.2.2.1 = ps ∧ em.2.2.2.1 = past ∧
    ((∃ z, ec = Sum.inl z ∧ ∃ pos w q : Nat, z.2.2.2.2.2.1 = nI w ∧ z.2.2.2.2.2.2.2.2.2.1 = nI q ∧ z.2.2.2.2.2.2.2.2.2.2.2.2.2.2.2.2.2.2.2.2.2.1 = nI pos ∧ pos ≤ 60 ∧ pos ≤ q ∧ w ≤ 5 ∧ em.1 = nI pos ∧ em.2.2.2.2.2.1 = 1 ∧ em.2.2.2.2.2.2.1 = (if w = 0 then 0 else nI (q - pos))) ∨
     (∃ z, ec = Sum.inr (Sum.inl z) ∧ ∃ pos : Nat, z.2.2.2.2.2.2.2.2.2.2.2.2.2.2.2.2.2.2.2.2.2.1 = nI pos ∧ pos ≤ 60 ∧ em.1 = nI pos ∧ em.2.2.2.2.2.1 = 2 ∧ em.2.2.2.2.2.2.1 = -1000004) ∨
     (∃ z, ec = Sum.inr (Sum.inr (Sum.inl z)) ∧ ∃ pos : Nat, z.2.2.2.2.2.2.2.2.2.2.2.2.2.2.2.2.2.2.2.2.2.1 = nI pos ∧ pos ≤ 60 ∧ em.1 = nI pos ∧ em.2.2.2.2.2.1 = 3 ∧ em.2.2.2.2.2.2.1 = z.2.2.2.2.2.2.2.2.2.2.2.2.2.2.2.2.2.2.2.2.2.2.1) ∨
     (∃ z, ec = Sum.inr (Sum.inr (Sum.inr z)) ∧ em.2.2.2.2.2.1 = 0 ∧ em.2.2.2.2.2.2.2.1 = z.2.2.2.2.2.2.2.2.2.2.2.2.2.2.2.2.2.2.2.2.1 ∧ ∃ S' : AS, S'.2.1 = t ∧ StC z.2.2.2.2.2.2.2.2.2.2.2.2.2.2.2.2.2.2.2.2.2.2.2.1 z1.2.1 z.2.2.2.2.2.2.2.2.2.2.2.2.2.2.2.2.2.2.2.2.2.2.2.2 z.2.2.2.2.1 S' ∧ StM em.2.2.2.2.1 S')) := by
  have h60 := hT.2.2.1
  have hlen : len = nI tx.length := hT.1
  have htyp : typed = nI tx.length := hT.2.1
  intro d
  induction d with
  | zero =>
    intro p i o n m hd hp hi hn hm S row kept book s now kp kn pn u1 u7 cz c4 c5 c6 c7 c9 c10 c11 c12 c13 c14 c15 c16 c17 c18 c19 c20 c21 c22 c23 hSt hC hM
    obtain ⟨n, rfl⟩ : ∃ k, n = k + 1 := ⟨n - 1, by omega⟩
    obtain ⟨m, rfl⟩ : ∃ k, m = k + 1 := ⟨m - 1, by omega⟩
    refine ⟨_, _, ?_, by rw [f_X6_plays_L27, htyp, if_pos (nI_le (by omega) (by omega))], rfl, rfl, Or.inr (Or.inr (Or.inr ⟨(c4, c5, c6, c7, book, c9, c10, c11, c12, c13, c14, c15, c16, c17, c18, c19, c20, c21, c22, c23, nI o, nI p, cz, row, kept), rfl, rfl, rfl, S, hSt, hC, hM⟩))⟩
    rw [f_X3_run_L31]
    by_cases c : (60 : Int32) ≤ nI i
    · rw [if_pos c]
    · rw [if_neg c, if_pos (by rw [hlen]; exact nI_le (by omega) (by omega))]
  | succ d ih =>
    intro p i o n m hd hp hi hn hm S row kept book s now kp kn pn u1 u7 cz c4 c5 c6 c7 c9 c10 c11 c12 c13 c14 c15 c16 c17 c18 c19 c20 c21 c22 c23 hSt hC hM
    rcases Nat.lt_or_ge p tx.length with hpl | hpl
    rotate_left
    · obtain ⟨n, rfl⟩ : ∃ k, n = k + 1 := ⟨n - 1, by omega⟩
      obtain ⟨m, rfl⟩ : ∃ k, m = k + 1 := ⟨m - 1, by omega⟩
      refine ⟨_, _, ?_, by rw [f_X6_plays_L27, htyp, if_pos (nI_le (by omega) (by omega))], rfl, rfl, Or.inr (Or.inr (Or.inr ⟨(c4, c5, c6, c7, book, c9, c10, c11, c12, c13, c14, c15, c16, c17, c18, c19, c20, c21, c22, c23, nI o, nI p, cz, row, kept), rfl, rfl, rfl, S, hSt, hC, hM⟩))⟩
      rw [f_X3_run_L31]
      by_cases c : (60 : Int32) ≤ nI i
      · rw [if_pos c]
      · rw [if_neg c, if_pos (by rw [hlen]; exact nI_le (by omega) (by omega))]
    obtain ⟨n, rfl⟩ : ∃ k, n = k + 1 := ⟨n - 1, by omega⟩
    obtain ⟨m, rfl⟩ : ∃ k, m = k + 2 := ⟨m - 2, by omega⟩
    have hi60 : ¬ (60 : Int32) ≤ nI i := nI_ge (b := 60) (by omega) (by decide)
    have hlp : ¬ len ≤ nI p := by rw [hlen]; exact nI_ge hpl (by omega)
    have htp : ¬ typed ≤ nI p := by rw [htyp]; exact nI_ge hpl (by omega)
    obtain ⟨e, w, he1, he2, hw5, eL, eW, hcs⟩ := read_both hF hT hpl
    rcases hcs with ⟨rfl, k, n2, r, eR⟩ | ⟨hw0, hB | hO⟩
    · rw [if_pos rfl] at eW
      refine ⟨_, _, by rw [f_X3_run_L31, if_neg hi60, if_neg hlp, eR, ob_some, if_neg ne10], m_stepN F htp eL eW, rfl, rfl, Or.inl ⟨_, rfl, p, 0, e, rfl, rfl, rfl, by omega, he1, by decide, rfl, rfl, rfl⟩⟩
    · rw [if_neg hw0] at eW
      obtain ⟨k, n2, r, q, eR, hpq, hq, hf⟩ := hB
      obtain ⟨k', n', hf⟩ := hf kn pn
      refine ⟨_, _, by rw [f_X3_run_L31, if_neg hi60, if_neg hlp, eR, ob_some, if_neg ne10], m_stepB F htp eL hw5 eW hpq hf, rfl, rfl, Or.inl ⟨_, rfl, p, w, q, rfl, rfl, rfl, by omega, hpq, hw5, rfl, rfl, ?_⟩⟩
      rw [if_neg hw0]
    · rw [if_neg hw0] at eW
      obtain ⟨kd, nu, rw_, q, eR, hpq, hq, hkd, hnu, hrow, hkz, hf⟩ := hO
      obtain ⟨k', n', hf, hk', hn'⟩ := hf kn pn
      by_cases hk3 : kd < 4
      rotate_left
      · have hw34 : w = 3 ∨ w = 4 := by
          by_cases a : w = 3
          · exact Or.inl a
          · by_cases b : w = 4
            · exact Or.inr b
            · have := hkz a b; omega
        have hk3' : ¬ nI kd ≤ (3 : Int32) := nI_ge (a := 3) (by omega) (by omega)
        refine ⟨_, _, by rw [f_X3_run_L31, if_neg hi60, if_neg hlp, eR, ob_some, if_pos rfl, if_neg hk3'], m_stepK F htp eL hw34 eW hf (by rw [hk' hw34]; exact hk3'), rfl, rfl, Or.inr (Or.inl ⟨_, rfl, p, rfl, by omega, rfl, rfl, rfl⟩)⟩
      · have hk3' : nI kd ≤ (3 : Int32) := nI_le (b := 3) (by omega) (by decide)
        obtain ⟨zc, zm, e1, e2, hR⟩ := order_both hF hT hw0 hw5 hk3 hnu hq hrow (r := S.1) (t := S.2.1) (bk := S.2.2) hC hM ps past now kp hk' hn' c18 c19 c20 c21 c22 c23 c15 c16 c17 c6 c7 c5 c4 mw mx my mr mt
        obtain ⟨r1, r2, r3, r4⟩ := hR
        have hsd : ∀ v, (if zm.1 ≤ 0 then some (0 : Int32) else some 3) = some v → f_X6_plays_L27 F typed text (m + 1 + 1) u1 kp now past s 0 u7 (nI o) kn pn ps (nI p) = f_X6_plays_L27 F typed text (m + 1) (nI p) zm.2.2.2.2.2 zm.2.2.2.2.1 zm.2.2.2.1 zm.2.2.1 v zm.1 (nI o + 1) k' n' zm.2.1 (nI q) := fun v hv => m_stepD F htp eL hw0 hw5 eW hf (fun z => by rw [hk' z]; exact hk3') e2 hv
        rcases r4 with ⟨rc, S', hS't, hC', hM'⟩ | ⟨k, hk1, hk2, rc⟩
        · have hsd0 := hsd 0 (by rw [← r1, rc]; rfl)
          rw [r2, r3, show nI o + 1 = nI (o + 1) from nI_add o 1] at hsd0
          obtain ⟨ec, em, f1, f2, f3⟩ := ih q (i + 1) (o + 1) n (m + 1) (by omega) hq (by omega) (by omega) (by omega) S' zc.2.1 zc.2.2.1 zc.2.2.2.1 zm.2.2.1 zm.2.2.2.2.1 zm.2.2.2.2.2 k' n' (nI p) zm.1 zc.1 zc.2.2.2.2.2.2.2.2.2.2.2.2.2.2.2.2 zc.2.2.2.2.2.2.2.2.2.2.2.2.2.2.2.1 zc.2.2.2.2.2.2.2.2.2.2.2.2.2.1 zc.2.2.2.2.2.2.2.2.2.2.2.2.2.2.1 (nI w) (nI kd) (nI nu) (encR rw_) (nI q) 0 zc.2.2.2.2.2.2.2.2.2.2.1 zc.2.2.2.2.2.2.2.2.2.2.2.1 zc.2.2.2.2.2.2.2.2.2.2.2.2.1 zc.2.2.2.2.1 zc.2.2.2.2.2.1 zc.2.2.2.2.2.2.1 zc.2.2.2.2.2.2.2.1 zc.2.2.2.2.2.2.2.2.1 zc.2.2.2.2.2.2.2.2.2.1 (hS't.trans hSt) hC' hM'
          refine ⟨ec, em, ?_, hsd0.trans f2, f3⟩
          rw [f_X3_run_L31, if_neg hi60, if_neg hlp, eR, ob_some, if_pos rfl, if_pos hk3', e1, ob_some, if_pos rc, show nI o + 1 = nI (o + 1) from nI_add o 1, ob_some, show nI i + 1 = nI (i + 1) from nI_add i 1, ob_some]
          exact f1
        · have hz : ¬ zc.1 = 0 := by rw [rc]; exact nIlit (m := 0) (by omega) (by decide) (by omega)
          have hsd3 := hsd 3 (by rw [← r1, rc, if_neg (nI_nle (by omega) (by omega))])
          refine ⟨_, _, by rw [f_X3_run_L31, if_neg hi60, if_neg hlp, eR, ob_some, if_pos rfl, if_pos hk3', e1, ob_some, if_neg hz], hsd3.trans (m_end F typed text m _ _ _ _ _ _ _ _ _ _ _ _ (by decide)), r2, r3, Or.inr (Or.inr (Or.inl ⟨_, rfl, p, rfl, by omega, rfl, rfl, r1.symm⟩))⟩
