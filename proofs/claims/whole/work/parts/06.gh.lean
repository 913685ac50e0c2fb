def rf4 (a b c d : Nat) : Nat → Option Nat := fun j => if j = 0 then some a else if j = 1 then some b else if j = 2 then some c else if j = 3 then some d else none
theorem rf4_up0 {a b c d v : Nat} : va_up (rf4 a b c d) 0 (some v) = rf4 v b c d := by
  funext j
  unfold va_up rf4
  by_cases h0 : j = 0
  · subst h0; rfl
  · rw [if_neg h0, if_neg h0, if_neg h0]
theorem rf4_up1 {a b c d v : Nat} : va_up (rf4 a b c d) 1 (some v) = rf4 a v c d := by
  funext j
  unfold va_up rf4
  by_cases h0 : j = 1
  · subst h0; rfl
  · rw [if_neg h0, if_neg h0, if_neg h0]
theorem rf4_up2 {a b c d v : Nat} : va_up (rf4 a b c d) 2 (some v) = rf4 a b v d := by
  funext j
  unfold va_up rf4
  by_cases h0 : j = 2
  · subst h0; rfl
  · rw [if_neg h0, if_neg h0, if_neg h0]
theorem rf4_up3 {a b c d v : Nat} : va_up (rf4 a b c d) 3 (some v) = rf4 a b c v := by
  funext j
  unfold va_up rf4
  by_cases h0 : j = 3
  · subst h0; rfl
  · rw [if_neg h0, if_neg h0, if_neg h0]
theorem vin {i : Int32} {n : Nat} (h : decide (i < 0 ∨ n ≤ i.toNatClampNeg) = false) : vp_in i n := of_decide_eq_false h
section GH
variable {p : Program} {l : Launch} {e : Env} {R : Room} {s : State} {m : MethodId} {args : Array Value} {below : List Frame} {meth : Method} {c : Code} {D : va_G} {cI cS : ClassId} {X : XP} {A : Nat → Prop} {own : String} {cc : ByteArray} {nL cells slots : Nat} {ret : Option FieldType} {Q : State → Prop} {ws : va_W} {lv : List (Nat × Value)} {pc : Nat} {st : List Value}
theorem G_perm {ws' : va_W} (is : List Nat) (h : is.map (fun i => ws[i]?) = ws'.map some) (hn : va_nd is = true) (k : G p l e R s m args below meth c D A nL cells slots Q ws' lv pc st) : G p l e R s m args below meth c D A nL cells slots Q ws lv pc st := by
  intro H locs ls hP hD hS hl
  refine k H locs ls ?_ (hD.sub is hn h) hS hl
  intro k q hk
  have h1 : (is.map (fun i => ws[i]?))[k]? = some (some q) := by rw [h, List.getElem?_map, hk]; rfl
  rw [List.getElem?_map] at h1
  cases hi : is[k]? with
  | none => rw [hi] at h1; cases h1
  | some i => rw [hi] at h1; exact hP i q (Option.some.inj h1)
theorem G_qlen (hc : Cx p s m args meth c D cI cS X A own cc nL ret) {a : Nat} {f : Nat → Option Nat} (q0 : Nat) (ha : ws[q0]? = some (a, .inl (cS, 4, .inr (.inr (.inr (.inr f)))))) (hdg : decode cc pc = .ok (.arraylength, 1)) (kk : G p l e R s m args below meth c D A nL cells slots Q ws lv (pc + 1) (.int 4 :: st)) : G p l e R s m args below meth c D A nL cells slots Q ws lv pc (.ref a :: st) :=
  fun H locs ls hP hD hS hl => va_alen hc.1 hc.2.1 hc.2.2.2.2.2.2.2.1.1 hP q0 1 ha rfl (by show Int32.ofNat 4 = 4; decide) hdg (kk H locs ls hP hD hS hl)
theorem G_qald (hc : Cx p s m args meth c D cI cS X A own cc nL ret) {a x : Nat} {f : Nat → Option Nat} {i : Int32} (q0 : Nat) (ha : ws[q0]? = some (a, .inl (cS, 4, .inr (.inr (.inr (.inr f)))))) (hin : vp_in i 4) (hv : f i.toNatClampNeg = some x) (hdg : decode cc pc = .ok (.aaload, 1)) (kk : G p l e R s m args below meth c D A nL cells slots Q ws lv (pc + 1) (.ref x :: st)) : G p l e R s m args below meth c D A nL cells slots Q ws lv pc (.int i :: .ref a :: st) := by
  intro H locs ls hP hD hS hl
  refine va_aldq hc.1 hc.2.1 hc.2.2.2.2.2.2.2.1.1 hP q0 1 ha rfl hin hdg ?_
  rw [hv]
  exact kk H locs ls hP hD hS hl
theorem G_qast (k : Nat) (hc : Cx p s m args meth c D cI cS X A own cc nL ret) {a v : Nat} {vs : List Value} {f f' : Nat → Option Nat} {i : Int32} (q0 qk : Nat) (ha : ws[q0]? = some (a, .inl (cS, 4, .inr (.inr (.inr (.inr f)))))) (hv : ws[qk]? = some (v, .inr (1, vs))) (hin : vp_in i 4) (hi : i.toNatClampNeg = k) (hf : va_up f k (some v) = f') {ws' : va_W} (hw : ws.set q0 (a, .inl (cS, 4, .inr (.inr (.inr (.inr f'))))) = ws') (hdg : decode cc pc = .ok (.aastore, 1)) (kk : G p l e R s m args below meth c D A nL cells slots Q ws' lv (pc + 1) st) : G p l e R s m args below meth c D A nL cells slots Q ws lv pc (.ref v :: .int i :: .ref a :: st) := by
  subst hw
  subst hf
  subst hi
  exact fun H locs ls hP hD hS hl => va_astq (r := (RX1, TX1, 4)) hc.1 hc.2.1 hc.2.2.2.2.2.2.2.1.1 hP hD hS q0 1 qk 1 ha rfl hv rfl hin hdg (fun H1 locs1 hP1 hD1 hS1 => kk H1 locs1 ls hP1 hD1 hS1 hl)
theorem G_callVVE (hc : Cx p s m args meth c D cI cS X A own cc nL ret) {index k mL n a : Nat} {C : String} {y : MethodName} {b : ByteArray} {as : List Value} {wc : va_W} {Po : va_W → Prop} {st0 : List Value} (hM : MV own index C y b mL none n) (hct : CtV l D cI cS X y b mL k (.ref a :: as) wc Po) (q0 : Nat) (isC : List Nat) {ci : Nat} {fs : List Value} {T : u_T} {N : Nat} (he : ws[q0]? = some (a, .inr (ci, fs))) (hci : vwCl[ci]? = some (C, T, N)) (hR : RmOk R k) (hcl : cells ≤ R.cells ∧ slots ≤ R.slots) (hC : isC.map (fun i => ws[i]?) = wc.map some) (hn : va_nd isC = true) (has : as.length = n) (hst : st0 = as.reverse ++ .ref a :: st) (hrs : Nat.ble ((st.map fun v => v.category).sum) 8 = true) (hdg : decode cc pc = .ok (.invokevirtual index, 3))
    (kk : ∀ w', Po w' → G p l e R s m args below meth c D A nL cells slots Q w' lv (pc + 3) st) : G p l e R s m args below meth c D A nL cells slots Q ws lv pc st0 := by
  intro H locs ls hP hD hS hl
  have hF := va_free hD hS hc.2.2.2.2.2.2.2.2 isC hC
  refine va_callv (va_CallV hc hM hR (hct H.size) he hci hP hD hS hl hC hn has hst hrs hdg hcl) hS (fun q _ h => hF q h) hF (fun w' t H1 locs1 ht hvm hp hB hz hk hS1 => ?_)
  rw [ht] at hB
  exact kk w' hp H1 locs1 ls hB.1 (hB.2.weaken (fun _ _ _ h => hF _ h)) hS1 hl
theorem G_callVIE (hc : Cx p s m args meth c D cI cS X A own cc nL ret) {index k mL n a : Nat} {C : String} {y : MethodName} {b : ByteArray} {rt : Option FieldType} {as : List Value} {wc : va_W} {Po : Int32 → va_W → Prop} {st0 : List Value} (hM : MV own index C y b mL rt n) (hct : CtI l D cI cS X y b mL rt k (.ref a :: as) wc Po) (q0 : Nat) (isC : List Nat) {ci : Nat} {fs : List Value} {T : u_T} {N : Nat} (he : ws[q0]? = some (a, .inr (ci, fs))) (hci : vwCl[ci]? = some (C, T, N)) (hR : RmOk R k) (hcl : cells ≤ R.cells ∧ slots ≤ R.slots) (hC : isC.map (fun i => ws[i]?) = wc.map some) (hn : va_nd isC = true) (has : as.length = n) (hst : st0 = as.reverse ++ .ref a :: st) (hrs : Nat.ble ((st.map fun v => v.category).sum) 8 = true) (hdg : decode cc pc = .ok (.invokevirtual index, 3))
    (kk : ∀ r' w', Po r' w' → G p l e R s m args below meth c D A nL cells slots Q w' lv (pc + 3) (.int r' :: st)) : G p l e R s m args below meth c D A nL cells slots Q ws lv pc st0 := by
  intro H locs ls hP hD hS hl
  have hF := va_free hD hS hc.2.2.2.2.2.2.2.2 isC hC
  refine va_calli (va_CallV hc hM hR (hct H.size) he hci hP hD hS hl hC hn has hst hrs hdg hcl) hS (fun q _ h => hF q h) hF (fun r' w' t H1 locs1 ht hvm hp hB hz hk hS1 => ?_)
  rw [ht] at hB
  exact kk r' w' hp H1 locs1 ls hB.1 (hB.2.weaken (fun _ _ _ h => hF _ h)) hS1 hl
-- the same with a rest of the world that stands ahead
theorem G_callVIR (hc : Cx p s m args meth c D cI cS X A own cc nL ret) {index k mL n a : Nat} {C : String} {y : MethodName} {b : ByteArray} {rt : Option FieldType} {as : List Value} {wc wr : va_W} {Po : Int32 → va_W → Prop} {st0 : List Value} (hM : MV own index C y b mL rt n) (hct : CtI l D cI cS X y b mL rt k (.ref a :: as) wc Po) (q0 : Nat) (isC isR : List Nat) {ci : Nat} {fs : List Value} {T : u_T} {N : Nat} (he : ws[q0]? = some (a, .inr (ci, fs))) (hci : vwCl[ci]? = some (C, T, N)) (hR : RmOk R k) (hcl : cells ≤ R.cells ∧ slots ≤ R.slots) (hC : isC.map (fun i => ws[i]?) = wc.map some) (hn : va_nd isC = true) (hC2 : isR.map (fun i => ws[i]?) = wr.map some) (hn2 : va_nd isR = true) (hdis : ∀ i ∈ isR, i ∉ isC) (has : as.length = n) (hst : st0 = as.reverse ++ .ref a :: st) (hrs : Nat.ble ((st.map fun v => v.category).sum) 8 = true) (hdg : decode cc pc = .ok (.invokevirtual index, 3))
    (kk : ∀ r' w', Po r' w' → G p l e R s m args below meth c D A nL cells slots Q (wr ++ w') lv (pc + 3) (.int r' :: st)) : G p l e R s m args below meth c D A nL cells slots Q ws lv pc st0 := by
  intro H locs ls hP hD hS hl
  have hF := va_free hD hS hc.2.2.2.2.2.2.2.2 isC hC
  refine va_calli (va_CallV hc hM hR (hct H.size) he hci hP hD hS hl hC hn has hst hrs hdg hcl) hS (fun q _ h => hF q h) hF (fun r' w' t H1 locs1 ht hvm hp hB hz hk hS1 => ?_)
  rw [ht] at hB
  obtain ⟨hP', hD'⟩ := va_join hP hD isC isR hC hC2 hn2 hdis hk hF hB.1 hB.2
  exact kk r' w' hp H1 locs1 ls hP' hD' hS1 hl
end GH
