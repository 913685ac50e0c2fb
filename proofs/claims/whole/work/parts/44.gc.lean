def zf : Nat → Int32 := fun _ => 0
def zq : Nat → Option Nat := fun _ => none
theorem rf4_new {a b c d : Nat} : va_up (va_up (va_up (va_up zq 0 (some a)) 1 (some b)) 2 (some c)) 3 (some d) = rf4 a b c d := by
  funext j
  unfold va_up rf4 zq
  by_cases h3 : j = 3
  · subst h3; rfl
  · by_cases h2 : j = 2
    · subst h2; rfl
    · by_cases h1 : j = 1
      · subst h1; rfl
      · by_cases h0 : j = 0
        · subst h0; rfl
        · rw [if_neg h3, if_neg h2, if_neg h1, if_neg h0, if_neg h0, if_neg h1, if_neg h2, if_neg h3]
def rmc (k mc ms : Nat) : Room := { frames := k, cells := mc, slots := ms, locals := 64 * k }
theorem rmok_c {k K mc ms : Nat} (h : k + 1 ≤ K) : RmOk (rmc K mc ms) k := ⟨h, by show 64 * k + 64 ≤ 64 * K; omega⟩
def CtPC (D : va_G) (cI cS : ClassId) (X : XP) (as : List Value) (ws : va_W) (sz : Nat) : Array Value → State → Prop := va_Pc as (fun U => U.heap.size = sz ∧ va_P D vwCl ws U.heap ∧ KX D cI cS X (va_A ws sz) U U.heap ∧ va_D (fun _ => True) ws ∧ va_AO RX1 U)
def CtC (l : Launch) (D : va_G) (cI cS : ClassId) (X : XP) (y : MethodName) (b : ByteArray) (nL : Nat) (k mc ms : Nat) (as : List Value) (ws : va_W) (Po : va_W → Prop) : Prop :=
  ∀ sz : Nat, Met l y (.code y b nL none :: lw_g) (rmc k mc ms) (CtPC D cI cS X as ws sz) (va_Qv Po (fun (w : va_W) t => va_P D vwCl w t.heap ∧ va_D (va_A ws sz) w) (va_A ws sz)) mc ms (va_A ws sz)
def QC (below : List Frame) (args : Array Value) (s : State) (D : va_G) (A : Nat → Prop) (mc ms : Nat) (Po : va_W → Prop) : State → Prop := MQ below (va_Qv Po (fun (w : va_W) t => va_P D vwCl w t.heap ∧ va_D A w) A) args s mc ms A
theorem CtC.of {l : Launch} {D : va_G} {cI cS : ClassId} {X : XP} {y : MethodName} {b : ByteArray} {nL k mc ms : Nat} {as : List Value} {ws : va_W} {Po : va_W → Prop} (hy : plainName y.cls = true) (hi : y.name = "<init>") (hn : Nat.ble (lg_sl as).length nL = true)
    (body : ∀ (p : Program) (e : Env) (s : State) (m : MethodId) (below : List Frame) (meth : Method) (c : Code) (A : Nat → Prop), Cx p s m as.toArray meth c D cI cS X A y.cls b nL none → meth.name = "<init>" → va_AO RX1 s → G p l e (rmc k mc ms) s m as.toArray below meth c D A nL 0 0 (QC below as.toArray s D A mc ms Po) ws (lv_args 0 as) 0 []) : CtC l D cI cS X y b nL k mc ms as ws Po := by
  intro sz
  refine Met.ofW (cc := b) (maxL := nL) (ret := none) hy rfl ?_
  intro p e s m args below meth c s₁ B hml hv
  obtain ⟨rfl, hsz, hP, hK, hD0, hao⟩ := hv
  have hts := atoms_spec (ws := .code y b nL none :: lw_g) B.pre
  subst hsz
  have hD := hD0.self (sz := s.heap.size)
  have hA : ∀ q : Nat, s.heap.size ≤ q → va_A ws s.heap.size q := fun q h => Or.inr h
  have hl := lv_entry as (n := nL) (Nat.le_of_ble_eq_true hn)
  have hin : meth.name = "<init>" := by rw [(name_of_methodNamed B.named B.method).1, hi]
  rw [lg_entry_eq]
  exact body p e s m below meth c (va_A ws s.heap.size) ⟨B.exec, B.bytes, B.returns, hml, findClass_of_methodNamed B.named, fun w hw => hts w (List.mem_cons_of_mem _ hw), B.notSynchronized, hK, hA⟩ hin hao s.heap [] _ hP hD va_S.rf hl
section GC
variable {p : Program} {l : Launch} {e : Env} {R : Room} {s : State} {m : MethodId} {args : Array Value} {below : List Frame} {meth : Method} {c : Code} {D : va_G} {cI cS : ClassId} {X : XP} {A : Nat → Prop} {own : String} {cc : ByteArray} {nL cells slots : Nat} {ret : Option FieldType} {Q : State → Prop} {ws : va_W} {lv : List (Nat × Value)} {pc : Nat} {st : List Value}
theorem G_widen {k n : Nat} (h1 : Nat.ble cells k = true) (h2 : Nat.ble slots n = true) (kk : G p l e R s m args below meth c D A nL k n Q ws lv pc st) : G p l e R s m args below meth c D A nL cells slots Q ws lv pc st :=
  fun H locs ls hP hD hS hl => W.widen (Nat.le_of_ble_eq_true h1) (Nat.le_of_ble_eq_true h2) (kk H locs ls hP hD hS hl)
theorem G_creturn (hc : Cx p s m args meth c D cI cS X A own cc nL none) {mc ms : Nat} {Po : va_W → Prop} (hPo : Po ws) (hdg : decode cc pc = .ok (.return_, 1)) : G p l e R s m args below meth c D A nL mc ms (QC below args s D A mc ms Po) ws lv pc [] := by
  intro H locs ls hP hD hS hl
  have hlk := hc.2.2.2.2.2.2.1
  exact W.vret hc.1 hc.2.1 hc.2.2.1 (fun t ht hW => ⟨⟨ws, rfl, hPo, by rw [ht]; exact hP, hD⟩, hS.F ht⟩) hS.2.2 hdg hlk
theorem G_objInit (hc : Cx p s m args meth c D cI cS X A own cc nL ret) {idx a : Nat} (hw : Cond.methodLink own idx objectInit ∈ lw_g) (hw2 : Cond.instanceMethod objectInit ∈ lw_g ∧ Cond.code objectInit ⟨#[0xb1]⟩ 1 none ∈ lw_g) (hR : Nat.ble 1 R.frames = true ∧ Nat.ble 64 R.locals = true) (hrs : Nat.ble ((st.map fun v => v.category).sum) 8 = true) (hdg : decode cc pc = .ok (.invokespecial idx, 3)) (k : G p l e R s m args below meth c D A nL cells slots Q ws lv (pc + 3) st) : G p l e R s m args below meth c D A nL cells slots Q ws lv pc (.ref a :: st) :=
  fun H locs ls hP hD hS hl => W.objInit hc.1 hc.2.1 hc.2.2.2.2.1 (hc.2.2.2.2.2.1 _ hw) (hc.2.2.2.2.2.1 _ hw2.1) (hc.2.2.2.2.2.1 _ hw2.2) rfl (hl.1.trans hc.2.2.2.1.symm) rfl hdg (Nat.le_of_ble_eq_true hR.1) (by have h8 := Nat.le_of_ble_eq_true hrs; have h9 := Nat.le_of_ble_eq_true hR.2; show 2 * 0 + _ + 12 ≤ _; omega) (k H locs ls hP hD hS hl)
def NW (own : String) (index ci N : Nat) (fs : List Value) : Prop := ∃ (C : String) (T : u_T) (ty : Nat → FieldType), vwCl[ci]? = some (C, T, N) ∧ (∀ w ∈ u_ws C T N, w ∈ lw_g) ∧ (∀ k, k < N → parseFieldDescriptor (T k).2.2.1 = some (ty k)) ∧ Cond.classLink own index C ∈ lw_g ∧ Cond.instantiable C N ∈ lw_g ∧ Cond.initialized C ∈ lw_g ∧ (∀ j, j < N → defaultValue (ty j) = vp_V fs j)
theorem G_new (hc : Cx p s m args meth c D cI cS X A own cc nL ret) {index ci N : Nat} {fs : List Value} (hN : NW own index ci N fs) (h1 : Nat.ble (cells + 1) R.cells = true) (h2 : Nat.ble (slots + N) R.slots = true) (hdg : decode cc pc = .ok (.new index, 3)) {c' s' : Nat} (hc' : cells + 1 = c') (hs' : slots + N = s') (kk : ∀ q : Nat, G p l e R s m args below meth c D A nL c' s' Q (ws ++ [(q, .inr (ci, fs))]) lv (pc + 3) (.ref q :: st)) : G p l e R s m args below meth c D A nL cells slots Q ws lv pc st := by
  subst hc' hs'
  obtain ⟨C, T, ty, g1, g2, g3, g4, g5, g6, g7⟩ := hN
  exact fun H locs ls hP hD hS hl => va_new hc.1 hc.2.1 hc.2.2.2.2.2.1 g2 ty g3 hc.2.2.2.2.1 (hc.2.2.2.2.2.1 _ g4) (hc.2.2.2.2.2.1 _ g5) (hc.2.2.2.2.2.1 _ g6) hc.2.2.2.2.2.2.2.1.1 hP hD hS hc.2.2.2.2.2.2.2.2 g1 g7 (Nat.le_of_ble_eq_true h1) (Nat.le_of_ble_eq_true h2) hdg (fun q H1 hP1 hD1 hS1 => kk q H1 locs ls hP1 hD1 hS1 hl)
theorem G_newarr (hc : Cx p s m args meth c D cI cS X A own cc nL ret) (hw : Cond.arrayClass .int ∈ lw_g) {n : Int32} {N : Nat} (hn : ¬ n < 0) (hN : n.toNatClampNeg = N) (hb : Nat.ble (N * 4) 536870912 = true) (h1 : Nat.ble (cells + 1) R.cells = true) (h2 : Nat.ble (slots + N) R.slots = true) (hdg : decode cc pc = .ok (.newarray .int, 2)) {c' s' : Nat} (hc' : cells + 1 = c') (hs' : slots + N = s') (kk : ∀ q : Nat, G p l e R s m args below meth c D A nL c' s' Q (ws ++ [(q, .inl (cI, N, .inl zf))]) lv (pc + 2) (.ref q :: st)) : G p l e R s m args below meth c D A nL cells slots Q ws lv pc (.int n :: st) := by
  subst hc' hs'
  intro H locs ls hP hD hS hl
  refine va_newa (atype := .int) (ty := .int) (a0 := (N, .inl zf)) hc.1 hc.2.1 (hc.2.2.2.2.2.1 _ hw) rfl hc.2.2.2.2.2.2.2.1.1 hP hD hS hc.2.2.2.2.2.2.2.2 (fun cA => rfl) hn hN (Nat.le_of_ble_eq_true hb) (Nat.le_of_ble_eq_true h1) (Nat.le_of_ble_eq_true h2) hdg (fun q cA H1 hK1 hP1 hD1 hS1 => ?_)
  have e1 : s.vm.findClass ("[" ++ (FieldType.int).toString) = some cA := (hK1.2 2 (cA, .int) rfl).2
  have e2 : s.vm.findClass ("[" ++ (FieldType.int).toString) = some cI := (hc.2.2.2.2.2.2.2.1.1.2 0 (cI, .int) rfl).2
  have e3 : cA = cI := Option.some.inj (e1.symm.trans e2)
  subst e3
  exact kk q H1 locs ls hP1 hD1 hS1 hl
theorem G_newq (hc : Cx p s m args meth c D cI cS X A own cc nL ret) (hao : va_AO RX1 s) {index : Nat} (hw : Cond.classLink own index RX1 ∈ lw_g) {n : Int32} (hn : ¬ n < 0) (hN : n.toNatClampNeg = 4) (h1 : Nat.ble (cells + 1) R.cells = true) (h2 : Nat.ble (slots + 4) R.slots = true) (hdg : decode cc pc = .ok (.anewarray index, 3)) {c' s' : Nat} (hc' : cells + 1 = c') (hs' : slots + 4 = s') (kk : ∀ q : Nat, G p l e R s m args below meth c D A nL c' s' Q (ws ++ [(q, .inl (cS, 4, .inr (.inr (.inr (.inr zq)))))]) lv (pc + 3) (.ref q :: st)) : G p l e R s m args below meth c D A nL cells slots Q ws lv pc (.int n :: st) := by
  subst hc' hs'
  intro H locs ls hP hD hS hl
  refine va_newq (C := RX1) hc.1 hc.2.1 hc.2.2.2.2.1 (hc.2.2.2.2.2.1 _ hw) hao hc.2.2.2.2.2.2.2.1.1 hP hD hS hc.2.2.2.2.2.2.2.2 hn hN (by decide) (Nat.le_of_ble_eq_true h1) (Nat.le_of_ble_eq_true h2) hdg (fun q cA H1 hK1 hP1 hD1 hS1 => ?_)
  obtain ⟨_, _, _, _, _, e1⟩ := (hK1.2 2 (cA, .object RX1) rfl).2
  obtain ⟨_, _, _, _, _, e2⟩ := (hc.2.2.2.2.2.2.2.1.1.2 1 (cS, .object RX1) rfl).2
  have e3 : cA = cS := Option.some.inj (e1.symm.trans e2)
  subst e3
  exact kk q H1 locs ls hP1 hD1 hS1 hl
theorem G_putF (hc : Cx p s m args meth c D cI cS X A own cc nL ret) (hin : meth.name = "<init>") {index ci k a : Nat} {ty : FieldType} (hF : FA own index ci k) (hT : ∃ (C : String) (T : u_T) (N : Nat), vwCl[ci]? = some (C, T, N) ∧ (T k).2.2.2 = true ∧ (T k).1 = own ∧ parseFieldDescriptor (T k).2.2.1 = some ty) (q0 : Nat) {fs : List Value} {v : Value} (he : ws[q0]? = some (a, .inr (ci, fs))) (hn : narrow ty v = v) (hfit : fits ty v = true) (hk : Nat.ble (k + 1) fs.length = true) {ws' : va_W} (hw : ws.set q0 (a, .inr (ci, fs.set k v)) = ws') (hdg : decode cc pc = .ok (.putfield index, 3)) (kk : G p l e R s m args below meth c D A nL cells slots Q ws' lv (pc + 3) st) : G p l e R s m args below meth c D A nL cells slots Q ws lv pc (v :: .ref a :: st) := by
  obtain ⟨C, T, N, ty0, h1, h2, h3, h4, h5, h6⟩ := hF
  obtain ⟨C', T', N', g1, g2, g3, g4⟩ := hT
  have e := h1.symm.trans g1
  cases e
  subst hw
  exact fun H locs ls hP hD hS hl => va_putF hc.1 hc.2.1 hc.2.2.2.2.2.1 h2 ty0 h5 h6 hc.2.2.2.2.1 hc.2.2.2.2.2.2.2.1.1 hP hD hS q0 he h1 k h3 (hc.2.2.2.2.2.1 _ h4) (fun _ h => h) g2 hin g3 g4 hn hfit (Nat.le_of_ble_eq_true hk) hdg (fun H1 locs1 hP1 hD1 hS1 => kk H1 locs1 ls hP1 hD1 hS1 hl)
theorem G_qastU (hc : Cx p s m args meth c D cI cS X A own cc nL ret) (k : Nat) {a v : Nat} {vs : List Value} {f : Nat → Option Nat} {i : Int32} (q0 qk : Nat) (ha : ws[q0]? = some (a, .inl (cS, 4, .inr (.inr (.inr (.inr f)))))) (hv : ws[qk]? = some (v, .inr (1, vs))) (hin : vp_in i 4) (hi : i.toNatClampNeg = k) {ws' : va_W} (hw : ws.set q0 (a, .inl (cS, 4, .inr (.inr (.inr (.inr (va_up f k (some v))))))) = ws') (hdg : decode cc pc = .ok (.aastore, 1)) (kk : G p l e R s m args below meth c D A nL cells slots Q ws' lv (pc + 1) st) : G p l e R s m args below meth c D A nL cells slots Q ws lv pc (.ref v :: .int i :: .ref a :: st) :=
  G_qast k hc q0 qk ha hv hin hi rfl hw hdg kk
-- a call of a constructor
theorem CtPC.pre (hc : Cx p s m args meth c D cI cS X A own cc nL ret) (hao : va_AO RX1 s) {as : List Value} {wc : va_W} {isC : List Nat} {H : Heap} {locs : List Loc} (hP : va_P D vwCl ws H) (hD : va_D A ws) (hS : va_S A s.heap H locs) (hC : isC.map (fun i => ws[i]?) = wc.map some) (hn : va_nd isC = true) :
    FrameBlind (CtPC D cI cS X as wc H.size) ∧ ∀ U : State, U.heap = H → s.WarmedH U.vm → CtPC D cI cS X as wc H.size as.toArray U := by
  have h := CtP.pre hc (as := as) hP hD hS hC hn
  refine ⟨?_, ?_⟩
  · intro a U g mk hh
    obtain ⟨h1, h2, h3, h4, h5, h6⟩ := hh
    exact ⟨h1, h2, h3, KX.calling g mk a h4, h5, va_AO.moved (u := U) (U := U.calling g mk a) (Vm.Alike.refl U.vm) h6⟩
  · intro U hU hW
    obtain ⟨h1, h2, h3, h4, h5⟩ := h.2 U hU hW
    exact ⟨h1, h2, h3, h4, h5, hao.moved hW.alike⟩
def MI (own : String) (index : Nat) (y : MethodName) (b : ByteArray) (nL : Nat) : Prop := Cond.methodLink own index y ∈ lw_g ∧ Cond.instanceMethod y ∈ lw_g ∧ Cond.initialized y.cls ∈ lw_g ∧ Cond.code y b nL none ∈ lw_g ∧ (y.cls ≠ "java/lang/invoke/MethodHandle" ∧ y.cls ≠ "java/lang/invoke/VarHandle" ∧ (parseMethodDescriptor y.desc).map (fun d => d.parameters.length) = some 0) ∧ nL ≤ 45 ∧ y.name = "<init>"
def MIN (own : String) (index : Nat) (y : MethodName) (host : String) (b : ByteArray) (nL : Nat) : Prop := Cond.methodLinkNest own index y host ∈ nwl ∧ Cond.instanceMethod y ∈ lw_g ∧ Cond.initialized y.cls ∈ lw_g ∧ Cond.code y b nL none ∈ lw_g ∧ (y.cls ≠ "java/lang/invoke/MethodHandle" ∧ y.cls ≠ "java/lang/invoke/VarHandle" ∧ (parseMethodDescriptor y.desc).map (fun d => d.parameters.length) = some 0) ∧ nL ≤ 45 ∧ y.name = "<init>"
theorem rmc_call {R : Room} {k nL mc ms : Nat} (hR : RmOk R k) (hn : nL ≤ 45) : (rmc k mc ms).frames + 1 ≤ R.frames ∧ 8 + (nL + 11) + (rmc k mc ms).locals ≤ R.locals := ⟨hR.1, by have := hR.2; show 8 + (nL + 11) + 64 * k ≤ R.locals; omega⟩
theorem G_goC (hc : Cx p s m args meth c D cI cS X A own cc nL ret) {mc ms c' s' : Nat} {wc wr : va_W} {H : Heap} {locs : List Loc} {ls : Array Slot} {isC isR : List Nat} {st0 : List Value} {a : Array Value} {Po : va_W → Prop} (hP : va_P D vwCl ws H) (hD : va_D A ws) (hS : va_S A s.heap H locs) (hl : lv_has ls nL lv) (hC : isC.map (fun i => ws[i]?) = wc.map some) (hC2 : isR.map (fun i => ws[i]?) = wr.map some) (hn2 : va_nd isR = true) (hdis : ∀ i ∈ isR, i ∉ isC)
    (hr : va_Run p l e R s m args below meth c H locs cells slots mc ms (F0 m pc ls st0) st (va_Qv Po (fun (w : va_W) t => va_P D vwCl w t.heap ∧ va_D (va_A wc H.size) w) (va_A wc H.size) a) (va_A wc H.size)) (hc' : cells + mc = c') (hs' : slots + ms = s')
    (kk : ∀ w', Po w' → G p l e R s m args below meth c D A nL c' s' Q (wr ++ w') lv (pc + 3) st) : W p l e R s m args below meth c H locs cells slots Q (F0 m pc ls st0) := by
  subst hc' hs'
  have hF := va_free hD hS hc.2.2.2.2.2.2.2.2 isC hC
  refine va_callv hr hS (fun q _ h => hF q h) hF (fun w' t H1 locs1 ht hvm hp hB hz hk hS1 => ?_)
  rw [ht] at hB
  obtain ⟨hP', hD'⟩ := va_join hP hD isC isR hC hC2 hn2 hdis hk hF hB.1 hB.2
  exact kk w' hp H1 locs1 ls hP' hD' hS1 hl
theorem G_callC (hc : Cx p s m args meth c D cI cS X A own cc nL ret) (hao : va_AO RX1 s) {index k mL mc ms a c' s' : Nat} {y : MethodName} {b : ByteArray} {wc wr : va_W} {Po : va_W → Prop} (hM : MI own index y b mL) (hct : CtC l D cI cS X y b mL k mc ms [.ref a] wc Po) (isC isR : List Nat) (hR : RmOk R k) (hcl : Nat.ble (cells + mc) R.cells = true ∧ Nat.ble (slots + ms) R.slots = true) (hC : isC.map (fun i => ws[i]?) = wc.map some) (hn : va_nd isC = true) (hC2 : isR.map (fun i => ws[i]?) = wr.map some) (hn2 : va_nd isR = true) (hdis : ∀ i ∈ isR, i ∉ isC) (hrs : Nat.ble ((st.map fun v => v.category).sum) 8 = true) (hdg : decode cc pc = .ok (.invokespecial index, 3)) (hc' : cells + mc = c') (hs' : slots + ms = s')
    (kk : ∀ w', Po w' → G p l e R s m args below meth c D A nL c' s' Q (wr ++ w') lv (pc + 3) st) : G p l e R s m args below meth c D A nL cells slots Q ws lv pc (.ref a :: st) :=
  fun H _ _ hP hD hS hl => G_goC hc hP hD hS hl hC hC2 hn2 hdis (va_runI (As := []) ⟨hc.1, hc.2.1, hc.2.2.2.1, hc.2.2.2.2.1, hc.2.2.2.2.2.1⟩ (hct H.size) (cwI 0 hc.2.2.2.2.2.1 (lw_g_good hM.2.2.2.1) rfl rfl rfl (hc.2.2.2.2.2.1 _ hM.2.2.1) (hc.2.2.2.2.2.1 _ hM.1) (hc.2.2.2.2.2.1 _ hM.2.1) hM.2.2.2.2.2.2 hM.2.2.2.2.1 (rmc_call hR hM.2.2.2.2.2.1)) (CtPC.pre hc hao hP hD hS hC hn) rfl rfl hl.1 rfl (lv_room (Nat.le_of_ble_eq_true hrs)) hdg ⟨Nat.le_of_ble_eq_true hcl.1, Nat.le_of_ble_eq_true hcl.2⟩) hc' hs' kk
theorem G_callCN (hc : Cx p s m args meth c D cI cS X A own cc nL ret) (hao : va_AO RX1 s) {index k mL mc ms a c' s' : Nat} {y : MethodName} {host : String} {b : ByteArray} {wc wr : va_W} {Po : va_W → Prop} (hM : MIN own index y host b mL) (hct : CtC l D cI cS X y b mL k mc ms [.ref a] wc Po) (isC isR : List Nat) (hR : RmOk R k) (hcl : Nat.ble (cells + mc) R.cells = true ∧ Nat.ble (slots + ms) R.slots = true) (hC : isC.map (fun i => ws[i]?) = wc.map some) (hn : va_nd isC = true) (hC2 : isR.map (fun i => ws[i]?) = wr.map some) (hn2 : va_nd isR = true) (hdis : ∀ i ∈ isR, i ∉ isC) (hrs : Nat.ble ((st.map fun v => v.category).sum) 8 = true) (hdg : decode cc pc = .ok (.invokespecial index, 3)) (hc' : cells + mc = c') (hs' : slots + ms = s')
    (kk : ∀ w', Po w' → G p l e R s m args below meth c D A nL c' s' Q (wr ++ w') lv (pc + 3) st) : G p l e R s m args below meth c D A nL cells slots Q ws lv pc (.ref a :: st) :=
  fun H _ _ hP hD hS hl => G_goC hc hP hD hS hl hC hC2 hn2 hdis (va_runIN (As := []) ⟨hc.1, hc.2.1, hc.2.2.2.1, hc.2.2.2.2.1, hc.2.2.2.2.2.1⟩ (hct H.size) ⟨va_cnB 0 hc.2.2.2.2.2.1 (lw_g_good hM.2.2.2.1) rfl rfl rfl (hc.2.2.2.2.2.2.2.1.2.1 _ hM.1) (hc.2.2.2.2.2.1 _ hM.2.2.1) hM.2.2.2.2.1 (rmc_call hR hM.2.2.2.2.2.1), hM.2.2.2.2.2.2, hc.2.2.2.2.2.1 _ hM.2.1⟩ (CtPC.pre hc hao hP hD hS hC hn) rfl rfl hl.1 rfl (lv_room (Nat.le_of_ble_eq_true hrs)) hdg ⟨Nat.le_of_ble_eq_true hcl.1, Nat.le_of_ble_eq_true hcl.2⟩) hc' hs' kk
end GC
