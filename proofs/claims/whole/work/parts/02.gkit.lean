/-! the abstract walk: G is W over a world of cells, locals and a stack; one row an instruction -/
def lget : List (Nat × Value) → Nat → Option Value
  | [], _ => none
  | q :: l, i => cond (Nat.beq q.1 i) (some q.2) (lget l i)
def lkeep (i : Nat) (q : Nat × Value) : Bool := !(q.1 == i) && !(q.1 + 1 == i && q.2.category == 2)
def lput : List (Nat × Value) → Nat → Value → List (Nat × Value)
  | [], i, v => [(i, v)]
  | q :: l, i, v => cond (Nat.beq q.1 i) ((i, v) :: l.filter (lkeep i)) (cond (lkeep i q) (q :: lput l i v) (lput l i v))
theorem lget_mem : ∀ {l : List (Nat × Value)} {i : Nat} {v : Value}, lget l i = some v → (i, v) ∈ l
  | [], _, _, h => by cases h
  | q :: l, i, v, h => by
    unfold lget at h
    cases hb : Nat.beq q.1 i with
    | true =>
      rw [hb] at h
      have h1 : q.1 = i := Nat.eq_of_beq_eq_true hb
      have h2 : q.2 = v := Option.some.inj h
      rw [← h1, ← h2]
      exact List.mem_cons_self
    | false =>
      rw [hb] at h
      exact List.mem_cons_of_mem _ (lget_mem h)
theorem lget_at {ls : Array Slot} {n : Nat} {l : List (Nat × Value)} (hl : lv_has ls n l) {i : Nat} {v : Value} (h : lget l i = some v) : ls[i]? = some (.val v) := hl.2.2 _ (lget_mem h)
theorem lput_mem : ∀ {l : List (Nat × Value)} {i : Nat} {v : Value} {q : Nat × Value}, q ∈ lput l i v → q ∈ (i, v) :: l.filter (lkeep i)
  | [], _, _, _, h => h
  | r :: l, i, v, q, h => by
    unfold lput at h
    cases hb : Nat.beq r.1 i with
    | true =>
      rw [hb] at h
      rcases List.mem_cons.mp h with h | h
      · exact List.mem_cons.mpr (Or.inl h)
      · refine List.mem_cons_of_mem _ ?_
        exact List.mem_filter.mpr ⟨List.mem_cons_of_mem _ (List.mem_filter.mp h).1, (List.mem_filter.mp h).2⟩
    | false =>
      rw [hb] at h
      have step : ∀ {x : Nat × Value}, x ∈ lput l i v → x ∈ (i, v) :: (r :: l).filter (lkeep i) := by
        intro x hx
        rcases List.mem_cons.mp (lput_mem hx) with h1 | h1
        · exact List.mem_cons.mpr (Or.inl h1)
        · refine List.mem_cons_of_mem _ ?_
          exact List.mem_filter.mpr ⟨List.mem_cons_of_mem _ (List.mem_filter.mp h1).1, (List.mem_filter.mp h1).2⟩
      cases hk : lkeep i r with
      | true =>
        rw [hk] at h
        rcases List.mem_cons.mp h with h1 | h1
        · refine List.mem_cons_of_mem _ ?_
          rw [h1]
          exact List.mem_filter.mpr ⟨List.mem_cons_self, hk⟩
        · exact step h1
      | false =>
        rw [hk] at h
        exact step h
theorem lv_mono {ls : Array Slot} {n : Nat} {l l' : List (Nat × Value)} (hl : lv_has ls n l) (h : ∀ q ∈ l', q ∈ l) : lv_has ls n l' := ⟨hl.1, hl.2.1, fun q hq => hl.2.2 q (h q hq)⟩
theorem lput_has {ls : Array Slot} {n i : Nat} {v : Value} {l : List (Nat × Value)} (hl : lv_has ls n ((i, v) :: l.filter (fun q => !(q.1 == i) && !(q.1 + 1 == i && q.2.category == 2)))) : lv_has ls n (lput l i v) := lv_mono hl (fun _ hq => lput_mem hq)
def lsame (l l' : List (Nat × Value)) : Prop := ∀ q ∈ l', lget l q.1 = some q.2
theorem lsame_nil {l : List (Nat × Value)} : lsame l [] := fun _ h => by cases h
theorem lsame_cons {l l' : List (Nat × Value)} {i : Nat} {v : Value} (h : lget l i = some v) (h' : lsame l l') : lsame l ((i, v) :: l') := by
  intro q hq
  rcases List.mem_cons.mp hq with rfl | h1
  · exact h
  · exact h' q h1
-- extras: what the statement gives of statics and texts
def nwl : List Cond := [(Jvm.Cond.methodLinkNest "PairShuffles$State" (22 : Nat) ({ cls := "PairShuffles", name := "withCode", desc := "(IIII)I" } : Jvm.MethodName) "PairShuffles"), (Jvm.Cond.methodLinkNest "PairShuffles" (22 : Nat) ({ cls := "PairShuffles$Text", name := "<init>", desc := "()V" } : Jvm.MethodName) "PairShuffles"), (Jvm.Cond.methodLinkNest "PairShuffles" (29 : Nat) ({ cls := "PairShuffles$Trial", name := "<init>", desc := "()V" } : Jvm.MethodName) "PairShuffles"), (Jvm.Cond.methodLinkNest "PairShuffles" (36 : Nat) ({ cls := "PairShuffles$Ways", name := "<init>", desc := "()V" } : Jvm.MethodName) "PairShuffles"), (Jvm.Cond.methodLinkNest "PairShuffles" (43 : Nat) ({ cls := "PairShuffles$Measure", name := "<init>", desc := "()V" } : Jvm.MethodName) "PairShuffles"), (Jvm.Cond.methodLinkNest "PairShuffles$Ways" (28 : Nat) ({ cls := "PairShuffles", name := "keepsPairs", desc := "(I)Z" } : Jvm.MethodName) "PairShuffles"), (Jvm.Cond.methodLinkNest "PairShuffles$Ways" (36 : Nat) ({ cls := "PairShuffles", name := "keepsCodes", desc := "(I)Z" } : Jvm.MethodName) "PairShuffles"), (Jvm.Cond.methodLinkNest "PairShuffles$Ways" (64 : Nat) ({ cls := "PairShuffles", name := "lengthOf", desc := "(I)I" } : Jvm.MethodName) "PairShuffles"), (Jvm.Cond.methodLinkNest "PairShuffles$Ways" (83 : Nat) ({ cls := "PairShuffles", name := "wordCode", desc := "(III)I" } : Jvm.MethodName) "PairShuffles"), (Jvm.Cond.methodLinkNest "PairShuffles$Ways" (87 : Nat) ({ cls := "PairShuffles", name := "longer", desc := "(II)I" } : Jvm.MethodName) "PairShuffles"), (Jvm.Cond.methodLinkNest "PairShuffles$Ways" (102 : Nat) ({ cls := "PairShuffles", name := "letterOf", desc := "(II)I" } : Jvm.MethodName) "PairShuffles"), (Jvm.Cond.methodLinkNest "PairShuffles$Ways" (129 : Nat) ({ cls := "PairShuffles", name := "codeIn", desc := "(III)I" } : Jvm.MethodName) "PairShuffles"), (Jvm.Cond.methodLinkNest "PairShuffles$Measure" (31 : Nat) ({ cls := "PairShuffles", name := "letterOf", desc := "(II)I" } : Jvm.MethodName) "PairShuffles"), (Jvm.Cond.methodLinkNest "PairShuffles$Measure" (35 : Nat) ({ cls := "PairShuffles", name := "codeIn", desc := "(III)I" } : Jvm.MethodName) "PairShuffles"), (Jvm.Cond.methodLinkNest "PairShuffles$Measure" (39 : Nat) ({ cls := "PairShuffles", name := "lengthOf", desc := "(I)I" } : Jvm.MethodName) "PairShuffles"), (Jvm.Cond.methodLinkNest "PairShuffles$Text" (85 : Nat) ({ cls := "PairShuffles", name := "longer", desc := "(II)I" } : Jvm.MethodName) "PairShuffles"), (Jvm.Cond.methodLinkNest "PairShuffles$Trial" (65 : Nat) ({ cls := "PairShuffles", name := "turned", desc := "(I)I" } : Jvm.MethodName) "PairShuffles")]
def ko_f (j : Nat) : Int32 := [2, 1, 3, 0].getD j 0
def sx_len : List Nat := [3, 4, 4, 5, 4]
def sx_byt : List (List Int32) := [[114, 111, 119], [116, 117, 114, 110], [110, 101, 120, 116], [112, 108, 97, 99, 101], [107, 101, 101, 112]]
def sx_f (i j : Nat) : Int32 := (sx_byt.getD i []).getD j 0
abbrev XP : Type := Nat × (Nat → Nat) × (Nat → Nat)
def EX (X : XP) (A : Nat → Prop) (U : State) (H : Heap) : Prop :=
  va_Z "PairShuffles" "KINSHIP_ORDER" "[I" (.ref X.1) A U H ∧ va_T .int X.1 4 (fun j => .int (ko_f j)) A U H ∧ va_Z "java/lang/String" "COMPACT_STRINGS" "Z" (.int 1) A U H ∧ va_Zq "jdk/internal/util/Preconditions" "SIOOBE_FORMATTER" "Ljava/util/function/BiFunction;" A U H ∧ vk_S 5 sx_len sx_byt X.2.1 X.2.2 A U H
def ER (X : XP) (U : State) : Prop := vk_R RX2 64 "row" (X.2.1 0) U ∧ vk_R RX2 69 "turn" (X.2.1 1) U ∧ vk_R RX2 71 "next" (X.2.1 2) U ∧ vk_R RX2 73 "place" (X.2.1 3) U ∧ vk_R RX2 75 "keep" (X.2.1 4) U
theorem EX.pass {X : XP} {A B : Nat → Prop} {u U : State} {H H1 : Heap} (h : EX X A u H) (hvm : u.vm.Alike U.vm) (hq : ∀ a : Nat, a < H.size → ¬ A a → H1[a]? = H[a]?) (hAB : ∀ q, B q → A q) : EX X B U H1 :=
  ⟨((va_Z.moved hvm h.1).kept hq).narrow hAB, ((va_T.moved hvm h.2.1).kept hq).narrow hAB, ((va_Z.moved hvm h.2.2.1).kept hq).narrow hAB, ((va_Zq.moved hvm h.2.2.2.1).kept hq).narrow hAB, ((vk_S.moved hvm h.2.2.2.2).kept hq).narrow hAB⟩
theorem ER.warm {X : XP} {s U : State} (hW : s.WarmedH U.vm) (h : ER X s) : ER X U := ⟨vk_R.warm hW h.1, vk_R.warm hW h.2.1, vk_R.warm hW h.2.2.1, vk_R.warm hW h.2.2.2.1, vk_R.warm hW h.2.2.2.2⟩
theorem ER.same {X : XP} {s U : State} (hv : U.vm = s.vm) (h : ER X s) : ER X U := ⟨vk_R.same hv h.1, vk_R.same hv h.2.1, vk_R.same hv h.2.2.1, vk_R.same hv h.2.2.2.1, vk_R.same hv h.2.2.2.2⟩
def KX (D : va_G) (cI cS : ClassId) (X : XP) (A : Nat → Prop) (U : State) (H : Heap) : Prop :=
  va_K D vwCl [(cI, .int), (cS, .object RX1)] U ∧ (∀ w ∈ nwl, va_Nw w U) ∧ EX X A U H ∧ ER X U
theorem nwl_warm {s U : State} (hW : s.WarmedH U.vm) (h : ∀ w ∈ nwl, va_Nw w s) : ∀ w ∈ nwl, va_Nw w U := by
  intro w hw
  have h1 := h w hw
  simp only [nwl, List.mem_cons, List.not_mem_nil, or_false] at hw
  rcases hw with rfl | rfl | rfl | rfl | rfl | rfl | rfl | rfl | rfl | rfl | rfl | rfl | rfl | rfl | rfl | rfl | rfl <;> exact va_Nw.warmM hW h1
theorem nwl_same {s U : State} (hv : s.vm = U.vm) (h : ∀ w ∈ nwl, va_Nw w s) : ∀ w ∈ nwl, va_Nw w U := by
  intro w hw
  have h1 := h w hw
  simp only [nwl, List.mem_cons, List.not_mem_nil, or_false] at hw
  rcases hw with rfl | rfl | rfl | rfl | rfl | rfl | rfl | rfl | rfl | rfl | rfl | rfl | rfl | rfl | rfl | rfl | rfl <;> exact va_Nw.same rfl hv h1
theorem KX.pass {D : va_G} {cI cS : ClassId} {X : XP} {A B : Nat → Prop} {s U : State} {H H1 : Heap} (h : KX D cI cS X A s H) (hW : s.WarmedH U.vm) (hq : ∀ a : Nat, a < H.size → ¬ A a → H1[a]? = H[a]?) (hAB : ∀ q, B q → A q) : KX D cI cS X B U H1 :=
  ⟨va_K.moved hW.alike h.1, nwl_warm hW h.2.1, h.2.2.1.pass hW.alike hq hAB, h.2.2.2.warm hW⟩
theorem KX.calling {D : va_G} {cI cS : ClassId} {X : XP} {A : Nat → Prop} {U : State} {H : Heap} (g : JFrame) (mk : MethodId) (a : Array Value) (h : KX D cI cS X A U H) : KX D cI cS X A (U.calling g mk a) H :=
  ⟨va_K.moved (u := U) (U := U.calling g mk a) (Vm.Alike.refl U.vm) h.1, nwl_same (s := U) (U := U.calling g mk a) rfl h.2.1, h.2.2.1.pass (Vm.Alike.refl U.vm) (fun _ _ _ => rfl) (fun _ h => h), h.2.2.2.same rfl⟩
-- the walk's fixed facts
def Cx (p : Program) (s : State) (m : MethodId) (args : Array Value) (meth : Method) (c : Code) (D : va_G) (cI cS : ClassId) (X : XP) (A : Nat → Prop) (own : String) (cc : ByteArray) (nL : Nat) (ret : Option FieldType) : Prop :=
  p.tables.exec = Jvm.exec ∧ c.code = cc ∧ meth.sig.returnType = ret ∧ c.maxLocals = nL ∧ s.vm.findClass own = some m.cls ∧ (∀ w ∈ lw_g, w.before args s = true) ∧ meth.locks = false ∧ KX D cI cS X A s s.heap ∧ (∀ q, s.heap.size ≤ q → A q)
def G (p : Program) (l : Launch) (e : Env) (R : Room) (s : State) (m : MethodId) (args : Array Value) (below : List Frame) (meth : Method) (c : Code) (D : va_G) (A : Nat → Prop) (nL cells slots : Nat) (Q : State → Prop) (ws : va_W) (lv : List (Nat × Value)) (pc : Nat) (st : List Value) : Prop :=
  ∀ (H : Heap) (locs : List Loc) (ls : Array Slot), va_P D vwCl ws H → va_D A ws → va_S A s.heap H locs → lv_has ls nL lv → W p l e R s m args below meth c H locs cells slots Q (F0 m pc ls st)
section GROWS
variable {p : Program} {l : Launch} {e : Env} {R : Room} {s : State} {m : MethodId} {args : Array Value} {below : List Frame} {meth : Method} {c : Code} {D : va_G} {cI cS : ClassId} {X : XP} {A : Nat → Prop} {own : String} {cc : ByteArray} {nL cells slots : Nat} {ret : Option FieldType} {Q : State → Prop} {ws : va_W} {lv : List (Nat × Value)} {pc : Nat} {st : List Value}
theorem G_lv {lv' : List (Nat × Value)} (h : lsame lv lv') (k : G p l e R s m args below meth c D A nL cells slots Q ws lv' pc st) : G p l e R s m args below meth c D A nL cells slots Q ws lv pc st :=
  fun H locs ls hP hD hS hl => k H locs ls hP hD hS (lv_mono hl (fun q hq => lget_mem (h q hq)))
theorem G_ws {ws' : va_W} (h : ws = ws') (k : G p l e R s m args below meth c D A nL cells slots Q ws' lv pc st) : G p l e R s m args below meth c D A nL cells slots Q ws lv pc st := h ▸ k
theorem G_top {x y : Int32} (h : y = x) (k : G p l e R s m args below meth c D A nL cells slots Q ws lv pc (.int y :: st)) : G p l e R s m args below meth c D A nL cells slots Q ws lv pc (.int x :: st) := h ▸ k
theorem G_st {st' : List Value} (h : st = st') (k : G p l e R s m args below meth c D A nL cells slots Q ws lv pc st') : G p l e R s m args below meth c D A nL cells slots Q ws lv pc st := h ▸ k
theorem G_iconst (hc : Cx p s m args meth c D cI cS X A own cc nL ret) {n : Int} {v : Int32} (hdg : decode cc pc = .ok (.iconst n, 1)) (hv : Int32.ofInt n = v) (k : G p l e R s m args below meth c D A nL cells slots Q ws lv (pc + 1) (.int v :: st)) : G p l e R s m args below meth c D A nL cells slots Q ws lv pc st :=
  fun H locs ls hP hD hS hl => lv_iconst hc.1 hc.2.1 hdg hv (k H locs ls hP hD hS hl)
theorem G_bipush (hc : Cx p s m args meth c D cI cS X A own cc nL ret) {n : Int} {v : Int32} (hdg : decode cc pc = .ok (.bipush n, 2)) (hv : (Int8.ofInt n).toInt32 = v) (k : G p l e R s m args below meth c D A nL cells slots Q ws lv (pc + 2) (.int v :: st)) : G p l e R s m args below meth c D A nL cells slots Q ws lv pc st :=
  fun H locs ls hP hD hS hl => lv_bipush hc.1 hc.2.1 hdg hv (k H locs ls hP hD hS hl)
theorem G_sipush (hc : Cx p s m args meth c D cI cS X A own cc nL ret) {n : Int} {v : Int32} (hdg : decode cc pc = .ok (.sipush n, 3)) (hv : (Int16.ofInt n).toInt32 = v) (k : G p l e R s m args below meth c D A nL cells slots Q ws lv (pc + 3) (.int v :: st)) : G p l e R s m args below meth c D A nL cells slots Q ws lv pc st :=
  fun H locs ls hP hD hS hl => lv_sipush hc.1 hc.2.1 hdg hv (k H locs ls hP hD hS hl)
theorem G_ldc (hc : Cx p s m args meth c D cI cS X A own cc nL ret) {index : Nat} {v : Int32} (hw : Cond.constant own index v ∈ lw_g) (hdg : decode cc pc = .ok (.ldc index, 2)) (k : G p l e R s m args below meth c D A nL cells slots Q ws lv (pc + 2) (.int v :: st)) : G p l e R s m args below meth c D A nL cells slots Q ws lv pc st :=
  fun H locs ls hP hD hS hl => lv_ldc hc.1 hc.2.1 hc.2.2.2.2.1 (hc.2.2.2.2.2.1 _ hw) hdg (k H locs ls hP hD hS hl)
theorem G_iload_n (hc : Cx p s m args meth c D cI cS X A own cc nL ret) {k : Fin 4} {x : Int32} (hdg : decode cc pc = .ok (.iload_n k, 1)) (h : lget lv k = some (.int x)) (kk : G p l e R s m args below meth c D A nL cells slots Q ws lv (pc + 1) (.int x :: st)) : G p l e R s m args below meth c D A nL cells slots Q ws lv pc st :=
  fun H locs ls hP hD hS hl => lv_iload_n hc.1 hc.2.1 hdg rfl (lget_at hl h) (kk H locs ls hP hD hS hl)
theorem G_iload (hc : Cx p s m args meth c D cI cS X A own cc nL ret) {i : Nat} {x : Int32} (hdg : decode cc pc = .ok (.iload i, 2)) (h : lget lv i = some (.int x)) (kk : G p l e R s m args below meth c D A nL cells slots Q ws lv (pc + 2) (.int x :: st)) : G p l e R s m args below meth c D A nL cells slots Q ws lv pc st :=
  fun H locs ls hP hD hS hl => lv_iload hc.1 hc.2.1 hdg (lget_at hl h) (kk H locs ls hP hD hS hl)
theorem G_aload_n (hc : Cx p s m args meth c D cI cS X A own cc nL ret) {k : Fin 4} {x : Nat} (hdg : decode cc pc = .ok (.aload_n k, 1)) (h : lget lv k = some (.ref x)) (kk : G p l e R s m args below meth c D A nL cells slots Q ws lv (pc + 1) (.ref x :: st)) : G p l e R s m args below meth c D A nL cells slots Q ws lv pc st :=
  fun H locs ls hP hD hS hl => lv_aload_n hc.1 hc.2.1 hdg rfl (lget_at hl h) (kk H locs ls hP hD hS hl)
theorem G_aload (hc : Cx p s m args meth c D cI cS X A own cc nL ret) {i : Nat} {x : Nat} (hdg : decode cc pc = .ok (.aload i, 2)) (h : lget lv i = some (.ref x)) (kk : G p l e R s m args below meth c D A nL cells slots Q ws lv (pc + 2) (.ref x :: st)) : G p l e R s m args below meth c D A nL cells slots Q ws lv pc st :=
  fun H locs ls hP hD hS hl => lv_aload hc.1 hc.2.1 hdg (lget_at hl h) (kk H locs ls hP hD hS hl)
theorem G_istore_n (hc : Cx p s m args meth c D cI cS X A own cc nL ret) {k : Fin 4} {x : Int32} (hdg : decode cc pc = .ok (.istore_n k, 1)) (hn : Nat.ble ((k : Nat) + 1) nL = true) {lv' : List (Nat × Value)} (h : lput lv k (.int x) = lv') (kk : G p l e R s m args below meth c D A nL cells slots Q ws lv' (pc + 1) st) : G p l e R s m args below meth c D A nL cells slots Q ws lv pc (.int x :: st) :=
  fun H locs ls hP hD hS hl => lv_istore_n hc.1 hc.2.1 hdg rfl hl (Nat.le_of_ble_eq_true hn) rfl (fun ls' hl' => kk H locs ls' hP hD hS (h ▸ lput_has hl'))
theorem G_istore (hc : Cx p s m args meth c D cI cS X A own cc nL ret) {i : Nat} {x : Int32} (hdg : decode cc pc = .ok (.istore i, 2)) (hn : Nat.ble (i + 1) nL = true) {lv' : List (Nat × Value)} (h : lput lv i (.int x) = lv') (kk : G p l e R s m args below meth c D A nL cells slots Q ws lv' (pc + 2) st) : G p l e R s m args below meth c D A nL cells slots Q ws lv pc (.int x :: st) :=
  fun H locs ls hP hD hS hl => lv_istore hc.1 hc.2.1 hdg hl (Nat.le_of_ble_eq_true hn) rfl (fun ls' hl' => kk H locs ls' hP hD hS (h ▸ lput_has hl'))
theorem G_astore_n (hc : Cx p s m args meth c D cI cS X A own cc nL ret) {k : Fin 4} {x : Nat} (hdg : decode cc pc = .ok (.astore_n k, 1)) (hn : Nat.ble ((k : Nat) + 1) nL = true) {lv' : List (Nat × Value)} (h : lput lv k (.ref x) = lv') (kk : G p l e R s m args below meth c D A nL cells slots Q ws lv' (pc + 1) st) : G p l e R s m args below meth c D A nL cells slots Q ws lv pc (.ref x :: st) :=
  fun H locs ls hP hD hS hl => lv_astore_n hc.1 hc.2.1 hdg rfl hl (Nat.le_of_ble_eq_true hn) rfl (fun ls' hl' => kk H locs ls' hP hD hS (h ▸ lput_has hl'))
theorem lget_place {l : List (Nat × Value)} {i : Nat} {v : Value} (h : lget l i = some v) : ∃ k : Nat, l[k]? = some (i, v) := List.getElem?_of_mem (lget_mem h)
theorem G_iinc (hc : Cx p s m args meth c D cI cS X A own cc nL ret) {i : Nat} {n : Int} {x v : Int32} (hdg : decode cc pc = .ok (.iinc i n, 3)) (h0 : lget lv i = some (.int x)) (hv : v = x + Int32.ofInt n) (hn : Nat.ble (i + 1) nL = true) {lv' : List (Nat × Value)} (h : lput lv i (.int v) = lv') (kk : G p l e R s m args below meth c D A nL cells slots Q ws lv' (pc + 3) st) : G p l e R s m args below meth c D A nL cells slots Q ws lv pc st := by
  intro H locs ls hP hD hS hl
  obtain ⟨k, hk⟩ := lget_place h0
  exact lv_iinc hc.1 hc.2.1 hdg hl hk hv.symm (Nat.le_of_ble_eq_true hn) rfl (fun ls' hl' => kk H locs ls' hP hD hS (h ▸ lput_has hl'))
theorem G_iadd (hc : Cx p s m args meth c D cI cS X A own cc nL ret) {x y : Int32} (hdg : decode cc pc = .ok (.iadd, 1)) (k : G p l e R s m args below meth c D A nL cells slots Q ws lv (pc + 1) (.int (x + y) :: st)) : G p l e R s m args below meth c D A nL cells slots Q ws lv pc (.int y :: .int x :: st) :=
  fun H locs ls hP hD hS hl => lv_iadd hc.1 hc.2.1 hdg (k H locs ls hP hD hS hl)
theorem G_isub (hc : Cx p s m args meth c D cI cS X A own cc nL ret) {x y : Int32} (hdg : decode cc pc = .ok (.isub, 1)) (k : G p l e R s m args below meth c D A nL cells slots Q ws lv (pc + 1) (.int (x - y) :: st)) : G p l e R s m args below meth c D A nL cells slots Q ws lv pc (.int y :: .int x :: st) :=
  fun H locs ls hP hD hS hl => lv_isub hc.1 hc.2.1 hdg (k H locs ls hP hD hS hl)
theorem G_imul (hc : Cx p s m args meth c D cI cS X A own cc nL ret) {x y : Int32} (hdg : decode cc pc = .ok (.imul, 1)) (k : G p l e R s m args below meth c D A nL cells slots Q ws lv (pc + 1) (.int (x * y) :: st)) : G p l e R s m args below meth c D A nL cells slots Q ws lv pc (.int y :: .int x :: st) :=
  fun H locs ls hP hD hS hl => lv_imul hc.1 hc.2.1 hdg (k H locs ls hP hD hS hl)
theorem G_iand (hc : Cx p s m args meth c D cI cS X A own cc nL ret) {x y : Int32} (hdg : decode cc pc = .ok (.iand, 1)) (k : G p l e R s m args below meth c D A nL cells slots Q ws lv (pc + 1) (.int (x &&& y) :: st)) : G p l e R s m args below meth c D A nL cells slots Q ws lv pc (.int y :: .int x :: st) :=
  fun H locs ls hP hD hS hl => lv_iand hc.1 hc.2.1 hdg (k H locs ls hP hD hS hl)
theorem G_ior (hc : Cx p s m args meth c D cI cS X A own cc nL ret) {x y : Int32} (hdg : decode cc pc = .ok (.ior, 1)) (k : G p l e R s m args below meth c D A nL cells slots Q ws lv (pc + 1) (.int (x ||| y) :: st)) : G p l e R s m args below meth c D A nL cells slots Q ws lv pc (.int y :: .int x :: st) :=
  fun H locs ls hP hD hS hl => lv_ior hc.1 hc.2.1 hdg (k H locs ls hP hD hS hl)
theorem G_ixor (hc : Cx p s m args meth c D cI cS X A own cc nL ret) {x y : Int32} (hdg : decode cc pc = .ok (.ixor, 1)) (k : G p l e R s m args below meth c D A nL cells slots Q ws lv (pc + 1) (.int (x ^^^ y) :: st)) : G p l e R s m args below meth c D A nL cells slots Q ws lv pc (.int y :: .int x :: st) :=
  fun H locs ls hP hD hS hl => lv_ixor hc.1 hc.2.1 hdg (k H locs ls hP hD hS hl)
theorem G_ishl (hc : Cx p s m args meth c D cI cS X A own cc nL ret) {x y : Int32} (hdg : decode cc pc = .ok (.ishl, 1)) (k : G p l e R s m args below meth c D A nL cells slots Q ws lv (pc + 1) (.int (x <<< (y &&& 31)) :: st)) : G p l e R s m args below meth c D A nL cells slots Q ws lv pc (.int y :: .int x :: st) :=
  fun H locs ls hP hD hS hl => lv_ishl hc.1 hc.2.1 hdg (k H locs ls hP hD hS hl)
def ushr (x y : Int32) : Int32 := (x.toUInt32 >>> (y.toUInt32 &&& Int32.toUInt32 31)).toInt32
def irem (x y : Int32) : Int32 := x - x / y * y
theorem G_iushr (hc : Cx p s m args meth c D cI cS X A own cc nL ret) {x y : Int32} (hdg : decode cc pc = .ok (.iushr, 1)) (k : G p l e R s m args below meth c D A nL cells slots Q ws lv (pc + 1) (.int (ushr x y) :: st)) : G p l e R s m args below meth c D A nL cells slots Q ws lv pc (.int y :: .int x :: st) :=
  fun H locs ls hP hD hS hl => lv_iushr hc.1 hc.2.1 hdg rfl (k H locs ls hP hD hS hl)
theorem G_idiv (hc : Cx p s m args meth c D cI cS X A own cc nL ret) {x y : Int32} (hdg : decode cc pc = .ok (.idiv, 1)) (hne : ¬ y = 0) (k : G p l e R s m args below meth c D A nL cells slots Q ws lv (pc + 1) (.int (x / y) :: st)) : G p l e R s m args below meth c D A nL cells slots Q ws lv pc (.int y :: .int x :: st) :=
  fun H locs ls hP hD hS hl => lv_idiv hc.1 hc.2.1 hdg hne (k H locs ls hP hD hS hl)
theorem G_irem (hc : Cx p s m args meth c D cI cS X A own cc nL ret) {x y : Int32} (hdg : decode cc pc = .ok (.irem, 1)) (hne : ¬ y = 0) (k : G p l e R s m args below meth c D A nL cells slots Q ws lv (pc + 1) (.int (irem x y) :: st)) : G p l e R s m args below meth c D A nL cells slots Q ws lv pc (.int y :: .int x :: st) :=
  fun H locs ls hP hD hS hl => lv_irem hc.1 hc.2.1 hdg hne (k H locs ls hP hD hS hl)
theorem G_dup (hc : Cx p s m args meth c D cI cS X A own cc nL ret) {v : Value} (hdg : decode cc pc = .ok (.dup, 1)) (hv : v.category = 1) (k : G p l e R s m args below meth c D A nL cells slots Q ws lv (pc + 1) (v :: v :: st)) : G p l e R s m args below meth c D A nL cells slots Q ws lv pc (v :: st) :=
  fun H locs ls hP hD hS hl => lv_dup hc.1 hc.2.1 hdg hv (k H locs ls hP hD hS hl)
theorem G_dup2 (hc : Cx p s m args meth c D cI cS X A own cc nL ret) {v w : Value} (hdg : decode cc pc = .ok (.dup2, 1)) (hv : v.category = 1) (hw : w.category = 1) (k : G p l e R s m args below meth c D A nL cells slots Q ws lv (pc + 1) (v :: w :: v :: w :: st)) : G p l e R s m args below meth c D A nL cells slots Q ws lv pc (v :: w :: st) :=
  fun H locs ls hP hD hS hl => lv_dup2_11 hc.1 hc.2.1 hdg hv hw (k H locs ls hP hD hS hl)
theorem G_pop (hc : Cx p s m args meth c D cI cS X A own cc nL ret) {v : Value} (hdg : decode cc pc = .ok (.pop, 1)) (hv : v.category = 1) (k : G p l e R s m args below meth c D A nL cells slots Q ws lv (pc + 1) st) : G p l e R s m args below meth c D A nL cells slots Q ws lv pc (v :: st) :=
  fun H locs ls hP hD hS hl => lv_pop hc.1 hc.2.1 hdg hv (k H locs ls hP hD hS hl)
theorem G_goto (hc : Cx p s m args meth c D cI cS X A own cc nL ret) {off : Int} {tgt : Nat} (hdg : decode cc pc = .ok (.goto off, 3)) (ht : (pc : Int) + off = (tgt : Int)) (k : G p l e R s m args below meth c D A nL cells slots Q ws lv tgt st) : G p l e R s m args below meth c D A nL cells slots Q ws lv pc st :=
  fun H locs ls hP hD hS hl => lv_goto hc.1 hc.2.1 hdg ht (k H locs ls hP hD hS hl)
theorem G_if_eq (hc : Cx p s m args meth c D cI cS X A own cc nL ret) {x : Int32} {off : Int} {tgt : Nat} (hdg : decode cc pc = .ok (.ifCond .eq off, 3)) (ht : (pc : Int) + off = (tgt : Int)) (kt : x = 0 → G p l e R s m args below meth c D A nL cells slots Q ws lv tgt st) (kf : ¬ x = 0 → G p l e R s m args below meth c D A nL cells slots Q ws lv (pc + 3) st) : G p l e R s m args below meth c D A nL cells slots Q ws lv pc (.int x :: st) :=
  fun H locs ls hP hD hS hl => lv_if_eq hc.1 hc.2.1 hdg ht (fun h => kt h H locs ls hP hD hS hl) (fun h => kf h H locs ls hP hD hS hl)
theorem G_if_ne (hc : Cx p s m args meth c D cI cS X A own cc nL ret) {x : Int32} {off : Int} {tgt : Nat} (hdg : decode cc pc = .ok (.ifCond .ne off, 3)) (ht : (pc : Int) + off = (tgt : Int)) (kt : ¬ x = 0 → G p l e R s m args below meth c D A nL cells slots Q ws lv tgt st) (kf : x = 0 → G p l e R s m args below meth c D A nL cells slots Q ws lv (pc + 3) st) : G p l e R s m args below meth c D A nL cells slots Q ws lv pc (.int x :: st) :=
  fun H locs ls hP hD hS hl => lv_if_ne hc.1 hc.2.1 hdg ht (fun h => kt h H locs ls hP hD hS hl) (fun h => kf h H locs ls hP hD hS hl)
theorem G_if_lt (hc : Cx p s m args meth c D cI cS X A own cc nL ret) {x : Int32} {off : Int} {tgt : Nat} (hdg : decode cc pc = .ok (.ifCond .lt off, 3)) (ht : (pc : Int) + off = (tgt : Int)) (kt : x < 0 → G p l e R s m args below meth c D A nL cells slots Q ws lv tgt st) (kf : ¬ x < 0 → G p l e R s m args below meth c D A nL cells slots Q ws lv (pc + 3) st) : G p l e R s m args below meth c D A nL cells slots Q ws lv pc (.int x :: st) :=
  fun H locs ls hP hD hS hl => lv_if_lt hc.1 hc.2.1 hdg ht (fun h => kt h H locs ls hP hD hS hl) (fun h => kf h H locs ls hP hD hS hl)
theorem G_if_ge (hc : Cx p s m args meth c D cI cS X A own cc nL ret) {x : Int32} {off : Int} {tgt : Nat} (hdg : decode cc pc = .ok (.ifCond .ge off, 3)) (ht : (pc : Int) + off = (tgt : Int)) (kt : 0 ≤ x → G p l e R s m args below meth c D A nL cells slots Q ws lv tgt st) (kf : ¬ 0 ≤ x → G p l e R s m args below meth c D A nL cells slots Q ws lv (pc + 3) st) : G p l e R s m args below meth c D A nL cells slots Q ws lv pc (.int x :: st) :=
  fun H locs ls hP hD hS hl => lv_if_ge hc.1 hc.2.1 hdg ht (fun h => kt h H locs ls hP hD hS hl) (fun h => kf h H locs ls hP hD hS hl)
theorem G_if_gt (hc : Cx p s m args meth c D cI cS X A own cc nL ret) {x : Int32} {off : Int} {tgt : Nat} (hdg : decode cc pc = .ok (.ifCond .gt off, 3)) (ht : (pc : Int) + off = (tgt : Int)) (kt : 0 < x → G p l e R s m args below meth c D A nL cells slots Q ws lv tgt st) (kf : ¬ 0 < x → G p l e R s m args below meth c D A nL cells slots Q ws lv (pc + 3) st) : G p l e R s m args below meth c D A nL cells slots Q ws lv pc (.int x :: st) :=
  fun H locs ls hP hD hS hl => lv_if_gt hc.1 hc.2.1 hdg ht (fun h => kt h H locs ls hP hD hS hl) (fun h => kf h H locs ls hP hD hS hl)
theorem G_if_le (hc : Cx p s m args meth c D cI cS X A own cc nL ret) {x : Int32} {off : Int} {tgt : Nat} (hdg : decode cc pc = .ok (.ifCond .le off, 3)) (ht : (pc : Int) + off = (tgt : Int)) (kt : x ≤ 0 → G p l e R s m args below meth c D A nL cells slots Q ws lv tgt st) (kf : ¬ x ≤ 0 → G p l e R s m args below meth c D A nL cells slots Q ws lv (pc + 3) st) : G p l e R s m args below meth c D A nL cells slots Q ws lv pc (.int x :: st) :=
  fun H locs ls hP hD hS hl => lv_if_le hc.1 hc.2.1 hdg ht (fun h => kt h H locs ls hP hD hS hl) (fun h => kf h H locs ls hP hD hS hl)
theorem G_icmp_eq (hc : Cx p s m args meth c D cI cS X A own cc nL ret) {x y : Int32} {off : Int} {tgt : Nat} (hdg : decode cc pc = .ok (.if_icmp .eq off, 3)) (ht : (pc : Int) + off = (tgt : Int)) (kt : x = y → G p l e R s m args below meth c D A nL cells slots Q ws lv tgt st) (kf : ¬ x = y → G p l e R s m args below meth c D A nL cells slots Q ws lv (pc + 3) st) : G p l e R s m args below meth c D A nL cells slots Q ws lv pc (.int y :: .int x :: st) :=
  fun H locs ls hP hD hS hl => lv_icmp_eq hc.1 hc.2.1 hdg ht (fun h => kt h H locs ls hP hD hS hl) (fun h => kf h H locs ls hP hD hS hl)
theorem G_icmp_ne (hc : Cx p s m args meth c D cI cS X A own cc nL ret) {x y : Int32} {off : Int} {tgt : Nat} (hdg : decode cc pc = .ok (.if_icmp .ne off, 3)) (ht : (pc : Int) + off = (tgt : Int)) (kt : ¬ x = y → G p l e R s m args below meth c D A nL cells slots Q ws lv tgt st) (kf : x = y → G p l e R s m args below meth c D A nL cells slots Q ws lv (pc + 3) st) : G p l e R s m args below meth c D A nL cells slots Q ws lv pc (.int y :: .int x :: st) :=
  fun H locs ls hP hD hS hl => lv_icmp_ne hc.1 hc.2.1 hdg ht (fun h => kt h H locs ls hP hD hS hl) (fun h => kf h H locs ls hP hD hS hl)
theorem G_icmp_lt (hc : Cx p s m args meth c D cI cS X A own cc nL ret) {x y : Int32} {off : Int} {tgt : Nat} (hdg : decode cc pc = .ok (.if_icmp .lt off, 3)) (ht : (pc : Int) + off = (tgt : Int)) (kt : x < y → G p l e R s m args below meth c D A nL cells slots Q ws lv tgt st) (kf : ¬ x < y → G p l e R s m args below meth c D A nL cells slots Q ws lv (pc + 3) st) : G p l e R s m args below meth c D A nL cells slots Q ws lv pc (.int y :: .int x :: st) :=
  fun H locs ls hP hD hS hl => lv_icmp_lt hc.1 hc.2.1 hdg ht (fun h => kt h H locs ls hP hD hS hl) (fun h => kf h H locs ls hP hD hS hl)
theorem G_icmp_ge (hc : Cx p s m args meth c D cI cS X A own cc nL ret) {x y : Int32} {off : Int} {tgt : Nat} (hdg : decode cc pc = .ok (.if_icmp .ge off, 3)) (ht : (pc : Int) + off = (tgt : Int)) (kt : y ≤ x → G p l e R s m args below meth c D A nL cells slots Q ws lv tgt st) (kf : ¬ y ≤ x → G p l e R s m args below meth c D A nL cells slots Q ws lv (pc + 3) st) : G p l e R s m args below meth c D A nL cells slots Q ws lv pc (.int y :: .int x :: st) :=
  fun H locs ls hP hD hS hl => lv_icmp_ge hc.1 hc.2.1 hdg ht (fun h => kt h H locs ls hP hD hS hl) (fun h => kf h H locs ls hP hD hS hl)
theorem G_icmp_gt (hc : Cx p s m args meth c D cI cS X A own cc nL ret) {x y : Int32} {off : Int} {tgt : Nat} (hdg : decode cc pc = .ok (.if_icmp .gt off, 3)) (ht : (pc : Int) + off = (tgt : Int)) (kt : y < x → G p l e R s m args below meth c D A nL cells slots Q ws lv tgt st) (kf : ¬ y < x → G p l e R s m args below meth c D A nL cells slots Q ws lv (pc + 3) st) : G p l e R s m args below meth c D A nL cells slots Q ws lv pc (.int y :: .int x :: st) :=
  fun H locs ls hP hD hS hl => lv_icmp_gt hc.1 hc.2.1 hdg ht (fun h => kt h H locs ls hP hD hS hl) (fun h => kf h H locs ls hP hD hS hl)
theorem G_icmp_le (hc : Cx p s m args meth c D cI cS X A own cc nL ret) {x y : Int32} {off : Int} {tgt : Nat} (hdg : decode cc pc = .ok (.if_icmp .le off, 3)) (ht : (pc : Int) + off = (tgt : Int)) (kt : x ≤ y → G p l e R s m args below meth c D A nL cells slots Q ws lv tgt st) (kf : ¬ x ≤ y → G p l e R s m args below meth c D A nL cells slots Q ws lv (pc + 3) st) : G p l e R s m args below meth c D A nL cells slots Q ws lv pc (.int y :: .int x :: st) :=
  fun H locs ls hP hD hS hl => lv_icmp_le hc.1 hc.2.1 hdg ht (fun h => kt h H locs ls hP hD hS hl) (fun h => kf h H locs ls hP hD hS hl)
theorem G_null (hc : Cx p s m args meth c D cI cS X A own cc nL ret) (hdg : decode cc pc = .ok (.aconst_null, 1)) (k : G p l e R s m args below meth c D A nL cells slots Q ws lv (pc + 1) (.null :: st)) : G p l e R s m args below meth c D A nL cells slots Q ws lv pc st :=
  fun H locs ls hP hD hS hl => lv_null hc.1 hc.2.1 hdg (k H locs ls hP hD hS hl)
theorem G_nonnull (hc : Cx p s m args meth c D cI cS X A own cc nL ret) {x : Nat} {off : Int} {tgt : Nat} (hdg : decode cc pc = .ok (.ifnonnull off, 3)) (ht : (pc : Int) + off = (tgt : Int)) (k : G p l e R s m args below meth c D A nL cells slots Q ws lv tgt st) : G p l e R s m args below meth c D A nL cells slots Q ws lv pc (.ref x :: st) :=
  fun H locs ls hP hD hS hl => lv_ifnonnull hc.1 hc.2.1 hdg ht (k H locs ls hP hD hS hl)
theorem G_nonnullN (hc : Cx p s m args meth c D cI cS X A own cc nL ret) {off : Int} (hdg : decode cc pc = .ok (.ifnonnull off, 3)) (k : G p l e R s m args below meth c D A nL cells slots Q ws lv (pc + 3) st) : G p l e R s m args below meth c D A nL cells slots Q ws lv pc (.null :: st) :=
  fun H locs ls hP hD hS hl => lv_ifnonnullN hc.1 hc.2.1 hdg (k H locs ls hP hD hS hl)
theorem G_isnull (hc : Cx p s m args meth c D cI cS X A own cc nL ret) {x : Nat} {off : Int} (hdg : decode cc pc = .ok (.ifnull off, 3)) (k : G p l e R s m args below meth c D A nL cells slots Q ws lv (pc + 3) st) : G p l e R s m args below meth c D A nL cells slots Q ws lv pc (.ref x :: st) :=
  fun H locs ls hP hD hS hl => lv_ifnull hc.1 hc.2.1 hdg (k H locs ls hP hD hS hl)
-- a reference that may be null: mn says so
def nv (mn : Bool) (h : Nat) : Value := match mn with | true => .null | false => .ref h
theorem G_nonnullB (hc : Cx p s m args meth c D cI cS X A own cc nL ret) {mn : Bool} {x : Nat} {off : Int} {tgt : Nat} (hdg : decode cc pc = .ok (.ifnonnull off, 3)) (ht : (pc : Int) + off = (tgt : Int)) (kt : mn = false → G p l e R s m args below meth c D A nL cells slots Q ws lv tgt st) (kf : ¬ mn = false → G p l e R s m args below meth c D A nL cells slots Q ws lv (pc + 3) st) : G p l e R s m args below meth c D A nL cells slots Q ws lv pc (nv mn x :: st) := by
  cases mn with
  | true => exact G_nonnullN hc hdg (kf (by decide))
  | false => exact G_nonnull hc hdg ht (kt rfl)
theorem G_new0 : True := trivial
-- fields
def FA (own : String) (index ci k : Nat) : Prop := ∃ (C : String) (T : u_T) (N : Nat) (ty : Nat → FieldType), vwCl[ci]? = some (C, T, N) ∧ (∀ w ∈ u_ws C T N, w ∈ lw_g) ∧ k < N ∧ Cond.fieldLink own index (T k).1 (T k).2.1 (T k).2.2.1 ∈ lw_g ∧ (∀ k, k < N → parseFieldDescriptor (T k).2.2.1 = some (ty k)) ∧ (∀ a, a < N → ∀ b, b < N → a ≠ b → (T a).2.1 ≠ (T b).2.1)
def FP (ci k : Nat) (ty : FieldType) : Prop := ∃ (C : String) (T : u_T) (N : Nat), vwCl[ci]? = some (C, T, N) ∧ (T k).2.2.2 = false ∧ parseFieldDescriptor (T k).2.2.1 = some ty
theorem G_get (hc : Cx p s m args meth c D cI cS X A own cc nL ret) {index ci k a : Nat} (hF : FA own index ci k) (q0 : Nat) {fs : List Value} {v : Value} (he : ws[q0]? = some (a, .inr (ci, fs))) (hv : fs[k]? = some v) (hdg : decode cc pc = .ok (.getfield index, 3)) (kk : G p l e R s m args below meth c D A nL cells slots Q ws lv (pc + 3) (v :: st)) : G p l e R s m args below meth c D A nL cells slots Q ws lv pc (.ref a :: st) := by
  obtain ⟨C, T, N, ty, h1, h2, h3, h4, h5, h6⟩ := hF
  exact fun H locs ls hP hD hS hl => va_get hc.1 hc.2.1 hc.2.2.2.2.2.1 h2 hc.2.2.2.2.1 hc.2.2.2.2.2.2.2.1.1 hP q0 he h1 k h3 (hc.2.2.2.2.2.1 _ h4) (fun _ h => h) hv hdg (kk H locs ls hP hD hS hl)
theorem G_put (hc : Cx p s m args meth c D cI cS X A own cc nL ret) {index ci k a : Nat} {ty : FieldType} (hF : FA own index ci k) (hT : FP ci k ty) (q0 : Nat) {fs : List Value} {v : Value} (he : ws[q0]? = some (a, .inr (ci, fs))) (hn : narrow ty v = v) (hfit : fits ty v = true) (hk : Nat.ble (k + 1) fs.length = true) {ws' : va_W} (hw : ws.set q0 (a, .inr (ci, fs.set k v)) = ws') (hdg : decode cc pc = .ok (.putfield index, 3)) (kk : G p l e R s m args below meth c D A nL cells slots Q ws' lv (pc + 3) st) : G p l e R s m args below meth c D A nL cells slots Q ws lv pc (v :: .ref a :: st) := by
  obtain ⟨C, T, N, ty0, h1, h2, h3, h4, h5, h6⟩ := hF
  obtain ⟨C', T', N', g1, g2, g3⟩ := hT
  have e := h1.symm.trans g1
  cases e
  subst hw
  exact fun H locs ls hP hD hS hl => va_put hc.1 hc.2.1 hc.2.2.2.2.2.1 h2 ty0 h5 h6 hc.2.2.2.2.1 hc.2.2.2.2.2.2.2.1.1 hP hD hS q0 he h1 k h3 (hc.2.2.2.2.2.1 _ h4) (fun _ h => h) g2 g3 hn hfit (Nat.le_of_ble_eq_true hk) hdg (fun H1 locs1 hP1 hD1 hS1 => kk H1 locs1 ls hP1 hD1 hS1 hl)
theorem nz_bool {x : Int32} (h : x = 0 ∨ x = 1) : narrow .boolean (.int x) = .int x := by rcases h with rfl | rfl <;> rfl
theorem fz_bool {x : Int32} (h : x = 0 ∨ x = 1) : fits .boolean (.int x) = true := by rcases h with rfl | rfl <;> rfl
theorem G_puti (hc : Cx p s m args meth c D cI cS X A own cc nL ret) {index ci k a : Nat} (hF : FA own index ci k) (hT : FP ci k .int) (q0 : Nat) {fs : List Value} {v : Int32} (he : ws[q0]? = some (a, .inr (ci, fs))) (hk : Nat.ble (k + 1) fs.length = true) {ws' : va_W} (hw : ws.set q0 (a, .inr (ci, fs.set k (.int v))) = ws') (hdg : decode cc pc = .ok (.putfield index, 3)) (kk : G p l e R s m args below meth c D A nL cells slots Q ws' lv (pc + 3) st) : G p l e R s m args below meth c D A nL cells slots Q ws lv pc (.int v :: .ref a :: st) :=
  G_put hc hF hT q0 he rfl rfl hk hw hdg kk
theorem G_putz (hc : Cx p s m args meth c D cI cS X A own cc nL ret) {index ci k a : Nat} (hF : FA own index ci k) (hT : FP ci k .boolean) (q0 : Nat) {fs : List Value} {v : Int32} (hz : v = 0 ∨ v = 1) (he : ws[q0]? = some (a, .inr (ci, fs))) (hk : Nat.ble (k + 1) fs.length = true) {ws' : va_W} (hw : ws.set q0 (a, .inr (ci, fs.set k (.int v))) = ws') (hdg : decode cc pc = .ok (.putfield index, 3)) (kk : G p l e R s m args below meth c D A nL cells slots Q ws' lv (pc + 3) st) : G p l e R s m args below meth c D A nL cells slots Q ws lv pc (.int v :: .ref a :: st) :=
  G_put hc hF hT q0 he (nz_bool hz) (fz_bool hz) hk hw hdg kk
-- arrays of ints
theorem G_iald (hc : Cx p s m args meth c D cI cS X A own cc nL ret) {a n : Nat} {f : Nat → Int32} {i v : Int32} (q0 : Nat) (ha : ws[q0]? = some (a, .inl (cI, n, .inl f))) (hin : vp_in i n) (hv : v = f i.toNatClampNeg) (hdg : decode cc pc = .ok (.iaload, 1)) (kk : G p l e R s m args below meth c D A nL cells slots Q ws lv (pc + 1) (.int v :: st)) : G p l e R s m args below meth c D A nL cells slots Q ws lv pc (.int i :: .ref a :: st) := by
  subst hv
  exact fun H locs ls hP hD hS hl => va_iald hc.1 hc.2.1 hc.2.2.2.2.2.2.2.1.1 hP q0 0 ha rfl hin hdg (kk H locs ls hP hD hS hl)
theorem G_iast (hc : Cx p s m args meth c D cI cS X A own cc nL ret) {a n : Nat} {f f' : Nat → Int32} {i x : Int32} (q0 : Nat) (ha : ws[q0]? = some (a, .inl (cI, n, .inl f))) (hin : vp_in i n) (hf : f' = upd f i.toNatClampNeg x) {ws' : va_W} (hw : ws.set q0 (a, .inl (cI, n, .inl f')) = ws') (hdg : decode cc pc = .ok (.iastore, 1)) (kk : G p l e R s m args below meth c D A nL cells slots Q ws' lv (pc + 1) st) : G p l e R s m args below meth c D A nL cells slots Q ws lv pc (.int x :: .int i :: .ref a :: st) := by
  subst hw
  subst hf
  exact fun H locs ls hP hD hS hl => va_iast hc.1 hc.2.1 hc.2.2.2.2.2.2.2.1.1 hP hD hS q0 0 ha rfl hin hdg (fun H1 locs1 hP1 hD1 hS1 => kk H1 locs1 ls hP1 hD1 hS1 hl)
theorem G_alen (hc : Cx p s m args meth c D cI cS X A own cc nL ret) {a n : Nat} {f : Nat → Int32} {v : Int32} (q0 : Nat) (ha : ws[q0]? = some (a, .inl (cI, n, .inl f))) (hv : Int32.ofNat n = v) (hdg : decode cc pc = .ok (.arraylength, 1)) (kk : G p l e R s m args below meth c D A nL cells slots Q ws lv (pc + 1) (.int v :: st)) : G p l e R s m args below meth c D A nL cells slots Q ws lv pc (.ref a :: st) :=
  fun H locs ls hP hD hS hl => va_alen hc.1 hc.2.1 hc.2.2.2.2.2.2.2.1.1 hP q0 0 ha rfl hv hdg (kk H locs ls hP hD hS hl)
-- switches
theorem G_tableIn (hc : Cx p s m args meth c D cI cS X A own cc nL ret) {dflt lo hi : Int} {offs : Array Int} {len : Nat} {x : Int32} {off : Int} {tgt : Nat} (hdg : decode cc pc = .ok (.tableswitch dflt lo hi offs, len)) (v : Int32) (hx : x = v) (h1 : ¬ v.toInt < lo) (h2 : ¬ hi < v.toInt) (ho : offs[(v.toInt - lo).toNat]? = some off) (ht : (pc : Int) + off = (tgt : Int)) (k : G p l e R s m args below meth c D A nL cells slots Q ws lv tgt st) : G p l e R s m args below meth c D A nL cells slots Q ws lv pc (.int x :: st) := by
  subst hx
  exact fun H locs ls hP hD hS hl => lv_tableIn hc.1 hc.2.1 hdg h1 h2 ho ht (k H locs ls hP hD hS hl)
theorem G_tableOut (hc : Cx p s m args meth c D cI cS X A own cc nL ret) {dflt lo hi : Int} {offs : Array Int} {len : Nat} {x : Int32} {tgt : Nat} (hdg : decode cc pc = .ok (.tableswitch dflt lo hi offs, len)) (h : x.toInt < lo ∨ hi < x.toInt) (ht : (pc : Int) + dflt = (tgt : Int)) (k : G p l e R s m args below meth c D A nL cells slots Q ws lv tgt st) : G p l e R s m args below meth c D A nL cells slots Q ws lv pc (.int x :: st) :=
  fun H locs ls hP hD hS hl => lv_tableOut hc.1 hc.2.1 hdg h ht (k H locs ls hP hD hS hl)
end GROWS
-- contracts
def rmk (k : Nat) : Room := { frames := k, cells := 0, slots := 0, locals := 64 * k }
def CtP (D : va_G) (cI cS : ClassId) (X : XP) (as : List Value) (ws : va_W) (sz : Nat) : Array Value → State → Prop := va_Pc as (fun U => U.heap.size = sz ∧ va_P D vwCl ws U.heap ∧ KX D cI cS X (va_A ws sz) U U.heap ∧ va_D (fun _ => True) ws)
def CtI (l : Launch) (D : va_G) (cI cS : ClassId) (X : XP) (y : MethodName) (b : ByteArray) (nL : Nat) (ret : Option FieldType) (k : Nat) (as : List Value) (ws : va_W) (Po : Int32 → va_W → Prop) : Prop :=
  ∀ sz : Nat, Met l y (.code y b nL ret :: lw_g) (rmk k) (CtP D cI cS X as ws sz) (va_Qi Po (fun (w : va_W) t => va_P D vwCl w t.heap ∧ va_D (va_A ws sz) w) (va_A ws sz)) 0 0 (va_A ws sz)
def CtV (l : Launch) (D : va_G) (cI cS : ClassId) (X : XP) (y : MethodName) (b : ByteArray) (nL : Nat) (k : Nat) (as : List Value) (ws : va_W) (Po : va_W → Prop) : Prop :=
  ∀ sz : Nat, Met l y (.code y b nL none :: lw_g) (rmk k) (CtP D cI cS X as ws sz) (va_Qv Po (fun (w : va_W) t => va_P D vwCl w t.heap ∧ va_D (va_A ws sz) w) (va_A ws sz)) 0 0 (va_A ws sz)
def QI (below : List Frame) (args : Array Value) (s : State) (D : va_G) (A : Nat → Prop) (Po : Int32 → va_W → Prop) : State → Prop := MQ below (va_Qi Po (fun (w : va_W) t => va_P D vwCl w t.heap ∧ va_D A w) A) args s 0 0 A
def QV (below : List Frame) (args : Array Value) (s : State) (D : va_G) (A : Nat → Prop) (Po : va_W → Prop) : State → Prop := MQ below (va_Qv Po (fun (w : va_W) t => va_P D vwCl w t.heap ∧ va_D A w) A) args s 0 0 A
section GEND
variable {p : Program} {l : Launch} {e : Env} {R : Room} {s : State} {m : MethodId} {args : Array Value} {below : List Frame} {meth : Method} {c : Code} {D : va_G} {cI cS : ClassId} {X : XP} {A : Nat → Prop} {own : String} {cc : ByteArray} {nL : Nat} {ret : Option FieldType} {ws : va_W} {lv : List (Nat × Value)} {pc : Nat} {st : List Value}
theorem G_ireturn (hc : Cx p s m args meth c D cI cS X A own cc nL (some .int)) {Po : Int32 → va_W → Prop} {v : Int32} (hPo : Po v ws) (hdg : decode cc pc = .ok (.ireturn, 1)) : G p l e R s m args below meth c D A nL 0 0 (QI below args s D A Po) ws lv pc [.int v] := by
  intro H locs ls hP hD hS hl
  have hlk := hc.2.2.2.2.2.2.1
  exact W.iret hc.1 hc.2.1 hc.2.2.1 (fun t ht hW => ⟨⟨v, ws, rfl, hPo, by rw [ht]; exact hP, hD⟩, hS.F ht⟩) hS.2.2 hdg hlk
theorem G_zreturn (hc : Cx p s m args meth c D cI cS X A own cc nL (some .boolean)) {Po : Int32 → va_W → Prop} {v : Int32} (hz : v = 0 ∨ v = 1) (hPo : Po v ws) (hdg : decode cc pc = .ok (.ireturn, 1)) : G p l e R s m args below meth c D A nL 0 0 (QI below args s D A Po) ws lv pc [.int v] := by
  intro H locs ls hP hD hS hl
  have hlk := hc.2.2.2.2.2.2.1
  exact W.zret hc.1 hc.2.1 hc.2.2.1 (nz_bool hz) (fun t ht hW => ⟨⟨v, ws, rfl, hPo, by rw [ht]; exact hP, hD⟩, hS.F ht⟩) hS.2.2 hdg hlk
theorem G_return (hc : Cx p s m args meth c D cI cS X A own cc nL none) {Po : va_W → Prop} (hPo : Po ws) (hdg : decode cc pc = .ok (.return_, 1)) : G p l e R s m args below meth c D A nL 0 0 (QV below args s D A Po) ws lv pc [] := by
  intro H locs ls hP hD hS hl
  have hlk := hc.2.2.2.2.2.2.1
  exact W.vret hc.1 hc.2.1 hc.2.2.1 (fun t ht hW => ⟨⟨ws, rfl, hPo, by rw [ht]; exact hP, hD⟩, hS.F ht⟩) hS.2.2 hdg hlk
end GEND
theorem CtI.of {l : Launch} {D : va_G} {cI cS : ClassId} {X : XP} {y : MethodName} {b : ByteArray} {nL : Nat} {ret : Option FieldType} {k : Nat} {as : List Value} {ws : va_W} {Po : Int32 → va_W → Prop} (hy : plainName y.cls = true) (hn : Nat.ble (lg_sl as).length nL = true)
    (body : ∀ (p : Program) (e : Env) (s : State) (m : MethodId) (below : List Frame) (meth : Method) (c : Code) (A : Nat → Prop), Cx p s m as.toArray meth c D cI cS X A y.cls b nL ret → G p l e (rmk k) s m as.toArray below meth c D A nL 0 0 (QI below as.toArray s D A Po) ws (lv_args 0 as) 0 []) : CtI l D cI cS X y b nL ret k as ws Po := by
  intro sz
  refine Met.ofW (cc := b) (maxL := nL) (ret := ret) hy rfl ?_
  intro p e s m args below meth c s₁ B hml hv
  obtain ⟨rfl, hsz, hP, hK, hD0⟩ := hv
  have hts := atoms_spec (ws := .code y b nL ret :: lw_g) B.pre
  subst hsz
  have hD := hD0.self (sz := s.heap.size)
  have hA : ∀ q : Nat, s.heap.size ≤ q → va_A ws s.heap.size q := fun q h => Or.inr h
  have hl := lv_entry as (n := nL) (Nat.le_of_ble_eq_true hn)
  rw [lg_entry_eq]
  exact body p e s m below meth c (va_A ws s.heap.size) ⟨B.exec, B.bytes, B.returns, hml, findClass_of_methodNamed B.named, fun w hw => hts w (List.mem_cons_of_mem _ hw), B.notSynchronized, hK, hA⟩ s.heap [] _ hP hD va_S.rf hl
theorem CtV.of {l : Launch} {D : va_G} {cI cS : ClassId} {X : XP} {y : MethodName} {b : ByteArray} {nL : Nat} {k : Nat} {as : List Value} {ws : va_W} {Po : va_W → Prop} (hy : plainName y.cls = true) (hn : Nat.ble (lg_sl as).length nL = true)
    (body : ∀ (p : Program) (e : Env) (s : State) (m : MethodId) (below : List Frame) (meth : Method) (c : Code) (A : Nat → Prop), Cx p s m as.toArray meth c D cI cS X A y.cls b nL none → G p l e (rmk k) s m as.toArray below meth c D A nL 0 0 (QV below as.toArray s D A Po) ws (lv_args 0 as) 0 []) : CtV l D cI cS X y b nL k as ws Po := by
  intro sz
  refine Met.ofW (cc := b) (maxL := nL) (ret := none) hy rfl ?_
  intro p e s m args below meth c s₁ B hml hv
  obtain ⟨rfl, hsz, hP, hK, hD0⟩ := hv
  have hts := atoms_spec (ws := .code y b nL none :: lw_g) B.pre
  subst hsz
  have hD := hD0.self (sz := s.heap.size)
  have hA : ∀ q : Nat, s.heap.size ≤ q → va_A ws s.heap.size q := fun q h => Or.inr h
  have hl := lv_entry as (n := nL) (Nat.le_of_ble_eq_true hn)
  rw [lg_entry_eq]
  exact body p e s m below meth c (va_A ws s.heap.size) ⟨B.exec, B.bytes, B.returns, hml, findClass_of_methodNamed B.named, fun w hw => hts w (List.mem_cons_of_mem _ hw), B.notSynchronized, hK, hA⟩ s.heap [] _ hP hD va_S.rf hl
-- calls
def wput : va_W → List Nat → va_W → va_W
  | ws, i :: is, q :: qs => wput (ws.set i q) is qs
  | ws, _, _ => ws
theorem wput_at : ∀ (is : List Nat) (qs ws : va_W) (k : Nat) (q : Nat × va_E), is.length = qs.length → (wput ws is qs)[k]? = some q → (∃ j : Nat, is[j]? = some k ∧ qs[j]? = some q) ∨ (k ∉ is ∧ ws[k]? = some q)
  | [], [], ws, k, q, _, h => Or.inr ⟨List.not_mem_nil, h⟩
  | [], _ :: _, _, _, _, hl, _ => by cases hl
  | _ :: _, [], _, _, _, hl, _ => by cases hl
  | i :: is, r :: qs, ws, k, q, hl, h => by
    rcases wput_at is qs (ws.set i r) k q (Nat.succ.inj hl) h with ⟨j, h1, h2⟩ | ⟨h1, h2⟩
    · exact Or.inl ⟨j + 1, h1, h2⟩
    · by_cases hik : i = k
      · subst hik
        rw [List.getElem?_set_self'] at h2
        cases hw : ws[i]? with
        | none => rw [hw] at h2; cases h2
        | some z => rw [hw] at h2; exact Or.inl ⟨0, rfl, h2⟩
      · rw [List.getElem?_set_ne hik] at h2
        exact Or.inr ⟨fun hm => (List.mem_cons.mp hm).elim (fun e => hik e.symm) h1, h2⟩
theorem va_D_addr {A : Nat → Prop} {ws ws' : va_W} (h : ws'.map (fun q => q.1) = ws.map (fun q => q.1)) (hD : va_D A ws) : va_D A ws' := by
  have key : ∀ (k : Nat) (q : Nat × va_E), ws'[k]? = some q → ∃ r : Nat × va_E, ws[k]? = some r ∧ r.1 = q.1 := by
    intro k q hk
    have h1 : (ws'.map (fun q => q.1))[k]? = some q.1 := by rw [List.getElem?_map, hk]; rfl
    rw [h, List.getElem?_map] at h1
    cases hr : ws[k]? with
    | none => rw [hr] at h1; cases h1
    | some r => rw [hr] at h1; exact ⟨r, rfl, Option.some.inj h1⟩
  refine ⟨fun i j x y hi hj hxy => ?_, fun k q hk => ?_⟩
  · obtain ⟨a, h1, h2⟩ := key i x hi
    obtain ⟨b, h3, h4⟩ := key j y hj
    exact hD.1 i j a b h1 h3 (by rw [h2, h4, hxy])
  · obtain ⟨a, h1, h2⟩ := key k q hk
    rw [← h2]
    exact hD.2 k a h1
theorem wput_P {A0 : Nat → Prop} {D : va_G} {cl : List vw_C} {ws wc wc' ws2 : va_W} {H H1 : Heap} {isC : List Nat} (hP : va_P D cl ws H) (hD : va_D A0 ws) (hC : isC.map (fun i => ws[i]?) = wc.map some) (hl : isC.length = wc'.length) (hw : wput ws isC wc' = ws2)
    (hk : ∀ q : Nat, q < H.size → ¬ va_A wc H.size q → H1[q]? = H[q]?) (hP1 : va_P D cl wc' H1) : va_P D cl ws2 H1 := by
  subst hw
  intro k q hq
  rcases wput_at isC wc' ws k q hl hq with ⟨j, h1, h2⟩ | ⟨h1, h2⟩
  · exact hP1 j q h2
  · have hlt := (hP k q h2).lt
    refine (hP k q h2).kept (hk q.1 hlt (fun hA => ?_))
    rcases hA with ⟨j, e, hj⟩ | hA
    · have h3 : (isC.map (fun i => ws[i]?))[j]? = some (some (q.1, e)) := by rw [hC, List.getElem?_map, hj]; rfl
      rw [List.getElem?_map] at h3
      cases hi : isC[j]? with
      | none => rw [hi] at h3; cases h3
      | some i =>
        rw [hi] at h3
        have h4 : ws[i]? = some (q.1, e) := Option.some.inj h3
        have h5 := hD.1 i k (q.1, e) q h4 h2 rfl
        subst h5
        exact h1 (List.mem_of_getElem? hi)
    · omega
def RmOk (R : Room) (k : Nat) : Prop := k + 1 ≤ R.frames ∧ 64 * k + 64 ≤ R.locals
def MV (own : String) (index : Nat) (C : String) (y : MethodName) (b : ByteArray) (nL : Nat) (ret : Option FieldType) (n : Nat) : Prop := Cond.methodLink own index y ∈ lw_g ∧ Cond.instanceMethod y ∈ lw_g ∧ Cond.selects C y y ∈ lw_g ∧ Cond.initialized C ∈ lw_g ∧ Cond.code y b nL ret ∈ lw_g ∧ (y.cls = C ∧ y.cls ≠ "java/lang/invoke/MethodHandle" ∧ y.cls ≠ "java/lang/invoke/VarHandle" ∧ (parseMethodDescriptor y.desc).map (fun d => d.parameters.length) = some n) ∧ nL ≤ 45
def MS (own : String) (index : Nat) (y : MethodName) (b : ByteArray) (nL : Nat) (ret : Option FieldType) (n : Nat) : Prop := Cond.methodLink own index y ∈ lw_g ∧ Cond.static y ∈ lw_g ∧ Cond.initialized y.cls ∈ lw_g ∧ Cond.code y b nL ret ∈ lw_g ∧ (y.cls ≠ "java/lang/invoke/MethodHandle" ∧ y.cls ≠ "java/lang/invoke/VarHandle" ∧ (parseMethodDescriptor y.desc).map (fun d => d.parameters.length) = some n) ∧ nL ≤ 45
def MN (own : String) (index : Nat) (y : MethodName) (host : String) (b : ByteArray) (nL : Nat) (ret : Option FieldType) (n : Nat) : Prop := Cond.methodLinkNest own index y host ∈ nwl ∧ Cond.static y ∈ lw_g ∧ Cond.initialized y.cls ∈ lw_g ∧ Cond.code y b nL ret ∈ lw_g ∧ (y.cls ≠ "java/lang/invoke/MethodHandle" ∧ y.cls ≠ "java/lang/invoke/VarHandle" ∧ (parseMethodDescriptor y.desc).map (fun d => d.parameters.length) = some n) ∧ nL ≤ 45
theorem GoodIn.v {own : String} {index : Nat} {C : String} {y : MethodName} {b : ByteArray} {nL n : Nat} {ret : Option FieldType} (h : MV own index C y b nL ret n) : GoodIn lw_g (wsV own index C y (.code y b nL ret :: lw_g)) := by
  intro w hw
  have g : ∀ z ∈ lw_g, z ∈ lw_g ∧ ((z.onTables && z.keeps) = true ∨ ∃ ty, z = .arrayClass ty) := fun z hz => ⟨hz, good_of_word (List.mem_filter.mp hz).2⟩
  rcases List.mem_append.mp hw with hw | hw
  · simp only [List.mem_cons, List.not_mem_nil, or_false] at hw
    rcases hw with rfl | rfl | rfl | rfl
    · exact g _ h.1
    · exact g _ h.2.1
    · exact g _ h.2.2.1
    · exact g _ h.2.2.2.1
  · exact lw_g_good h.2.2.2.2.1 w hw
theorem GoodIn.s {own : String} {index : Nat} {y : MethodName} {b : ByteArray} {nL n : Nat} {ret : Option FieldType} (h : MS own index y b nL ret n) : GoodIn lw_g (va_wsS own index y (.code y b nL ret :: lw_g)) := by
  intro w hw
  have g : ∀ z ∈ lw_g, z ∈ lw_g ∧ ((z.onTables && z.keeps) = true ∨ ∃ ty, z = .arrayClass ty) := fun z hz => ⟨hz, good_of_word (List.mem_filter.mp hz).2⟩
  rcases List.mem_append.mp hw with hw | hw
  · simp only [List.mem_cons, List.not_mem_nil, or_false] at hw
    rcases hw with rfl | rfl | rfl
    · exact g _ h.1
    · exact g _ h.2.1
    · exact g _ h.2.2.1
  · exact lw_g_good h.2.2.2.1 w hw
theorem rm_call {R : Room} {k nL : Nat} (hR : RmOk R k) (hn : nL ≤ 45) : (rmk k).frames + 1 ≤ R.frames ∧ 8 + (nL + 11) + (rmk k).locals ≤ R.locals := ⟨hR.1, by have := hR.2; show 8 + (nL + 11) + 64 * k ≤ R.locals; omega⟩
section GCALL
variable {p : Program} {l : Launch} {e : Env} {R : Room} {s : State} {m : MethodId} {args : Array Value} {below : List Frame} {meth : Method} {c : Code} {D : va_G} {cI cS : ClassId} {X : XP} {A : Nat → Prop} {own : String} {cc : ByteArray} {nL cells slots : Nat} {ret : Option FieldType} {Q : State → Prop} {ws : va_W} {lv : List (Nat × Value)} {pc : Nat} {st : List Value}
theorem CtP.pre (hc : Cx p s m args meth c D cI cS X A own cc nL ret) {as : List Value} {wc : va_W} {isC : List Nat} {H : Heap} {locs : List Loc} (hP : va_P D vwCl ws H) (hD : va_D A ws) (hS : va_S A s.heap H locs) (hC : isC.map (fun i => ws[i]?) = wc.map some) (hn : va_nd isC = true) :
    FrameBlind (CtP D cI cS X as wc H.size) ∧ ∀ U : State, U.heap = H → s.WarmedH U.vm → CtP D cI cS X as wc H.size as.toArray U := by
  refine ⟨?_, ?_⟩
  · intro a U g mk hh
    obtain ⟨h1, h2, h3, h4, h5⟩ := hh
    exact ⟨h1, h2, h3, KX.calling g mk a h4, h5⟩
  · intro U hU hW
    have hF := va_free hD hS hc.2.2.2.2.2.2.2.2 isC hC
    have hDc := hD.sub isC hn hC
    have hPc : va_P D vwCl wc H := by
      intro k q hk
      have h1 : (isC.map (fun i => ws[i]?))[k]? = some (some q) := by rw [hC, List.getElem?_map, hk]; rfl
      rw [List.getElem?_map] at h1
      cases hi : isC[k]? with
      | none => rw [hi] at h1; cases h1
      | some i => rw [hi] at h1; exact hP i q (Option.some.inj h1)
    refine ⟨rfl, by rw [hU], by rw [hU]; exact hPc, ?_, hDc.weaken (fun _ _ _ _ => trivial)⟩
    rw [hU]
    exact hc.2.2.2.2.2.2.2.1.pass hW (fun a h1 h2 => hS.2.1 a h1 h2) (fun q h => hF q h)
-- how a call goes on: with the callee's world in its places
def Put (ws : va_W) (isC : List Nat) (wc' ws2 : va_W) : Prop := isC.length = wc'.length ∧ wput ws isC wc' = ws2 ∧ ws2.map (fun q => q.1) = ws.map (fun q => q.1)
theorem va_CallS (hc : Cx p s m args meth c D cI cS X A own cc nL ret) {index k mL n : Nat} {y : MethodName} {b : ByteArray} {rt : Option FieldType} {as : List Value} {wc : va_W} {Qc : Array Value → State → Outcome → State → Prop} {H : Heap} {locs : List Loc} {ls : Array Slot} {isC : List Nat} {st0 : List Value}
    (hM : MS own index y b mL rt n) (hR : RmOk R k) (hmet : Met l y (.code y b mL rt :: lw_g) (rmk k) (CtP D cI cS X as wc H.size) Qc 0 0 (va_A wc H.size)) (hP : va_P D vwCl ws H) (hD : va_D A ws) (hS : va_S A s.heap H locs) (hl : lv_has ls nL lv) (hC : isC.map (fun i => ws[i]?) = wc.map some) (hn : va_nd isC = true) (has : as.length = n) (hst : st0 = as.reverse ++ st) (hrs : Nat.ble ((st.map fun v => v.category).sum) 8 = true) (hdg : decode cc pc = .ok (.invokestatic index, 3)) (hcl : cells ≤ R.cells ∧ slots ≤ R.slots) :
    va_Run p l e R s m args below meth c H locs cells slots 0 0 (F0 m pc ls st0) st (Qc as.toArray) (va_A wc H.size) :=
  va_runS ⟨hc.1, hc.2.1, hc.2.2.2.1, hc.2.2.2.2.1, hc.2.2.2.2.2.1⟩ hmet (va_cwS n hc.2.2.2.2.2.1 (GoodIn.s hM) rfl rfl rfl hM.2.2.2.2.1 (rm_call hR hM.2.2.2.2.2)) (CtP.pre hc hP hD hS hC hn) rfl has hl.1 hst (lv_room (Nat.le_of_ble_eq_true hrs)) hdg hcl
theorem va_CallN (hc : Cx p s m args meth c D cI cS X A own cc nL ret) {index k mL n : Nat} {y : MethodName} {host : String} {b : ByteArray} {rt : Option FieldType} {as : List Value} {wc : va_W} {Qc : Array Value → State → Outcome → State → Prop} {H : Heap} {locs : List Loc} {ls : Array Slot} {isC : List Nat} {st0 : List Value}
    (hM : MN own index y host b mL rt n) (hR : RmOk R k) (hmet : Met l y (.code y b mL rt :: lw_g) (rmk k) (CtP D cI cS X as wc H.size) Qc 0 0 (va_A wc H.size)) (hP : va_P D vwCl ws H) (hD : va_D A ws) (hS : va_S A s.heap H locs) (hl : lv_has ls nL lv) (hC : isC.map (fun i => ws[i]?) = wc.map some) (hn : va_nd isC = true) (has : as.length = n) (hst : st0 = as.reverse ++ st) (hrs : Nat.ble ((st.map fun v => v.category).sum) 8 = true) (hdg : decode cc pc = .ok (.invokestatic index, 3)) (hcl : cells ≤ R.cells ∧ slots ≤ R.slots) :
    va_Run p l e R s m args below meth c H locs cells slots 0 0 (F0 m pc ls st0) st (Qc as.toArray) (va_A wc H.size) :=
  va_runSN ⟨hc.1, hc.2.1, hc.2.2.2.1, hc.2.2.2.2.1, hc.2.2.2.2.2.1⟩ hmet ⟨va_cnB n hc.2.2.2.2.2.1 (lw_g_good hM.2.2.2.1) rfl rfl rfl (hc.2.2.2.2.2.2.2.1.2.1 _ hM.1) (hc.2.2.2.2.2.1 _ hM.2.2.1) hM.2.2.2.2.1 (rm_call hR hM.2.2.2.2.2), hc.2.2.2.2.2.1 _ hM.2.1, trivial⟩ (CtP.pre hc hP hD hS hC hn) rfl has hl.1 hst (lv_room (Nat.le_of_ble_eq_true hrs)) hdg hcl
theorem va_CallV (hc : Cx p s m args meth c D cI cS X A own cc nL ret) {index k mL n a : Nat} {C : String} {y : MethodName} {b : ByteArray} {rt : Option FieldType} {as : List Value} {wc : va_W} {Qc : Array Value → State → Outcome → State → Prop} {H : Heap} {locs : List Loc} {ls : Array Slot} {isC : List Nat} {st0 : List Value}
    (hM : MV own index C y b mL rt n) (hR : RmOk R k) (hmet : Met l y (.code y b mL rt :: lw_g) (rmk k) (CtP D cI cS X (.ref a :: as) wc H.size) Qc 0 0 (va_A wc H.size)) {q0 ci : Nat} {fs : List Value} {T : u_T} {N : Nat} (he : ws[q0]? = some (a, .inr (ci, fs))) (hci : vwCl[ci]? = some (C, T, N)) (hP : va_P D vwCl ws H) (hD : va_D A ws) (hS : va_S A s.heap H locs) (hl : lv_has ls nL lv) (hC : isC.map (fun i => ws[i]?) = wc.map some) (hn : va_nd isC = true) (has : as.length = n) (hst : st0 = as.reverse ++ .ref a :: st) (hrs : Nat.ble ((st.map fun v => v.category).sum) 8 = true) (hdg : decode cc pc = .ok (.invokevirtual index, 3)) (hcl : cells ≤ R.cells ∧ slots ≤ R.slots) :
    va_Run p l e R s m args below meth c H locs cells slots 0 0 (F0 m pc ls st0) st (Qc (Value.ref a :: as).toArray) (va_A wc H.size) := by
  have hpre := CtP.pre hc (as := .ref a :: as) hP hD hS hC hn
  exact va_runV ⟨hc.1, hc.2.1, hc.2.2.2.1, hc.2.2.2.2.1, hc.2.2.2.2.2.1⟩ hmet (cwV n hc.2.2.2.2.2.1 (GoodIn.v hM) rfl rfl rfl hM.2.2.2.2.2.1 (rm_call hR hM.2.2.2.2.2.2)) ⟨hpre.1, va_recv hc.2.2.2.2.2.2.2.1.1 hP hci he, hpre.2⟩ rfl has hl.1 hst (lv_room (Nat.le_of_ble_eq_true hrs)) hdg hcl
theorem G_goI (hc : Cx p s m args meth c D cI cS X A own cc nL ret) {r : Int32} {wc wc' ws2 : va_W} {H : Heap} {locs : List Loc} {ls : Array Slot} {isC : List Nat} {st0 : List Value} {a : Array Value} {Po : Int32 → va_W → Prop} (hPo : ∀ r' w', Po r' w' → r' = r ∧ w' = wc') (hP : va_P D vwCl ws H) (hD : va_D A ws) (hS : va_S A s.heap H locs) (hl : lv_has ls nL lv) (hC : isC.map (fun i => ws[i]?) = wc.map some)
    (hr : va_Run p l e R s m args below meth c H locs cells slots 0 0 (F0 m pc ls st0) st (va_Qi Po (fun (w : va_W) t => va_P D vwCl w t.heap ∧ va_D (va_A wc H.size) w) (va_A wc H.size) a) (va_A wc H.size)) (hput : Put ws isC wc' ws2)
    (kk : G p l e R s m args below meth c D A nL cells slots Q ws2 lv (pc + 3) (.int r :: st)) : W p l e R s m args below meth c H locs cells slots Q (F0 m pc ls st0) := by
  have hF := va_free hD hS hc.2.2.2.2.2.2.2.2 isC hC
  refine va_calli hr hS (fun q _ h => hF q h) hF (fun r' w' t H1 locs1 ht hvm hp hB hz hk hS1 => ?_)
  obtain ⟨rfl, rfl⟩ := hPo r' w' hp
  rw [ht] at hB
  exact kk H1 locs1 ls (wput_P hP hD hC hput.1 hput.2.1 hk hB.1) (va_D_addr hput.2.2 hD) hS1 hl
theorem G_goV (hc : Cx p s m args meth c D cI cS X A own cc nL ret) {wc wc' ws2 : va_W} {H : Heap} {locs : List Loc} {ls : Array Slot} {isC : List Nat} {st0 : List Value} {a : Array Value} {Po : va_W → Prop} (hPo : ∀ w', Po w' → w' = wc') (hP : va_P D vwCl ws H) (hD : va_D A ws) (hS : va_S A s.heap H locs) (hl : lv_has ls nL lv) (hC : isC.map (fun i => ws[i]?) = wc.map some)
    (hr : va_Run p l e R s m args below meth c H locs cells slots 0 0 (F0 m pc ls st0) st (va_Qv Po (fun (w : va_W) t => va_P D vwCl w t.heap ∧ va_D (va_A wc H.size) w) (va_A wc H.size) a) (va_A wc H.size)) (hput : Put ws isC wc' ws2)
    (kk : G p l e R s m args below meth c D A nL cells slots Q ws2 lv (pc + 3) st) : W p l e R s m args below meth c H locs cells slots Q (F0 m pc ls st0) := by
  have hF := va_free hD hS hc.2.2.2.2.2.2.2.2 isC hC
  refine va_callv hr hS (fun q _ h => hF q h) hF (fun w' t H1 locs1 ht hvm hp hB hz hk hS1 => ?_)
  cases hPo w' hp
  rw [ht] at hB
  exact kk H1 locs1 ls (wput_P hP hD hC hput.1 hput.2.1 hk hB.1) (va_D_addr hput.2.2 hD) hS1 hl
abbrev PoI (r : Int32) (w : va_W) : Int32 → va_W → Prop := fun r' w' => r' = r ∧ w' = w
abbrev PoV (w : va_W) : va_W → Prop := fun w' => w' = w
theorem G_callSI (hc : Cx p s m args meth c D cI cS X A own cc nL ret) {index k mL n : Nat} {y : MethodName} {b : ByteArray} {rt : Option FieldType} {as : List Value} {r : Int32} {wc wc' : va_W} {st0 : List Value} (hM : MS own index y b mL rt n) (hct : CtI l D cI cS X y b mL rt k as wc (PoI r wc')) (isC : List Nat) {ws2 : va_W} (hR : RmOk R k) (hcl : cells ≤ R.cells ∧ slots ≤ R.slots) (hC : isC.map (fun i => ws[i]?) = wc.map some) (hn : va_nd isC = true) (has : as.length = n) (hst : st0 = as.reverse ++ st) (hrs : Nat.ble ((st.map fun v => v.category).sum) 8 = true) (hput : Put ws isC wc' ws2) (hdg : decode cc pc = .ok (.invokestatic index, 3))
    (kk : G p l e R s m args below meth c D A nL cells slots Q ws2 lv (pc + 3) (.int r :: st)) : G p l e R s m args below meth c D A nL cells slots Q ws lv pc st0 :=
  fun H _ _ hP hD hS hl => G_goI hc (fun _ _ h => h) hP hD hS hl hC (va_CallS hc hM hR (hct H.size) hP hD hS hl hC hn has hst hrs hdg hcl) hput kk
theorem G_callSV (hc : Cx p s m args meth c D cI cS X A own cc nL ret) {index k mL n : Nat} {y : MethodName} {b : ByteArray} {as : List Value} {wc wc' : va_W} {st0 : List Value} (hM : MS own index y b mL none n) (hct : CtV l D cI cS X y b mL k as wc (PoV wc')) (isC : List Nat) {ws2 : va_W} (hR : RmOk R k) (hcl : cells ≤ R.cells ∧ slots ≤ R.slots) (hC : isC.map (fun i => ws[i]?) = wc.map some) (hn : va_nd isC = true) (has : as.length = n) (hst : st0 = as.reverse ++ st) (hrs : Nat.ble ((st.map fun v => v.category).sum) 8 = true) (hput : Put ws isC wc' ws2) (hdg : decode cc pc = .ok (.invokestatic index, 3))
    (kk : G p l e R s m args below meth c D A nL cells slots Q ws2 lv (pc + 3) st) : G p l e R s m args below meth c D A nL cells slots Q ws lv pc st0 :=
  fun H _ _ hP hD hS hl => G_goV hc (fun _ h => h) hP hD hS hl hC (va_CallS hc hM hR (hct H.size) hP hD hS hl hC hn has hst hrs hdg hcl) hput kk
theorem G_callNI (hc : Cx p s m args meth c D cI cS X A own cc nL ret) {index k mL n : Nat} {y : MethodName} {host : String} {b : ByteArray} {rt : Option FieldType} {as : List Value} {r : Int32} {wc wc' : va_W} {st0 : List Value} (hM : MN own index y host b mL rt n) (hct : CtI l D cI cS X y b mL rt k as wc (PoI r wc')) (isC : List Nat) {ws2 : va_W} (hR : RmOk R k) (hcl : cells ≤ R.cells ∧ slots ≤ R.slots) (hC : isC.map (fun i => ws[i]?) = wc.map some) (hn : va_nd isC = true) (has : as.length = n) (hst : st0 = as.reverse ++ st) (hrs : Nat.ble ((st.map fun v => v.category).sum) 8 = true) (hput : Put ws isC wc' ws2) (hdg : decode cc pc = .ok (.invokestatic index, 3))
    (kk : G p l e R s m args below meth c D A nL cells slots Q ws2 lv (pc + 3) (.int r :: st)) : G p l e R s m args below meth c D A nL cells slots Q ws lv pc st0 :=
  fun H _ _ hP hD hS hl => G_goI hc (fun _ _ h => h) hP hD hS hl hC (va_CallN hc hM hR (hct H.size) hP hD hS hl hC hn has hst hrs hdg hcl) hput kk
theorem G_callVI (hc : Cx p s m args meth c D cI cS X A own cc nL ret) {index k mL n a : Nat} {C : String} {y : MethodName} {b : ByteArray} {rt : Option FieldType} {as : List Value} {r : Int32} {wc wc' : va_W} {st0 : List Value} (hM : MV own index C y b mL rt n) (hct : CtI l D cI cS X y b mL rt k (.ref a :: as) wc (PoI r wc')) (q0 : Nat) (isC : List Nat) {ws2 : va_W} {ci : Nat} {fs : List Value} {T : u_T} {N : Nat} (he : ws[q0]? = some (a, .inr (ci, fs))) (hci : vwCl[ci]? = some (C, T, N)) (hR : RmOk R k) (hcl : cells ≤ R.cells ∧ slots ≤ R.slots) (hC : isC.map (fun i => ws[i]?) = wc.map some) (hn : va_nd isC = true) (has : as.length = n) (hst : st0 = as.reverse ++ .ref a :: st) (hrs : Nat.ble ((st.map fun v => v.category).sum) 8 = true) (hput : Put ws isC wc' ws2) (hdg : decode cc pc = .ok (.invokevirtual index, 3))
    (kk : G p l e R s m args below meth c D A nL cells slots Q ws2 lv (pc + 3) (.int r :: st)) : G p l e R s m args below meth c D A nL cells slots Q ws lv pc st0 :=
  fun H _ _ hP hD hS hl => G_goI hc (fun _ _ h => h) hP hD hS hl hC (va_CallV hc hM hR (hct H.size) he hci hP hD hS hl hC hn has hst hrs hdg hcl) hput kk
theorem G_callVV (hc : Cx p s m args meth c D cI cS X A own cc nL ret) {index k mL n a : Nat} {C : String} {y : MethodName} {b : ByteArray} {as : List Value} {wc wc' : va_W} {st0 : List Value} (hM : MV own index C y b mL none n) (hct : CtV l D cI cS X y b mL k (.ref a :: as) wc (PoV wc')) (q0 : Nat) (isC : List Nat) {ws2 : va_W} {ci : Nat} {fs : List Value} {T : u_T} {N : Nat} (he : ws[q0]? = some (a, .inr (ci, fs))) (hci : vwCl[ci]? = some (C, T, N)) (hR : RmOk R k) (hcl : cells ≤ R.cells ∧ slots ≤ R.slots) (hC : isC.map (fun i => ws[i]?) = wc.map some) (hn : va_nd isC = true) (has : as.length = n) (hst : st0 = as.reverse ++ .ref a :: st) (hrs : Nat.ble ((st.map fun v => v.category).sum) 8 = true) (hput : Put ws isC wc' ws2) (hdg : decode cc pc = .ok (.invokevirtual index, 3))
    (kk : G p l e R s m args below meth c D A nL cells slots Q ws2 lv (pc + 3) st) : G p l e R s m args below meth c D A nL cells slots Q ws lv pc st0 :=
  fun H _ _ hP hD hS hl => G_goV hc (fun _ h => h) hP hD hS hl hC (va_CallV hc hM hR (hct H.size) he hci hP hD hS hl hC hn has hst hrs hdg hcl) hput kk
-- native and library calls
theorem G_copy (hc : Cx p s m args meth c D cI cS X A own cc nL ret) {index : Nat} (hM : Cond.methodLink own index arraycopyName ∈ lw_g) (hw : Cond.native arraycopyName ∈ lw_g ∧ Cond.static arraycopyName ∈ lw_g ∧ Cond.initialized "java/lang/System" ∈ lw_g) {a a0 n0 n1 : Nat} {f g g' : Nat → Int32} (q0 q1 : Nat) (ha0 : ws[q0]? = some (a0, .inl (cI, n0, .inl f))) (ha1 : ws[q1]? = some (a, .inl (cI, n1, .inl g))) {sp dp n : Int32} (h1 : ¬ sp < 0) (h2 : ¬ dp < 0) (h3 : ¬ n < 0) (h4 : sp.toNatClampNeg + n.toNatClampNeg ≤ n0) (h5 : dp.toNatClampNeg + n.toNatClampNeg ≤ n1) (hg : g' = va_cpy f g sp.toNatClampNeg dp.toNatClampNeg n.toNatClampNeg)
    (hR : 1 ≤ R.frames ∧ 64 ≤ R.locals) (hrs : Nat.ble ((st.map fun v => v.category).sum) 8 = true) {ws' : va_W} (hw' : ws.set q1 (a, .inl (cI, n1, .inl g')) = ws') (hdg : decode cc pc = .ok (.invokestatic index, 3)) (kk : G p l e R s m args below meth c D A nL cells slots Q ws' lv (pc + 3) st) : G p l e R s m args below meth c D A nL cells slots Q ws lv pc (.int n :: .int dp :: .ref a :: .int sp :: .ref a0 :: st) := by
  subst hw'
  subst hg
  intro H locs ls hP hD hS hl
  have h8 := Nat.le_of_ble_eq_true hrs
  have hz : nativeFrameWords "java/lang/System" "arraycopy" 5 + 11 ≤ 56 := by decide +kernel
  have h9 := hR.2
  have h10 : (st.map fun v => v.category).sum + (nativeFrameWords "java/lang/System" "arraycopy" 5 + 11) ≤ R.locals := by omega
  exact va_copyi hc.1 hc.2.1 (hc.2.2.2.1.trans hl.1.symm) hc.2.2.2.2.1 (hc.2.2.2.2.2.1 _ hM) (hc.2.2.2.2.2.1 _ hw.1) (hc.2.2.2.2.2.1 _ hw.2.1) (hc.2.2.2.2.2.1 _ hw.2.2) hc.2.2.2.2.2.2.2.1.1 hP hD hS q0 q1 0 0 ha0 ha1 rfl rfl rfl h1 h2 h3 h4 h5 (fun _ _ => rfl) hR.1 h10 hdg (fun H1 locs1 hP1 hD1 hS1 => kk H1 locs1 ls hP1 hD1 hS1 hl)
theorem G_min (hc : Cx p s m args meth c D cI cS X A own cc nL ret) {index : Nat} (hM : Cond.methodLink own index Lib.Math.min.name ∈ lw_g ∧ Cond.static Lib.Math.min.name ∈ lw_g ∧ Cond.initialized "java/lang/Math" ∈ lw_g ∧ Cond.code Lib.Math.min.name Lib.Math.min.code 2 (some .int) ∈ lw_g) (hR : 1 ≤ R.frames ∧ 64 ≤ R.locals) (hrs : Nat.ble ((st.map fun v => v.category).sum) 8 = true) (hcl : cells ≤ R.cells ∧ slots ≤ R.slots) {x y : Int32} (hdg : decode cc pc = .ok (.invokestatic index, 3)) (kk : G p l e R s m args below meth c D A nL cells slots Q ws lv (pc + 3) (.int (if y < x then y else x) :: st)) : G p l e R s m args below meth c D A nL cells slots Q ws lv pc (.int y :: .int x :: st) := by
  intro H locs ls hP hD hS hl
  exact va_mmin hc.1 hc.2.1 (hc.2.2.2.1.trans hl.1.symm) hc.2.2.2.2.1 (hc.2.2.2.2.2.1 _ hM.1) (hc.2.2.2.2.2.1 _ hM.2.1) (hc.2.2.2.2.2.1 _ hM.2.2.1) (hc.2.2.2.2.2.1 _ hM.2.2.2) hR.1 (by have h8 := Nat.le_of_ble_eq_true hrs; have h9 := hR.2; omega) hcl.1 hcl.2 hdg (kk H locs ls hP hD hS hl)
end GCALL
-- pure words
def rd (n : Nat) (f : Nat → Int32) (i : Int32) : Option Int32 := if (i < 0 ∨ n ≤ i.toNatClampNeg) then none else some (f i.toNatClampNeg)
def wr (n : Nat) (f : Nat → Int32) (i x : Int32) : Option (Nat → Int32) := if (i < 0 ∨ n ≤ i.toNatClampNeg) then none else some (upd f i.toNatClampNeg x)
def ckz (x : Int32) : Option Unit := if x = 0 ∨ x = 1 then some () else none
def ckd (x : Int32) : Option Unit := if x = 0 then none else some ()
def cpy (n0 n1 : Nat) (f g : Nat → Int32) (sp dp n : Int32) : Option (Nat → Int32) := if ¬ sp < 0 ∧ ¬ dp < 0 ∧ ¬ n < 0 ∧ sp.toNatClampNeg + n.toNatClampNeg ≤ n0 ∧ dp.toNatClampNeg + n.toNatClampNeg ≤ n1 then some (va_cpy f g sp.toNatClampNeg dp.toNatClampNeg n.toNatClampNeg) else none
def minI (x y : Int32) : Int32 := if y < x then y else x
theorem ob {α β : Type} {o : Option α} {k : α → Option β} {r : β} (h : o.bind k = some r) : ∃ x, o = some x ∧ k x = some r := by
  cases o with
  | none => cases h
  | some x => exact ⟨x, rfl, h⟩
theorem sb {α β : Type} {a : α} {k : α → Option β} {r : β} (h : (some a).bind k = some r) : ∃ x, x = a ∧ k x = some r := ⟨a, rfl, h⟩
theorem rb {n : Nat} {f : Nat → Int32} {i : Int32} {β : Type} {k : Int32 → Option β} {r : β} (h : (rd n f i).bind k = some r) : ∃ x, vp_in i n ∧ x = f i.toNatClampNeg ∧ k x = some r := by
  unfold rd at h
  by_cases hc : i < 0 ∨ n ≤ i.toNatClampNeg
  · rw [if_pos hc] at h; cases h
  · rw [if_neg hc] at h; exact ⟨_, hc, rfl, h⟩
theorem wb {n : Nat} {f : Nat → Int32} {i y : Int32} {β : Type} {k : (Nat → Int32) → Option β} {r : β} (h : (wr n f i y).bind k = some r) : ∃ x, vp_in i n ∧ x = upd f i.toNatClampNeg y ∧ k x = some r := by
  unfold wr at h
  by_cases hc : i < 0 ∨ n ≤ i.toNatClampNeg
  · rw [if_pos hc] at h; cases h
  · rw [if_neg hc] at h; exact ⟨_, hc, rfl, h⟩
theorem zb {x : Int32} {β : Type} {k : Unit → Option β} {r : β} (h : (ckz x).bind k = some r) : (x = 0 ∨ x = 1) ∧ k () = some r := by
  unfold ckz at h
  by_cases hc : x = 0 ∨ x = 1
  · rw [if_pos hc] at h; exact ⟨hc, h⟩
  · rw [if_neg hc] at h; cases h
theorem db {x : Int32} {β : Type} {k : Unit → Option β} {r : β} (h : (ckd x).bind k = some r) : ¬ x = 0 ∧ k () = some r := by
  unfold ckd at h
  by_cases hc : x = 0
  · rw [if_pos hc] at h; cases h
  · rw [if_neg hc] at h; exact ⟨hc, h⟩
theorem cb {n0 n1 : Nat} {f g : Nat → Int32} {sp dp n : Int32} {β : Type} {k : (Nat → Int32) → Option β} {r : β} (h : (cpy n0 n1 f g sp dp n).bind k = some r) : ∃ x, (¬ sp < 0 ∧ ¬ dp < 0 ∧ ¬ n < 0 ∧ sp.toNatClampNeg + n.toNatClampNeg ≤ n0 ∧ dp.toNatClampNeg + n.toNatClampNeg ≤ n1) ∧ x = va_cpy f g sp.toNatClampNeg dp.toNatClampNeg n.toNatClampNeg ∧ k x = some r := by
  unfold cpy at h
  by_cases hc : ¬ sp < 0 ∧ ¬ dp < 0 ∧ ¬ n < 0 ∧ sp.toNatClampNeg + n.toNatClampNeg ≤ n0 ∧ dp.toNatClampNeg + n.toNatClampNeg ≤ n1
  · rw [if_pos hc] at h; exact ⟨_, hc, rfl, h⟩
  · rw [if_neg hc] at h; cases h
theorem ip {p : Prop} [Decidable p] {α : Type} {a b r : α} (h : (if p then a else b) = r) (c : p) : a = r := by rw [if_pos c] at h; exact h
theorem inn {p : Prop} [Decidable p] {α : Type} {a b r : α} (h : (if p then a else b) = r) (c : ¬ p) : b = r := by rw [if_neg c] at h; exact h
theorem nz {α : Type} {x : α} {P : Prop} (h : none = some x) : P := by cases h
