section GX
variable {p : Program} {l : Launch} {e : Env} {R : Room} {s : State} {m : MethodId} {args : Array Value} {below : List Frame} {meth : Method} {c : Code} {D : va_G} {cI cS : ClassId} {X : XP} {A : Nat → Prop} {own : String} {cc : ByteArray} {nL cells slots : Nat} {ret : Option FieldType} {Q : State → Prop} {ws : va_W} {lv : List (Nat × Value)} {pc : Nat} {st : List Value}
theorem Cx.ex (hc : Cx p s m args meth c D cI cS X A own cc nL ret) : EX X A s s.heap := hc.2.2.2.2.2.2.2.1.2.2.1
theorem G_kogets (hc : Cx p s m args meth c D cI cS X A own cc nL ret) {index : Nat} (hw : Cond.fieldLink own index "PairShuffles" "KINSHIP_ORDER" "[I" ∈ lw_g) (hdg : decode cc pc = .ok (.getstatic index, 3)) (k : G p l e R s m args below meth c D A nL cells slots Q ws lv (pc + 3) (.ref X.1 :: st)) : G p l e R s m args below meth c D A nL cells slots Q ws lv pc st :=
  fun H locs ls hP hD hS hl => va_gets hc.1 hc.2.1 hc.ex.1 hS hc.2.2.2.2.1 (hc.2.2.2.2.2.1 _ hw) (fun _ h => h) hdg (k H locs ls hP hD hS hl)
theorem G_kolen (hc : Cx p s m args meth c D cI cS X A own cc nL ret) (hdg : decode cc pc = .ok (.arraylength, 1)) (k : G p l e R s m args below meth c D A nL cells slots Q ws lv (pc + 1) (.int 4 :: st)) : G p l e R s m args below meth c D A nL cells slots Q ws lv pc (.ref X.1 :: st) :=
  fun H locs ls hP hD hS hl => va_tlen hc.1 hc.2.1 hc.ex.2.1 hS (by decide) hdg (k H locs ls hP hD hS hl)
theorem G_koald (hc : Cx p s m args meth c D cI cS X A own cc nL ret) {i v : Int32} (hin : vp_in i 4) (hv : v = ko_f i.toNatClampNeg) (hdg : decode cc pc = .ok (.iaload, 1)) (k : G p l e R s m args below meth c D A nL cells slots Q ws lv (pc + 1) (.int v :: st)) : G p l e R s m args below meth c D A nL cells slots Q ws lv pc (.int i :: .ref X.1 :: st) := by
  subst hv
  exact fun H locs ls hP hD hS hl => va_ti hc.1 hc.2.1 hc.ex.2.1 hS hin rfl hdg (k H locs ls hP hD hS hl)
-- texts
theorem G_ldcS (hc : Cx p s m args meth c D cI cS X A own cc nL ret) {index i : Nat} {tx : String} (hZ : vk_R own index tx (X.2.1 i) s) (hdg : decode cc pc = .ok (.ldc index, 2)) (k : G p l e R s m args below meth c D A nL cells slots Q ws lv (pc + 2) (.ref (X.2.1 i) :: st)) : G p l e R s m args below meth c D A nL cells slots Q ws lv pc st :=
  fun H locs ls hP hD hS hl => va_ldcS hc.1 hc.2.1 hc.2.2.2.2.1 hZ hdg (k H locs ls hP hD hS hl)
theorem Cx.er (hc : Cx p s m args meth c D cI cS X A own cc nL ret) : ER X s := hc.2.2.2.2.2.2.2.1.2.2.2
theorem G_compact (hc : Cx p s m args meth c D cI cS X A own cc nL ret) {index : Nat} (hw : Cond.fieldLink own index "java/lang/String" "COMPACT_STRINGS" "Z" ∈ lw_g) (hdg : decode cc pc = .ok (.getstatic index, 3)) (k : G p l e R s m args below meth c D A nL cells slots Q ws lv (pc + 3) (.int 1 :: st)) : G p l e R s m args below meth c D A nL cells slots Q ws lv pc st :=
  fun H locs ls hP hD hS hl => va_gets hc.1 hc.2.1 hc.ex.2.2.1 hS hc.2.2.2.2.1 (hc.2.2.2.2.2.1 _ hw) (fun _ h => h) hdg (k H locs ls hP hD hS hl)
theorem G_form (hc : Cx p s m args meth c D cI cS X A own cc nL ret) {index : Nat} (hw : Cond.fieldLink own index "jdk/internal/util/Preconditions" "SIOOBE_FORMATTER" "Ljava/util/function/BiFunction;" ∈ lw_g) (hdg : decode cc pc = .ok (.getstatic index, 3)) (k : ∀ v : Value, (v = .null ∨ ∃ t, v = .ref t) → G p l e R s m args below meth c D A nL cells slots Q ws lv (pc + 3) (v :: st)) : G p l e R s m args below meth c D A nL cells slots Q ws lv pc st := by
  intro H locs ls hP hD hS hl
  rcases hc.ex.2.2.2.1 with hz | ⟨t, hz⟩
  · exact va_gets hc.1 hc.2.1 hz hS hc.2.2.2.2.1 (hc.2.2.2.2.2.1 _ hw) (fun _ h => h) hdg (k _ (Or.inl rfl) H locs ls hP hD hS hl)
  · exact va_gets hc.1 hc.2.1 hz hS hc.2.2.2.2.1 (hc.2.2.2.2.2.1 _ hw) (fun _ h => h) hdg (k _ (Or.inr ⟨t, rfl⟩) H locs ls hP hD hS hl)
theorem G_strc (hc : Cx p s m args meth c D cI cS X A own cc nL ret) {index i : Nat} (hi : i < 5) (hw : Cond.fieldLink own index "java/lang/String" "coder" "B" ∈ lw_g) (hdg : decode cc pc = .ok (.getfield index, 3)) (k : G p l e R s m args below meth c D A nL cells slots Q ws lv (pc + 3) (.int 0 :: st)) : G p l e R s m args below meth c D A nL cells slots Q ws lv pc (.ref (X.2.1 i) :: st) :=
  fun H locs ls hP hD hS hl => vk_getf hc.1 hc.2.1 (hc.ex.2.2.2.2.1 i hi).2.1 hS hc.2.2.2.2.1 (hc.2.2.2.2.2.1 _ hw) (fun _ h => h) hdg (k H locs ls hP hD hS hl)
theorem G_strv (hc : Cx p s m args meth c D cI cS X A own cc nL ret) {index i : Nat} (hi : i < 5) (hw : Cond.fieldLink own index "java/lang/String" "value" "[B" ∈ lw_g) (hdg : decode cc pc = .ok (.getfield index, 3)) (k : G p l e R s m args below meth c D A nL cells slots Q ws lv (pc + 3) (.ref (X.2.2 i) :: st)) : G p l e R s m args below meth c D A nL cells slots Q ws lv pc (.ref (X.2.1 i) :: st) :=
  fun H locs ls hP hD hS hl => vk_getf hc.1 hc.2.1 (hc.ex.2.2.2.2.1 i hi).2.2.1 hS hc.2.2.2.2.1 (hc.2.2.2.2.2.1 _ hw) (fun _ h => h) hdg (k H locs ls hP hD hS hl)
theorem G_bytl (hc : Cx p s m args meth c D cI cS X A own cc nL ret) {i : Nat} (hi : i < 5) {v : Int32} (hv : Int32.ofNat (sx_len.getD i 0) = v) (hdg : decode cc pc = .ok (.arraylength, 1)) (k : G p l e R s m args below meth c D A nL cells slots Q ws lv (pc + 1) (.int v :: st)) : G p l e R s m args below meth c D A nL cells slots Q ws lv pc (.ref (X.2.2 i) :: st) :=
  fun H locs ls hP hD hS hl => va_tlen hc.1 hc.2.1 (hc.ex.2.2.2.2.1 i hi).2.2.2 hS hv hdg (k H locs ls hP hD hS hl)
theorem G_byta (hc : Cx p s m args meth c D cI cS X A own cc nL ret) {i : Nat} (hi : i < 5) {k0 : Int32} (hin : vp_in k0 (sx_len.getD i 0)) (hdg : decode cc pc = .ok (.baload, 1)) (k : G p l e R s m args below meth c D A nL cells slots Q ws lv (pc + 1) (.int (sx_f i k0.toNatClampNeg) :: st)) : G p l e R s m args below meth c D A nL cells slots Q ws lv pc (.int k0 :: .ref (X.2.2 i) :: st) :=
  fun H locs ls hP hD hS hl => va_tb hc.1 hc.2.1 (hc.ex.2.2.2.2.1 i hi).2.2.2 hS hin rfl hdg (k H locs ls hP hD hS hl)
theorem G_ishr (hc : Cx p s m args meth c D cI cS X A own cc nL ret) {x y : Int32} (hdg : decode cc pc = .ok (.ishr, 1)) (k : G p l e R s m args below meth c D A nL cells slots Q ws lv (pc + 1) (.int (x >>> (y &&& 31)) :: st)) : G p l e R s m args below meth c D A nL cells slots Q ws lv pc (.int y :: .int x :: st) :=
  fun H locs ls hP hD hS hl => lv_ishr hc.1 hc.2.1 hdg (k H locs ls hP hD hS hl)
theorem G_i2c (hc : Cx p s m args meth c D cI cS X A own cc nL ret) {x : Int32} (hdg : decode cc pc = .ok (.i2c, 1)) (k : G p l e R s m args below meth c D A nL cells slots Q ws lv (pc + 1) (.int (x.toUInt32 % 65536).toInt32 :: st)) : G p l e R s m args below meth c D A nL cells slots Q ws lv pc (.int x :: st) :=
  fun H locs ls hP hD hS hl => lv_i2c hc.1 hc.2.1 hdg rfl (k H locs ls hP hD hS hl)
theorem va_CallVS (hc : Cx p s m args meth c D cI cS X A own cc nL ret) {index k mL n i : Nat} {y : MethodName} {b : ByteArray} {rt : Option FieldType} {as : List Value} {wc : va_W} {Qc : Array Value → State → Outcome → State → Prop} {H : Heap} {locs : List Loc} {ls : Array Slot} {isC : List Nat} {st0 : List Value}
    (hM : MV own index "java/lang/String" y b mL rt n) (hR : RmOk R k) (hi : i < 5) (hmet : Met l y (.code y b mL rt :: lw_g) (rmk k) (CtP D cI cS X (.ref (X.2.1 i) :: as) wc H.size) Qc 0 0 (va_A wc H.size)) (hP : va_P D vwCl ws H) (hD : va_D A ws) (hS : va_S A s.heap H locs) (hl : lv_has ls nL lv) (hC : isC.map (fun i => ws[i]?) = wc.map some) (hn : va_nd isC = true) (has : as.length = n) (hst : st0 = as.reverse ++ .ref (X.2.1 i) :: st) (hrs : Nat.ble ((st.map fun v => v.category).sum) 8 = true) (hdg : decode cc pc = .ok (.invokevirtual index, 3)) (hcl : cells ≤ R.cells ∧ slots ≤ R.slots) :
    va_Run p l e R s m args below meth c H locs cells slots 0 0 (F0 m pc ls st0) st (Qc (Value.ref (X.2.1 i) :: as).toArray) (va_A wc H.size) := by
  have hpre := CtP.pre hc (as := .ref (X.2.1 i) :: as) hP hD hS hC hn
  exact va_runV ⟨hc.1, hc.2.1, hc.2.2.2.1, hc.2.2.2.2.1, hc.2.2.2.2.2.1⟩ hmet (cwV n hc.2.2.2.2.2.1 (GoodIn.v hM) rfl rfl rfl hM.2.2.2.2.2.1 (rm_call hR hM.2.2.2.2.2.2)) ⟨hpre.1, vk_recv hc.ex.2.2.2.2 hi hS, hpre.2⟩ rfl has hl.1 hst (lv_room (Nat.le_of_ble_eq_true hrs)) hdg hcl
theorem G_callVS (hc : Cx p s m args meth c D cI cS X A own cc nL ret) {index k mL n i : Nat} {y : MethodName} {b : ByteArray} {rt : Option FieldType} {as : List Value} {r : Int32} {st0 : List Value} (hM : MV own index "java/lang/String" y b mL rt n) (hi : i < 5) (hct : CtI l D cI cS X y b mL rt k (.ref (X.2.1 i) :: as) [] (PoI r [])) (hR : RmOk R k) (hcl : cells ≤ R.cells ∧ slots ≤ R.slots) (has : as.length = n) (hst : st0 = as.reverse ++ .ref (X.2.1 i) :: st) (hrs : Nat.ble ((st.map fun v => v.category).sum) 8 = true) (hdg : decode cc pc = .ok (.invokevirtual index, 3))
    (kk : G p l e R s m args below meth c D A nL cells slots Q ws lv (pc + 3) (.int r :: st)) : G p l e R s m args below meth c D A nL cells slots Q ws lv pc st0 :=
  fun H _ _ hP hD hS hl => G_goI (isC := []) hc (fun _ _ h => h) hP hD hS hl rfl (va_CallVS (isC := []) hc hM hR hi (hct H.size) hP hD hS hl rfl rfl has hst hrs hdg hcl) ⟨rfl, rfl, rfl⟩ kk
theorem G_nreturn {ty : FieldType} (hc : Cx p s m args meth c D cI cS X A own cc nL (some ty)) {Po : Int32 → va_W → Prop} {v : Int32} (hz : narrow ty (.int v) = .int v) (hPo : Po v ws) (hdg : decode cc pc = .ok (.ireturn, 1)) : G p l e R s m args below meth c D A nL 0 0 (QI below args s D A Po) ws lv pc [.int v] := by
  intro H locs ls hP hD hS hl
  have hlk := hc.2.2.2.2.2.2.1
  exact W.zret hc.1 hc.2.1 hc.2.2.1 hz (fun t ht hW => ⟨⟨v, ws, rfl, hPo, by rw [ht]; exact hP, hD⟩, hS.F ht⟩) hS.2.2 hdg hlk
end GX
section STR
variable (l : Launch) (D : va_G) (cI cS : ClassId) (X : XP)
theorem c_str_coder {i : Nat} (hi : i < 5) : CtI l D cI cS X yJ0_coder_7d493 cJ0_coder_7d493 1 (some .byte) 1 [.ref (X.2.1 i)] [] (PoI 0 []) := by
  refine CtI.of (by decide +kernel) rfl ?_
  intro p e s m below meth c A hc
  refine G_lv (lv' := [(0, .ref (X.2.1 i))]) (lsame_cons rfl lsame_nil) ?_
  refine G_compact hc k_J0_38 dJ0_coder_7d493_0 ?_
  refine G_if_eq (tgt := 13) hc dJ0_coder_7d493_3 (by decide) (fun h => absurd h (by decide)) (fun _ => ?_)
  refine G_aload_n hc dJ0_coder_7d493_6 rfl ?_
  refine G_strc hc hi k_J0_15 dJ0_coder_7d493_7 ?_
  refine G_goto (tgt := 14) hc dJ0_coder_7d493_10 (by decide) ?_
  exact G_nreturn hc rfl ⟨rfl, rfl⟩ dJ0_coder_7d493_14
theorem c_str_isLatin1 {i : Nat} (hi : i < 5) : CtI l D cI cS X yJ0_isLatin1_aae02 cJ0_isLatin1_aae02 1 (some .boolean) 1 [.ref (X.2.1 i)] [] (PoI 1 []) := by
  refine CtI.of (by decide +kernel) rfl ?_
  intro p e s m below meth c A hc
  refine G_lv (lv' := [(0, .ref (X.2.1 i))]) (lsame_cons rfl lsame_nil) ?_
  refine G_compact hc k_J0_38 dJ0_isLatin1_aae02_0 ?_
  refine G_if_eq (tgt := 17) hc dJ0_isLatin1_aae02_3 (by decide) (fun h => absurd h (by decide)) (fun _ => ?_)
  refine G_aload_n hc dJ0_isLatin1_aae02_6 rfl ?_
  refine G_strc hc hi k_J0_15 dJ0_isLatin1_aae02_7 ?_
  refine G_if_ne (tgt := 17) hc dJ0_isLatin1_aae02_10 (by decide) (fun h => absurd rfl h) (fun _ => ?_)
  refine G_iconst (v := 1) hc dJ0_isLatin1_aae02_13 (by decide) ?_
  refine G_goto (tgt := 18) hc dJ0_isLatin1_aae02_14 (by decide) ?_
  exact G_nreturn hc rfl ⟨rfl, rfl⟩ dJ0_isLatin1_aae02_18
theorem sx_len_i : ∀ i : Nat, i < 5 → (Int32.ofNat (sx_len.getD i 0)) >>> ((0 : Int32) &&& 31) = Int32.ofNat (sx_len.getD i 0) := by decide +kernel
theorem c_str_length {i : Nat} (hi : i < 5) : CtI l D cI cS X yJ0_length_8abf5 cJ0_length_8abf5 1 (some .int) 2 [.ref (X.2.1 i)] [] (PoI (Int32.ofNat (sx_len.getD i 0)) []) := by
  refine CtI.of (by decide +kernel) rfl ?_
  intro p e s m below meth c A hc
  refine G_lv (lv' := [(0, .ref (X.2.1 i))]) (lsame_cons rfl lsame_nil) ?_
  refine G_aload_n hc dJ0_length_8abf5_0 rfl ?_
  refine G_strv hc hi k_J0_9 dJ0_length_8abf5_1 ?_
  refine G_bytl hc hi rfl dJ0_length_8abf5_4 ?_
  refine G_aload_n hc dJ0_length_8abf5_5 rfl ?_
  refine G_callVS hc m_J0_335 hi (c_str_coder l D cI cS X hi) (rmok_of (Nat.le_of_ble_eq_true rfl)) ⟨Nat.zero_le _, Nat.zero_le _⟩ rfl rfl rfl dJ0_length_8abf5_6 ?_
  refine G_ishr hc dJ0_length_8abf5_9 ?_
  refine G_top (sx_len_i i hi).symm ?_
  exact G_ireturn hc ⟨rfl, rfl⟩ dJ0_length_8abf5_10
theorem c_pre_check {v : Value} (hv : v = .null ∨ ∃ t, v = .ref t) {i n : Int32} (h0 : ¬ i < 0) (h1 : i < n) : CtI l D cI cS X yJ3_checkIndex_8e157 cJ3_checkIndex_8e157 3 (some .int) 1 [.int i, .int n, v] [] (PoI i []) := by
  have key : Nat.ble (lg_sl [.int i, .int n, v]).length 3 = true ∧ lsame (lv_args 0 [.int i, .int n, v]) [(0, .int i), (1, .int n)] := by
    rcases hv with rfl | ⟨t, rfl⟩
    · exact ⟨rfl, lsame_cons rfl (lsame_cons rfl lsame_nil)⟩
    · exact ⟨rfl, lsame_cons rfl (lsame_cons rfl lsame_nil)⟩
  refine CtI.of (by decide +kernel) key.1 ?_
  intro p e s m below meth c A hc
  refine G_lv key.2 ?_
  refine G_iload_n hc dJ3_checkIndex_8e157_0 rfl ?_
  refine G_if_lt (tgt := 9) hc dJ3_checkIndex_8e157_1 (by decide) (fun h => absurd h h0) (fun _ => ?_)
  refine G_iload_n hc dJ3_checkIndex_8e157_4 rfl ?_
  refine G_iload_n hc dJ3_checkIndex_8e157_5 rfl ?_
  refine G_icmp_lt (tgt := 16) hc dJ3_checkIndex_8e157_6 (by decide) (fun _ => ?_) (fun h => absurd h1 h)
  refine G_iload_n hc dJ3_checkIndex_8e157_16 rfl ?_
  exact G_ireturn hc ⟨rfl, rfl⟩ dJ3_checkIndex_8e157_17
theorem c_str_check {i n : Int32} (h0 : ¬ i < 0) (h1 : i < n) : CtV l D cI cS X yJ0_checkIndex_df160 cJ0_checkIndex_df160 2 2 [.int i, .int n] [] (PoV []) := by
  refine CtV.of (by decide +kernel) rfl ?_
  intro p e s m below meth c A hc
  refine G_lv (lv' := [(0, .int i), (1, .int n)]) (lsame_cons rfl (lsame_cons rfl lsame_nil)) ?_
  refine G_iload_n hc dJ0_checkIndex_df160_0 rfl ?_
  refine G_iload_n hc dJ0_checkIndex_df160_1 rfl ?_
  refine G_form hc k_J0_1053 dJ0_checkIndex_df160_2 (fun v hv => ?_)
  refine G_callSI (ws2 := []) hc m_J0_1059 (c_pre_check l D cI cS X hv h0 h1) [] (rmok_of (Nat.le_of_ble_eq_true rfl)) ⟨Nat.zero_le _, Nat.zero_le _⟩ rfl rfl rfl rfl rfl ⟨rfl, rfl, rfl⟩ dJ0_checkIndex_df160_5 ?_
  refine G_pop hc dJ0_checkIndex_df160_8 rfl ?_
  exact G_return hc rfl dJ0_checkIndex_df160_9
theorem sx_b : ∀ i : Nat, i < 5 → ∀ j : Nat, j < 5 → (((sx_f i j) &&& 255).toUInt32 % 65536).toInt32 = sx_f i j ∧ narrow .char (.int (sx_f i j)) = .int (sx_f i j) := by decide +kernel
theorem sx_l5 : ∀ i : Nat, i < 5 → sx_len.getD i 0 ≤ 5 := by decide
theorem c_lat_charAt {i : Nat} (hi : i < 5) {k : Int32} (hk : vp_in k (sx_len.getD i 0)) : CtI l D cI cS X yJ1_charAt_3b067 cJ1_charAt_3b067 2 (some .char) 3 [.ref (X.2.2 i), .int k] [] (PoI (sx_f i k.toNatClampNeg) []) := by
  have h5 := sx_l5 i hi
  obtain ⟨j, hj, rfl⟩ := vp_in_of hk (by omega)
  have hc' : (nI j).toNatClampNeg = j := nI_clamp (by omega)
  obtain ⟨hb1, hb2⟩ := sx_b i hi j (by omega)
  refine CtI.of (by decide +kernel) rfl ?_
  intro p e s m below meth c A hc
  refine G_lv (lv' := [(0, .ref (X.2.2 i)), (1, .int (nI j))]) (lsame_cons rfl (lsame_cons rfl lsame_nil)) ?_
  refine G_iload_n hc dJ1_charAt_3b067_0 rfl ?_
  refine G_aload_n hc dJ1_charAt_3b067_1 rfl ?_
  refine G_bytl hc hi rfl dJ1_charAt_3b067_2 ?_
  refine G_callSV (ws2 := []) hc m_J1_9 (c_str_check l D cI cS X (nI_pos (by omega)) (nI_lt hj (by omega))) [] (rmok_of (Nat.le_of_ble_eq_true rfl)) ⟨Nat.zero_le _, Nat.zero_le _⟩ rfl rfl rfl rfl rfl ⟨rfl, rfl, rfl⟩ dJ1_charAt_3b067_3 ?_
  refine G_aload_n hc dJ1_charAt_3b067_6 rfl ?_
  refine G_iload_n hc dJ1_charAt_3b067_7 rfl ?_
  refine G_byta hc hi hk dJ1_charAt_3b067_8 ?_
  refine G_sipush (v := 255) hc dJ1_charAt_3b067_9 (by decide) ?_
  refine G_iand hc dJ1_charAt_3b067_12 ?_
  refine G_i2c hc dJ1_charAt_3b067_13 ?_
  rw [hc'] at *
  refine G_top hb1.symm ?_
  exact G_nreturn hc hb2 ⟨rfl, rfl⟩ dJ1_charAt_3b067_14
theorem c_str_charAt {i : Nat} (hi : i < 5) {k : Int32} (hk : vp_in k (sx_len.getD i 0)) : CtI l D cI cS X yJ0_charAt_5068e cJ0_charAt_5068e 2 (some .char) 4 [.ref (X.2.1 i), .int k] [] (PoI (sx_f i k.toNatClampNeg) []) := by
  have h5 := sx_l5 i hi
  have hb2 : narrow .char (.int (sx_f i k.toNatClampNeg)) = .int (sx_f i k.toNatClampNeg) := by
    obtain ⟨j, hj, rfl⟩ := vp_in_of hk (by omega)
    rw [nI_clamp (by omega : j < 2 ^ 31)]
    exact (sx_b i hi j (by omega)).2
  refine CtI.of (by decide +kernel) rfl ?_
  intro p e s m below meth c A hc
  refine G_lv (lv' := [(0, .ref (X.2.1 i)), (1, .int k)]) (lsame_cons rfl (lsame_cons rfl lsame_nil)) ?_
  refine G_aload_n hc dJ0_charAt_5068e_0 rfl ?_
  refine G_callVS hc m_J0_492 hi (c_str_isLatin1 l D cI cS X hi) (rmok_of (Nat.le_of_ble_eq_true rfl)) ⟨Nat.zero_le _, Nat.zero_le _⟩ rfl rfl rfl dJ0_charAt_5068e_1 ?_
  refine G_if_eq (tgt := 16) hc dJ0_charAt_5068e_4 (by decide) (fun h => absurd h (by decide)) (fun _ => ?_)
  refine G_aload_n hc dJ0_charAt_5068e_7 rfl ?_
  refine G_strv hc hi k_J0_9 dJ0_charAt_5068e_8 ?_
  refine G_iload_n hc dJ0_charAt_5068e_11 rfl ?_
  refine G_callSI (ws2 := []) hc m_J0_495 (c_lat_charAt l D cI cS X hi hk) [] (rmok_of (Nat.le_of_ble_eq_true rfl)) ⟨Nat.zero_le _, Nat.zero_le _⟩ rfl rfl rfl rfl rfl ⟨rfl, rfl, rfl⟩ dJ0_charAt_5068e_12 ?_
  exact G_nreturn hc hb2 ⟨rfl, rfl⟩ dJ0_charAt_5068e_15
end STR
section GX2
variable {p : Program} {l : Launch} {e : Env} {R : Room} {s : State} {m : MethodId} {args : Array Value} {below : List Frame} {meth : Method} {c : Code} {D : va_G} {cI cS : ClassId} {X : XP} {A : Nat → Prop} {own : String} {cc : ByteArray} {nL cells slots : Nat} {ret : Option FieldType} {Q : State → Prop} {ws : va_W} {lv : List (Nat × Value)} {pc : Nat} {st : List Value}
theorem G_strlen (hc : Cx p s m args meth c D cI cS X A own cc nL ret) {index i : Nat} {v : Int32} (hi : i < 5) (hv : Int32.ofNat (sx_len.getD i 0) = v) (hM : MV own index "java/lang/String" yJ0_length_8abf5 cJ0_length_8abf5 1 (some .int) 0) (hR : RmOk R 2) (hcl : cells ≤ R.cells ∧ slots ≤ R.slots) (hrs : Nat.ble ((st.map fun v => v.category).sum) 8 = true) (hdg : decode cc pc = .ok (.invokevirtual index, 3))
    (kk : G p l e R s m args below meth c D A nL cells slots Q ws lv (pc + 3) (.int v :: st)) : G p l e R s m args below meth c D A nL cells slots Q ws lv pc (.ref (X.2.1 i) :: st) := by
  subst hv
  exact G_callVS hc hM hi (c_str_length l D cI cS X hi) hR hcl rfl rfl hrs hdg kk
theorem G_charAt (hc : Cx p s m args meth c D cI cS X A own cc nL ret) {index i n : Nat} {k v : Int32} (hi : i < 5) (hn : sx_len.getD i 0 = n) (hk : vp_in k n) (hv : v = sx_f i k.toNatClampNeg) (hM : MV own index "java/lang/String" yJ0_charAt_5068e cJ0_charAt_5068e 2 (some .char) 1) (hR : RmOk R 4) (hcl : cells ≤ R.cells ∧ slots ≤ R.slots) (hrs : Nat.ble ((st.map fun v => v.category).sum) 8 = true) (hdg : decode cc pc = .ok (.invokevirtual index, 3))
    (kk : G p l e R s m args below meth c D A nL cells slots Q ws lv (pc + 3) (.int v :: st)) : G p l e R s m args below meth c D A nL cells slots Q ws lv pc (.int k :: .ref (X.2.1 i) :: st) := by
  subst hv
  subst hn
  exact G_callVS hc hM hi (c_str_charAt l D cI cS X hi hk) hR hcl rfl rfl hrs hdg kk
end GX2
