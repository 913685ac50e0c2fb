theorem dvX1 : ∀ j, j < 4 → defaultValue (tyX1 j) = vp_V [.int (0 : Int32), .int (0 : Int32), .int (0 : Int32), .null] j := by
  intro j hj
  rcases (show j = 0 ∨ j = 1 ∨ j = 2 ∨ j = 3 by omega) with rfl | rfl | rfl | rfl <;> rfl
theorem dvX2 : ∀ j, j < 8 → defaultValue (tyX2 j) = vp_V [.null, .int (0 : Int32), .int (0 : Int32), .int (0 : Int32), .int (0 : Int32), .int (0 : Int32), .int (0 : Int32), .int (0 : Int32)] j := by
  intro j hj
  rcases (show j = 0 ∨ j = 1 ∨ j = 2 ∨ j = 3 ∨ j = 4 ∨ j = 5 ∨ j = 6 ∨ j = 7 by omega) with rfl | rfl | rfl | rfl | rfl | rfl | rfl | rfl <;> rfl
theorem dvX3 : ∀ j, j < 5 → defaultValue (tyX3 j) = vp_V [.null, .int (0 : Int32), .int (0 : Int32), .int (0 : Int32), .int (0 : Int32)] j := by
  intro j hj
  rcases (show j = 0 ∨ j = 1 ∨ j = 2 ∨ j = 3 ∨ j = 4 by omega) with rfl | rfl | rfl | rfl | rfl <;> rfl
theorem dvX4 : ∀ j, j < 13 → defaultValue (tyX4 j) = vp_V [.null, .null, .null, .null, .null, .int (0 : Int32), .int (0 : Int32), .int (0 : Int32), .int (0 : Int32), .int (0 : Int32), .int (0 : Int32), .int (0 : Int32), .int (0 : Int32)] j := by
  intro j hj
  rcases (show j = 0 ∨ j = 1 ∨ j = 2 ∨ j = 3 ∨ j = 4 ∨ j = 5 ∨ j = 6 ∨ j = 7 ∨ j = 8 ∨ j = 9 ∨ j = 10 ∨ j = 11 ∨ j = 12 by omega) with rfl | rfl | rfl | rfl | rfl | rfl | rfl | rfl | rfl | rfl | rfl | rfl | rfl <;> rfl
theorem dvX0 : ∀ j, j < 5 → defaultValue (tyX0 j) = vp_V [.int (0 : Int32), .int (0 : Int32), .int (0 : Int32), .int (0 : Int32), .int (0 : Int32)] j := by
  intro j hj
  rcases (show j = 0 ∨ j = 1 ∨ j = 2 ∨ j = 3 ∨ j = 4 by omega) with rfl | rfl | rfl | rfl | rfl <;> rfl
theorem oi_X0_3 : Cond.methodLink RX0 3 objectInit ∈ lw_g := lw_g_mem 175 (by decide +kernel) (by decide +kernel)
theorem oiw : Cond.instanceMethod objectInit ∈ lw_g ∧ Cond.code objectInit ⟨#[0xb1]⟩ 1 none ∈ lw_g := ⟨lw_g_mem 21 (by decide +kernel) (by decide +kernel), lw_g_mem 22 (by decide +kernel) (by decide +kernel)⟩
theorem oi_X1_3 : Cond.methodLink RX1 3 objectInit ∈ lw_g := lw_g_mem 28 (by decide +kernel) (by decide +kernel)
theorem aci : Cond.arrayClass .int ∈ lw_g := lw_g_mem 54 (by decide +kernel) (by decide +kernel)
theorem pF_X1_3 : ∃ (C : String) (T : u_T) (N : Nat), vwCl[1]? = some (C, T, N) ∧ (T 3).2.2.2 = true ∧ (T 3).1 = RX1 ∧ parseFieldDescriptor (T 3).2.2.1 = some (.array .int) := ⟨RX1, TX1, 4, rfl, rfl, rfl, by decide +kernel⟩
theorem m_X1_22 : MN RX1 22 yX5_withCode "PairShuffles" cX5_withCode 5 (some .int) 4 := ⟨by decide +kernel, lw_g_mem 30 (by decide +kernel) (by decide +kernel), lw_g_mem 1 (by decide +kernel) (by decide +kernel), lw_g_mem 31 (by decide +kernel) (by decide +kernel), ⟨by decide +kernel, by decide +kernel, by decide +kernel⟩, by decide⟩
theorem oi_X2_3 : Cond.methodLink RX2 3 objectInit ∈ lw_g := lw_g_mem 61 (by decide +kernel) (by decide +kernel)
theorem pF_X2_0 : ∃ (C : String) (T : u_T) (N : Nat), vwCl[2]? = some (C, T, N) ∧ (T 0).2.2.2 = true ∧ (T 0).1 = RX2 ∧ parseFieldDescriptor (T 0).2.2.1 = some (.array .int) := ⟨RX2, TX2, 8, rfl, rfl, rfl, by decide +kernel⟩
theorem oi_X3_3 : Cond.methodLink RX3 3 objectInit ∈ lw_g := lw_g_mem 100 (by decide +kernel) (by decide +kernel)
theorem n_X3_9 : NW RX3 9 1 4 [.int (0 : Int32), .int (0 : Int32), .int (0 : Int32), .null] := ⟨RX1, TX1, tyX1, rfl, inX1, tyX1_ok, lw_g_mem 101 (by decide +kernel) (by decide +kernel), lw_g_mem 24 (by decide +kernel) (by decide +kernel), lw_g_mem 2 (by decide +kernel) (by decide +kernel), dvX1⟩
theorem mi_X3_11 : MI RX3 11 yX1_init cX1_init 4 := ⟨lw_g_mem 102 (by decide +kernel) (by decide +kernel), lw_g_mem 26 (by decide +kernel) (by decide +kernel), lw_g_mem 2 (by decide +kernel) (by decide +kernel), lw_g_mem 27 (by decide +kernel) (by decide +kernel), ⟨by decide +kernel, by decide +kernel, by decide +kernel⟩, by decide, rfl⟩
theorem pF_X3_0 : ∃ (C : String) (T : u_T) (N : Nat), vwCl[3]? = some (C, T, N) ∧ (T 0).2.2.2 = true ∧ (T 0).1 = RX3 ∧ parseFieldDescriptor (T 0).2.2.1 = some (.object "PairShuffles$State") := ⟨RX3, TX3, 5, rfl, rfl, rfl, by decide +kernel⟩
theorem oi_X4_3 : Cond.methodLink RX4 3 objectInit ∈ lw_g := lw_g_mem 129 (by decide +kernel) (by decide +kernel)
theorem pF_X4_0 : ∃ (C : String) (T : u_T) (N : Nat), vwCl[4]? = some (C, T, N) ∧ (T 0).2.2.2 = true ∧ (T 0).1 = RX4 ∧ parseFieldDescriptor (T 0).2.2.1 = some (.array .int) := ⟨RX4, TX4, 13, rfl, rfl, rfl, by decide +kernel⟩
theorem pF_X4_1 : ∃ (C : String) (T : u_T) (N : Nat), vwCl[4]? = some (C, T, N) ∧ (T 1).2.2.2 = true ∧ (T 1).1 = RX4 ∧ parseFieldDescriptor (T 1).2.2.1 = some (.array .int) := ⟨RX4, TX4, 13, rfl, rfl, rfl, by decide +kernel⟩
theorem pF_X4_2 : ∃ (C : String) (T : u_T) (N : Nat), vwCl[4]? = some (C, T, N) ∧ (T 2).2.2.2 = true ∧ (T 2).1 = RX4 ∧ parseFieldDescriptor (T 2).2.2.1 = some (.array .int) := ⟨RX4, TX4, 13, rfl, rfl, rfl, by decide +kernel⟩
theorem pF_X4_3 : ∃ (C : String) (T : u_T) (N : Nat), vwCl[4]? = some (C, T, N) ∧ (T 3).2.2.2 = true ∧ (T 3).1 = RX4 ∧ parseFieldDescriptor (T 3).2.2.1 = some (.array .int) := ⟨RX4, TX4, 13, rfl, rfl, rfl, by decide +kernel⟩
theorem oi_X6_1 : Cond.methodLink RX6 1 objectInit ∈ lw_g := lw_g_mem 675 (by decide +kernel) (by decide +kernel)
theorem pF_X6_0 : ∃ (C : String) (T : u_T) (N : Nat), vwCl[6]? = some (C, T, N) ∧ (T 0).2.2.2 = true ∧ (T 0).1 = RX6 ∧ parseFieldDescriptor (T 0).2.2.1 = some (.array .int) := ⟨RX6, TX6, 15, rfl, rfl, rfl, by decide +kernel⟩
theorem pF_X6_1 : ∃ (C : String) (T : u_T) (N : Nat), vwCl[6]? = some (C, T, N) ∧ (T 1).2.2.2 = true ∧ (T 1).1 = RX6 ∧ parseFieldDescriptor (T 1).2.2.1 = some (.array .int) := ⟨RX6, TX6, 15, rfl, rfl, rfl, by decide +kernel⟩
theorem pF_X6_2 : ∃ (C : String) (T : u_T) (N : Nat), vwCl[6]? = some (C, T, N) ∧ (T 2).2.2.2 = true ∧ (T 2).1 = RX6 ∧ parseFieldDescriptor (T 2).2.2.1 = some (.array .int) := ⟨RX6, TX6, 15, rfl, rfl, rfl, by decide +kernel⟩
theorem pF_X6_5 : ∃ (C : String) (T : u_T) (N : Nat), vwCl[6]? = some (C, T, N) ∧ (T 5).2.2.2 = true ∧ (T 5).1 = RX6 ∧ parseFieldDescriptor (T 5).2.2.1 = some (.array .int) := ⟨RX6, TX6, 15, rfl, rfl, rfl, by decide +kernel⟩
theorem pF_X6_7 : ∃ (C : String) (T : u_T) (N : Nat), vwCl[6]? = some (C, T, N) ∧ (T 7).2.2.2 = true ∧ (T 7).1 = RX6 ∧ parseFieldDescriptor (T 7).2.2.1 = some (.array .int) := ⟨RX6, TX6, 15, rfl, rfl, rfl, by decide +kernel⟩
theorem pF_X6_8 : ∃ (C : String) (T : u_T) (N : Nat), vwCl[6]? = some (C, T, N) ∧ (T 8).2.2.2 = true ∧ (T 8).1 = RX6 ∧ parseFieldDescriptor (T 8).2.2.1 = some (.array .int) := ⟨RX6, TX6, 15, rfl, rfl, rfl, by decide +kernel⟩
theorem oi_X5_1 : Cond.methodLink RX5 1 objectInit ∈ lw_g := lw_g_mem 20 (by decide +kernel) (by decide +kernel)
theorem n_X5_7 : NW RX5 7 1 4 [.int (0 : Int32), .int (0 : Int32), .int (0 : Int32), .null] := ⟨RX1, TX1, tyX1, rfl, inX1, tyX1_ok, lw_g_mem 23 (by decide +kernel) (by decide +kernel), lw_g_mem 24 (by decide +kernel) (by decide +kernel), lw_g_mem 2 (by decide +kernel) (by decide +kernel), dvX1⟩
theorem mi_X5_9 : MI RX5 9 yX1_init cX1_init 4 := ⟨lw_g_mem 25 (by decide +kernel) (by decide +kernel), lw_g_mem 26 (by decide +kernel) (by decide +kernel), lw_g_mem 2 (by decide +kernel) (by decide +kernel), lw_g_mem 27 (by decide +kernel) (by decide +kernel), ⟨by decide +kernel, by decide +kernel, by decide +kernel⟩, by decide, rfl⟩
theorem pF_X5_0 : ∃ (C : String) (T : u_T) (N : Nat), vwCl[5]? = some (C, T, N) ∧ (T 0).2.2.2 = true ∧ (T 0).1 = RX5 ∧ parseFieldDescriptor (T 0).2.2.1 = some (.object "PairShuffles$State") := ⟨RX5, TX5, 8, rfl, rfl, rfl, by decide +kernel⟩
theorem cl_X5_7 : Cond.classLink RX5 7 RX1 ∈ lw_g := lw_g_mem 23 (by decide +kernel) (by decide +kernel)
theorem pF_X5_1 : ∃ (C : String) (T : u_T) (N : Nat), vwCl[5]? = some (C, T, N) ∧ (T 1).2.2.2 = true ∧ (T 1).1 = RX5 ∧ parseFieldDescriptor (T 1).2.2.1 = some (.array (.object "PairShuffles$State")) := ⟨RX5, TX5, 8, rfl, rfl, rfl, by decide +kernel⟩
theorem n_X5_20 : NW RX5 20 2 8 [.null, .int (0 : Int32), .int (0 : Int32), .int (0 : Int32), .int (0 : Int32), .int (0 : Int32), .int (0 : Int32), .int (0 : Int32)] := ⟨RX2, TX2, tyX2, rfl, inX2, tyX2_ok, lw_g_mem 56 (by decide +kernel) (by decide +kernel), lw_g_mem 57 (by decide +kernel) (by decide +kernel), lw_g_mem 3 (by decide +kernel) (by decide +kernel), dvX2⟩
theorem mi_X5_22 : MIN RX5 22 yX2_init "PairShuffles" cX2_init 1 := ⟨by decide +kernel, lw_g_mem 59 (by decide +kernel) (by decide +kernel), lw_g_mem 3 (by decide +kernel) (by decide +kernel), lw_g_mem 60 (by decide +kernel) (by decide +kernel), ⟨by decide +kernel, by decide +kernel, by decide +kernel⟩, by decide, rfl⟩
theorem pF_X5_3 : ∃ (C : String) (T : u_T) (N : Nat), vwCl[5]? = some (C, T, N) ∧ (T 3).2.2.2 = true ∧ (T 3).1 = RX5 ∧ parseFieldDescriptor (T 3).2.2.1 = some (.object "PairShuffles$Text") := ⟨RX5, TX5, 8, rfl, rfl, rfl, by decide +kernel⟩
theorem n_X5_27 : NW RX5 27 3 5 [.null, .int (0 : Int32), .int (0 : Int32), .int (0 : Int32), .int (0 : Int32)] := ⟨RX3, TX3, tyX3, rfl, inX3, tyX3_ok, lw_g_mem 95 (by decide +kernel) (by decide +kernel), lw_g_mem 96 (by decide +kernel) (by decide +kernel), lw_g_mem 4 (by decide +kernel) (by decide +kernel), dvX3⟩
theorem mi_X5_29 : MIN RX5 29 yX3_init "PairShuffles" cX3_init 1 := ⟨by decide +kernel, lw_g_mem 98 (by decide +kernel) (by decide +kernel), lw_g_mem 4 (by decide +kernel) (by decide +kernel), lw_g_mem 99 (by decide +kernel) (by decide +kernel), ⟨by decide +kernel, by decide +kernel, by decide +kernel⟩, by decide, rfl⟩
theorem pF_X5_4 : ∃ (C : String) (T : u_T) (N : Nat), vwCl[5]? = some (C, T, N) ∧ (T 4).2.2.2 = true ∧ (T 4).1 = RX5 ∧ parseFieldDescriptor (T 4).2.2.1 = some (.object "PairShuffles$Trial") := ⟨RX5, TX5, 8, rfl, rfl, rfl, by decide +kernel⟩
theorem n_X5_34 : NW RX5 34 4 13 [.null, .null, .null, .null, .null, .int (0 : Int32), .int (0 : Int32), .int (0 : Int32), .int (0 : Int32), .int (0 : Int32), .int (0 : Int32), .int (0 : Int32), .int (0 : Int32)] := ⟨RX4, TX4, tyX4, rfl, inX4, tyX4_ok, lw_g_mem 124 (by decide +kernel) (by decide +kernel), lw_g_mem 125 (by decide +kernel) (by decide +kernel), lw_g_mem 5 (by decide +kernel) (by decide +kernel), dvX4⟩
theorem mi_X5_36 : MIN RX5 36 yX4_init "PairShuffles" cX4_init 1 := ⟨by decide +kernel, lw_g_mem 127 (by decide +kernel) (by decide +kernel), lw_g_mem 5 (by decide +kernel) (by decide +kernel), lw_g_mem 128 (by decide +kernel) (by decide +kernel), ⟨by decide +kernel, by decide +kernel, by decide +kernel⟩, by decide, rfl⟩
theorem pF_X5_5 : ∃ (C : String) (T : u_T) (N : Nat), vwCl[5]? = some (C, T, N) ∧ (T 5).2.2.2 = true ∧ (T 5).1 = RX5 ∧ parseFieldDescriptor (T 5).2.2.1 = some (.object "PairShuffles$Ways") := ⟨RX5, TX5, 8, rfl, rfl, rfl, by decide +kernel⟩
theorem n_X5_41 : NW RX5 41 0 5 [.int (0 : Int32), .int (0 : Int32), .int (0 : Int32), .int (0 : Int32), .int (0 : Int32)] := ⟨RX0, TX0, tyX0, rfl, inX0, tyX0_ok, lw_g_mem 170 (by decide +kernel) (by decide +kernel), lw_g_mem 171 (by decide +kernel) (by decide +kernel), lw_g_mem 6 (by decide +kernel) (by decide +kernel), dvX0⟩
theorem mi_X5_43 : MIN RX5 43 yX0_init "PairShuffles" cX0_init 1 := ⟨by decide +kernel, lw_g_mem 173 (by decide +kernel) (by decide +kernel), lw_g_mem 6 (by decide +kernel) (by decide +kernel), lw_g_mem 174 (by decide +kernel) (by decide +kernel), ⟨by decide +kernel, by decide +kernel, by decide +kernel⟩, by decide, rfl⟩
theorem pF_X5_6 : ∃ (C : String) (T : u_T) (N : Nat), vwCl[5]? = some (C, T, N) ∧ (T 6).2.2.2 = true ∧ (T 6).1 = RX5 ∧ parseFieldDescriptor (T 6).2.2.1 = some (.object "PairShuffles$Measure") := ⟨RX5, TX5, 8, rfl, rfl, rfl, by decide +kernel⟩
theorem pF_X5_7 : ∃ (C : String) (T : u_T) (N : Nat), vwCl[5]? = some (C, T, N) ∧ (T 7).2.2.2 = true ∧ (T 7).1 = RX5 ∧ parseFieldDescriptor (T 7).2.2.1 = some (.array .int) := ⟨RX5, TX5, 8, rfl, rfl, rfl, by decide +kernel⟩
def f_X0_init (F : Nat) : Option (Unit) :=
some ()
def f_X1_init (F : Nat) : Option (Int32) :=
(f_X5_withCode F (0 : Int32) (0 : Int32) (0 : Int32) (0 : Int32)).bind fun z2 =>
(f_X5_withCode F z2 (0 : Int32) (1 : Int32) (1 : Int32)).bind fun z4 =>
(f_X5_withCode F z4 (0 : Int32) (2 : Int32) (2 : Int32)).bind fun z6 =>
(f_X5_withCode F z6 (0 : Int32) (3 : Int32) (3 : Int32)).bind fun z8 =>
(f_X5_withCode F z8 (1 : Int32) (0 : Int32) (1 : Int32)).bind fun z10 =>
(f_X5_withCode F z10 (1 : Int32) (1 : Int32) (2 : Int32)).bind fun z12 =>
(f_X5_withCode F z12 (1 : Int32) (2 : Int32) (3 : Int32)).bind fun z14 =>
(f_X5_withCode F z14 (1 : Int32) (3 : Int32) (0 : Int32)).bind fun z16 =>
(f_X5_withCode F z16 (2 : Int32) (0 : Int32) (2 : Int32)).bind fun z18 =>
(f_X5_withCode F z18 (2 : Int32) (1 : Int32) (3 : Int32)).bind fun z20 =>
(f_X5_withCode F z20 (2 : Int32) (2 : Int32) (0 : Int32)).bind fun z22 =>
(f_X5_withCode F z22 (2 : Int32) (3 : Int32) (1 : Int32)).bind fun z24 =>
(f_X5_withCode F z24 (3 : Int32) (0 : Int32) (3 : Int32)).bind fun z26 =>
(f_X5_withCode F z26 (3 : Int32) (1 : Int32) (0 : Int32)).bind fun z28 =>
(f_X5_withCode F z28 (3 : Int32) (2 : Int32) (1 : Int32)).bind fun z30 =>
(f_X5_withCode F z30 (3 : Int32) (3 : Int32) (2 : Int32)).bind fun z32 =>
some z32
def f_X2_init (F : Nat) : Option (Unit) :=
some ()
def f_X3_init (F : Nat) : Option (Int32) :=
(f_X1_init F).bind fun z2 =>
some z2
def f_X4_init (F : Nat) : Option (Unit) :=
some ()
def f_X6_init (F : Nat) : Option ((Nat → Int32)) :=
(wr 116 zf (11 : Int32) (0 : Int32)).bind fun v7 =>
(wr 116 v7 (12 : Int32) (1 : Int32)).bind fun v8 =>
(wr 116 v8 (13 : Int32) (2 : Int32)).bind fun v9 =>
(wr 116 v9 (14 : Int32) (3 : Int32)).bind fun v10 =>
(wr 116 v10 (15 : Int32) (1 : Int32)).bind fun v11 =>
(wr 116 v11 (16 : Int32) (2 : Int32)).bind fun v12 =>
(wr 116 v12 (17 : Int32) (3 : Int32)).bind fun v13 =>
(wr 116 v13 (18 : Int32) (0 : Int32)).bind fun v14 =>
(wr 116 v14 (19 : Int32) (2 : Int32)).bind fun v15 =>
(wr 116 v15 (20 : Int32) (3 : Int32)).bind fun v16 =>
(wr 116 v16 (21 : Int32) (0 : Int32)).bind fun v17 =>
(wr 116 v17 (22 : Int32) (1 : Int32)).bind fun v18 =>
(wr 116 v18 (23 : Int32) (3 : Int32)).bind fun v19 =>
(wr 116 v19 (24 : Int32) (0 : Int32)).bind fun v20 =>
(wr 116 v20 (25 : Int32) (1 : Int32)).bind fun v21 =>
(wr 116 v21 (26 : Int32) (2 : Int32)).bind fun v22 =>
some v22
def f_X5_init (F : Nat) : Option (Int32 × Int32 × Int32 × Int32 × Int32 × Int32) :=
(f_X1_init F).bind fun z2 =>
(f_X2_init F).bind fun z7 =>
(f_X3_init F).bind fun z11 =>
(f_X4_init F).bind fun z16 =>
(f_X0_init F).bind fun z23 =>
(f_X1_init F).bind fun z27 =>
(f_X1_init F).bind fun z31 =>
(f_X1_init F).bind fun z35 =>
(f_X1_init F).bind fun z39 =>
some (z2, z11, z27, z31, z35, z39)
