def f_X5_lengthOf (F : Nat) (a0 : Int32) : Option (Int32) :=
some (ushr a0 (20 : Int32))
def f_X5_letterOf (F : Nat) (a0 : Int32) (a1 : Int32) : Option (Int32) :=
some ((ushr a0 ((2 : Int32) * a1)) &&& (3 : Int32))
def f_X5_letterAt (F : Nat) (x_now_row : Int32) (a1 : Int32) : Option (Int32) :=
(if 0 ≤ a1 then
(f_X5_lengthOf F x_now_row).bind fun z1 =>
((((if z1 ≤ a1 then
some (-1000004 : Int32)
else
(f_X5_letterOf F x_now_row a1).bind fun z6 =>
some z6)) : Option (Int32)).bind fun t3 =>
some t3)
else
some (-1000001 : Int32))
def f_X5_within (F : Nat) (a0 : Int32) (a1 : Int32) : Option (Int32) :=
((((if a0 < 0 then
some (0 : Int32)
else
(if a1 < a0 then
some (0 : Int32)
else
some (1 : Int32)))) : Option (Int32)).bind fun t1 =>
(ckz t1).bind fun _ =>
some t1)
def f_X5_codeIn (F : Nat) (a0 : Int32) (a1 : Int32) (a2 : Int32) : Option (Int32) :=
some ((ushr a0 ((2 : Int32) * (((4 : Int32) * a1) + a2))) &&& (3 : Int32))
def f_X5_codeOf (F : Nat) (x_now_table : Int32) (a1 : Int32) (a2 : Int32) : Option (Int32) :=
(f_X5_within F a1 (3 : Int32)).bind fun z1 =>
(if z1 = 0 then
some (-1000001 : Int32)
else
(f_X5_within F a2 (3 : Int32)).bind fun z3 =>
(if z3 = 0 then
some (-1000001 : Int32)
else
(f_X5_codeIn F x_now_table a1 a2).bind fun z5 =>
some z5))
def f_X5_pairsIn_L5 (F : Nat) (a0 : Int32) (a1 : Int32) (a2 : Int32) : Nat → (Int32) → (Int32) → Option ((Int32))
  | 0, _, _ => none
  | n + 1, u1, u2 =>
    (f_X5_lengthOf F a0).bind fun z9 =>
    (if z9 ≤ u2 then
    some u1
    else
    (f_X5_letterOf F a0 (u2 - (1 : Int32))).bind fun z11 =>
    ((((if z11 = a1 then
    (f_X5_letterOf F a0 u2).bind fun z16 =>
    (if z16 = a2 then
    (some (u1 + (1 : Int32))).bind fun v18 =>
    some v18
    else
    some u1)
    else
    some u1)) : Option (Int32)).bind fun t13 =>
    (some (u2 + (1 : Int32))).bind fun v21 =>
    f_X5_pairsIn_L5 F a0 a1 a2 n t13 v21))
def f_X5_pairsIn (F : Nat) (a0 : Int32) (a1 : Int32) (a2 : Int32) : Option (Int32) :=
((f_X5_pairsIn_L5 F a0 a1 a2 F (0 : Int32) (1 : Int32)).bind fun e3 =>
some e3)
def f_X5_pairsAheadOf_L5 (F : Nat) (x_pairCounts : Nat → Int32) (a1 : Int32) (a2 : Int32) : Nat → (Int32) → (Int32) → Option ((Int32))
  | 0, _, _ => none
  | n + 1, u1, u2 =>
    (if (16 : Int32) ≤ u2 then
    some u1
    else
    (rd 16 x_pairCounts u2).bind fun v9 =>
    ((((if v9 = a2 then
    some (1 : Int32)
    else
    some (0 : Int32))) : Option (Int32)).bind fun t10 =>
    (rd 16 x_pairCounts u2).bind fun v14 =>
    ((((if a2 < v14 then
    (some (u1 + (1 : Int32))).bind fun v18 =>
    some v18
    else
    (if t10 = 0 then
    some u1
    else
    (if a1 ≤ u2 then
    some u1
    else
    (some (u1 + (1 : Int32))).bind fun v19 =>
    some v19)))) : Option (Int32)).bind fun t15 =>
    (some (u2 + (1 : Int32))).bind fun v23 =>
    f_X5_pairsAheadOf_L5 F x_pairCounts a1 a2 n t15 v23)))
def f_X5_pairsAheadOf (F : Nat) (x_pairCounts : Nat → Int32) (a1 : Int32) (a2 : Int32) : Option (Int32) :=
((f_X5_pairsAheadOf_L5 F x_pairCounts a1 a2 F (0 : Int32) (0 : Int32)).bind fun e3 =>
some e3)
def f_X5_pairAt_L22 (F : Nat) (x_now_row : Int32) : Nat → (Int32) → (Nat → Int32) → Option (((Nat → Int32)))
  | 0, _, _ => none
  | n + 1, u5, u6 =>
    (if (16 : Int32) ≤ u5 then
    some u6
    else
    (f_X5_pairsIn F x_now_row (u5 / (4 : Int32)) (irem u5 (4 : Int32))).bind fun z13 =>
    (wr 16 u6 u5 z13).bind fun v15 =>
    (some (u5 + (1 : Int32))).bind fun v16 =>
    f_X5_pairAt_L22 F x_now_row n v16 v15)
def f_X5_pairAt_L61 (F : Nat) (a1 : Int32) (e7 : (Nat → Int32)) : Nat → (Int32) → Option ((Int32) ⊕ (Unit))
  | 0, _ => none
  | n + 1, u18 =>
    (if (16 : Int32) ≤ u18 then
    some (Sum.inr ())
    else
    (rd 16 e7 u18).bind fun v28 =>
    (f_X5_pairsAheadOf F e7 u18 v28).bind fun z29 =>
    (if z29 = a1 then
    some (Sum.inl u18)
    else
    (some (u18 + (1 : Int32))).bind fun v31 =>
    f_X5_pairAt_L61 F a1 e7 n v31))
def f_X5_pairAt (F : Nat) (x_now_row : Int32) (x_pairCounts : Nat → Int32) (a1 : Int32) (a2 : Int32) : Option (Int32 × (Nat → Int32)) :=
(f_X5_within F a1 (15 : Int32)).bind fun z1 =>
(if z1 = 0 then
some ((-1000001 : Int32), x_pairCounts)
else
(f_X5_within F a2 (1 : Int32)).bind fun z3 =>
(if z3 = 0 then
some ((-1000001 : Int32), x_pairCounts)
else
((f_X5_pairAt_L22 F x_now_row F (0 : Int32) x_pairCounts).bind fun e7 =>
((f_X5_pairAt_L61 F a1 e7 F (0 : Int32)).bind fun e19 =>
(Sum.elim (fun ax26 =>
((((if a2 = 0 then
some ax26
else
(rd 16 e7 ax26).bind fun v37 =>
some v37)) : Option (Int32)).bind fun t34 =>
some (t34, e7))) (fun ax27 =>
some ((-1000004 : Int32), e7))) e19))))
def f_X5_lettersIn_L4 (F : Nat) (a0 : Int32) (a1 : Int32) : Nat → (Int32) → (Int32) → Option ((Int32))
  | 0, _, _ => none
  | n + 1, u1, u2 =>
    (f_X5_lengthOf F a0).bind fun z9 =>
    (if z9 ≤ u2 then
    some u1
    else
    (f_X5_letterOf F a0 u2).bind fun z11 =>
    ((((if z11 = a1 then
    (some (u1 + (1 : Int32))).bind fun v16 =>
    some v16
    else
    some u1)) : Option (Int32)).bind fun t13 =>
    (some (u2 + (1 : Int32))).bind fun v18 =>
    f_X5_lettersIn_L4 F a0 a1 n t13 v18))
def f_X5_lettersIn (F : Nat) (a0 : Int32) (a1 : Int32) : Option (Int32) :=
((f_X5_lettersIn_L4 F a0 a1 F (0 : Int32) (0 : Int32)).bind fun e3 =>
some e3)
def f_X5_commonDivisor_L7 (F : Nat)  : Nat → (Int32) → (Int32) → (Int32) → Option ((Int32))
  | 0, _, _, _ => none
  | n + 1, u1, u2, u3 =>
    (if (64 : Int32) ≤ u3 then
    some u1
    else
    (if u2 = 0 then
    some u1
    else
    (ckd u2).bind fun _ =>
    (some (irem u1 u2)).bind fun v11 =>
    (some (u3 + (1 : Int32))).bind fun v12 =>
    f_X5_commonDivisor_L7 F  n u2 v11 v12))
def f_X5_commonDivisor (F : Nat) (a0 : Int32) (a1 : Int32) : Option (Int32) :=
((f_X5_commonDivisor_L7 F  F a0 a1 (0 : Int32)).bind fun e4 =>
some e4)
def f_X5_bias (F : Nat) (x_now_row : Int32) (a1 : Int32) (a2 : Int32) (a3 : Int32) : Option (Int32) :=
(f_X5_within F a1 (3 : Int32)).bind fun z1 =>
(if z1 = 0 then
some (-1000001 : Int32)
else
(f_X5_within F a2 (3 : Int32)).bind fun z3 =>
(if z3 = 0 then
some (-1000001 : Int32)
else
(f_X5_within F a3 (1 : Int32)).bind fun z5 =>
(if z5 = 0 then
some (-1000001 : Int32)
else
(f_X5_lettersIn F x_now_row a1).bind fun z7 =>
(f_X5_lettersIn F x_now_row a2).bind fun z9 =>
(some (z7 * z9)).bind fun v11 =>
(if v11 = 0 then
some (-1000004 : Int32)
else
(f_X5_pairsIn F x_now_row a1 a2).bind fun z12 =>
(f_X5_lengthOf F x_now_row).bind fun z14 =>
(some (z12 * z14)).bind fun v16 =>
(f_X5_commonDivisor F v16 v11).bind fun z17 =>
(if (1 : Int32) ≤ z17 then
((((if a3 = 0 then
some v16
else
some v11)) : Option (Int32)).bind fun t19 =>
(ckd z17).bind fun _ =>
some (t19 / z17))
else
some (-1000004 : Int32))))))
def f_X5_keepsPairs (F : Nat) (a0 : Int32) : Option (Int32) :=
((((if a0 = (1 : Int32) then
some (1 : Int32)
else
(if a0 = (2 : Int32) then
some (1 : Int32)
else
some (0 : Int32)))) : Option (Int32)).bind fun t1 =>
(ckz t1).bind fun _ =>
some t1)
def f_X5_keepsCodes (F : Nat) (a0 : Int32) : Option (Int32) :=
((((if a0 = (3 : Int32) then
some (1 : Int32)
else
some (0 : Int32))) : Option (Int32)).bind fun t1 =>
(ckz t1).bind fun _ =>
some t1)
def f_X5_wordCode (F : Nat) (a0 : Int32) (a1 : Int32) (a2 : Int32) : Option (Int32) :=
(f_X5_letterOf F a1 (a2 - (1 : Int32))).bind fun z1 =>
(f_X5_letterOf F a1 a2).bind fun z3 =>
(f_X5_codeIn F a0 z1 z3).bind fun z5 =>
some z5
def f_X5_longer (F : Nat) (a0 : Int32) (a1 : Int32) : Option (Int32) :=
(f_X5_lengthOf F a0).bind fun z1 =>
(if z1 < (10 : Int32) then
some ((a0 + (1048576 : Int32)) ||| ((a1 &&& (3 : Int32)) <<< (((2 : Int32) * z1) &&& 31)))
else
some a0)
def f_J7_fill_53178_L5 (F : Nat) (n_b0 : Nat) (a1 : Int32) (v1 : Int32) : Nat → (Int32) → (Nat → Int32) → Option (((Nat → Int32)))
  | 0, _, _ => none
  | n + 1, u2, u3 =>
    (if v1 ≤ u2 then
    some u3
    else
    (wr n_b0 u3 u2 a1).bind fun v10 =>
    (some (u2 + (1 : Int32))).bind fun v11 =>
    f_J7_fill_53178_L5 F n_b0 a1 v1 n v11 v10)
def f_J7_fill_53178 (F : Nat) (n_b0 : Nat) (b0 : Nat → Int32) (a1 : Int32) : Option ((Nat → Int32)) :=
(some (Int32.ofNat n_b0)).bind fun v1 =>
((f_J7_fill_53178_L5 F n_b0 a1 v1 F (0 : Int32) b0).bind fun e4 =>
some e4)
def f_X4_countStock_L21 (F : Nat) (w_row : Int32) (w_length : Int32) (w_pairs : Int32) : Nat → (Int32) → (Nat → Int32) → Option (((Nat → Int32)))
  | 0, _, _ => none
  | n + 1, u7, u8 =>
    (if w_length ≤ u7 then
    some u8
    else
    (f_X5_letterOf F w_row u7).bind fun z15 =>
    ((((if w_pairs = 0 then
    some z15
    else
    (f_X5_letterOf F w_row (u7 - (1 : Int32))).bind fun z20 =>
    some ((z20 * (4 : Int32)) + z15))) : Option (Int32)).bind fun t17 =>
    ((((if t17 < 0 then
    some u8
    else
    (if (16 : Int32) ≤ t17 then
    some u8
    else
    (rd 16 u8 t17).bind fun v26 =>
    (wr 16 u8 t17 (v26 + (1 : Int32))).bind fun v27 =>
    some v27))) : Option ((Nat → Int32))).bind fun t23 =>
    (some (u7 + (1 : Int32))).bind fun v30 =>
    f_X4_countStock_L21 F w_row w_length w_pairs n v30 t23)))
def f_X4_countStock (F : Nat) (w_row : Int32) (w_length : Int32) (w_pairs : Int32) (w_stock : Nat → Int32) : Option ((Nat → Int32)) :=
(f_J7_fill_53178 F 16 w_stock (0 : Int32)).bind fun z1 =>
((((if w_pairs = 0 then
some (0 : Int32)
else
some (1 : Int32))) : Option (Int32)).bind fun t3 =>
((f_X4_countStock_L21 F w_row w_length w_pairs F t3 z1).bind fun e9 =>
some e9))
def f_X4_weighStock_L9 (F : Nat) (w_stock : Nat → Int32) : Nat → (Int32) → (Int32) → (Nat → Int32) → (Int32) → Option (((Nat → Int32) × Int32))
  | 0, _, _, _, _ => none
  | n + 1, u1, u2, u3, u4 =>
    (if (16 : Int32) ≤ u2 then
    some (u3, u4)
    else
    (if (16 : Int32) ≤ u2 then
    some (u3, u4)
    else
    (wr 16 u3 u2 u1).bind fun v11 =>
    (rd 16 w_stock u2).bind fun v12 =>
    (some (u4 + (u1 * v12))).bind fun v13 =>
    (rd 16 w_stock u2).bind fun v14 =>
    (some (u1 * (v14 + (1 : Int32)))).bind fun v15 =>
    (some (u2 + (1 : Int32))).bind fun v16 =>
    f_X4_weighStock_L9 F w_stock n v15 v16 v11 v13))
def f_X4_weighStock (F : Nat) (w_stock : Nat → Int32) (w_weight : Nat → Int32) : Option (Int32 × (Nat → Int32)) :=
((f_X4_weighStock_L9 F w_stock F (1 : Int32) (0 : Int32) w_weight (0 : Int32)).bind fun e5 =>
some (e5.2, e5.1))
def f_X4_prepare_L60 (F : Nat) (o_row : Int32) (o_table : Int32) (z1 : Int32) : Nat → (Int32) → (Int32) → Option ((Int32))
  | 0, _, _ => none
  | n + 1, u7, u8 =>
    (if z1 ≤ u7 then
    some u8
    else
    (f_X5_wordCode F o_table o_row u7).bind fun z15 =>
    (f_X5_longer F u8 z15).bind fun z17 =>
    (some (u7 + (2 : Int32))).bind fun v19 =>
    f_X4_prepare_L60 F o_row o_table z1 n v19 z17)
def f_X4_prepare (F : Nat) (w_measure : Bool) (w_pairs : Int32) (w_stock : Nat → Int32) (w_weight : Nat → Int32) (w_known : Nat → Int32) (o_row : Int32) (o_table : Int32) : Option (Int32 × Int32 × Int32 × Int32 × Int32 × Int32 × (Nat → Int32) × (Nat → Int32) × (Nat → Int32)) :=
(f_X5_lengthOf F o_row).bind fun z1 =>
((((if w_measure = false then
some (minI (z1 + (1 : Int32)) (11 : Int32))
else
some (1 : Int32))) : Option (Int32)).bind fun t3 =>
((f_X4_prepare_L60 F o_row o_table z1 F (1 : Int32) (0 : Int32)).bind fun e9 =>
(f_X4_countStock F o_row z1 w_pairs w_stock).bind fun z21 =>
(f_X4_weighStock F z21 w_weight).bind fun z23 =>
(f_J7_fill_53178 F 577 w_known (0 : Int32)).bind fun z25 =>
some (t3, o_row, e9, o_table, z1, z23.1, z21, z23.2, z25)))
def f_X4_entryOf (F : Nat) (w_pairs : Int32) (a1 : Int32) (a2 : Int32) (a3 : Int32) : Option (Int32) :=
(if a3 = 0 then
some (576 : Int32)
else
((((if w_pairs = 0 then
some ((a1 * (4 : Int32)) + a2)
else
some a1)) : Option (Int32)).bind fun t1 =>
some t1))
def f_X4_isKnown (F : Nat) (w_known : Nat → Int32) (a1 : Int32) : Option (Int32) :=
((((if a1 < 0 then
some (1 : Int32)
else
(if (577 : Int32) ≤ a1 then
some (1 : Int32)
else
(rd 577 w_known a1).bind fun v4 =>
(if v4 = 0 then
some (0 : Int32)
else
some (1 : Int32))))) : Option (Int32)).bind fun t1 =>
(ckz t1).bind fun _ =>
some t1)
def f_X4_begin_L26 (F : Nat) (v2 : Int32) : Nat → (Int32) → (Nat → Int32) → Option (((Nat → Int32)))
  | 0, _, _ => none
  | n + 1, u3, u4 =>
    (if (v2 + (11 : Int32)) ≤ u3 then
    some u4
    else
    (if (6347 : Int32) ≤ u3 then
    some u4
    else
    (wr 6347 u4 u3 (0 : Int32)).bind fun v11 =>
    (some (u3 + (1 : Int32))).bind fun v12 =>
    f_X4_begin_L26 F v2 n v12 v11))
def f_X4_begin (F : Nat) (w_known : Nat → Int32) (w_found : Nat → Int32) (a1 : Int32) : Option ((Nat → Int32) × (Nat → Int32)) :=
(if a1 < 0 then
some (w_known, w_found)
else
(if a1 < (577 : Int32) then
(wr 577 w_known a1 (1 : Int32)).bind fun v1 =>
(some (a1 * (11 : Int32))).bind fun v2 =>
((f_X4_begin_L26 F v2 F v2 w_found).bind fun e5 =>
some (v1, e5))
else
some (w_known, w_found)))
def f_X4_leftWithout (F : Nat) (w_stock : Nat → Int32) (w_weight : Nat → Int32) (a1 : Int32) (a2 : Int32) : Option (Int32) :=
(if a2 < 0 then
some (-1 : Int32)
else
(if (16 : Int32) ≤ a2 then
some (-1 : Int32)
else
(if (16 : Int32) ≤ a2 then
some (-1 : Int32)
else
(if 0 ≤ a1 then
(rd 16 w_weight a2).bind fun v1 =>
(rd 16 w_stock a2).bind fun v2 =>
(some (v2 + (1 : Int32))).bind fun v3 =>
(if v1 < (1 : Int32) then
some (-1 : Int32)
else
(if (1 : Int32) ≤ v3 then
(ckd v1).bind fun _ =>
(ckd v3).bind fun _ =>
((((if (irem (a1 / v1) v3) ≤ 0 then
some (-1 : Int32)
else
some (a1 - v1))) : Option (Int32)).bind fun t6 =>
some t6)
else
some (-1 : Int32)))
else
some (-1 : Int32)))))
def f_X4_leftAfter (F : Nat) (w_row : Int32) (w_rowCodes : Int32) (w_table : Int32) (w_pairs : Int32) (w_codes : Int32) (w_stock : Nat → Int32) (w_weight : Nat → Int32) (a1 : Int32) (a2 : Int32) (a3 : Int32) (a4 : Int32) : Option (Int32) :=
(if w_pairs = 0 then
(if w_codes = 0 then
((((if w_pairs = 0 then
some a4
else
some ((a2 * (4 : Int32)) + a4))) : Option (Int32)).bind fun t1 =>
(f_X4_leftWithout F w_stock w_weight a1 t1).bind fun z5 =>
some z5)
else
(if (irem a3 (2 : Int32)) = (1 : Int32) then
(f_X5_codeIn F w_table a2 a4).bind fun z13 =>
(f_X5_letterOf F w_rowCodes (a3 / (2 : Int32))).bind fun z15 =>
(if z13 = z15 then
((((if w_pairs = 0 then
some a4
else
some ((a2 * (4 : Int32)) + a4))) : Option (Int32)).bind fun t17 =>
(f_X4_leftWithout F w_stock w_weight a1 t17).bind fun z21 =>
some z21)
else
some (-1 : Int32))
else
((((if w_pairs = 0 then
some a4
else
some ((a2 * (4 : Int32)) + a4))) : Option (Int32)).bind fun t7 =>
(f_X4_leftWithout F w_stock w_weight a1 t7).bind fun z11 =>
some z11)))
else
(if a3 = 0 then
(f_X5_letterOf F w_row (0 : Int32)).bind fun z51 =>
((((if a4 = z51 then
some a1
else
some (-1 : Int32))) : Option (Int32)).bind fun t53 =>
some t53)
else
(if w_codes = 0 then
((((if w_pairs = 0 then
some a4
else
some ((a2 * (4 : Int32)) + a4))) : Option (Int32)).bind fun t26 =>
(f_X4_leftWithout F w_stock w_weight a1 t26).bind fun z30 =>
some z30)
else
(if (irem a3 (2 : Int32)) = (1 : Int32) then
(f_X5_codeIn F w_table a2 a4).bind fun z38 =>
(f_X5_letterOf F w_rowCodes (a3 / (2 : Int32))).bind fun z40 =>
(if z38 = z40 then
((((if w_pairs = 0 then
some a4
else
some ((a2 * (4 : Int32)) + a4))) : Option (Int32)).bind fun t42 =>
(f_X4_leftWithout F w_stock w_weight a1 t42).bind fun z46 =>
some z46)
else
some (-1 : Int32))
else
((((if w_pairs = 0 then
some a4
else
some ((a2 * (4 : Int32)) + a4))) : Option (Int32)).bind fun t32 =>
(f_X4_leftWithout F w_stock w_weight a1 t32).bind fun z36 =>
some z36)))))
def f_X0_gain (F : Nat) (q_which : Int32) (q_x : Int32) (q_y : Int32) (q_row : Int32) (q_table : Int32) (a1 : Int32) (a2 : Int32) (a3 : Int32) : Option (Int32) :=
((((if q_which = (0 : Int32) then
((((if a1 ≤ 0 then
some (0 : Int32)
else
(if a2 = q_x then
(if a3 = q_y then
some (1 : Int32)
else
some (0 : Int32))
else
some (0 : Int32)))) : Option (Int32)).bind fun t5 =>
some t5)
else
(if q_which = (1 : Int32) then
((((if a1 = 0 then
some (1 : Int32)
else
(if a2 = a3 then
some (0 : Int32)
else
some (1 : Int32)))) : Option (Int32)).bind fun t12 =>
some t12)
else
(if q_which = (2 : Int32) then
(f_X5_letterOf F q_row a1).bind fun z18 =>
((((if z18 = a3 then
some (1 : Int32)
else
some (0 : Int32))) : Option (Int32)).bind fun t20 =>
some t20)
else
((((if (irem a1 (2 : Int32)) = (1 : Int32) then
(f_X5_codeIn F q_table a2 a3).bind fun z27 =>
(if z27 = q_x then
some (1 : Int32)
else
some (0 : Int32))
else
some (0 : Int32))) : Option (Int32)).bind fun t24 =>
some t24))))) : Option (Int32)).bind fun t1 =>
((((if t1 = 0 then
some (0 : Int32)
else
some (1 : Int32))) : Option (Int32)).bind fun t31 =>
some t31))
def f_X4_gain (F : Nat) (w_measure : Bool) (wM_which : Int32) (wM_x : Int32) (wM_y : Int32) (wM_row : Int32) (wM_table : Int32) (a1 : Int32) (a2 : Int32) (a3 : Int32) : Option (Int32) :=
((((if w_measure = false then
(f_X0_gain F wM_which wM_x wM_y wM_row wM_table a1 a2 a3).bind fun z5 =>
some z5
else
some (0 : Int32))) : Option (Int32)).bind fun t1 =>
some t1)
def f_X4_number (F : Nat) (w_found : Nat → Int32) (a1 : Int32) (a2 : Int32) : Option (Int32) :=
(some ((a1 * (11 : Int32)) + a2)).bind fun v1 =>
((((if a2 < 0 then
some (0 : Int32)
else
(if (11 : Int32) ≤ a2 then
some (0 : Int32)
else
(if v1 < 0 then
some (0 : Int32)
else
(if (6347 : Int32) ≤ v1 then
some (0 : Int32)
else
some (1 : Int32)))))) : Option (Int32)).bind fun t2 =>
((((if t2 = 0 then
some (0 : Int32)
else
(rd 6347 w_found v1).bind fun v12 =>
some v12)) : Option (Int32)).bind fun t9 =>
some t9))
def f_X4_add (F : Nat) (w_found : Nat → Int32) (a1 : Int32) (a2 : Int32) (a3 : Int32) : Option ((Nat → Int32)) :=
(some ((a1 * (11 : Int32)) + a2)).bind fun v1 =>
((((if a2 < 0 then
some w_found
else
(if (11 : Int32) ≤ a2 then
some w_found
else
(if v1 < 0 then
some w_found
else
(if (6347 : Int32) ≤ v1 then
some w_found
else
(rd 6347 w_found v1).bind fun v5 =>
(wr 6347 w_found v1 (v5 + a3)).bind fun v6 =>
some v6))))) : Option ((Nat → Int32))).bind fun t2 =>
some t2)
def f_X4_join_L3 (F : Nat) (w_values : Int32) (a1 : Int32) (a2 : Int32) (a3 : Int32) : Nat → (Int32) → (Nat → Int32) → Option (((Nat → Int32)))
  | 0, _, _ => none
  | n + 1, u1, u2 =>
    (if w_values ≤ (u1 + a3) then
    some u2
    else
    (f_X4_number F u2 a2 u1).bind fun z9 =>
    (f_X4_add F u2 a1 (u1 + a3) z9).bind fun z11 =>
    (some (u1 + (1 : Int32))).bind fun v13 =>
    f_X4_join_L3 F w_values a1 a2 a3 n v13 z11)
def f_X4_join (F : Nat) (w_values : Int32) (w_found : Nat → Int32) (a1 : Int32) (a2 : Int32) (a3 : Int32) : Option ((Nat → Int32)) :=
((f_X4_join_L3 F w_values a1 a2 a3 F (0 : Int32) w_found).bind fun e3 =>
some e3)
def f_X4_solve_L53 (F : Nat) (rec : (Bool) → (Int32) → (Int32) → (Int32) → (Int32) → (Int32) → (Int32) → (Int32) → (Nat → Int32) → (Nat → Int32) → (Nat → Int32) → (Nat → Int32) → (Int32) → (Int32) → (Int32) → (Int32) → (Int32) → (Int32) → (Int32) → (Int32) → Option ((Nat → Int32) × (Nat → Int32))) (w_measure : Bool) (w_values : Int32) (w_row : Int32) (w_rowCodes : Int32) (w_table : Int32) (w_length : Int32) (w_pairs : Int32) (w_codes : Int32) (w_stock : Nat → Int32) (w_weight : Nat → Int32) (wM_which : Int32) (wM_x : Int32) (wM_y : Int32) (wM_row : Int32) (wM_table : Int32) (a1 : Int32) (a2 : Int32) (a3 : Int32) (z1 : Int32) : Nat → (Int32) → (Nat → Int32) → (Nat → Int32) → Option (((Nat → Int32) × (Nat → Int32)))
  | 0, _, _, _ => none
  | n + 1, u7, u8, u9 =>
    (if (4 : Int32) ≤ u7 then
    some (u8, u9)
    else
    (f_X4_leftAfter F w_row w_rowCodes w_table w_pairs w_codes w_stock w_weight a1 a2 a3 u7).bind fun z16 =>
    ((((if z16 = (-1 : Int32) then
    some (u9, u8)
    else
    (rec w_measure w_values w_row w_rowCodes w_table w_length w_pairs w_codes w_stock w_weight u9 u8 wM_which wM_x wM_y wM_row wM_table z16 u7 (a3 + (1 : Int32))).bind fun z21 =>
    (f_X4_entryOf F w_pairs z16 u7 (a3 + (1 : Int32))).bind fun z23 =>
    (f_X4_gain F w_measure wM_which wM_x wM_y wM_row wM_table a3 a2 u7).bind fun z25 =>
    (f_X4_join F w_values z21.2 z1 z23 z25).bind fun z27 =>
    some (z21.1, z27))) : Option ((Nat → Int32) × (Nat → Int32))).bind fun t18 =>
    (some (u7 + (1 : Int32))).bind fun v30 =>
    f_X4_solve_L53 F rec w_measure w_values w_row w_rowCodes w_table w_length w_pairs w_codes w_stock w_weight wM_which wM_x wM_y wM_row wM_table a1 a2 a3 z1 n v30 t18.2 t18.1))
def f_X4_solve_B (F : Nat) (rec : (Bool) → (Int32) → (Int32) → (Int32) → (Int32) → (Int32) → (Int32) → (Int32) → (Nat → Int32) → (Nat → Int32) → (Nat → Int32) → (Nat → Int32) → (Int32) → (Int32) → (Int32) → (Int32) → (Int32) → (Int32) → (Int32) → (Int32) → Option ((Nat → Int32) × (Nat → Int32))) (w_measure : Bool) (w_values : Int32) (w_row : Int32) (w_rowCodes : Int32) (w_table : Int32) (w_length : Int32) (w_pairs : Int32) (w_codes : Int32) (w_stock : Nat → Int32) (w_weight : Nat → Int32) (w_known : Nat → Int32) (w_found : Nat → Int32) (wM_which : Int32) (wM_x : Int32) (wM_y : Int32) (wM_row : Int32) (wM_table : Int32) (a1 : Int32) (a2 : Int32) (a3 : Int32) : Option ((Nat → Int32) × (Nat → Int32)) :=
(f_X4_entryOf F w_pairs a1 a2 a3).bind fun z1 =>
(if w_length < a3 then
some (w_known, w_found)
else
(f_X4_isKnown F w_known z1).bind fun z3 =>
(if z3 = 0 then
(f_X4_begin F w_known w_found z1).bind fun z5 =>
(if a3 = w_length then
(f_X4_add F z5.2 z1 (0 : Int32) (1 : Int32)).bind fun z32 =>
some (z5.1, z32)
else
((f_X4_solve_L53 F rec w_measure w_values w_row w_rowCodes w_table w_length w_pairs w_codes w_stock w_weight wM_which wM_x wM_y wM_row wM_table a1 a2 a3 z1 F (0 : Int32) z5.2 z5.1).bind fun e10 =>
some (e10.2, e10.1)))
else
some (w_known, w_found)))
def f_X4_solve (F : Nat) : Nat → (Bool) → (Int32) → (Int32) → (Int32) → (Int32) → (Int32) → (Int32) → (Int32) → (Nat → Int32) → (Nat → Int32) → (Nat → Int32) → (Nat → Int32) → (Int32) → (Int32) → (Int32) → (Int32) → (Int32) → (Int32) → (Int32) → (Int32) → Option ((Nat → Int32) × (Nat → Int32))
  | 0, _, _, _, _, _, _, _, _, _, _, _, _, _, _, _, _, _, _, _, _ => none
  | n + 1, w_measure, w_values, w_row, w_rowCodes, w_table, w_length, w_pairs, w_codes, w_stock, w_weight, w_known, w_found, wM_which, wM_x, wM_y, wM_row, wM_table, a1, a2, a3 => f_X4_solve_B F (f_X4_solve F n) w_measure w_values w_row w_rowCodes w_table w_length w_pairs w_codes w_stock w_weight w_known w_found wM_which wM_x wM_y wM_row wM_table a1 a2 a3
def f_X4_open (F : Nat) (w_stock : Nat → Int32) (w_weight : Nat → Int32) (w_known : Nat → Int32) (w_found : Nat → Int32) (wM_which : Int32) (wM_x : Int32) (wM_y : Int32) (wM_row : Int32) (wM_table : Int32) (o_row : Int32) (o_table : Int32) (a2 : Int32) : Option (Bool × Int32 × Int32 × Int32 × Int32 × Int32 × Int32 × Int32 × Int32 × (Nat → Int32) × (Nat → Int32) × (Nat → Int32) × (Nat → Int32)) :=
(f_X5_keepsPairs F a2).bind fun z1 =>
(ckz z1).bind fun _ =>
(f_X5_keepsCodes F a2).bind fun z4 =>
(ckz z4).bind fun _ =>
(f_X4_prepare F true z1 w_stock w_weight w_known o_row o_table).bind fun z7 =>
(f_X4_solve F 12 true z7.1 z7.2.1 z7.2.2.1 z7.2.2.2.1 z7.2.2.2.2.1 z1 z4 z7.2.2.2.2.2.2.1 z7.2.2.2.2.2.2.2.1 z7.2.2.2.2.2.2.2.2 w_found wM_which wM_x wM_y wM_row wM_table z7.2.2.2.2.2.1 (0 : Int32) (0 : Int32)).bind fun z9 =>
some (true, z7.1, z7.2.1, z7.2.2.1, z7.2.2.2.1, z7.2.2.2.2.1, z7.2.2.2.2.2.1, z1, z4, z7.2.2.2.2.2.2.1, z7.2.2.2.2.2.2.2.1, z9.1, z9.2)
def f_X4_allOf_L4 (F : Nat) (w_values : Int32) (w_found : Nat → Int32) (a1 : Int32) : Nat → (Int32) → (Int32) → Option ((Int32))
  | 0, _, _ => none
  | n + 1, u1, u2 =>
    (if w_values ≤ u2 then
    some u1
    else
    (f_X4_number F w_found a1 u2).bind fun z9 =>
    (some (u1 + z9)).bind fun v11 =>
    (some (u2 + (1 : Int32))).bind fun v12 =>
    f_X4_allOf_L4 F w_values w_found a1 n v11 v12)
def f_X4_allOf (F : Nat) (w_values : Int32) (w_found : Nat → Int32) (a1 : Int32) : Option (Int32) :=
((f_X4_allOf_L4 F w_values w_found a1 F (0 : Int32) (0 : Int32)).bind fun e3 =>
some e3)
def f_X4_total (F : Nat) (w_values : Int32) (w_found : Nat → Int32) : Option (Int32) :=
(f_X4_allOf F w_values w_found (576 : Int32)).bind fun z1 =>
some z1
def f_X5_shuffles (F : Nat) (x_now_row : Int32) (x_now_table : Int32) (x_ways_measure : Bool) (x_ways_values : Int32) (x_ways_row : Int32) (x_ways_rowCodes : Int32) (x_ways_table : Int32) (x_ways_length : Int32) (x_ways_full : Int32) (x_ways_pairs : Int32) (x_ways_codes : Int32) (x_ways_stock : Nat → Int32) (x_ways_weight : Nat → Int32) (x_ways_known : Nat → Int32) (x_ways_found : Nat → Int32) (x_measured_which : Int32) (x_measured_x : Int32) (x_measured_y : Int32) (x_measured_row : Int32) (x_measured_table : Int32) (a1 : Int32) : Option (Int32 × Bool × Int32 × Int32 × Int32 × Int32 × Int32 × Int32 × Int32 × Int32 × (Nat → Int32) × (Nat → Int32) × (Nat → Int32) × (Nat → Int32)) :=
(f_X5_within F a1 (3 : Int32)).bind fun z1 =>
(if z1 = 0 then
some ((-1000001 : Int32), x_ways_measure, x_ways_values, x_ways_row, x_ways_rowCodes, x_ways_table, x_ways_length, x_ways_full, x_ways_pairs, x_ways_codes, x_ways_stock, x_ways_weight, x_ways_known, x_ways_found)
else
(f_X4_open F x_ways_stock x_ways_weight x_ways_known x_ways_found x_measured_which x_measured_x x_measured_y x_measured_row x_measured_table x_now_row x_now_table a1).bind fun z3 =>
(f_X4_total F z3.2.1 z3.2.2.2.2.2.2.2.2.2.2.2.2).bind fun z5 =>
some (z5, z3.1, z3.2.1, z3.2.2.1, z3.2.2.2.1, z3.2.2.2.2.1, z3.2.2.2.2.2.1, z3.2.2.2.2.2.2.1, z3.2.2.2.2.2.2.2.1, z3.2.2.2.2.2.2.2.2.1, z3.2.2.2.2.2.2.2.2.2.1, z3.2.2.2.2.2.2.2.2.2.2.1, z3.2.2.2.2.2.2.2.2.2.2.2.1, z3.2.2.2.2.2.2.2.2.2.2.2.2))
def f_X4_continued (F : Nat) (w_values : Int32) (w_row : Int32) (w_rowCodes : Int32) (w_table : Int32) (w_pairs : Int32) (w_codes : Int32) (w_stock : Nat → Int32) (w_weight : Nat → Int32) (w_found : Nat → Int32) (a1 : Int32) (a2 : Int32) (a3 : Int32) (a4 : Int32) : Option (Int32) :=
(f_X4_leftAfter F w_row w_rowCodes w_table w_pairs w_codes w_stock w_weight a1 a2 a3 a4).bind fun z1 =>
((((if z1 = (-1 : Int32) then
some (0 : Int32)
else
(f_X4_entryOf F w_pairs z1 a4 (a3 + (1 : Int32))).bind fun z6 =>
(f_X4_allOf F w_values w_found z6).bind fun z8 =>
some z8)) : Option (Int32)).bind fun t3 =>
some t3)
def f_X4_placeOfRow_L35 (F : Nat) (w_values : Int32) (w_row : Int32) (w_rowCodes : Int32) (w_table : Int32) (w_pairs : Int32) (w_codes : Int32) (w_stock : Nat → Int32) (w_weight : Nat → Int32) (w_found : Nat → Int32) (u2 : Int32) (u3 : Int32) (u4 : Int32) (z11 : Int32) : Nat → (Int32) → (Int32) → Option ((Int32))
  | 0, _, _ => none
  | n + 1, u13, u14 =>
    (if z11 ≤ u14 then
    some u13
    else
    (f_X4_continued F w_values w_row w_rowCodes w_table w_pairs w_codes w_stock w_weight w_found u2 u3 u4 u14).bind fun z21 =>
    (some (u13 + z21)).bind fun v23 =>
    (some (u14 + (1 : Int32))).bind fun v24 =>
    f_X4_placeOfRow_L35 F w_values w_row w_rowCodes w_table w_pairs w_codes w_stock w_weight w_found u2 u3 u4 z11 n v23 v24)
def f_X4_placeOfRow_L12 (F : Nat) (w_values : Int32) (w_row : Int32) (w_rowCodes : Int32) (w_table : Int32) (w_length : Int32) (w_pairs : Int32) (w_codes : Int32) (w_stock : Nat → Int32) (w_weight : Nat → Int32) (w_found : Nat → Int32) : Nat → (Int32) → (Int32) → (Int32) → (Int32) → Option ((Int32))
  | 0, _, _, _, _ => none
  | n + 1, u1, u2, u3, u4 =>
    (if w_length ≤ u4 then
    some u1
    else
    (f_X5_letterOf F w_row u4).bind fun z11 =>
    ((f_X4_placeOfRow_L35 F w_values w_row w_rowCodes w_table w_pairs w_codes w_stock w_weight w_found u2 u3 u4 z11 F u1 (0 : Int32)).bind fun e15 =>
    (f_X4_leftAfter F w_row w_rowCodes w_table w_pairs w_codes w_stock w_weight u2 u3 u4 z11).bind fun z26 =>
    (some (u4 + (1 : Int32))).bind fun v28 =>
    f_X4_placeOfRow_L12 F w_values w_row w_rowCodes w_table w_length w_pairs w_codes w_stock w_weight w_found n e15 z26 z11 v28))
def f_X4_placeOfRow (F : Nat) (w_values : Int32) (w_row : Int32) (w_rowCodes : Int32) (w_table : Int32) (w_length : Int32) (w_full : Int32) (w_pairs : Int32) (w_codes : Int32) (w_stock : Nat → Int32) (w_weight : Nat → Int32) (w_found : Nat → Int32) : Option (Int32) :=
((f_X4_placeOfRow_L12 F w_values w_row w_rowCodes w_table w_length w_pairs w_codes w_stock w_weight w_found F (0 : Int32) w_full (0 : Int32) (0 : Int32)).bind fun e5 =>
some e5)
def f_X5_placeOf (F : Nat) (x_now_row : Int32) (x_now_table : Int32) (x_ways_measure : Bool) (x_ways_values : Int32) (x_ways_row : Int32) (x_ways_rowCodes : Int32) (x_ways_table : Int32) (x_ways_length : Int32) (x_ways_full : Int32) (x_ways_pairs : Int32) (x_ways_codes : Int32) (x_ways_stock : Nat → Int32) (x_ways_weight : Nat → Int32) (x_ways_known : Nat → Int32) (x_ways_found : Nat → Int32) (x_measured_which : Int32) (x_measured_x : Int32) (x_measured_y : Int32) (x_measured_row : Int32) (x_measured_table : Int32) (a1 : Int32) : Option (Int32 × Bool × Int32 × Int32 × Int32 × Int32 × Int32 × Int32 × Int32 × Int32 × (Nat → Int32) × (Nat → Int32) × (Nat → Int32) × (Nat → Int32)) :=
(f_X5_within F a1 (3 : Int32)).bind fun z1 =>
(if z1 = 0 then
some ((-1000001 : Int32), x_ways_measure, x_ways_values, x_ways_row, x_ways_rowCodes, x_ways_table, x_ways_length, x_ways_full, x_ways_pairs, x_ways_codes, x_ways_stock, x_ways_weight, x_ways_known, x_ways_found)
else
(f_X4_open F x_ways_stock x_ways_weight x_ways_known x_ways_found x_measured_which x_measured_x x_measured_y x_measured_row x_measured_table x_now_row x_now_table a1).bind fun z3 =>
(f_X4_placeOfRow F z3.2.1 z3.2.2.1 z3.2.2.2.1 z3.2.2.2.2.1 z3.2.2.2.2.2.1 z3.2.2.2.2.2.2.1 z3.2.2.2.2.2.2.2.1 z3.2.2.2.2.2.2.2.2.1 z3.2.2.2.2.2.2.2.2.2.1 z3.2.2.2.2.2.2.2.2.2.2.1 z3.2.2.2.2.2.2.2.2.2.2.2.2).bind fun z5 =>
some (z5, z3.1, z3.2.1, z3.2.2.1, z3.2.2.2.1, z3.2.2.2.2.1, z3.2.2.2.2.2.1, z3.2.2.2.2.2.2.1, z3.2.2.2.2.2.2.2.1, z3.2.2.2.2.2.2.2.2.1, z3.2.2.2.2.2.2.2.2.2.1, z3.2.2.2.2.2.2.2.2.2.2.1, z3.2.2.2.2.2.2.2.2.2.2.2.1, z3.2.2.2.2.2.2.2.2.2.2.2.2))
def f_X4_rowAt_L28 (F : Nat) (w_values : Int32) (w_row : Int32) (w_rowCodes : Int32) (w_table : Int32) (w_pairs : Int32) (w_codes : Int32) (w_stock : Nat → Int32) (w_weight : Nat → Int32) (w_found : Nat → Int32) (u3 : Int32) (u4 : Int32) (u5 : Int32) : Nat → (Int32) → (Int32) → Option ((Int32 × Int32) ⊕ (Int32 × Int32))
  | 0, _, _ => none
  | n + 1, u12, u13 =>
    (if (3 : Int32) ≤ u13 then
    some (Sum.inr (u12, u13))
    else
    (f_X4_continued F w_values w_row w_rowCodes w_table w_pairs w_codes w_stock w_weight w_found u3 u4 u5 u13).bind fun z23 =>
    (if z23 ≤ u12 then
    (some (u12 - z23)).bind fun v25 =>
    (some (u13 + (1 : Int32))).bind fun v26 =>
    f_X4_rowAt_L28 F w_values w_row w_rowCodes w_table w_pairs w_codes w_stock w_weight w_found u3 u4 u5 n v25 v26
    else
    some (Sum.inl (u12, u13))))
def f_X4_rowAt_L16 (F : Nat) (w_values : Int32) (w_row : Int32) (w_rowCodes : Int32) (w_table : Int32) (w_length : Int32) (w_pairs : Int32) (w_codes : Int32) (w_stock : Nat → Int32) (w_weight : Nat → Int32) (w_found : Nat → Int32) : Nat → (Int32) → (Int32) → (Int32) → (Int32) → (Int32) → Option ((Int32))
  | 0, _, _, _, _, _ => none
  | n + 1, u1, u2, u3, u4, u5 =>
    (if w_length ≤ u5 then
    some u1
    else
    ((f_X4_rowAt_L28 F w_values w_row w_rowCodes w_table w_pairs w_codes w_stock w_weight w_found u3 u4 u5 F u2 (0 : Int32)).bind fun e14 =>
    (Sum.elim (fun ax21 =>
    (f_X5_longer F u1 ax21.2).bind fun z29 =>
    (f_X4_leftAfter F w_row w_rowCodes w_table w_pairs w_codes w_stock w_weight u3 u4 u5 ax21.2).bind fun z31 =>
    (some (u5 + (1 : Int32))).bind fun v33 =>
    f_X4_rowAt_L16 F w_values w_row w_rowCodes w_table w_length w_pairs w_codes w_stock w_weight w_found n z29 ax21.1 z31 ax21.2 v33) (fun ax22 =>
    (f_X5_longer F u1 ax22.2).bind fun z34 =>
    (f_X4_leftAfter F w_row w_rowCodes w_table w_pairs w_codes w_stock w_weight u3 u4 u5 ax22.2).bind fun z36 =>
    (some (u5 + (1 : Int32))).bind fun v38 =>
    f_X4_rowAt_L16 F w_values w_row w_rowCodes w_table w_length w_pairs w_codes w_stock w_weight w_found n z34 ax22.1 z36 ax22.2 v38)) e14))
def f_X4_rowAt (F : Nat) (w_values : Int32) (w_row : Int32) (w_rowCodes : Int32) (w_table : Int32) (w_length : Int32) (w_full : Int32) (w_pairs : Int32) (w_codes : Int32) (w_stock : Nat → Int32) (w_weight : Nat → Int32) (w_found : Nat → Int32) (a1 : Int32) : Option (Int32) :=
((f_X4_rowAt_L16 F w_values w_row w_rowCodes w_table w_length w_pairs w_codes w_stock w_weight w_found F (0 : Int32) a1 w_full (0 : Int32) (0 : Int32)).bind fun e6 =>
some e6)
def f_X5_shuffleAt (F : Nat) (x_now_row : Int32) (x_now_table : Int32) (x_ways_measure : Bool) (x_ways_values : Int32) (x_ways_row : Int32) (x_ways_rowCodes : Int32) (x_ways_table : Int32) (x_ways_length : Int32) (x_ways_full : Int32) (x_ways_pairs : Int32) (x_ways_codes : Int32) (x_ways_stock : Nat → Int32) (x_ways_weight : Nat → Int32) (x_ways_known : Nat → Int32) (x_ways_found : Nat → Int32) (x_measured_which : Int32) (x_measured_x : Int32) (x_measured_y : Int32) (x_measured_row : Int32) (x_measured_table : Int32) (a1 : Int32) (a2 : Int32) (a3 : Int32) : Option (Int32 × Bool × Int32 × Int32 × Int32 × Int32 × Int32 × Int32 × Int32 × Int32 × (Nat → Int32) × (Nat → Int32) × (Nat → Int32) × (Nat → Int32)) :=
(f_X5_within F a1 (3 : Int32)).bind fun z1 =>
(if z1 = 0 then
some ((-1000001 : Int32), x_ways_measure, x_ways_values, x_ways_row, x_ways_rowCodes, x_ways_table, x_ways_length, x_ways_full, x_ways_pairs, x_ways_codes, x_ways_stock, x_ways_weight, x_ways_known, x_ways_found)
else
(if a2 < 0 then
some ((-1000001 : Int32), x_ways_measure, x_ways_values, x_ways_row, x_ways_rowCodes, x_ways_table, x_ways_length, x_ways_full, x_ways_pairs, x_ways_codes, x_ways_stock, x_ways_weight, x_ways_known, x_ways_found)
else
(if 0 ≤ a3 then
(f_X5_lengthOf F x_now_row).bind fun z3 =>
(if a3 < z3 then
(f_X4_open F x_ways_stock x_ways_weight x_ways_known x_ways_found x_measured_which x_measured_x x_measured_y x_measured_row x_measured_table x_now_row x_now_table a1).bind fun z5 =>
(f_X4_total F z5.2.1 z5.2.2.2.2.2.2.2.2.2.2.2.2).bind fun z7 =>
((((if z7 ≤ a2 then
some (-1000004 : Int32)
else
(f_X4_rowAt F z5.2.1 z5.2.2.1 z5.2.2.2.1 z5.2.2.2.2.1 z5.2.2.2.2.2.1 z5.2.2.2.2.2.2.1 z5.2.2.2.2.2.2.2.1 z5.2.2.2.2.2.2.2.2.1 z5.2.2.2.2.2.2.2.2.2.1 z5.2.2.2.2.2.2.2.2.2.2.1 z5.2.2.2.2.2.2.2.2.2.2.2.2 a2).bind fun z12 =>
(f_X5_letterOf F z12 a3).bind fun z14 =>
some z14)) : Option (Int32)).bind fun t9 =>
some (t9, z5.1, z5.2.1, z5.2.2.1, z5.2.2.2.1, z5.2.2.2.2.1, z5.2.2.2.2.2.1, z5.2.2.2.2.2.2.1, z5.2.2.2.2.2.2.2.1, z5.2.2.2.2.2.2.2.2.1, z5.2.2.2.2.2.2.2.2.2.1, z5.2.2.2.2.2.2.2.2.2.2.1, z5.2.2.2.2.2.2.2.2.2.2.2.1, z5.2.2.2.2.2.2.2.2.2.2.2.2))
else
some ((-1000004 : Int32), x_ways_measure, x_ways_values, x_ways_row, x_ways_rowCodes, x_ways_table, x_ways_length, x_ways_full, x_ways_pairs, x_ways_codes, x_ways_stock, x_ways_weight, x_ways_known, x_ways_found))
else
some ((-1000001 : Int32), x_ways_measure, x_ways_values, x_ways_row, x_ways_rowCodes, x_ways_table, x_ways_length, x_ways_full, x_ways_pairs, x_ways_codes, x_ways_stock, x_ways_weight, x_ways_known, x_ways_found))))
def f_X0_set (F : Nat) (o_row : Int32) (o_table : Int32) (a1 : Int32) (a2 : Int32) (a3 : Int32) : Option (Int32 × Int32 × Int32 × Int32 × Int32) :=
some (a1, a2, a3, o_row, o_table)
def f_X0_ofRow_L6 (F : Nat) (q_which : Int32) (q_x : Int32) (q_y : Int32) (q_row : Int32) (q_table : Int32) : Nat → (Int32) → (Int32) → (Int32) → Option ((Int32))
  | 0, _, _, _ => none
  | n + 1, u1, u2, u3 =>
    (f_X5_lengthOf F q_row).bind fun z10 =>
    (if z10 ≤ u3 then
    some u1
    else
    (f_X5_letterOf F q_row u3).bind fun z12 =>
    (f_X0_gain F q_which q_x q_y q_row q_table u3 u2 z12).bind fun z14 =>
    (some (u1 + z14)).bind fun v16 =>
    (some (u3 + (1 : Int32))).bind fun v17 =>
    f_X0_ofRow_L6 F q_which q_x q_y q_row q_table n v16 z12 v17)
def f_X0_ofRow (F : Nat) (q_which : Int32) (q_x : Int32) (q_y : Int32) (q_row : Int32) (q_table : Int32) : Option (Int32) :=
((f_X0_ofRow_L6 F q_which q_x q_y q_row q_table F (0 : Int32) (0 : Int32) (0 : Int32)).bind fun e4 =>
some e4)
def f_X5_measure (F : Nat) (x_now_row : Int32) (x_now_table : Int32) (x_measured_which : Int32) (x_measured_x : Int32) (x_measured_y : Int32) (x_measured_row : Int32) (x_measured_table : Int32) (a1 : Int32) (a2 : Int32) (a3 : Int32) : Option (Int32 × Int32 × Int32 × Int32 × Int32 × Int32) :=
(f_X5_within F a1 (3 : Int32)).bind fun z1 =>
(if z1 = 0 then
some ((-1000001 : Int32), x_measured_which, x_measured_x, x_measured_y, x_measured_row, x_measured_table)
else
(f_X5_within F a2 (3 : Int32)).bind fun z3 =>
(if z3 = 0 then
some ((-1000001 : Int32), x_measured_which, x_measured_x, x_measured_y, x_measured_row, x_measured_table)
else
(f_X5_within F a3 (3 : Int32)).bind fun z5 =>
(if z5 = 0 then
some ((-1000001 : Int32), x_measured_which, x_measured_x, x_measured_y, x_measured_row, x_measured_table)
else
(f_X0_set F x_now_row x_now_table a1 a2 a3).bind fun z7 =>
(f_X0_ofRow F z7.1 z7.2.1 z7.2.2.1 z7.2.2.2.1 z7.2.2.2.2).bind fun z9 =>
some (z9, z7.1, z7.2.1, z7.2.2.1, z7.2.2.2.1, z7.2.2.2.2))))
def f_X4_openMeasured_wM (F : Nat) (w_stock : Nat → Int32) (w_weight : Nat → Int32) (w_known : Nat → Int32) (w_found : Nat → Int32) (wM_which : Int32) (wM_x : Int32) (wM_y : Int32) (wM_row : Int32) (wM_table : Int32) (o_row : Int32) (o_table : Int32) (a2 : Int32) : Option (Bool × Int32 × Int32 × Int32 × Int32 × Int32 × Int32 × Int32 × Int32 × (Nat → Int32) × (Nat → Int32) × (Nat → Int32) × (Nat → Int32)) :=
(f_X5_keepsPairs F a2).bind fun z1 =>
(ckz z1).bind fun _ =>
(f_X5_keepsCodes F a2).bind fun z4 =>
(ckz z4).bind fun _ =>
(f_X4_prepare F false z1 w_stock w_weight w_known o_row o_table).bind fun z7 =>
(f_X4_solve F 12 false z7.1 z7.2.1 z7.2.2.1 z7.2.2.2.1 z7.2.2.2.2.1 z1 z4 z7.2.2.2.2.2.2.1 z7.2.2.2.2.2.2.2.1 z7.2.2.2.2.2.2.2.2 w_found wM_which wM_x wM_y wM_row wM_table z7.2.2.2.2.2.1 (0 : Int32) (0 : Int32)).bind fun z9 =>
some (false, z7.1, z7.2.1, z7.2.2.1, z7.2.2.2.1, z7.2.2.2.2.1, z7.2.2.2.2.2.1, z1, z4, z7.2.2.2.2.2.2.1, z7.2.2.2.2.2.2.2.1, z9.1, z9.2)
def f_X4_atLeast_L4 (F : Nat) (w_values : Int32) (w_found : Nat → Int32) : Nat → (Int32) → (Int32) → Option ((Int32))
  | 0, _, _ => none
  | n + 1, u1, u2 =>
    (if w_values ≤ u2 then
    some u1
    else
    (f_X4_number F w_found (576 : Int32) u2).bind fun z9 =>
    (some (u1 + z9)).bind fun v11 =>
    (some (u2 + (1 : Int32))).bind fun v12 =>
    f_X4_atLeast_L4 F w_values w_found n v11 v12)
def f_X4_atLeast (F : Nat) (w_values : Int32) (w_found : Nat → Int32) (a1 : Int32) : Option (Int32) :=
((f_X4_atLeast_L4 F w_values w_found F (0 : Int32) a1).bind fun e3 =>
some e3)
def f_X4_least_L2 (F : Nat) (w_values : Int32) (w_found : Nat → Int32) : Nat → (Int32) → Option ((Int32) ⊕ (Unit))
  | 0, _ => none
  | n + 1, u1 =>
    (if w_values ≤ u1 then
    some (Sum.inr ())
    else
    (f_X4_number F w_found (576 : Int32) u1).bind fun z11 =>
    (if z11 ≤ 0 then
    (some (u1 + (1 : Int32))).bind fun v13 =>
    f_X4_least_L2 F w_values w_found n v13
    else
    some (Sum.inl u1)))
def f_X4_least (F : Nat) (w_values : Int32) (w_found : Nat → Int32) : Option (Int32) :=
((f_X4_least_L2 F w_values w_found F (0 : Int32)).bind fun e2 =>
(Sum.elim (fun ax9 =>
some ax9) (fun ax10 =>
some (0 : Int32))) e2)
def f_X4_greatest_L7 (F : Nat) (w_found : Nat → Int32) : Nat → (Int32) → Option ((Int32) ⊕ (Unit))
  | 0, _ => none
  | n + 1, u2 =>
    (if u2 ≤ 0 then
    some (Sum.inr ())
    else
    (f_X4_number F w_found (576 : Int32) u2).bind fun z12 =>
    (if z12 ≤ 0 then
    (some (u2 + (-1 : Int32))).bind fun v14 =>
    f_X4_greatest_L7 F w_found n v14
    else
    some (Sum.inl u2)))
def f_X4_greatest (F : Nat) (w_values : Int32) (w_found : Nat → Int32) : Option (Int32) :=
(some (w_values - (1 : Int32))).bind fun v1 =>
((f_X4_greatest_L7 F w_found F v1).bind fun e3 =>
(Sum.elim (fun ax10 =>
some ax10) (fun ax11 =>
some (0 : Int32))) e3)
def f_X4_sum_L4 (F : Nat) (w_values : Int32) (w_found : Nat → Int32) : Nat → (Int32) → (Int32) → Option ((Int32))
  | 0, _, _ => none
  | n + 1, u1, u2 =>
    (if w_values ≤ u2 then
    some u1
    else
    (f_X4_number F w_found (576 : Int32) u2).bind fun z9 =>
    (some (u1 + (u2 * z9))).bind fun v11 =>
    (some (u2 + (1 : Int32))).bind fun v12 =>
    f_X4_sum_L4 F w_values w_found n v11 v12)
def f_X4_sum (F : Nat) (w_values : Int32) (w_found : Nat → Int32) : Option (Int32) :=
((f_X4_sum_L4 F w_values w_found F (0 : Int32) (0 : Int32)).bind fun e3 =>
some e3)
def f_X4_canGain (F : Nat) (w_measure : Bool) (w_row : Int32) (w_rowCodes : Int32) (w_table : Int32) (w_pairs : Int32) (w_codes : Int32) (w_stock : Nat → Int32) (w_weight : Nat → Int32) (w_found : Nat → Int32) (wM_which : Int32) (wM_x : Int32) (wM_y : Int32) (wM_row : Int32) (wM_table : Int32) (a1 : Int32) (a2 : Int32) (a3 : Int32) (a4 : Int32) (a5 : Int32) : Option (Int32) :=
(f_X4_leftAfter F w_row w_rowCodes w_table w_pairs w_codes w_stock w_weight a1 a2 a3 a4).bind fun z1 =>
(f_X4_gain F w_measure wM_which wM_x wM_y wM_row wM_table a3 a2 a4).bind fun z3 =>
(some (a5 - z3)).bind fun v5 =>
((((if z1 = (-1 : Int32) then
some (0 : Int32)
else
(f_X4_entryOf F w_pairs z1 a4 (a3 + (1 : Int32))).bind fun z9 =>
(f_X4_number F w_found z9 v5).bind fun z11 =>
(if z11 ≤ 0 then
some (0 : Int32)
else
some (1 : Int32)))) : Option (Int32)).bind fun t6 =>
(ckz t6).bind fun _ =>
some t6)
def f_X4_firstPlaceWith_L28 (F : Nat) (w_measure : Bool) (w_values : Int32) (w_row : Int32) (w_rowCodes : Int32) (w_table : Int32) (w_pairs : Int32) (w_codes : Int32) (w_stock : Nat → Int32) (w_weight : Nat → Int32) (w_found : Nat → Int32) (wM_which : Int32) (wM_x : Int32) (wM_y : Int32) (wM_row : Int32) (wM_table : Int32) (u2 : Int32) (u3 : Int32) (u4 : Int32) (u5 : Int32) : Nat → (Int32) → (Int32) → Option ((Int32 × Int32))
  | 0, _, _ => none
  | n + 1, u12, u13 =>
    (if (3 : Int32) ≤ u13 then
    some (u12, u13)
    else
    (f_X4_canGain F w_measure w_row w_rowCodes w_table w_pairs w_codes w_stock w_weight w_found wM_which wM_x wM_y wM_row wM_table u3 u4 u5 u13 u2).bind fun z20 =>
    (if z20 = 0 then
    (f_X4_continued F w_values w_row w_rowCodes w_table w_pairs w_codes w_stock w_weight w_found u3 u4 u5 u13).bind fun z22 =>
    (some (u12 + z22)).bind fun v24 =>
    (some (u13 + (1 : Int32))).bind fun v25 =>
    f_X4_firstPlaceWith_L28 F w_measure w_values w_row w_rowCodes w_table w_pairs w_codes w_stock w_weight w_found wM_which wM_x wM_y wM_row wM_table u2 u3 u4 u5 n v24 v25
    else
    some (u12, u13)))
def f_X4_firstPlaceWith_L16 (F : Nat) (w_measure : Bool) (w_values : Int32) (w_row : Int32) (w_rowCodes : Int32) (w_table : Int32) (w_length : Int32) (w_pairs : Int32) (w_codes : Int32) (w_stock : Nat → Int32) (w_weight : Nat → Int32) (w_found : Nat → Int32) (wM_which : Int32) (wM_x : Int32) (wM_y : Int32) (wM_row : Int32) (wM_table : Int32) : Nat → (Int32) → (Int32) → (Int32) → (Int32) → (Int32) → Option ((Int32))
  | 0, _, _, _, _, _ => none
  | n + 1, u1, u2, u3, u4, u5 =>
    (if w_length ≤ u5 then
    some u1
    else
    ((f_X4_firstPlaceWith_L28 F w_measure w_values w_row w_rowCodes w_table w_pairs w_codes w_stock w_weight w_found wM_which wM_x wM_y wM_row wM_table u2 u3 u4 u5 F u1 (0 : Int32)).bind fun e14 =>
    (f_X4_gain F w_measure wM_which wM_x wM_y wM_row wM_table u5 u4 e14.2).bind fun z28 =>
    (some (u2 - z28)).bind fun v30 =>
    (f_X4_leftAfter F w_row w_rowCodes w_table w_pairs w_codes w_stock w_weight u3 u4 u5 e14.2).bind fun z31 =>
    (some (u5 + (1 : Int32))).bind fun v33 =>
    f_X4_firstPlaceWith_L16 F w_measure w_values w_row w_rowCodes w_table w_length w_pairs w_codes w_stock w_weight w_found wM_which wM_x wM_y wM_row wM_table n e14.1 v30 z31 e14.2 v33))
def f_X4_firstPlaceWith (F : Nat) (w_measure : Bool) (w_values : Int32) (w_row : Int32) (w_rowCodes : Int32) (w_table : Int32) (w_length : Int32) (w_full : Int32) (w_pairs : Int32) (w_codes : Int32) (w_stock : Nat → Int32) (w_weight : Nat → Int32) (w_found : Nat → Int32) (wM_which : Int32) (wM_x : Int32) (wM_y : Int32) (wM_row : Int32) (wM_table : Int32) (a1 : Int32) : Option (Int32) :=
((f_X4_firstPlaceWith_L16 F w_measure w_values w_row w_rowCodes w_table w_length w_pairs w_codes w_stock w_weight w_found wM_which wM_x wM_y wM_row wM_table F (0 : Int32) a1 w_full (0 : Int32) (0 : Int32)).bind fun e6 =>
some e6)
def f_X5_surprise (F : Nat) (x_now_row : Int32) (x_now_table : Int32) (x_ways_measure : Bool) (x_ways_values : Int32) (x_ways_row : Int32) (x_ways_rowCodes : Int32) (x_ways_table : Int32) (x_ways_length : Int32) (x_ways_full : Int32) (x_ways_pairs : Int32) (x_ways_codes : Int32) (x_ways_stock : Nat → Int32) (x_ways_weight : Nat → Int32) (x_ways_known : Nat → Int32) (x_ways_found : Nat → Int32) (x_measured_which : Int32) (x_measured_x : Int32) (x_measured_y : Int32) (x_measured_row : Int32) (x_measured_table : Int32) (a1 : Int32) (a2 : Int32) (a3 : Int32) (a4 : Int32) (a5 : Int32) : Option (Int32 × Bool × Int32 × Int32 × Int32 × Int32 × Int32 × Int32 × Int32 × Int32 × (Nat → Int32) × (Nat → Int32) × (Nat → Int32) × (Nat → Int32) × Int32 × Int32 × Int32 × Int32 × Int32) :=
(f_X5_within F a1 (3 : Int32)).bind fun z1 =>
(if z1 = 0 then
some ((-1000001 : Int32), x_ways_measure, x_ways_values, x_ways_row, x_ways_rowCodes, x_ways_table, x_ways_length, x_ways_full, x_ways_pairs, x_ways_codes, x_ways_stock, x_ways_weight, x_ways_known, x_ways_found, x_measured_which, x_measured_x, x_measured_y, x_measured_row, x_measured_table)
else
(f_X5_within F a2 (3 : Int32)).bind fun z3 =>
(if z3 = 0 then
some ((-1000001 : Int32), x_ways_measure, x_ways_values, x_ways_row, x_ways_rowCodes, x_ways_table, x_ways_length, x_ways_full, x_ways_pairs, x_ways_codes, x_ways_stock, x_ways_weight, x_ways_known, x_ways_found, x_measured_which, x_measured_x, x_measured_y, x_measured_row, x_measured_table)
else
(f_X5_within F a3 (3 : Int32)).bind fun z5 =>
(if z5 = 0 then
some ((-1000001 : Int32), x_ways_measure, x_ways_values, x_ways_row, x_ways_rowCodes, x_ways_table, x_ways_length, x_ways_full, x_ways_pairs, x_ways_codes, x_ways_stock, x_ways_weight, x_ways_known, x_ways_found, x_measured_which, x_measured_x, x_measured_y, x_measured_row, x_measured_table)
else
(f_X5_within F a4 (3 : Int32)).bind fun z7 =>
(if z7 = 0 then
some ((-1000001 : Int32), x_ways_measure, x_ways_values, x_ways_row, x_ways_rowCodes, x_ways_table, x_ways_length, x_ways_full, x_ways_pairs, x_ways_codes, x_ways_stock, x_ways_weight, x_ways_known, x_ways_found, x_measured_which, x_measured_x, x_measured_y, x_measured_row, x_measured_table)
else
(f_X5_within F a5 (4 : Int32)).bind fun z9 =>
(if z9 = 0 then
some ((-1000001 : Int32), x_ways_measure, x_ways_values, x_ways_row, x_ways_rowCodes, x_ways_table, x_ways_length, x_ways_full, x_ways_pairs, x_ways_codes, x_ways_stock, x_ways_weight, x_ways_known, x_ways_found, x_measured_which, x_measured_x, x_measured_y, x_measured_row, x_measured_table)
else
(f_X0_set F x_now_row x_now_table a2 a3 a4).bind fun z11 =>
(f_X4_openMeasured_wM F x_ways_stock x_ways_weight x_ways_known x_ways_found z11.1 z11.2.1 z11.2.2.1 z11.2.2.2.1 z11.2.2.2.2 x_now_row x_now_table a1).bind fun z13 =>
(if a5 = (0 : Int32) then
(f_X0_ofRow F z11.1 z11.2.1 z11.2.2.1 z11.2.2.2.1 z11.2.2.2.2).bind fun z16 =>
(f_X4_atLeast F z13.2.1 z13.2.2.2.2.2.2.2.2.2.2.2.2 z16).bind fun z18 =>
some (z18, z13.1, z13.2.1, z13.2.2.1, z13.2.2.2.1, z13.2.2.2.2.1, z13.2.2.2.2.2.1, z13.2.2.2.2.2.2.1, z13.2.2.2.2.2.2.2.1, z13.2.2.2.2.2.2.2.2.1, z13.2.2.2.2.2.2.2.2.2.1, z13.2.2.2.2.2.2.2.2.2.2.1, z13.2.2.2.2.2.2.2.2.2.2.2.1, z13.2.2.2.2.2.2.2.2.2.2.2.2, z11.1, z11.2.1, z11.2.2.1, z11.2.2.2.1, z11.2.2.2.2)
else
(if a5 = (1 : Int32) then
(f_X4_least F z13.2.1 z13.2.2.2.2.2.2.2.2.2.2.2.2).bind fun z21 =>
some (z21, z13.1, z13.2.1, z13.2.2.1, z13.2.2.2.1, z13.2.2.2.2.1, z13.2.2.2.2.2.1, z13.2.2.2.2.2.2.1, z13.2.2.2.2.2.2.2.1, z13.2.2.2.2.2.2.2.2.1, z13.2.2.2.2.2.2.2.2.2.1, z13.2.2.2.2.2.2.2.2.2.2.1, z13.2.2.2.2.2.2.2.2.2.2.2.1, z13.2.2.2.2.2.2.2.2.2.2.2.2, z11.1, z11.2.1, z11.2.2.1, z11.2.2.2.1, z11.2.2.2.2)
else
(if a5 = (2 : Int32) then
(f_X4_greatest F z13.2.1 z13.2.2.2.2.2.2.2.2.2.2.2.2).bind fun z24 =>
some (z24, z13.1, z13.2.1, z13.2.2.1, z13.2.2.2.1, z13.2.2.2.2.1, z13.2.2.2.2.2.1, z13.2.2.2.2.2.2.1, z13.2.2.2.2.2.2.2.1, z13.2.2.2.2.2.2.2.2.1, z13.2.2.2.2.2.2.2.2.2.1, z13.2.2.2.2.2.2.2.2.2.2.1, z13.2.2.2.2.2.2.2.2.2.2.2.1, z13.2.2.2.2.2.2.2.2.2.2.2.2, z11.1, z11.2.1, z11.2.2.1, z11.2.2.2.1, z11.2.2.2.2)
else
(if a5 = (3 : Int32) then
(f_X4_sum F z13.2.1 z13.2.2.2.2.2.2.2.2.2.2.2.2).bind fun z27 =>
some (z27, z13.1, z13.2.1, z13.2.2.1, z13.2.2.2.1, z13.2.2.2.2.1, z13.2.2.2.2.2.1, z13.2.2.2.2.2.2.1, z13.2.2.2.2.2.2.2.1, z13.2.2.2.2.2.2.2.2.1, z13.2.2.2.2.2.2.2.2.2.1, z13.2.2.2.2.2.2.2.2.2.2.1, z13.2.2.2.2.2.2.2.2.2.2.2.1, z13.2.2.2.2.2.2.2.2.2.2.2.2, z11.1, z11.2.1, z11.2.2.1, z11.2.2.2.1, z11.2.2.2.2)
else
(f_X4_greatest F z13.2.1 z13.2.2.2.2.2.2.2.2.2.2.2.2).bind fun z29 =>
(f_X4_firstPlaceWith F z13.1 z13.2.1 z13.2.2.1 z13.2.2.2.1 z13.2.2.2.2.1 z13.2.2.2.2.2.1 z13.2.2.2.2.2.2.1 z13.2.2.2.2.2.2.2.1 z13.2.2.2.2.2.2.2.2.1 z13.2.2.2.2.2.2.2.2.2.1 z13.2.2.2.2.2.2.2.2.2.2.1 z13.2.2.2.2.2.2.2.2.2.2.2.2 z11.1 z11.2.1 z11.2.2.1 z11.2.2.2.1 z11.2.2.2.2 z29).bind fun z31 =>
some (z31, z13.1, z13.2.1, z13.2.2.1, z13.2.2.2.1, z13.2.2.2.2.1, z13.2.2.2.2.2.1, z13.2.2.2.2.2.2.1, z13.2.2.2.2.2.2.2.1, z13.2.2.2.2.2.2.2.2.1, z13.2.2.2.2.2.2.2.2.2.1, z13.2.2.2.2.2.2.2.2.2.2.1, z13.2.2.2.2.2.2.2.2.2.2.2.1, z13.2.2.2.2.2.2.2.2.2.2.2.2, z11.1, z11.2.1, z11.2.2.1, z11.2.2.2.1, z11.2.2.2.2))))))))))
def f_X4_openBoth (F : Nat) (w_stock : Nat → Int32) (w_weight : Nat → Int32) (w_known : Nat → Int32) (w_found : Nat → Int32) (wM_which : Int32) (wM_x : Int32) (wM_y : Int32) (wM_row : Int32) (wM_table : Int32) (o_row : Int32) (o_table : Int32) (a2 : Int32) (a3 : Int32) : Option (Bool × Int32 × Int32 × Int32 × Int32 × Int32 × Int32 × Int32 × Int32 × (Nat → Int32) × (Nat → Int32) × (Nat → Int32) × (Nat → Int32)) :=
(f_X5_keepsPairs F a2).bind fun z1 =>
((((if z1 = 0 then
(f_X5_keepsPairs F a3).bind fun z6 =>
(if z6 = 0 then
some (0 : Int32)
else
some (1 : Int32))
else
some (1 : Int32))) : Option (Int32)).bind fun t3 =>
(ckz t3).bind fun _ =>
(f_X5_keepsCodes F a2).bind fun z11 =>
((((if z11 = 0 then
(f_X5_keepsCodes F a3).bind fun z16 =>
(if z16 = 0 then
some (0 : Int32)
else
some (1 : Int32))
else
some (1 : Int32))) : Option (Int32)).bind fun t13 =>
(ckz t13).bind fun _ =>
(f_X4_prepare F true t3 w_stock w_weight w_known o_row o_table).bind fun z21 =>
(f_X4_solve F 12 true z21.1 z21.2.1 z21.2.2.1 z21.2.2.2.1 z21.2.2.2.2.1 t3 t13 z21.2.2.2.2.2.2.1 z21.2.2.2.2.2.2.2.1 z21.2.2.2.2.2.2.2.2 w_found wM_which wM_x wM_y wM_row wM_table z21.2.2.2.2.2.1 (0 : Int32) (0 : Int32)).bind fun z23 =>
some (true, z21.1, z21.2.1, z21.2.2.1, z21.2.2.2.1, z21.2.2.2.2.1, z21.2.2.2.2.2.1, t3, t13, z21.2.2.2.2.2.2.1, z21.2.2.2.2.2.2.2.1, z23.1, z23.2)))
def f_X5_common (F : Nat) (x_now_row : Int32) (x_now_table : Int32) (x_ways_measure : Bool) (x_ways_values : Int32) (x_ways_row : Int32) (x_ways_rowCodes : Int32) (x_ways_table : Int32) (x_ways_length : Int32) (x_ways_full : Int32) (x_ways_pairs : Int32) (x_ways_codes : Int32) (x_ways_stock : Nat → Int32) (x_ways_weight : Nat → Int32) (x_ways_known : Nat → Int32) (x_ways_found : Nat → Int32) (x_measured_which : Int32) (x_measured_x : Int32) (x_measured_y : Int32) (x_measured_row : Int32) (x_measured_table : Int32) (a1 : Int32) (a2 : Int32) : Option (Int32 × Bool × Int32 × Int32 × Int32 × Int32 × Int32 × Int32 × Int32 × Int32 × (Nat → Int32) × (Nat → Int32) × (Nat → Int32) × (Nat → Int32)) :=
(f_X5_within F a1 (3 : Int32)).bind fun z1 =>
(if z1 = 0 then
some ((-1000001 : Int32), x_ways_measure, x_ways_values, x_ways_row, x_ways_rowCodes, x_ways_table, x_ways_length, x_ways_full, x_ways_pairs, x_ways_codes, x_ways_stock, x_ways_weight, x_ways_known, x_ways_found)
else
(f_X5_within F a2 (3 : Int32)).bind fun z3 =>
(if z3 = 0 then
some ((-1000001 : Int32), x_ways_measure, x_ways_values, x_ways_row, x_ways_rowCodes, x_ways_table, x_ways_length, x_ways_full, x_ways_pairs, x_ways_codes, x_ways_stock, x_ways_weight, x_ways_known, x_ways_found)
else
(f_X4_openBoth F x_ways_stock x_ways_weight x_ways_known x_ways_found x_measured_which x_measured_x x_measured_y x_measured_row x_measured_table x_now_row x_now_table a1 a2).bind fun z5 =>
(f_X4_total F z5.2.1 z5.2.2.2.2.2.2.2.2.2.2.2.2).bind fun z7 =>
some (z7, z5.1, z5.2.1, z5.2.2.1, z5.2.2.2.1, z5.2.2.2.2.1, z5.2.2.2.2.2.1, z5.2.2.2.2.2.2.1, z5.2.2.2.2.2.2.2.1, z5.2.2.2.2.2.2.2.2.1, z5.2.2.2.2.2.2.2.2.2.1, z5.2.2.2.2.2.2.2.2.2.2.1, z5.2.2.2.2.2.2.2.2.2.2.2.1, z5.2.2.2.2.2.2.2.2.2.2.2.2)))
def f_X1_keptRow (F : Nat) (s_book : Nat → Int32) (a1 : Int32) : Option (Int32) :=
((((if a1 < 0 then
some (0 : Int32)
else
(if (8 : Int32) ≤ a1 then
some (0 : Int32)
else
(rd 8 s_book a1).bind fun v4 =>
some v4))) : Option (Int32)).bind fun t1 =>
some t1)
def f_X5_sameLetters_L2 (F : Nat) (a0 : Int32) (a1 : Int32) : Nat → (Int32) → Option ((Unit) ⊕ (Unit))
  | 0, _ => none
  | n + 1, u1 =>
    (if (4 : Int32) ≤ u1 then
    some (Sum.inr ())
    else
    (f_X5_lettersIn F a0 u1).bind fun z11 =>
    (f_X5_lettersIn F a1 u1).bind fun z13 =>
    (if z11 = z13 then
    (some (u1 + (1 : Int32))).bind fun v15 =>
    f_X5_sameLetters_L2 F a0 a1 n v15
    else
    some (Sum.inl ())))
def f_X5_sameLetters (F : Nat) (a0 : Int32) (a1 : Int32) : Option (Int32) :=
((f_X5_sameLetters_L2 F a0 a1 F (0 : Int32)).bind fun e2 =>
(Sum.elim (fun ax9 =>
some (0 : Int32)) (fun ax10 =>
some (1 : Int32))) e2)
def f_X5_sameCodes_L2 (F : Nat) (a0 : Int32) (a1 : Int32) (a2 : Int32) : Nat → (Int32) → Option ((Unit) ⊕ (Unit))
  | 0, _ => none
  | n + 1, u1 =>
    (f_X5_lengthOf F a1).bind fun z11 =>
    (if z11 ≤ u1 then
    some (Sum.inr ())
    else
    (f_X5_wordCode F a0 a1 u1).bind fun z13 =>
    (f_X5_wordCode F a0 a2 u1).bind fun z15 =>
    (if z13 = z15 then
    (some (u1 + (2 : Int32))).bind fun v17 =>
    f_X5_sameCodes_L2 F a0 a1 a2 n v17
    else
    some (Sum.inl ())))
def f_X5_sameCodes (F : Nat) (a0 : Int32) (a1 : Int32) (a2 : Int32) : Option (Int32) :=
((f_X5_sameCodes_L2 F a0 a1 a2 F (1 : Int32)).bind fun e2 =>
(Sum.elim (fun ax9 =>
some (0 : Int32)) (fun ax10 =>
some (1 : Int32))) e2)
def f_X5_samePairs_L2 (F : Nat) (a0 : Int32) (a1 : Int32) : Nat → (Int32) → Option ((Unit) ⊕ (Unit))
  | 0, _ => none
  | n + 1, u1 =>
    (if (16 : Int32) ≤ u1 then
    some (Sum.inr ())
    else
    (some (u1 / (4 : Int32))).bind fun v11 =>
    (some (irem u1 (4 : Int32))).bind fun v12 =>
    (f_X5_pairsIn F a0 v11 v12).bind fun z13 =>
    (f_X5_pairsIn F a1 v11 v12).bind fun z15 =>
    (if z13 = z15 then
    (some (u1 + (1 : Int32))).bind fun v17 =>
    f_X5_samePairs_L2 F a0 a1 n v17
    else
    some (Sum.inl ())))
def f_X5_samePairs (F : Nat) (a0 : Int32) (a1 : Int32) : Option (Int32) :=
((f_X5_samePairs_L2 F a0 a1 F (0 : Int32)).bind fun e2 =>
(Sum.elim (fun ax9 =>
some (0 : Int32)) (fun ax10 =>
some (1 : Int32))) e2)
def f_X5_isShuffle (F : Nat) (x_now_row : Int32) (x_now_table : Int32) (a1 : Int32) (a2 : Int32) : Option (Int32) :=
(f_X5_sameLetters F x_now_row a2).bind fun z1 =>
(if z1 = 0 then
some (0 : Int32)
else
(f_X5_keepsPairs F a1).bind fun z3 =>
(if z3 = 0 then
(if a1 = (2 : Int32) then
(f_X5_letterOf F x_now_row (0 : Int32)).bind fun z15 =>
(f_X5_letterOf F a2 (0 : Int32)).bind fun z17 =>
(if z15 = z17 then
(f_X5_keepsCodes F a1).bind fun z19 =>
((((if z19 = 0 then
some (1 : Int32)
else
(f_X5_sameCodes F x_now_table x_now_row a2).bind fun z24 =>
(if z24 = 0 then
some (0 : Int32)
else
some (1 : Int32)))) : Option (Int32)).bind fun t21 =>
(ckz t21).bind fun _ =>
some t21)
else
some (0 : Int32))
else
(f_X5_keepsCodes F a1).bind fun z5 =>
((((if z5 = 0 then
some (1 : Int32)
else
(f_X5_sameCodes F x_now_table x_now_row a2).bind fun z10 =>
(if z10 = 0 then
some (0 : Int32)
else
some (1 : Int32)))) : Option (Int32)).bind fun t7 =>
(ckz t7).bind fun _ =>
some t7))
else
(f_X5_samePairs F x_now_row a2).bind fun z31 =>
(if z31 = 0 then
some (0 : Int32)
else
(if a1 = (2 : Int32) then
(f_X5_letterOf F x_now_row (0 : Int32)).bind fun z43 =>
(f_X5_letterOf F a2 (0 : Int32)).bind fun z45 =>
(if z43 = z45 then
(f_X5_keepsCodes F a1).bind fun z47 =>
((((if z47 = 0 then
some (1 : Int32)
else
(f_X5_sameCodes F x_now_table x_now_row a2).bind fun z52 =>
(if z52 = 0 then
some (0 : Int32)
else
some (1 : Int32)))) : Option (Int32)).bind fun t49 =>
(ckz t49).bind fun _ =>
some t49)
else
some (0 : Int32))
else
(f_X5_keepsCodes F a1).bind fun z33 =>
((((if z33 = 0 then
some (1 : Int32)
else
(f_X5_sameCodes F x_now_table x_now_row a2).bind fun z38 =>
(if z38 = 0 then
some (0 : Int32)
else
some (1 : Int32)))) : Option (Int32)).bind fun t35 =>
(ckz t35).bind fun _ =>
some t35)))))
def f_X5_kinship_L32 (F : Nat) (x_now_row : Int32) (x_now_table : Int32) (z1 : Int32) : Nat → (Int32) → Option ((Int32) ⊕ (Unit))
  | 0, _ => none
  | n + 1, u3 =>
    (if (4 : Int32) ≤ u3 then
    some (Sum.inr ())
    else
    (rd 4 ko_f u3).bind fun v13 =>
    (f_X5_isShuffle F x_now_row x_now_table v13 z1).bind fun z14 =>
    (if z14 = 0 then
    (some (u3 + (1 : Int32))).bind fun v16 =>
    f_X5_kinship_L32 F x_now_row x_now_table z1 n v16
    else
    some (Sum.inl u3)))
def f_X5_kinship (F : Nat) (x_now_row : Int32) (x_now_table : Int32) (x_now_kept : Int32) (x_now_book : Nat → Int32) (a1 : Int32) : Option (Int32) :=
(if 0 ≤ a1 then
(if a1 < x_now_kept then
(f_X1_keptRow F x_now_book a1).bind fun z1 =>
((f_X5_kinship_L32 F x_now_row x_now_table z1 F (0 : Int32)).bind fun e4 =>
(Sum.elim (fun ax11 =>
(rd 4 ko_f ax11).bind fun v19 =>
some v19) (fun ax12 =>
some (-1000004 : Int32))) e4)
else
some (-1000004 : Int32))
else
some (-1000001 : Int32))
def f_X5_unlikeLetters_L4 (F : Nat) (x_now_row : Int32) : Nat → (Int32) → (Int32) → Option ((Int32))
  | 0, _, _ => none
  | n + 1, u1, u2 =>
    (if (4 : Int32) ≤ u2 then
    some u1
    else
    (f_X5_lettersIn F x_now_row u2).bind fun z9 =>
    ((((if z9 ≤ 0 then
    some u1
    else
    (some (u1 + (1 : Int32))).bind fun v14 =>
    some v14)) : Option (Int32)).bind fun t11 =>
    (some (u2 + (1 : Int32))).bind fun v16 =>
    f_X5_unlikeLetters_L4 F x_now_row n t11 v16))
def f_X5_unlikeLetters (F : Nat) (x_now_row : Int32) : Option (Int32) :=
((f_X5_unlikeLetters_L4 F x_now_row F (0 : Int32) (0 : Int32)).bind fun e3 =>
some e3)
def f_X5_unlikePairs_L4 (F : Nat) (x_now_row : Int32) : Nat → (Int32) → (Int32) → Option ((Int32))
  | 0, _, _ => none
  | n + 1, u1, u2 =>
    (if (16 : Int32) ≤ u2 then
    some u1
    else
    (f_X5_pairsIn F x_now_row (u2 / (4 : Int32)) (irem u2 (4 : Int32))).bind fun z9 =>
    ((((if z9 ≤ 0 then
    some u1
    else
    (some (u1 + (1 : Int32))).bind fun v14 =>
    some v14)) : Option (Int32)).bind fun t11 =>
    (some (u2 + (1 : Int32))).bind fun v16 =>
    f_X5_unlikePairs_L4 F x_now_row n t11 v16))
def f_X5_unlikePairs (F : Nat) (x_now_row : Int32) : Option (Int32) :=
((f_X5_unlikePairs_L4 F x_now_row F (0 : Int32) (0 : Int32)).bind fun e3 =>
some e3)
def f_X5_count (F : Nat) (x_pastStates : Int32) (x_now_row : Int32) (x_now_table : Int32) (x_now_kept : Int32) (x_text_length : Int32) (x_measured_which : Int32) (x_measured_x : Int32) (x_measured_y : Int32) (x_measured_row : Int32) (x_measured_table : Int32) (a1 : Int32) : Option (Int32 × Int32 × Int32 × Int32 × Int32 × Int32) :=
(if a1 = (0 : Int32) then
(f_X5_lengthOf F x_now_row).bind fun z2 =>
some (z2, x_measured_which, x_measured_x, x_measured_y, x_measured_row, x_measured_table)
else
(if a1 = (1 : Int32) then
(f_X5_unlikeLetters F x_now_row).bind fun z5 =>
some (z5, x_measured_which, x_measured_x, x_measured_y, x_measured_row, x_measured_table)
else
(if a1 = (2 : Int32) then
(f_X5_unlikePairs F x_now_row).bind fun z8 =>
some (z8, x_measured_which, x_measured_x, x_measured_y, x_measured_row, x_measured_table)
else
(if a1 = (3 : Int32) then
(f_X0_set F x_now_row x_now_table (1 : Int32) (0 : Int32) (0 : Int32)).bind fun z11 =>
(f_X0_ofRow F z11.1 z11.2.1 z11.2.2.1 z11.2.2.2.1 z11.2.2.2.2).bind fun z13 =>
some (z13, z11.1, z11.2.1, z11.2.2.1, z11.2.2.2.1, z11.2.2.2.2)
else
(if a1 = (4 : Int32) then
(f_X5_lengthOf F x_now_row).bind fun z16 =>
some ((z16 / (2 : Int32)), x_measured_which, x_measured_x, x_measured_y, x_measured_row, x_measured_table)
else
(if a1 = (5 : Int32) then
some (x_now_kept, x_measured_which, x_measured_x, x_measured_y, x_measured_row, x_measured_table)
else
(if a1 = (6 : Int32) then
some (x_pastStates, x_measured_which, x_measured_x, x_measured_y, x_measured_row, x_measured_table)
else
(if a1 = (7 : Int32) then
some (x_text_length, x_measured_which, x_measured_x, x_measured_y, x_measured_row, x_measured_table)
else
some ((-1000001 : Int32), x_measured_which, x_measured_x, x_measured_y, x_measured_row, x_measured_table)))))))))
def f_X2_put (F : Nat) (t_length : Int32) (t_signs : Nat → Int32) (a1 : Int32) : Option (Int32 × (Nat → Int32)) :=
((((if t_length < 0 then
some (t_length, t_signs)
else
(if (60 : Int32) ≤ t_length then
some (t_length, t_signs)
else
(wr 60 t_signs t_length a1).bind fun v4 =>
(some (t_length + (1 : Int32))).bind fun v5 =>
some (v5, v4)))) : Option (Int32 × (Nat → Int32))).bind fun t1 =>
some (t1.1, t1.2))
def f_X5_type (F : Nat) (x_text_length : Int32) (x_text_signs : Nat → Int32) (a1 : Int32) : Option (Int32 × Int32 × (Nat → Int32)) :=
(if a1 < (32 : Int32) then
some ((-1000001 : Int32), x_text_length, x_text_signs)
else
(if a1 ≤ (126 : Int32) then
(if x_text_length < (60 : Int32) then
(f_X2_put F x_text_length x_text_signs a1).bind fun z1 =>
some (z1.1, z1.1, z1.2)
else
some ((-1000003 : Int32), x_text_length, x_text_signs))
else
some ((-1000001 : Int32), x_text_length, x_text_signs)))
def f_X5_clearText (F : Nat) (x_text_length : Int32) : Option (Int32 × Int32) :=
some (x_text_length, (0 : Int32))
def f_X1_become (F : Nat) (s_book : Nat → Int32) (o_row : Int32) (o_table : Int32) (o_kept : Int32) (o_book : Nat → Int32) : Option (Int32 × Int32 × Int32 × (Nat → Int32)) :=
(cpy 8 8 o_book s_book (0 : Int32) (0 : Int32) (8 : Int32)).bind fun v1 =>
some (o_row, o_table, o_kept, v1)
def f_X2_signAt (F : Nat) (t_length : Int32) (t_signs : Nat → Int32) (a1 : Int32) : Option (Int32) :=
((((if a1 < 0 then
some (-1 : Int32)
else
(if t_length ≤ a1 then
some (-1 : Int32)
else
(if (60 : Int32) ≤ a1 then
some (-1 : Int32)
else
(rd 60 t_signs a1).bind fun v4 =>
some v4)))) : Option (Int32)).bind fun t1 =>
some t1)
def f_X2_isBetween (F : Nat) (t_length : Int32) (t_reached : Int32) (t_signs : Nat → Int32) (a1 : Int32) (a2 : Int32) : Option (Int32) :=
(f_X2_signAt F t_length t_signs t_reached).bind fun z1 =>
((((if z1 < a1 then
some (0 : Int32)
else
(if a2 < z1 then
some (0 : Int32)
else
some (1 : Int32)))) : Option (Int32)).bind fun t3 =>
(ckz t3).bind fun _ =>
some t3)
def f_X2_spells_str0_L15 (F : Nat) (t_length : Int32) (t_signs : Nat → Int32) (a2 : Int32) : Nat → (Int32) → Option ((Unit) ⊕ (Unit))
  | 0, _ => none
  | n + 1, u1 =>
    (if (3 : Int32) ≤ u1 then
    some (Sum.inr ())
    else
    (f_X2_signAt F t_length t_signs (a2 + u1)).bind fun z11 =>
    (rd 3 (sx_f 0) u1).bind fun v13 =>
    (if z11 = v13 then
    (some (u1 + (1 : Int32))).bind fun v14 =>
    f_X2_spells_str0_L15 F t_length t_signs a2 n v14
    else
    some (Sum.inl ())))
def f_X2_spells_str0 (F : Nat) (t_length : Int32) (t_signs : Nat → Int32) (a2 : Int32) (a3 : Int32) : Option (Int32) :=
(if (a3 - a2) = (3 : Int32) then
((f_X2_spells_str0_L15 F t_length t_signs a2 F (0 : Int32)).bind fun e2 =>
(Sum.elim (fun ax9 =>
some (0 : Int32)) (fun ax10 =>
some (1 : Int32))) e2)
else
some (0 : Int32))
def f_X2_spells_str1_L15 (F : Nat) (t_length : Int32) (t_signs : Nat → Int32) (a2 : Int32) : Nat → (Int32) → Option ((Unit) ⊕ (Unit))
  | 0, _ => none
  | n + 1, u1 =>
    (if (4 : Int32) ≤ u1 then
    some (Sum.inr ())
    else
    (f_X2_signAt F t_length t_signs (a2 + u1)).bind fun z11 =>
    (rd 4 (sx_f 1) u1).bind fun v13 =>
    (if z11 = v13 then
    (some (u1 + (1 : Int32))).bind fun v14 =>
    f_X2_spells_str1_L15 F t_length t_signs a2 n v14
    else
    some (Sum.inl ())))
def f_X2_spells_str1 (F : Nat) (t_length : Int32) (t_signs : Nat → Int32) (a2 : Int32) (a3 : Int32) : Option (Int32) :=
(if (a3 - a2) = (4 : Int32) then
((f_X2_spells_str1_L15 F t_length t_signs a2 F (0 : Int32)).bind fun e2 =>
(Sum.elim (fun ax9 =>
some (0 : Int32)) (fun ax10 =>
some (1 : Int32))) e2)
else
some (0 : Int32))
def f_X2_spells_str2_L15 (F : Nat) (t_length : Int32) (t_signs : Nat → Int32) (a2 : Int32) : Nat → (Int32) → Option ((Unit) ⊕ (Unit))
  | 0, _ => none
  | n + 1, u1 =>
    (if (4 : Int32) ≤ u1 then
    some (Sum.inr ())
    else
    (f_X2_signAt F t_length t_signs (a2 + u1)).bind fun z11 =>
    (rd 4 (sx_f 2) u1).bind fun v13 =>
    (if z11 = v13 then
    (some (u1 + (1 : Int32))).bind fun v14 =>
    f_X2_spells_str2_L15 F t_length t_signs a2 n v14
    else
    some (Sum.inl ())))
def f_X2_spells_str2 (F : Nat) (t_length : Int32) (t_signs : Nat → Int32) (a2 : Int32) (a3 : Int32) : Option (Int32) :=
(if (a3 - a2) = (4 : Int32) then
((f_X2_spells_str2_L15 F t_length t_signs a2 F (0 : Int32)).bind fun e2 =>
(Sum.elim (fun ax9 =>
some (0 : Int32)) (fun ax10 =>
some (1 : Int32))) e2)
else
some (0 : Int32))
def f_X2_spells_str3_L15 (F : Nat) (t_length : Int32) (t_signs : Nat → Int32) (a2 : Int32) : Nat → (Int32) → Option ((Unit) ⊕ (Unit))
  | 0, _ => none
  | n + 1, u1 =>
    (if (5 : Int32) ≤ u1 then
    some (Sum.inr ())
    else
    (f_X2_signAt F t_length t_signs (a2 + u1)).bind fun z11 =>
    (rd 5 (sx_f 3) u1).bind fun v13 =>
    (if z11 = v13 then
    (some (u1 + (1 : Int32))).bind fun v14 =>
    f_X2_spells_str3_L15 F t_length t_signs a2 n v14
    else
    some (Sum.inl ())))
def f_X2_spells_str3 (F : Nat) (t_length : Int32) (t_signs : Nat → Int32) (a2 : Int32) (a3 : Int32) : Option (Int32) :=
(if (a3 - a2) = (5 : Int32) then
((f_X2_spells_str3_L15 F t_length t_signs a2 F (0 : Int32)).bind fun e2 =>
(Sum.elim (fun ax9 =>
some (0 : Int32)) (fun ax10 =>
some (1 : Int32))) e2)
else
some (0 : Int32))
def f_X2_spells_str4_L15 (F : Nat) (t_length : Int32) (t_signs : Nat → Int32) (a2 : Int32) : Nat → (Int32) → Option ((Unit) ⊕ (Unit))
  | 0, _ => none
  | n + 1, u1 =>
    (if (4 : Int32) ≤ u1 then
    some (Sum.inr ())
    else
    (f_X2_signAt F t_length t_signs (a2 + u1)).bind fun z11 =>
    (rd 4 (sx_f 4) u1).bind fun v13 =>
    (if z11 = v13 then
    (some (u1 + (1 : Int32))).bind fun v14 =>
    f_X2_spells_str4_L15 F t_length t_signs a2 n v14
    else
    some (Sum.inl ())))
def f_X2_spells_str4 (F : Nat) (t_length : Int32) (t_signs : Nat → Int32) (a2 : Int32) (a3 : Int32) : Option (Int32) :=
(if (a3 - a2) = (4 : Int32) then
((f_X2_spells_str4_L15 F t_length t_signs a2 F (0 : Int32)).bind fun e2 =>
(Sum.elim (fun ax9 =>
some (0 : Int32)) (fun ax10 =>
some (1 : Int32))) e2)
else
some (0 : Int32))
def f_X2_wordBetween (F : Nat) (t_length : Int32) (t_signs : Nat → Int32) (a1 : Int32) (a2 : Int32) : Option (Int32) :=
(f_X2_spells_str0 F t_length t_signs a1 a2).bind fun z1 =>
(if z1 = 0 then
(f_X2_spells_str1 F t_length t_signs a1 a2).bind fun z3 =>
(if z3 = 0 then
(f_X2_spells_str2 F t_length t_signs a1 a2).bind fun z5 =>
(if z5 = 0 then
(f_X2_spells_str3 F t_length t_signs a1 a2).bind fun z7 =>
(if z7 = 0 then
(f_X2_spells_str4 F t_length t_signs a1 a2).bind fun z9 =>
((((if z9 = 0 then
some (0 : Int32)
else
some (5 : Int32))) : Option (Int32)).bind fun t11 =>
some t11)
else
some (4 : Int32))
else
some (3 : Int32))
else
some (2 : Int32))
else
some (1 : Int32))
def f_X2_readSign (F : Nat) (t_length : Int32) (t_reached : Int32) (t_broken : Int32) (t_signs : Nat → Int32) (a1 : Int32) : Option (Int32 × Int32) :=
((((if t_broken = 0 then
(f_X2_isBetween F t_length t_reached t_signs a1 a1).bind fun z4 =>
(if z4 = 0 then
some (t_reached, (1 : Int32))
else
(some (t_reached + (1 : Int32))).bind fun v6 =>
some (v6, t_broken))
else
some (t_reached, (1 : Int32)))) : Option (Int32 × Int32)).bind fun t1 =>
some (t1.1, t1.2))
def f_X2_readRow_L29 (F : Nat) (t_length : Int32) (t_signs : Nat → Int32) (t1 : Int32) : Nat → (Int32) → (Int32) → (Int32) → Option ((Int32 × Int32))
  | 0, _, _, _ => none
  | n + 1, u9, u10, u11 =>
    (if (10 : Int32) ≤ u9 then
    some (u10, u11)
    else
    (if t1 = 0 then
    (f_X2_isBetween F t_length u11 t_signs (97 : Int32) (100 : Int32)).bind fun z18 =>
    (if z18 = 0 then
    some (u10, u11)
    else
    (f_X2_signAt F t_length t_signs u11).bind fun z20 =>
    (f_X5_longer F u10 (z20 - (97 : Int32))).bind fun z22 =>
    (some (u11 + (1 : Int32))).bind fun v24 =>
    (some (u9 + (1 : Int32))).bind fun v25 =>
    f_X2_readRow_L29 F t_length t_signs t1 n v25 z22 v24)
    else
    some (u10, u11)))
def f_X2_readRow (F : Nat) (t_length : Int32) (t_row : Int32) (t_reached : Int32) (t_broken : Int32) (t_signs : Nat → Int32) : Option (Int32 × Int32 × Int32) :=
((((if t_broken = 0 then
(f_X2_isBetween F t_length t_reached t_signs (97 : Int32) (100 : Int32)).bind fun z4 =>
(if z4 = 0 then
some (1 : Int32)
else
some (0 : Int32))
else
some (1 : Int32))) : Option (Int32)).bind fun t1 =>
(ckz t1).bind fun _ =>
((f_X2_readRow_L29 F t_length t_signs t1 F (0 : Int32) t_row t_reached).bind fun e12 =>
some (e12.1, e12.2, t1)))
def f_X2_readDigit (F : Nat) (t_length : Int32) (t_reached : Int32) (t_broken : Int32) (t_signs : Nat → Int32) : Option (Int32 × Int32 × Int32) :=
(if t_broken = 0 then
(f_X2_isBetween F t_length t_reached t_signs (48 : Int32) (57 : Int32)).bind fun z1 =>
(if z1 = 0 then
some ((0 : Int32), t_reached, (1 : Int32))
else
(f_X2_signAt F t_length t_signs t_reached).bind fun z3 =>
(some (z3 - (48 : Int32))).bind fun v5 =>
(some (t_reached + (1 : Int32))).bind fun v6 =>
some (v5, v6, t_broken))
else
some ((0 : Int32), t_reached, (1 : Int32)))
def f_X2_readNumber_L10 (F : Nat) (t_length : Int32) (t_signs : Nat → Int32) : Nat → (Int32) → (Int32) → (Int32) → (Int32) → Option ((Int32 × Int32 × Int32))
  | 0, _, _, _, _ => none
  | n + 1, u3, u4, u5, u6 =>
    (if (6 : Int32) ≤ u3 then
    some (u4, u5, u6)
    else
    (if u6 = 0 then
    (f_X2_isBetween F t_length u5 t_signs (48 : Int32) (57 : Int32)).bind fun z13 =>
    (if z13 = 0 then
    some (u4, u5, u6)
    else
    (f_X2_readDigit F t_length u5 u6 t_signs).bind fun z15 =>
    (some (((10 : Int32) * u4) + z15.1)).bind fun v17 =>
    (some (u3 + (1 : Int32))).bind fun v18 =>
    f_X2_readNumber_L10 F t_length t_signs n v18 v17 z15.2.1 z15.2.2)
    else
    some (u4, u5, u6)))
def f_X2_readNumber (F : Nat) (t_length : Int32) (t_reached : Int32) (t_broken : Int32) (t_signs : Nat → Int32) : Option (Int32 × Int32 × Int32) :=
(f_X2_readDigit F t_length t_reached t_broken t_signs).bind fun z1 =>
((f_X2_readNumber_L10 F t_length t_signs F (1 : Int32) z1.1 z1.2.1 z1.2.2).bind fun e7 =>
some (e7.1, e7.2.1, e7.2.2))
def f_X2_read_L20 (F : Nat) (t_length : Int32) (t_signs : Nat → Int32) : Nat → (Int32) → Option ((Int32))
  | 0, _ => none
  | n + 1, u1 =>
    (if t_length ≤ u1 then
    some u1
    else
    (f_X2_isBetween F t_length u1 t_signs (97 : Int32) (122 : Int32)).bind fun z8 =>
    (if z8 = 0 then
    some u1
    else
    (some (u1 + (1 : Int32))).bind fun v10 =>
    f_X2_read_L20 F t_length t_signs n v10))
def f_X2_read (F : Nat) (t_length : Int32) (t_signs : Nat → Int32) (a1 : Int32) : Option (Int32 × Int32 × Int32 × Int32 × Int32 × Int32) :=
((f_X2_read_L20 F t_length t_signs F a1).bind fun e2 =>
(f_X2_wordBetween F t_length t_signs a1 e2).bind fun z13 =>
((((if z13 = 0 then
some (1 : Int32)
else
some (0 : Int32))) : Option (Int32)).bind fun t15 =>
(ckz t15).bind fun _ =>
((((if z13 = (1 : Int32) then
(f_X2_readSign F t_length e2 t15 t_signs (32 : Int32)).bind fun z24 =>
(f_X2_readRow F t_length (0 : Int32) z24.1 z24.2 t_signs).bind fun z26 =>
some ((0 : Int32), (0 : Int32), z26.1, z26.2.1, z26.2.2)
else
(if z13 = (2 : Int32) then
some ((0 : Int32), (0 : Int32), (0 : Int32), e2, t15)
else
(if z13 = (3 : Int32) then
(f_X2_readSign F t_length e2 t15 t_signs (32 : Int32)).bind fun z30 =>
(f_X2_readDigit F t_length z30.1 z30.2 t_signs).bind fun z32 =>
some (z32.1, (0 : Int32), (0 : Int32), z32.2.1, z32.2.2)
else
(if z13 = (4 : Int32) then
(f_X2_readSign F t_length e2 t15 t_signs (32 : Int32)).bind fun z35 =>
(f_X2_readDigit F t_length z35.1 z35.2 t_signs).bind fun z37 =>
(f_X2_readSign F t_length z37.2.1 z37.2.2 t_signs (32 : Int32)).bind fun z39 =>
(f_X2_readNumber F t_length z39.1 z39.2 t_signs).bind fun z41 =>
some (z37.1, z41.1, (0 : Int32), z41.2.1, z41.2.2)
else
some ((0 : Int32), (0 : Int32), (0 : Int32), e2, t15)))))) : Option (Int32 × Int32 × Int32 × Int32 × Int32)).bind fun t20 =>
(f_X2_readSign F t_length t20.2.2.2.1 t20.2.2.2.2 t_signs (59 : Int32)).bind fun z43 =>
some (z13, t20.1, t20.2.1, t20.2.2.1, z43.1, z43.2))))
def f_X5_turned_L9 (F : Nat) (a0 : Int32) : Nat → (Int32) → (Int32) → Option ((Int32))
  | 0, _, _ => none
  | n + 1, u4, u5 =>
    (if u5 < 0 then
    some u4
    else
    (f_X5_letterOf F a0 u5).bind fun z12 =>
    (f_X5_longer F u4 z12).bind fun z14 =>
    (some (u5 + (-1 : Int32))).bind fun v16 =>
    f_X5_turned_L9 F a0 n z14 v16)
def f_X5_turned (F : Nat) (a0 : Int32) : Option (Int32) :=
(f_X5_lengthOf F a0).bind fun z1 =>
(some (z1 - (1 : Int32))).bind fun v3 =>
((f_X5_turned_L9 F a0 F (0 : Int32) v3).bind fun e6 =>
some e6)
def f_X1_keepRow (F : Nat) (s_row : Int32) (s_kept : Int32) (s_book : Nat → Int32) : Option (Int32 × (Nat → Int32)) :=
((((if s_kept < 0 then
some (s_kept, s_book)
else
(if (8 : Int32) ≤ s_kept then
some (s_kept, s_book)
else
(wr 8 s_book s_kept s_row).bind fun v4 =>
(some (s_kept + (1 : Int32))).bind fun v5 =>
some (v5, v4)))) : Option (Int32 × (Nat → Int32))).bind fun t1 =>
some (t1.1, t1.2))
def f_X3_putIntoBook (F : Nat) (y_state_row : Int32) (y_state_kept : Int32) (y_state_book : Nat → Int32) : Option (Int32 × Int32 × (Nat → Int32)) :=
(if y_state_kept < (8 : Int32) then
(if y_state_row = 0 then
some ((3 : Int32), y_state_kept, y_state_book)
else
(f_X1_keepRow F y_state_row y_state_kept y_state_book).bind fun z1 =>
some ((0 : Int32), z1.1, z1.2))
else
some ((2 : Int32), y_state_kept, y_state_book))
def f_X3_carryOut (F : Nat) (y_state_row : Int32) (y_state_table : Int32) (y_state_kept : Int32) (y_state_book : Nat → Int32) (t_word : Int32) (t_kind : Int32) (t_number : Int32) (t_row : Int32) (w_measure : Bool) (w_values : Int32) (w_row : Int32) (w_rowCodes : Int32) (w_table : Int32) (w_length : Int32) (w_full : Int32) (w_pairs : Int32) (w_codes : Int32) (w_stock : Nat → Int32) (w_weight : Nat → Int32) (w_known : Nat → Int32) (w_found : Nat → Int32) (wM_which : Int32) (wM_x : Int32) (wM_y : Int32) (wM_row : Int32) (wM_table : Int32) : Option (Int32 × Int32 × Int32 × (Nat → Int32) × Bool × Int32 × Int32 × Int32 × Int32 × Int32 × Int32 × Int32 × Int32 × (Nat → Int32) × (Nat → Int32) × (Nat → Int32) × (Nat → Int32)) :=
(if t_word = (1 : Int32) then
some ((0 : Int32), t_row, y_state_kept, y_state_book, w_measure, w_values, w_row, w_rowCodes, w_table, w_length, w_full, w_pairs, w_codes, w_stock, w_weight, w_known, w_found)
else
(if t_word = (2 : Int32) then
(f_X5_turned F y_state_row).bind fun z3 =>
((((if z3 = 0 then
some (3 : Int32)
else
some (0 : Int32))) : Option (Int32)).bind fun t5 =>
some (t5, z3, y_state_kept, y_state_book, w_measure, w_values, w_row, w_rowCodes, w_table, w_length, w_full, w_pairs, w_codes, w_stock, w_weight, w_known, w_found))
else
(if t_word = (3 : Int32) then
(f_X4_open F w_stock w_weight w_known w_found wM_which wM_x wM_y wM_row wM_table y_state_row y_state_table t_kind).bind fun z10 =>
((((if t_word = (3 : Int32) then
(f_X4_placeOfRow F z10.2.1 z10.2.2.1 z10.2.2.2.1 z10.2.2.2.2.1 z10.2.2.2.2.2.1 z10.2.2.2.2.2.2.1 z10.2.2.2.2.2.2.2.1 z10.2.2.2.2.2.2.2.2.1 z10.2.2.2.2.2.2.2.2.2.1 z10.2.2.2.2.2.2.2.2.2.2.1 z10.2.2.2.2.2.2.2.2.2.2.2.2).bind fun z15 =>
some (z15 + (1 : Int32))
else
some t_number)) : Option (Int32)).bind fun t12 =>
(f_X4_total F z10.2.1 z10.2.2.2.2.2.2.2.2.2.2.2.2).bind fun z18 =>
(if t12 < z18 then
(f_X4_rowAt F z10.2.1 z10.2.2.1 z10.2.2.2.1 z10.2.2.2.2.1 z10.2.2.2.2.2.1 z10.2.2.2.2.2.2.1 z10.2.2.2.2.2.2.2.1 z10.2.2.2.2.2.2.2.2.1 z10.2.2.2.2.2.2.2.2.2.1 z10.2.2.2.2.2.2.2.2.2.2.1 z10.2.2.2.2.2.2.2.2.2.2.2.2 t12).bind fun z20 =>
some ((0 : Int32), z20, y_state_kept, y_state_book, z10.1, z10.2.1, z10.2.2.1, z10.2.2.2.1, z10.2.2.2.2.1, z10.2.2.2.2.2.1, z10.2.2.2.2.2.2.1, z10.2.2.2.2.2.2.2.1, z10.2.2.2.2.2.2.2.2.1, z10.2.2.2.2.2.2.2.2.2.1, z10.2.2.2.2.2.2.2.2.2.2.1, z10.2.2.2.2.2.2.2.2.2.2.2.1, z10.2.2.2.2.2.2.2.2.2.2.2.2)
else
some ((1 : Int32), y_state_row, y_state_kept, y_state_book, z10.1, z10.2.1, z10.2.2.1, z10.2.2.2.1, z10.2.2.2.2.1, z10.2.2.2.2.2.1, z10.2.2.2.2.2.2.1, z10.2.2.2.2.2.2.2.1, z10.2.2.2.2.2.2.2.2.1, z10.2.2.2.2.2.2.2.2.2.1, z10.2.2.2.2.2.2.2.2.2.2.1, z10.2.2.2.2.2.2.2.2.2.2.2.1, z10.2.2.2.2.2.2.2.2.2.2.2.2)))
else
(if t_word = (4 : Int32) then
(f_X4_open F w_stock w_weight w_known w_found wM_which wM_x wM_y wM_row wM_table y_state_row y_state_table t_kind).bind fun z24 =>
((((if t_word = (3 : Int32) then
(f_X4_placeOfRow F z24.2.1 z24.2.2.1 z24.2.2.2.1 z24.2.2.2.2.1 z24.2.2.2.2.2.1 z24.2.2.2.2.2.2.1 z24.2.2.2.2.2.2.2.1 z24.2.2.2.2.2.2.2.2.1 z24.2.2.2.2.2.2.2.2.2.1 z24.2.2.2.2.2.2.2.2.2.2.1 z24.2.2.2.2.2.2.2.2.2.2.2.2).bind fun z29 =>
some (z29 + (1 : Int32))
else
some t_number)) : Option (Int32)).bind fun t26 =>
(f_X4_total F z24.2.1 z24.2.2.2.2.2.2.2.2.2.2.2.2).bind fun z32 =>
(if t26 < z32 then
(f_X4_rowAt F z24.2.1 z24.2.2.1 z24.2.2.2.1 z24.2.2.2.2.1 z24.2.2.2.2.2.1 z24.2.2.2.2.2.2.1 z24.2.2.2.2.2.2.2.1 z24.2.2.2.2.2.2.2.2.1 z24.2.2.2.2.2.2.2.2.2.1 z24.2.2.2.2.2.2.2.2.2.2.1 z24.2.2.2.2.2.2.2.2.2.2.2.2 t26).bind fun z34 =>
some ((0 : Int32), z34, y_state_kept, y_state_book, z24.1, z24.2.1, z24.2.2.1, z24.2.2.2.1, z24.2.2.2.2.1, z24.2.2.2.2.2.1, z24.2.2.2.2.2.2.1, z24.2.2.2.2.2.2.2.1, z24.2.2.2.2.2.2.2.2.1, z24.2.2.2.2.2.2.2.2.2.1, z24.2.2.2.2.2.2.2.2.2.2.1, z24.2.2.2.2.2.2.2.2.2.2.2.1, z24.2.2.2.2.2.2.2.2.2.2.2.2)
else
some ((1 : Int32), y_state_row, y_state_kept, y_state_book, z24.1, z24.2.1, z24.2.2.1, z24.2.2.2.1, z24.2.2.2.2.1, z24.2.2.2.2.2.1, z24.2.2.2.2.2.2.1, z24.2.2.2.2.2.2.2.1, z24.2.2.2.2.2.2.2.2.1, z24.2.2.2.2.2.2.2.2.2.1, z24.2.2.2.2.2.2.2.2.2.2.1, z24.2.2.2.2.2.2.2.2.2.2.2.1, z24.2.2.2.2.2.2.2.2.2.2.2.2)))
else
(if t_word = (5 : Int32) then
(f_X3_putIntoBook F y_state_row y_state_kept y_state_book).bind fun z38 =>
some (z38.1, y_state_row, z38.2.1, z38.2.2, w_measure, w_values, w_row, w_rowCodes, w_table, w_length, w_full, w_pairs, w_codes, w_stock, w_weight, w_known, w_found)
else
(f_X4_open F w_stock w_weight w_known w_found wM_which wM_x wM_y wM_row wM_table y_state_row y_state_table t_kind).bind fun z40 =>
((((if t_word = (3 : Int32) then
(f_X4_placeOfRow F z40.2.1 z40.2.2.1 z40.2.2.2.1 z40.2.2.2.2.1 z40.2.2.2.2.2.1 z40.2.2.2.2.2.2.1 z40.2.2.2.2.2.2.2.1 z40.2.2.2.2.2.2.2.2.1 z40.2.2.2.2.2.2.2.2.2.1 z40.2.2.2.2.2.2.2.2.2.2.1 z40.2.2.2.2.2.2.2.2.2.2.2.2).bind fun z45 =>
some (z45 + (1 : Int32))
else
some t_number)) : Option (Int32)).bind fun t42 =>
(f_X4_total F z40.2.1 z40.2.2.2.2.2.2.2.2.2.2.2.2).bind fun z48 =>
(if t42 < z48 then
(f_X4_rowAt F z40.2.1 z40.2.2.1 z40.2.2.2.1 z40.2.2.2.2.1 z40.2.2.2.2.2.1 z40.2.2.2.2.2.2.1 z40.2.2.2.2.2.2.2.1 z40.2.2.2.2.2.2.2.2.1 z40.2.2.2.2.2.2.2.2.2.1 z40.2.2.2.2.2.2.2.2.2.2.1 z40.2.2.2.2.2.2.2.2.2.2.2.2 t42).bind fun z50 =>
some ((0 : Int32), z50, y_state_kept, y_state_book, z40.1, z40.2.1, z40.2.2.1, z40.2.2.2.1, z40.2.2.2.2.1, z40.2.2.2.2.2.1, z40.2.2.2.2.2.2.1, z40.2.2.2.2.2.2.2.1, z40.2.2.2.2.2.2.2.2.1, z40.2.2.2.2.2.2.2.2.2.1, z40.2.2.2.2.2.2.2.2.2.2.1, z40.2.2.2.2.2.2.2.2.2.2.2.1, z40.2.2.2.2.2.2.2.2.2.2.2.2)
else
some ((1 : Int32), y_state_row, y_state_kept, y_state_book, z40.1, z40.2.1, z40.2.2.1, z40.2.2.2.1, z40.2.2.2.2.1, z40.2.2.2.2.2.1, z40.2.2.2.2.2.2.1, z40.2.2.2.2.2.2.2.1, z40.2.2.2.2.2.2.2.2.1, z40.2.2.2.2.2.2.2.2.2.1, z40.2.2.2.2.2.2.2.2.2.2.1, z40.2.2.2.2.2.2.2.2.2.2.2.1, z40.2.2.2.2.2.2.2.2.2.2.2.2))))))))
def f_X3_run_L31 (F : Nat) (t_length : Int32) (t_signs : Nat → Int32) (wM_which : Int32) (wM_x : Int32) (wM_y : Int32) (wM_row : Int32) (wM_table : Int32) (z1 : Int32 × Int32 × Int32 × (Nat → Int32)) : Nat → (Int32) → (Nat → Int32) → (Nat → Int32) → (Nat → Int32) → (Nat → Int32) → (Nat → Int32) → (Int32) → (Int32) → (Int32) → (Int32) → (Int32) → (Int32) → (Int32) → (Int32) → (Int32) → (Bool) → (Int32) → (Int32) → (Int32) → (Int32) → (Int32) → (Int32) → (Int32) → (Int32) → (Int32) → (Int32) → Option (((Nat → Int32) × (Nat → Int32) × (Nat → Int32) × (Nat → Int32) × (Nat → Int32) × Int32 × Int32 × Int32 × Int32 × Int32 × Int32 × Int32 × Int32 × Int32 × Bool × Int32 × Int32 × Int32 × Int32 × Int32 × Int32 × Int32 × Int32 × Int32 × Int32) ⊕ ((Nat → Int32) × (Nat → Int32) × (Nat → Int32) × (Nat → Int32) × (Nat → Int32) × Int32 × Int32 × Int32 × Int32 × Int32 × Int32 × Int32 × Int32 × Int32 × Bool × Int32 × Int32 × Int32 × Int32 × Int32 × Int32 × Int32 × Int32 × Int32 × Int32) ⊕ ((Nat → Int32) × (Nat → Int32) × (Nat → Int32) × (Nat → Int32) × (Nat → Int32) × Int32 × Int32 × Int32 × Int32 × Int32 × Int32 × Int32 × Int32 × Int32 × Bool × Int32 × Int32 × Int32 × Int32 × Int32 × Int32 × Int32 × Int32 × Int32 × Int32) ⊕ ((Nat → Int32) × (Nat → Int32) × (Nat → Int32) × (Nat → Int32) × (Nat → Int32) × Int32 × Int32 × Int32 × Int32 × Int32 × Int32 × Int32 × Int32 × Int32 × Bool × Int32 × Int32 × Int32 × Int32 × Int32 × Int32 × Int32 × Int32 × Int32 × Int32))
  | 0, _, _, _, _, _, _, _, _, _, _, _, _, _, _, _, _, _, _, _, _, _, _, _, _, _, _ => none
  | n + 1, u3, u4, u5, u6, u7, u8, u9, u10, u11, u12, u13, u14, u15, u16, u17, u18, u19, u20, u21, u22, u23, u24, u25, u26, u27, u28 =>
    (if (60 : Int32) ≤ u3 then
    some (Sum.inr (Sum.inr (Sum.inr (u4, u5, u6, u7, u8, u9, u10, u11, u12, u13, u14, u15, u16, u17, u18, u19, u20, u21, u22, u23, u24, u25, u26, u27, u28))))
    else
    (if t_length ≤ u25 then
    some (Sum.inr (Sum.inr (Sum.inr (u4, u5, u6, u7, u8, u9, u10, u11, u12, u13, u14, u15, u16, u17, u18, u19, u20, u21, u22, u23, u24, u25, u26, u27, u28))))
    else
    (f_X2_read F t_length t_signs u25).bind fun z42 =>
    (if z42.2.2.2.2.2 = 0 then
    (if z42.2.1 ≤ (3 : Int32) then
    (f_X3_carryOut F u27 z1.2.1 u28 u8 z42.1 z42.2.1 z42.2.2.1 z42.2.2.2.1 u18 u19 u20 u21 u22 u23 u15 u16 u17 u6 u7 u5 u4 wM_which wM_x wM_y wM_row wM_table).bind fun z44 =>
    (if z44.1 = 0 then
    (some (u24 + (1 : Int32))).bind fun v46 =>
    (some (u3 + (1 : Int32))).bind fun v47 =>
    f_X3_run_L31 F t_length t_signs wM_which wM_x wM_y wM_row wM_table z1 n v47 z44.2.2.2.2.2.2.2.2.2.2.2.2.2.2.2.2 z44.2.2.2.2.2.2.2.2.2.2.2.2.2.2.2.1 z44.2.2.2.2.2.2.2.2.2.2.2.2.2.1 z44.2.2.2.2.2.2.2.2.2.2.2.2.2.2.1 z44.2.2.2.1 z42.1 z42.2.1 z42.2.2.1 z42.2.2.2.1 z42.2.2.2.2.1 z42.2.2.2.2.2 z44.2.2.2.2.2.2.2.2.2.2.1 z44.2.2.2.2.2.2.2.2.2.2.2.1 z44.2.2.2.2.2.2.2.2.2.2.2.2.1 z44.2.2.2.2.1 z44.2.2.2.2.2.1 z44.2.2.2.2.2.2.1 z44.2.2.2.2.2.2.2.1 z44.2.2.2.2.2.2.2.2.1 z44.2.2.2.2.2.2.2.2.2.1 v46 z42.2.2.2.2.1 z44.1 z44.2.1 z44.2.2.1
    else
    some (Sum.inr (Sum.inr (Sum.inl (z44.2.2.2.2.2.2.2.2.2.2.2.2.2.2.2.2, z44.2.2.2.2.2.2.2.2.2.2.2.2.2.2.2.1, z44.2.2.2.2.2.2.2.2.2.2.2.2.2.1, z44.2.2.2.2.2.2.2.2.2.2.2.2.2.2.1, z44.2.2.2.1, z42.1, z42.2.1, z42.2.2.1, z42.2.2.2.1, z42.2.2.2.2.1, z42.2.2.2.2.2, z44.2.2.2.2.2.2.2.2.2.2.1, z44.2.2.2.2.2.2.2.2.2.2.2.1, z44.2.2.2.2.2.2.2.2.2.2.2.2.1, z44.2.2.2.2.1, z44.2.2.2.2.2.1, z44.2.2.2.2.2.2.1, z44.2.2.2.2.2.2.2.1, z44.2.2.2.2.2.2.2.2.1, z44.2.2.2.2.2.2.2.2.2.1, u24, u25, z44.1, z44.2.1, z44.2.2.1)))))
    else
    some (Sum.inr (Sum.inl (u4, u5, u6, u7, u8, z42.1, z42.2.1, z42.2.2.1, z42.2.2.2.1, z42.2.2.2.2.1, z42.2.2.2.2.2, u15, u16, u17, u18, u19, u20, u21, u22, u23, u24, u25, u26, u27, u28))))
    else
    some (Sum.inl (u4, u5, u6, u7, u8, z42.1, z42.2.1, z42.2.2.1, z42.2.2.2.1, z42.2.2.2.2.1, z42.2.2.2.2.2, u15, u16, u17, u18, u19, u20, u21, u22, u23, u24, u25, u26, u27, u28)))))
def f_X3_run (F : Nat) (y_state_book : Nat → Int32) (o_row : Int32) (o_table : Int32) (o_kept : Int32) (o_book : Nat → Int32) (t_length : Int32) (t_word : Int32) (t_kind : Int32) (t_number : Int32) (t_row : Int32) (t_reached : Int32) (t_broken : Int32) (t_signs : Nat → Int32) (w_measure : Bool) (w_values : Int32) (w_row : Int32) (w_rowCodes : Int32) (w_table : Int32) (w_length : Int32) (w_full : Int32) (w_pairs : Int32) (w_codes : Int32) (w_stock : Nat → Int32) (w_weight : Nat → Int32) (w_known : Nat → Int32) (w_found : Nat → Int32) (wM_which : Int32) (wM_x : Int32) (wM_y : Int32) (wM_row : Int32) (wM_table : Int32) : Option (Int32 × Int32 × Int32 × Int32 × Int32 × Int32 × Int32 × (Nat → Int32) × Int32 × Int32 × Int32 × Int32 × Int32 × Int32 × Bool × Int32 × Int32 × Int32 × Int32 × Int32 × Int32 × Int32 × Int32 × (Nat → Int32) × (Nat → Int32) × (Nat → Int32) × (Nat → Int32)) :=
(f_X1_become F y_state_book o_row o_table o_kept o_book).bind fun z1 =>
((f_X3_run_L31 F t_length t_signs wM_which wM_x wM_y wM_row wM_table z1 F (0 : Int32) w_found w_known w_stock w_weight z1.2.2.2 t_word t_kind t_number t_row t_reached t_broken w_full w_pairs w_codes w_measure w_values w_row w_rowCodes w_table w_length (0 : Int32) (0 : Int32) (0 : Int32) z1.1 z1.2.2.1).bind fun e29 =>
(Sum.elim (fun ax38 =>
((((if ax38.2.2.2.2.2.1 = 0 then
some (0 : Int32)
else
some (ax38.2.2.2.2.2.2.2.2.2.1 - ax38.2.2.2.2.2.2.2.2.2.2.2.2.2.2.2.2.2.2.2.2.2.1))) : Option (Int32)).bind fun t53 =>
some (ax38.2.2.2.2.2.2.2.2.2.2.2.2.2.2.2.2.2.2.2.2.1, ax38.2.2.2.2.2.2.2.2.2.2.2.2.2.2.2.2.2.2.2.2.2.1, (1 : Int32), t53, ax38.2.2.2.2.2.2.2.2.2.2.2.2.2.2.2.2.2.2.2.2.2.2.2.1, z1.2.1, ax38.2.2.2.2.2.2.2.2.2.2.2.2.2.2.2.2.2.2.2.2.2.2.2.2, ax38.2.2.2.2.1, ax38.2.2.2.2.2.1, ax38.2.2.2.2.2.2.1, ax38.2.2.2.2.2.2.2.1, ax38.2.2.2.2.2.2.2.2.1, ax38.2.2.2.2.2.2.2.2.2.1, ax38.2.2.2.2.2.2.2.2.2.2.1, ax38.2.2.2.2.2.2.2.2.2.2.2.2.2.2.1, ax38.2.2.2.2.2.2.2.2.2.2.2.2.2.2.2.1, ax38.2.2.2.2.2.2.2.2.2.2.2.2.2.2.2.2.1, ax38.2.2.2.2.2.2.2.2.2.2.2.2.2.2.2.2.2.1, ax38.2.2.2.2.2.2.2.2.2.2.2.2.2.2.2.2.2.2.1, ax38.2.2.2.2.2.2.2.2.2.2.2.2.2.2.2.2.2.2.2.1, ax38.2.2.2.2.2.2.2.2.2.2.2.1, ax38.2.2.2.2.2.2.2.2.2.2.2.2.1, ax38.2.2.2.2.2.2.2.2.2.2.2.2.2.1, ax38.2.2.1, ax38.2.2.2.1, ax38.2.1, ax38.1))) (Sum.elim (fun ax39 =>
some (ax39.2.2.2.2.2.2.2.2.2.2.2.2.2.2.2.2.2.2.2.2.1, ax39.2.2.2.2.2.2.2.2.2.2.2.2.2.2.2.2.2.2.2.2.2.1, (2 : Int32), ax39.2.2.2.2.2.2.2.2.2.2.2.2.2.2.2.2.2.2.2.2.2.2.1, ax39.2.2.2.2.2.2.2.2.2.2.2.2.2.2.2.2.2.2.2.2.2.2.2.1, z1.2.1, ax39.2.2.2.2.2.2.2.2.2.2.2.2.2.2.2.2.2.2.2.2.2.2.2.2, ax39.2.2.2.2.1, ax39.2.2.2.2.2.1, ax39.2.2.2.2.2.2.1, ax39.2.2.2.2.2.2.2.1, ax39.2.2.2.2.2.2.2.2.1, ax39.2.2.2.2.2.2.2.2.2.1, ax39.2.2.2.2.2.2.2.2.2.2.1, ax39.2.2.2.2.2.2.2.2.2.2.2.2.2.2.1, ax39.2.2.2.2.2.2.2.2.2.2.2.2.2.2.2.1, ax39.2.2.2.2.2.2.2.2.2.2.2.2.2.2.2.2.1, ax39.2.2.2.2.2.2.2.2.2.2.2.2.2.2.2.2.2.1, ax39.2.2.2.2.2.2.2.2.2.2.2.2.2.2.2.2.2.2.1, ax39.2.2.2.2.2.2.2.2.2.2.2.2.2.2.2.2.2.2.2.1, ax39.2.2.2.2.2.2.2.2.2.2.2.1, ax39.2.2.2.2.2.2.2.2.2.2.2.2.1, ax39.2.2.2.2.2.2.2.2.2.2.2.2.2.1, ax39.2.2.1, ax39.2.2.2.1, ax39.2.1, ax39.1)) (Sum.elim (fun ax40 =>
some (ax40.2.2.2.2.2.2.2.2.2.2.2.2.2.2.2.2.2.2.2.2.1, ax40.2.2.2.2.2.2.2.2.2.2.2.2.2.2.2.2.2.2.2.2.2.1, (3 : Int32), ax40.2.2.2.2.2.2.2.2.2.2.2.2.2.2.2.2.2.2.2.2.2.2.1, ax40.2.2.2.2.2.2.2.2.2.2.2.2.2.2.2.2.2.2.2.2.2.2.2.1, z1.2.1, ax40.2.2.2.2.2.2.2.2.2.2.2.2.2.2.2.2.2.2.2.2.2.2.2.2, ax40.2.2.2.2.1, ax40.2.2.2.2.2.1, ax40.2.2.2.2.2.2.1, ax40.2.2.2.2.2.2.2.1, ax40.2.2.2.2.2.2.2.2.1, ax40.2.2.2.2.2.2.2.2.2.1, ax40.2.2.2.2.2.2.2.2.2.2.1, ax40.2.2.2.2.2.2.2.2.2.2.2.2.2.2.1, ax40.2.2.2.2.2.2.2.2.2.2.2.2.2.2.2.1, ax40.2.2.2.2.2.2.2.2.2.2.2.2.2.2.2.2.1, ax40.2.2.2.2.2.2.2.2.2.2.2.2.2.2.2.2.2.1, ax40.2.2.2.2.2.2.2.2.2.2.2.2.2.2.2.2.2.2.1, ax40.2.2.2.2.2.2.2.2.2.2.2.2.2.2.2.2.2.2.2.1, ax40.2.2.2.2.2.2.2.2.2.2.2.1, ax40.2.2.2.2.2.2.2.2.2.2.2.2.1, ax40.2.2.2.2.2.2.2.2.2.2.2.2.2.1, ax40.2.2.1, ax40.2.2.2.1, ax40.2.1, ax40.1)) (fun ax41 =>
some (ax41.2.2.2.2.2.2.2.2.2.2.2.2.2.2.2.2.2.2.2.2.1, ax41.2.2.2.2.2.2.2.2.2.2.2.2.2.2.2.2.2.2.2.2.2.1, (0 : Int32), ax41.2.2.2.2.2.2.2.2.2.2.2.2.2.2.2.2.2.2.2.2.2.2.1, ax41.2.2.2.2.2.2.2.2.2.2.2.2.2.2.2.2.2.2.2.2.2.2.2.1, z1.2.1, ax41.2.2.2.2.2.2.2.2.2.2.2.2.2.2.2.2.2.2.2.2.2.2.2.2, ax41.2.2.2.2.1, ax41.2.2.2.2.2.1, ax41.2.2.2.2.2.2.1, ax41.2.2.2.2.2.2.2.1, ax41.2.2.2.2.2.2.2.2.1, ax41.2.2.2.2.2.2.2.2.2.1, ax41.2.2.2.2.2.2.2.2.2.2.1, ax41.2.2.2.2.2.2.2.2.2.2.2.2.2.2.1, ax41.2.2.2.2.2.2.2.2.2.2.2.2.2.2.2.1, ax41.2.2.2.2.2.2.2.2.2.2.2.2.2.2.2.2.1, ax41.2.2.2.2.2.2.2.2.2.2.2.2.2.2.2.2.2.1, ax41.2.2.2.2.2.2.2.2.2.2.2.2.2.2.2.2.2.2.1, ax41.2.2.2.2.2.2.2.2.2.2.2.2.2.2.2.2.2.2.2.1, ax41.2.2.2.2.2.2.2.2.2.2.2.1, ax41.2.2.2.2.2.2.2.2.2.2.2.2.1, ax41.2.2.2.2.2.2.2.2.2.2.2.2.2.1, ax41.2.2.1, ax41.2.2.2.1, ax41.2.1, ax41.1))))) e29)
def f_X5_fault (F : Nat) (x_now_row : Int32) (x_now_table : Int32) (x_now_kept : Int32) (x_now_book : Nat → Int32) (x_text_length : Int32) (x_text_word : Int32) (x_text_kind : Int32) (x_text_number : Int32) (x_text_row : Int32) (x_text_reached : Int32) (x_text_broken : Int32) (x_text_signs : Nat → Int32) (x_trial_orders : Int32) (x_trial_position : Int32) (x_trial_reason : Int32) (x_trial_cause : Int32) (x_trial_state_row : Int32) (x_trial_state_table : Int32) (x_trial_state_kept : Int32) (x_trial_state_book : Nat → Int32) (x_ways_measure : Bool) (x_ways_values : Int32) (x_ways_row : Int32) (x_ways_rowCodes : Int32) (x_ways_table : Int32) (x_ways_length : Int32) (x_ways_full : Int32) (x_ways_pairs : Int32) (x_ways_codes : Int32) (x_ways_stock : Nat → Int32) (x_ways_weight : Nat → Int32) (x_ways_known : Nat → Int32) (x_ways_found : Nat → Int32) (x_measured_which : Int32) (x_measured_x : Int32) (x_measured_y : Int32) (x_measured_row : Int32) (x_measured_table : Int32) (a1 : Int32) : Option (Int32 × Int32 × Int32 × Int32 × Int32 × Int32 × Int32 × Int32 × Int32 × Int32 × Int32 × Int32 × Int32 × Int32 × (Nat → Int32) × Bool × Int32 × Int32 × Int32 × Int32 × Int32 × Int32 × Int32 × Int32 × (Nat → Int32) × (Nat → Int32) × (Nat → Int32) × (Nat → Int32)) :=
(f_X5_within F a1 (2 : Int32)).bind fun z1 =>
(if z1 = 0 then
some ((-1000001 : Int32), x_text_word, x_text_kind, x_text_number, x_text_row, x_text_reached, x_text_broken, x_trial_orders, x_trial_position, x_trial_reason, x_trial_cause, x_trial_state_row, x_trial_state_table, x_trial_state_kept, x_trial_state_book, x_ways_measure, x_ways_values, x_ways_row, x_ways_rowCodes, x_ways_table, x_ways_length, x_ways_full, x_ways_pairs, x_ways_codes, x_ways_stock, x_ways_weight, x_ways_known, x_ways_found)
else
(f_X3_run F x_trial_state_book x_now_row x_now_table x_now_kept x_now_book x_text_length x_text_word x_text_kind x_text_number x_text_row x_text_reached x_text_broken x_text_signs x_ways_measure x_ways_values x_ways_row x_ways_rowCodes x_ways_table x_ways_length x_ways_full x_ways_pairs x_ways_codes x_ways_stock x_ways_weight x_ways_known x_ways_found x_measured_which x_measured_x x_measured_y x_measured_row x_measured_table).bind fun z3 =>
(if z3.2.2.1 = 0 then
some ((-1000004 : Int32), z3.2.2.2.2.2.2.2.2.1, z3.2.2.2.2.2.2.2.2.2.1, z3.2.2.2.2.2.2.2.2.2.2.1, z3.2.2.2.2.2.2.2.2.2.2.2.1, z3.2.2.2.2.2.2.2.2.2.2.2.2.1, z3.2.2.2.2.2.2.2.2.2.2.2.2.2.1, z3.1, z3.2.1, z3.2.2.1, z3.2.2.2.1, z3.2.2.2.2.1, z3.2.2.2.2.2.1, z3.2.2.2.2.2.2.1, z3.2.2.2.2.2.2.2.1, z3.2.2.2.2.2.2.2.2.2.2.2.2.2.2.1, z3.2.2.2.2.2.2.2.2.2.2.2.2.2.2.2.1, z3.2.2.2.2.2.2.2.2.2.2.2.2.2.2.2.2.1, z3.2.2.2.2.2.2.2.2.2.2.2.2.2.2.2.2.2.1, z3.2.2.2.2.2.2.2.2.2.2.2.2.2.2.2.2.2.2.1, z3.2.2.2.2.2.2.2.2.2.2.2.2.2.2.2.2.2.2.2.1, z3.2.2.2.2.2.2.2.2.2.2.2.2.2.2.2.2.2.2.2.2.1, z3.2.2.2.2.2.2.2.2.2.2.2.2.2.2.2.2.2.2.2.2.2.1, z3.2.2.2.2.2.2.2.2.2.2.2.2.2.2.2.2.2.2.2.2.2.2.1, z3.2.2.2.2.2.2.2.2.2.2.2.2.2.2.2.2.2.2.2.2.2.2.2.1, z3.2.2.2.2.2.2.2.2.2.2.2.2.2.2.2.2.2.2.2.2.2.2.2.2.1, z3.2.2.2.2.2.2.2.2.2.2.2.2.2.2.2.2.2.2.2.2.2.2.2.2.2.1, z3.2.2.2.2.2.2.2.2.2.2.2.2.2.2.2.2.2.2.2.2.2.2.2.2.2.2)
else
(if a1 = (2 : Int32) then
(if z3.2.2.1 = (2 : Int32) then
some ((-1000004 : Int32), z3.2.2.2.2.2.2.2.2.1, z3.2.2.2.2.2.2.2.2.2.1, z3.2.2.2.2.2.2.2.2.2.2.1, z3.2.2.2.2.2.2.2.2.2.2.2.1, z3.2.2.2.2.2.2.2.2.2.2.2.2.1, z3.2.2.2.2.2.2.2.2.2.2.2.2.2.1, z3.1, z3.2.1, z3.2.2.1, z3.2.2.2.1, z3.2.2.2.2.1, z3.2.2.2.2.2.1, z3.2.2.2.2.2.2.1, z3.2.2.2.2.2.2.2.1, z3.2.2.2.2.2.2.2.2.2.2.2.2.2.2.1, z3.2.2.2.2.2.2.2.2.2.2.2.2.2.2.2.1, z3.2.2.2.2.2.2.2.2.2.2.2.2.2.2.2.2.1, z3.2.2.2.2.2.2.2.2.2.2.2.2.2.2.2.2.2.1, z3.2.2.2.2.2.2.2.2.2.2.2.2.2.2.2.2.2.2.1, z3.2.2.2.2.2.2.2.2.2.2.2.2.2.2.2.2.2.2.2.1, z3.2.2.2.2.2.2.2.2.2.2.2.2.2.2.2.2.2.2.2.2.1, z3.2.2.2.2.2.2.2.2.2.2.2.2.2.2.2.2.2.2.2.2.2.1, z3.2.2.2.2.2.2.2.2.2.2.2.2.2.2.2.2.2.2.2.2.2.2.1, z3.2.2.2.2.2.2.2.2.2.2.2.2.2.2.2.2.2.2.2.2.2.2.2.1, z3.2.2.2.2.2.2.2.2.2.2.2.2.2.2.2.2.2.2.2.2.2.2.2.2.1, z3.2.2.2.2.2.2.2.2.2.2.2.2.2.2.2.2.2.2.2.2.2.2.2.2.2.1, z3.2.2.2.2.2.2.2.2.2.2.2.2.2.2.2.2.2.2.2.2.2.2.2.2.2.2)
else
(if a1 = 0 then
some (z3.2.1, z3.2.2.2.2.2.2.2.2.1, z3.2.2.2.2.2.2.2.2.2.1, z3.2.2.2.2.2.2.2.2.2.2.1, z3.2.2.2.2.2.2.2.2.2.2.2.1, z3.2.2.2.2.2.2.2.2.2.2.2.2.1, z3.2.2.2.2.2.2.2.2.2.2.2.2.2.1, z3.1, z3.2.1, z3.2.2.1, z3.2.2.2.1, z3.2.2.2.2.1, z3.2.2.2.2.2.1, z3.2.2.2.2.2.2.1, z3.2.2.2.2.2.2.2.1, z3.2.2.2.2.2.2.2.2.2.2.2.2.2.2.1, z3.2.2.2.2.2.2.2.2.2.2.2.2.2.2.2.1, z3.2.2.2.2.2.2.2.2.2.2.2.2.2.2.2.2.1, z3.2.2.2.2.2.2.2.2.2.2.2.2.2.2.2.2.2.1, z3.2.2.2.2.2.2.2.2.2.2.2.2.2.2.2.2.2.2.1, z3.2.2.2.2.2.2.2.2.2.2.2.2.2.2.2.2.2.2.2.1, z3.2.2.2.2.2.2.2.2.2.2.2.2.2.2.2.2.2.2.2.2.1, z3.2.2.2.2.2.2.2.2.2.2.2.2.2.2.2.2.2.2.2.2.2.1, z3.2.2.2.2.2.2.2.2.2.2.2.2.2.2.2.2.2.2.2.2.2.2.1, z3.2.2.2.2.2.2.2.2.2.2.2.2.2.2.2.2.2.2.2.2.2.2.2.1, z3.2.2.2.2.2.2.2.2.2.2.2.2.2.2.2.2.2.2.2.2.2.2.2.2.1, z3.2.2.2.2.2.2.2.2.2.2.2.2.2.2.2.2.2.2.2.2.2.2.2.2.2.1, z3.2.2.2.2.2.2.2.2.2.2.2.2.2.2.2.2.2.2.2.2.2.2.2.2.2.2)
else
((((if a1 = (1 : Int32) then
some z3.2.2.1
else
some z3.2.2.2.1)) : Option (Int32)).bind fun t10 =>
some (t10, z3.2.2.2.2.2.2.2.2.1, z3.2.2.2.2.2.2.2.2.2.1, z3.2.2.2.2.2.2.2.2.2.2.1, z3.2.2.2.2.2.2.2.2.2.2.2.1, z3.2.2.2.2.2.2.2.2.2.2.2.2.1, z3.2.2.2.2.2.2.2.2.2.2.2.2.2.1, z3.1, z3.2.1, z3.2.2.1, z3.2.2.2.1, z3.2.2.2.2.1, z3.2.2.2.2.2.1, z3.2.2.2.2.2.2.1, z3.2.2.2.2.2.2.2.1, z3.2.2.2.2.2.2.2.2.2.2.2.2.2.2.1, z3.2.2.2.2.2.2.2.2.2.2.2.2.2.2.2.1, z3.2.2.2.2.2.2.2.2.2.2.2.2.2.2.2.2.1, z3.2.2.2.2.2.2.2.2.2.2.2.2.2.2.2.2.2.1, z3.2.2.2.2.2.2.2.2.2.2.2.2.2.2.2.2.2.2.1, z3.2.2.2.2.2.2.2.2.2.2.2.2.2.2.2.2.2.2.2.1, z3.2.2.2.2.2.2.2.2.2.2.2.2.2.2.2.2.2.2.2.2.1, z3.2.2.2.2.2.2.2.2.2.2.2.2.2.2.2.2.2.2.2.2.2.1, z3.2.2.2.2.2.2.2.2.2.2.2.2.2.2.2.2.2.2.2.2.2.2.1, z3.2.2.2.2.2.2.2.2.2.2.2.2.2.2.2.2.2.2.2.2.2.2.2.1, z3.2.2.2.2.2.2.2.2.2.2.2.2.2.2.2.2.2.2.2.2.2.2.2.2.1, z3.2.2.2.2.2.2.2.2.2.2.2.2.2.2.2.2.2.2.2.2.2.2.2.2.2.1, z3.2.2.2.2.2.2.2.2.2.2.2.2.2.2.2.2.2.2.2.2.2.2.2.2.2.2))))
else
(if a1 = 0 then
some (z3.2.1, z3.2.2.2.2.2.2.2.2.1, z3.2.2.2.2.2.2.2.2.2.1, z3.2.2.2.2.2.2.2.2.2.2.1, z3.2.2.2.2.2.2.2.2.2.2.2.1, z3.2.2.2.2.2.2.2.2.2.2.2.2.1, z3.2.2.2.2.2.2.2.2.2.2.2.2.2.1, z3.1, z3.2.1, z3.2.2.1, z3.2.2.2.1, z3.2.2.2.2.1, z3.2.2.2.2.2.1, z3.2.2.2.2.2.2.1, z3.2.2.2.2.2.2.2.1, z3.2.2.2.2.2.2.2.2.2.2.2.2.2.2.1, z3.2.2.2.2.2.2.2.2.2.2.2.2.2.2.2.1, z3.2.2.2.2.2.2.2.2.2.2.2.2.2.2.2.2.1, z3.2.2.2.2.2.2.2.2.2.2.2.2.2.2.2.2.2.1, z3.2.2.2.2.2.2.2.2.2.2.2.2.2.2.2.2.2.2.1, z3.2.2.2.2.2.2.2.2.2.2.2.2.2.2.2.2.2.2.2.1, z3.2.2.2.2.2.2.2.2.2.2.2.2.2.2.2.2.2.2.2.2.1, z3.2.2.2.2.2.2.2.2.2.2.2.2.2.2.2.2.2.2.2.2.2.1, z3.2.2.2.2.2.2.2.2.2.2.2.2.2.2.2.2.2.2.2.2.2.2.1, z3.2.2.2.2.2.2.2.2.2.2.2.2.2.2.2.2.2.2.2.2.2.2.2.1, z3.2.2.2.2.2.2.2.2.2.2.2.2.2.2.2.2.2.2.2.2.2.2.2.2.1, z3.2.2.2.2.2.2.2.2.2.2.2.2.2.2.2.2.2.2.2.2.2.2.2.2.2.1, z3.2.2.2.2.2.2.2.2.2.2.2.2.2.2.2.2.2.2.2.2.2.2.2.2.2.2)
else
((((if a1 = (1 : Int32) then
some z3.2.2.1
else
some z3.2.2.2.1)) : Option (Int32)).bind fun t5 =>
some (t5, z3.2.2.2.2.2.2.2.2.1, z3.2.2.2.2.2.2.2.2.2.1, z3.2.2.2.2.2.2.2.2.2.2.1, z3.2.2.2.2.2.2.2.2.2.2.2.1, z3.2.2.2.2.2.2.2.2.2.2.2.2.1, z3.2.2.2.2.2.2.2.2.2.2.2.2.2.1, z3.1, z3.2.1, z3.2.2.1, z3.2.2.2.1, z3.2.2.2.2.1, z3.2.2.2.2.2.1, z3.2.2.2.2.2.2.1, z3.2.2.2.2.2.2.2.1, z3.2.2.2.2.2.2.2.2.2.2.2.2.2.2.1, z3.2.2.2.2.2.2.2.2.2.2.2.2.2.2.2.1, z3.2.2.2.2.2.2.2.2.2.2.2.2.2.2.2.2.1, z3.2.2.2.2.2.2.2.2.2.2.2.2.2.2.2.2.2.1, z3.2.2.2.2.2.2.2.2.2.2.2.2.2.2.2.2.2.2.1, z3.2.2.2.2.2.2.2.2.2.2.2.2.2.2.2.2.2.2.2.1, z3.2.2.2.2.2.2.2.2.2.2.2.2.2.2.2.2.2.2.2.2.1, z3.2.2.2.2.2.2.2.2.2.2.2.2.2.2.2.2.2.2.2.2.2.1, z3.2.2.2.2.2.2.2.2.2.2.2.2.2.2.2.2.2.2.2.2.2.2.1, z3.2.2.2.2.2.2.2.2.2.2.2.2.2.2.2.2.2.2.2.2.2.2.2.1, z3.2.2.2.2.2.2.2.2.2.2.2.2.2.2.2.2.2.2.2.2.2.2.2.2.1, z3.2.2.2.2.2.2.2.2.2.2.2.2.2.2.2.2.2.2.2.2.2.2.2.2.2.1, z3.2.2.2.2.2.2.2.2.2.2.2.2.2.2.2.2.2.2.2.2.2.2.2.2.2.2))))))
def f_X5_unlikePlaces_L4 (F : Nat) (a0 : Int32) (a1 : Int32) : Nat → (Int32) → (Int32) → Option ((Int32))
  | 0, _, _ => none
  | n + 1, u1, u2 =>
    (f_X5_lengthOf F a0).bind fun z9 =>
    (if z9 ≤ u2 then
    some u1
    else
    (f_X5_letterOf F a0 u2).bind fun z11 =>
    (f_X5_letterOf F a1 u2).bind fun z13 =>
    ((((if z11 = z13 then
    some u1
    else
    (some (u1 + (1 : Int32))).bind fun v18 =>
    some v18)) : Option (Int32)).bind fun t15 =>
    (some (u2 + (1 : Int32))).bind fun v20 =>
    f_X5_unlikePlaces_L4 F a0 a1 n t15 v20))
def f_X5_unlikePlaces (F : Nat) (a0 : Int32) (a1 : Int32) : Option (Int32) :=
((f_X5_unlikePlaces_L4 F a0 a1 F (0 : Int32) (0 : Int32)).bind fun e3 =>
some e3)
def f_X5_withCode (F : Nat) (a0 : Int32) (a1 : Int32) (a2 : Int32) (a3 : Int32) : Option (Int32) :=
(some ((2 : Int32) * (((4 : Int32) * a1) + a2))).bind fun v1 =>
some ((a0 &&& (((3 : Int32) <<< (v1 &&& 31)) ^^^ (-1 : Int32))) ||| (a3 <<< (v1 &&& 31)))
def f_X6_in (F : Nat) (a0 : Int32) (a1 : Int32) (a2 : Int32) : Option (Int32) :=
((((if a0 < a1 then
some (0 : Int32)
else
(if a2 < a0 then
some (0 : Int32)
else
some (1 : Int32)))) : Option (Int32)).bind fun t1 =>
(ckz t1).bind fun _ =>
some t1)
def f_X6_is4 (F : Nat) (a0 : Int32) : Option (Int32) :=
(f_X6_in F a0 (0 : Int32) (3 : Int32)).bind fun z1 =>
(ckz z1).bind fun _ =>
some z1
def f_X6_changes_L18 (F : Nat)  : Nat → (Int32) → (Nat → Int32) → Option (((Nat → Int32)))
  | 0, _, _ => none
  | n + 1, u4, u5 =>
    (if (348 : Int32) ≤ u4 then
    some u5
    else
    (rd 464 u5 (u4 + (116 : Int32))).bind fun v12 =>
    (wr 464 u5 u4 v12).bind fun v13 =>
    (some (u4 + (1 : Int32))).bind fun v14 =>
    f_X6_changes_L18 F  n v14 v13)
def f_X6_changes_L58 (F : Nat) (m_s : Nat → Int32) (t1 : Int32 × (Nat → Int32)) : Nat → (Int32) → (Nat → Int32) → Option (((Nat → Int32)))
  | 0, _, _ => none
  | n + 1, u18, u19 =>
    (if (116 : Int32) ≤ u18 then
    some u19
    else
    (rd 116 m_s u18).bind fun v26 =>
    (wr 464 u19 (((116 : Int32) * t1.1) + u18) v26).bind fun v27 =>
    (some (u18 + (1 : Int32))).bind fun v28 =>
    f_X6_changes_L58 F m_s t1 n v28 v27)
def f_X6_changes (F : Nat) (m_pasts : Int32) (m_runs0 : Int32) (m_s : Nat → Int32) (m_past : Nat → Int32) : Option (Int32 × (Nat → Int32)) :=
(if m_runs0 = 0 then
((((if m_pasts = (4 : Int32) then
((f_X6_changes_L18 F  F (0 : Int32) m_past).bind fun e6 =>
(some (m_pasts - (1 : Int32))).bind fun v16 =>
some (v16, e6))
else
some (m_pasts, m_past))) : Option (Int32 × (Nat → Int32))).bind fun t1 =>
((f_X6_changes_L58 F m_s t1 F (0 : Int32) t1.2).bind fun e20 =>
(some (t1.1 + (1 : Int32))).bind fun v30 =>
some (v30, e20)))
else
some (m_pasts, m_past))
def f_X6_append (F : Nat) (m_pasts : Int32) (m_runs0 : Int32) (m_s : Nat → Int32) (m_past : Nat → Int32) (a1 : Int32) : Option (Int32 × Int32 × (Nat → Int32) × (Nat → Int32)) :=
(f_X6_is4 F a1).bind fun z1 =>
(if z1 = 0 then
some ((-1000001 : Int32), m_pasts, m_s, m_past)
else
(rd 116 m_s (0 : Int32)).bind fun v3 =>
(if v3 = (10 : Int32) then
some ((-1000003 : Int32), m_pasts, m_s, m_past)
else
(f_X6_changes F m_pasts m_runs0 m_s m_past).bind fun z4 =>
(rd 116 m_s (0 : Int32)).bind fun v6 =>
(wr 116 m_s ((1 : Int32) + v6) a1).bind fun v7 =>
(rd 116 v7 (0 : Int32)).bind fun v8 =>
(wr 116 v7 (0 : Int32) (v8 + (1 : Int32))).bind fun v9 =>
(rd 116 v9 (0 : Int32)).bind fun v10 =>
some (v10, z4.1, v9, z4.2)))
def f_X6_clear (F : Nat) (m_pasts : Int32) (m_runs0 : Int32) (m_s : Nat → Int32) (m_past : Nat → Int32) : Option (Int32 × Int32 × (Nat → Int32) × (Nat → Int32)) :=
(f_X6_changes F m_pasts m_runs0 m_s m_past).bind fun z1 =>
(rd 116 m_s (0 : Int32)).bind fun v3 =>
(wr 116 m_s (0 : Int32) (0 : Int32)).bind fun v4 =>
some (v3, z1.1, v4, z1.2)
def f_X6_code (F : Nat) (m_pasts : Int32) (m_runs0 : Int32) (m_s : Nat → Int32) (m_past : Nat → Int32) (a1 : Int32) (a2 : Int32) (a3 : Int32) : Option (Int32 × Int32 × (Nat → Int32) × (Nat → Int32)) :=
(f_X6_is4 F a1).bind fun z1 =>
(if z1 = 0 then
some ((-1000001 : Int32), m_pasts, m_s, m_past)
else
(f_X6_is4 F a2).bind fun z3 =>
(if z3 = 0 then
some ((-1000001 : Int32), m_pasts, m_s, m_past)
else
(f_X6_is4 F a3).bind fun z5 =>
(if z5 = 0 then
some ((-1000001 : Int32), m_pasts, m_s, m_past)
else
(f_X6_changes F m_pasts m_runs0 m_s m_past).bind fun z7 =>
(rd 116 m_s (((11 : Int32) + ((4 : Int32) * a1)) + a2)).bind fun v9 =>
(wr 116 m_s (((11 : Int32) + ((4 : Int32) * a1)) + a2) a3).bind fun v10 =>
some (v9, z7.1, v10, z7.2))))
def f_X6_turn_L18 (F : Nat)  : Nat → (Int32) → (Nat → Int32) → Option (((Nat → Int32)))
  | 0, _, _ => none
  | n + 1, u4, u5 =>
    (rd 116 u5 (0 : Int32)).bind fun v12 =>
    (if (v12 - (1 : Int32)) ≤ ((2 : Int32) * u4) then
    some u5
    else
    (rd 116 u5 ((1 : Int32) + u4)).bind fun v13 =>
    (rd 116 u5 (0 : Int32)).bind fun v14 =>
    (rd 116 u5 ((((1 : Int32) + v14) - (1 : Int32)) - u4)).bind fun v15 =>
    (wr 116 u5 ((1 : Int32) + u4) v15).bind fun v16 =>
    (rd 116 v16 (0 : Int32)).bind fun v17 =>
    (wr 116 v16 ((((1 : Int32) + v17) - (1 : Int32)) - u4) v13).bind fun v18 =>
    (some (u4 + (1 : Int32))).bind fun v19 =>
    f_X6_turn_L18 F  n v19 v18)
def f_X6_turn (F : Nat) (m_pasts : Int32) (m_runs0 : Int32) (m_s : Nat → Int32) (m_past : Nat → Int32) : Option (Int32 × Int32 × (Nat → Int32) × (Nat → Int32)) :=
(rd 116 m_s (0 : Int32)).bind fun v1 =>
(if v1 = 0 then
some ((-1000002 : Int32), m_pasts, m_s, m_past)
else
(f_X6_changes F m_pasts m_runs0 m_s m_past).bind fun z2 =>
((f_X6_turn_L18 F  F (0 : Int32) m_s).bind fun e6 =>
(rd 116 e6 (1 : Int32)).bind fun v21 =>
some (v21, z2.1, e6, z2.2)))
def f_X6_letterAt (F : Nat) (m_s : Nat → Int32) (a1 : Int32) : Option (Int32) :=
((((if 0 ≤ a1 then
(rd 116 m_s (0 : Int32)).bind fun v4 =>
(if v4 ≤ a1 then
some (-1000004 : Int32)
else
(rd 116 m_s ((1 : Int32) + a1)).bind fun v5 =>
some v5)
else
some (-1000001 : Int32))) : Option (Int32)).bind fun t1 =>
some t1)
def f_X6_codeOf (F : Nat) (m_s : Nat → Int32) (a1 : Int32) (a2 : Int32) : Option (Int32) :=
(f_X6_is4 F a1).bind fun z1 =>
((((if z1 = 0 then
some (-1000001 : Int32)
else
(f_X6_is4 F a2).bind fun z6 =>
(if z6 = 0 then
some (-1000001 : Int32)
else
(rd 116 m_s (((11 : Int32) + ((4 : Int32) * a1)) + a2)).bind fun v8 =>
some v8))) : Option (Int32)).bind fun t3 =>
some t3)
def f_X6_often_L6 (F : Nat) (n_b0 : Nat) (b0 : Nat → Int32) (a1 : Int32) (a2 : Int32) (a3 : Int32) : Nat → (Int32) → (Int32) → Option ((Int32))
  | 0, _, _ => none
  | n + 1, u1, u2 =>
    (if a2 ≤ u2 then
    some u1
    else
    (rd n_b0 b0 ((a1 + u2) - (1 : Int32))).bind fun v9 =>
    (rd n_b0 b0 (a1 + u2)).bind fun v10 =>
    ((((if (((4 : Int32) * v9) + v10) = a3 then
    some (1 : Int32)
    else
    some (0 : Int32))) : Option (Int32)).bind fun t11 =>
    (some (u1 + t11)).bind fun v15 =>
    (some (u2 + (1 : Int32))).bind fun v16 =>
    f_X6_often_L6 F n_b0 b0 a1 a2 a3 n v15 v16))
def f_X6_often (F : Nat) (n_b0 : Nat) (b0 : Nat → Int32) (a1 : Int32) (a2 : Int32) (a3 : Int32) : Option (Int32) :=
((f_X6_often_L6 F n_b0 b0 a1 a2 a3 F (0 : Int32) (1 : Int32)).bind fun e3 =>
some e3)
def f_X6_letters_L4 (F : Nat) (m_s : Nat → Int32) (a1 : Int32) : Nat → (Int32) → (Int32) → Option ((Int32))
  | 0, _, _ => none
  | n + 1, u1, u2 =>
    (rd 116 m_s (0 : Int32)).bind fun v9 =>
    (if v9 ≤ u2 then
    some u1
    else
    (rd 116 m_s ((1 : Int32) + u2)).bind fun v10 =>
    ((((if v10 = a1 then
    some (1 : Int32)
    else
    some (0 : Int32))) : Option (Int32)).bind fun t11 =>
    (some (u1 + t11)).bind fun v15 =>
    (some (u2 + (1 : Int32))).bind fun v16 =>
    f_X6_letters_L4 F m_s a1 n v15 v16))
def f_X6_letters (F : Nat) (m_s : Nat → Int32) (a1 : Int32) : Option (Int32) :=
((f_X6_letters_L4 F m_s a1 F (0 : Int32) (0 : Int32)).bind fun e3 =>
some e3)
def f_X6_pairs (F : Nat) (m_s : Nat → Int32) (a1 : Int32) : Option (Int32) :=
(rd 116 m_s (0 : Int32)).bind fun v1 =>
(f_X6_often F 116 m_s (1 : Int32) v1 a1).bind fun z2 =>
some z2
def f_X6_pairAt_L40 (F : Nat) (m_s : Nat → Int32) (u6 : Int32) : Nat → (Int32) → (Int32) → Option ((Int32))
  | 0, _, _ => none
  | n + 1, u13, u14 =>
    (if (16 : Int32) ≤ u14 then
    some u13
    else
    (f_X6_pairs F m_s u14).bind fun z21 =>
    (f_X6_pairs F m_s u6).bind fun z23 =>
    ((((if z23 < z21 then
    some (1 : Int32)
    else
    (if u6 ≤ u14 then
    some (0 : Int32)
    else
    (f_X6_pairs F m_s u14).bind fun z28 =>
    (f_X6_pairs F m_s u6).bind fun z30 =>
    (if z28 = z30 then
    some (1 : Int32)
    else
    some (0 : Int32))))) : Option (Int32)).bind fun t25 =>
    (some (u13 + t25)).bind fun v35 =>
    (some (u14 + (1 : Int32))).bind fun v36 =>
    f_X6_pairAt_L40 F m_s u6 n v35 v36))
def f_X6_pairAt_L27 (F : Nat) (m_s : Nat → Int32) (a1 : Int32) : Nat → (Int32) → (Int32) → Option ((Int32))
  | 0, _, _ => none
  | n + 1, u5, u6 =>
    (if (16 : Int32) ≤ u6 then
    some u5
    else
    ((f_X6_pairAt_L40 F m_s u6 F (0 : Int32) (0 : Int32)).bind fun e15 =>
    ((((if e15 = a1 then
    some u6
    else
    some u5)) : Option (Int32)).bind fun t38 =>
    (some (u6 + (1 : Int32))).bind fun v42 =>
    f_X6_pairAt_L27 F m_s a1 n t38 v42)))
def f_X6_pairAt (F : Nat) (m_s : Nat → Int32) (a1 : Int32) (a2 : Int32) : Option (Int32) :=
(f_X6_in F a1 (0 : Int32) (15 : Int32)).bind fun z1 =>
(if z1 = 0 then
some (-1000001 : Int32)
else
(f_X6_in F a2 (0 : Int32) (1 : Int32)).bind fun z3 =>
(if z3 = 0 then
some (-1000001 : Int32)
else
((f_X6_pairAt_L27 F m_s a1 F (0 : Int32) (0 : Int32)).bind fun e7 =>
((((if a2 = 0 then
some e7
else
(f_X6_pairs F m_s e7).bind fun z47 =>
some z47)) : Option (Int32)).bind fun t44 =>
some t44))))
def f_X6_common0_L4 (F : Nat)  : Nat → (Int32) → (Int32) → Option ((Int32))
  | 0, _, _ => none
  | n + 1, u1, u2 =>
    (if u2 ≤ 0 then
    some u1
    else
    (ckd u2).bind fun _ =>
    (some (irem u1 u2)).bind fun v10 =>
    f_X6_common0_L4 F  n u2 v10)
def f_X6_common0 (F : Nat) (a0 : Int32) (a1 : Int32) : Option (Int32) :=
((f_X6_common0_L4 F  F a0 a1).bind fun e3 =>
some e3)
def f_X6_bias (F : Nat) (m_s : Nat → Int32) (a1 : Int32) (a2 : Int32) (a3 : Int32) : Option (Int32) :=
(f_X6_is4 F a1).bind fun z1 =>
(if z1 = 0 then
some (-1000001 : Int32)
else
(f_X6_is4 F a2).bind fun z3 =>
(if z3 = 0 then
some (-1000001 : Int32)
else
(f_X6_in F a3 (0 : Int32) (1 : Int32)).bind fun z5 =>
(if z5 = 0 then
some (-1000001 : Int32)
else
(f_X6_letters F m_s a1).bind fun z7 =>
(if z7 = 0 then
some (-1000004 : Int32)
else
(f_X6_letters F m_s a2).bind fun z9 =>
(if z9 = 0 then
some (-1000004 : Int32)
else
(f_X6_pairs F m_s (((4 : Int32) * a1) + a2)).bind fun z11 =>
(rd 116 m_s (0 : Int32)).bind fun v13 =>
(some (z11 * v13)).bind fun v14 =>
(f_X6_letters F m_s a1).bind fun z15 =>
(f_X6_letters F m_s a2).bind fun z17 =>
(some (z15 * z17)).bind fun v19 =>
(f_X6_common0 F v19 v14).bind fun z20 =>
((((if a3 = 0 then
some v14
else
some v19)) : Option (Int32)).bind fun t22 =>
(ckd z20).bind fun _ =>
some (t22 / z20)))))))
def f_X6_begin_L11 (F : Nat) (m_s : Nat → Int32) (u2 : Int32) : Nat → (Int32) → (Int32) → (Nat → Int32) → Option ((Int32 × (Nat → Int32)))
  | 0, _, _, _ => none
  | n + 1, u10, u11, u12 =>
    (f_X6_letters F m_s u2).bind fun z19 =>
    (if z19 ≤ u11 then
    some (u10, u12)
    else
    (wr 10 u12 u10 u2).bind fun v21 =>
    (some (u10 + (1 : Int32))).bind fun v22 =>
    (some (u11 + (1 : Int32))).bind fun v23 =>
    f_X6_begin_L11 F m_s u2 n v22 v23 v21)
def f_X6_begin_L4 (F : Nat) (m_s : Nat → Int32) : Nat → (Int32) → (Int32) → (Nat → Int32) → Option (((Nat → Int32)))
  | 0, _, _, _ => none
  | n + 1, u1, u2, u3 =>
    (if (4 : Int32) ≤ u2 then
    some u3
    else
    ((f_X6_begin_L11 F m_s u2 F u1 (0 : Int32) u3).bind fun e13 =>
    (some (u2 + (1 : Int32))).bind fun v25 =>
    f_X6_begin_L4 F m_s n e13.1 v25 e13.2))
def f_X6_begin_L44 (F : Nat) (m_s : Nat → Int32) : Nat → (Int32) → (Nat → Int32) → Option (((Nat → Int32)))
  | 0, _, _ => none
  | n + 1, u27, u28 =>
    (if (16 : Int32) ≤ u27 then
    some u28
    else
    (f_X6_pairs F m_s u27).bind fun z35 =>
    (wr 16 u28 u27 z35).bind fun v37 =>
    (some (u27 + (1 : Int32))).bind fun v38 =>
    f_X6_begin_L44 F m_s n v38 v37)
def f_X6_begin (F : Nat) (m_s : Nat → Int32) (m_now : Nat → Int32) (m_kept : Nat → Int32) : Option ((Nat → Int32) × (Nat → Int32)) :=
((f_X6_begin_L4 F m_s F (0 : Int32) (0 : Int32) m_now).bind fun e4 =>
((f_X6_begin_L44 F m_s F (0 : Int32) m_kept).bind fun e29 =>
some (e4, e29)))
def f_X6_swaps (F : Nat) (m_now : Nat → Int32) (a1 : Int32) (a2 : Int32) : Option ((Nat → Int32)) :=
(rd 10 m_now a1).bind fun v1 =>
(rd 10 m_now a2).bind fun v2 =>
(wr 10 m_now a1 v2).bind fun v3 =>
(wr 10 v3 a2 v1).bind fun v4 =>
some v4
def f_X6_goes_L11 (F : Nat) (m_now : Nat → Int32) : Nat → (Int32) → Option ((Int32))
  | 0, _ => none
  | n + 1, u3 =>
    (if u3 < 0 then
    some u3
    else
    (rd 10 m_now u3).bind fun v10 =>
    (rd 10 m_now (u3 + (1 : Int32))).bind fun v11 =>
    (if v10 < v11 then
    some u3
    else
    (some (u3 + (-1 : Int32))).bind fun v12 =>
    f_X6_goes_L11 F m_now n v12))
def f_X6_goes_L48 (F : Nat) (m_now : Nat → Int32) (e4 : Int32) : Nat → (Int32) → Option ((Int32))
  | 0, _ => none
  | n + 1, u16 =>
    (rd 10 m_now u16).bind fun v23 =>
    (rd 10 m_now e4).bind fun v24 =>
    (if v24 < v23 then
    some u16
    else
    (some (u16 + (-1 : Int32))).bind fun v25 =>
    f_X6_goes_L48 F m_now e4 n v25)
def f_X6_goes_L85 (F : Nat)  : Nat → (Int32) → (Int32) → (Nat → Int32) → Option (((Nat → Int32)))
  | 0, _, _, _ => none
  | n + 1, u31, u32, u33 =>
    (if u32 ≤ u31 then
    some u33
    else
    (f_X6_swaps F u33 u31 u32).bind fun z40 =>
    (some (u31 + (1 : Int32))).bind fun v42 =>
    (some (u32 + (-1 : Int32))).bind fun v43 =>
    f_X6_goes_L85 F  n v42 v43 z40)
def f_X6_goes (F : Nat) (m_s : Nat → Int32) (m_now : Nat → Int32) : Option (Int32 × (Nat → Int32)) :=
(rd 116 m_s (0 : Int32)).bind fun v1 =>
(some (v1 - (2 : Int32))).bind fun v2 =>
((f_X6_goes_L11 F m_now F v2).bind fun e4 =>
(if 0 ≤ e4 then
(some (v1 - (1 : Int32))).bind fun v15 =>
((f_X6_goes_L48 F m_now e4 F v15).bind fun e17 =>
(f_X6_swaps F m_now e4 e17).bind fun z27 =>
(some (e4 + (1 : Int32))).bind fun v29 =>
(some (v1 - (1 : Int32))).bind fun v30 =>
((f_X6_goes_L85 F  F v29 v30 z27).bind fun e34 =>
some ((1 : Int32), e34)))
else
some ((0 : Int32), m_now)))
def f_X6_keepsPairs_L4 (F : Nat) (m_s : Nat → Int32) (m_now : Nat → Int32) (m_kept : Nat → Int32) : Nat → (Int32) → (Int32) → Option ((Int32))
  | 0, _, _ => none
  | n + 1, u1, u2 =>
    (if (16 : Int32) ≤ u2 then
    some u1
    else
    (if u1 = 0 then
    some u1
    else
    (rd 116 m_s (0 : Int32)).bind fun v9 =>
    (f_X6_often F 10 m_now (0 : Int32) v9 u2).bind fun z10 =>
    (rd 16 m_kept u2).bind fun v12 =>
    ((((if z10 = v12 then
    some (1 : Int32)
    else
    some (0 : Int32))) : Option (Int32)).bind fun t13 =>
    (some (u2 + (1 : Int32))).bind fun v17 =>
    f_X6_keepsPairs_L4 F m_s m_now m_kept n t13 v17)))
def f_X6_keepsPairs (F : Nat) (m_s : Nat → Int32) (m_now : Nat → Int32) (m_kept : Nat → Int32) : Option (Int32) :=
((f_X6_keepsPairs_L4 F m_s m_now m_kept F (1 : Int32) (0 : Int32)).bind fun e3 =>
(ckz e3).bind fun _ =>
some e3)
def f_X6_codeAt_m_now (F : Nat) (m_s : Nat → Int32) (m_now : Nat → Int32) (a2 : Int32) (a3 : Int32) : Option (Int32) :=
(rd 10 m_now (a2 + ((2 : Int32) * a3))).bind fun v1 =>
(rd 10 m_now ((a2 + ((2 : Int32) * a3)) + (1 : Int32))).bind fun v2 =>
(rd 116 m_s (((11 : Int32) + ((4 : Int32) * v1)) + v2)).bind fun v3 =>
some v3
def f_X6_codeAt_m_s (F : Nat) (m_s : Nat → Int32) (a2 : Int32) (a3 : Int32) : Option (Int32) :=
(rd 116 m_s (a2 + ((2 : Int32) * a3))).bind fun v1 =>
(rd 116 m_s ((a2 + ((2 : Int32) * a3)) + (1 : Int32))).bind fun v2 =>
(rd 116 m_s (((11 : Int32) + ((4 : Int32) * v1)) + v2)).bind fun v3 =>
some v3
def f_X6_keepsCodes_L4 (F : Nat) (m_s : Nat → Int32) (m_now : Nat → Int32) : Nat → (Int32) → (Int32) → Option ((Int32))
  | 0, _, _ => none
  | n + 1, u1, u2 =>
    (rd 116 m_s (0 : Int32)).bind fun v9 =>
    (if (v9 / (2 : Int32)) ≤ u2 then
    some u1
    else
    (if u1 = 0 then
    some u1
    else
    (f_X6_codeAt_m_now F m_s m_now (0 : Int32) u2).bind fun z10 =>
    (f_X6_codeAt_m_s F m_s (1 : Int32) u2).bind fun z12 =>
    ((((if z10 = z12 then
    some (1 : Int32)
    else
    some (0 : Int32))) : Option (Int32)).bind fun t14 =>
    (some (u2 + (1 : Int32))).bind fun v18 =>
    f_X6_keepsCodes_L4 F m_s m_now n t14 v18)))
def f_X6_keepsCodes (F : Nat) (m_s : Nat → Int32) (m_now : Nat → Int32) : Option (Int32) :=
((f_X6_keepsCodes_L4 F m_s m_now F (1 : Int32) (0 : Int32)).bind fun e3 =>
(ckz e3).bind fun _ =>
some e3)
def f_X6_isOne (F : Nat) (m_s : Nat → Int32) (m_now : Nat → Int32) (m_kept : Nat → Int32) (a1 : Int32) : Option (Int32) :=
(if a1 = 0 then
some (1 : Int32)
else
(if a1 = (3 : Int32) then
(f_X6_keepsCodes F m_s m_now).bind fun z20 =>
(ckz z20).bind fun _ =>
some z20
else
((((if a1 = (1 : Int32) then
(f_X6_keepsPairs F m_s m_now m_kept).bind fun z4 =>
(if z4 = 0 then
some (0 : Int32)
else
some (1 : Int32))
else
(rd 116 m_s (0 : Int32)).bind fun v7 =>
(if v7 = 0 then
(f_X6_keepsPairs F m_s m_now m_kept).bind fun z8 =>
(if z8 = 0 then
some (0 : Int32)
else
some (1 : Int32))
else
(rd 10 m_now (0 : Int32)).bind fun v11 =>
(rd 116 m_s (1 : Int32)).bind fun v12 =>
(if v11 = v12 then
(f_X6_keepsPairs F m_s m_now m_kept).bind fun z13 =>
(if z13 = 0 then
some (0 : Int32)
else
some (1 : Int32))
else
some (0 : Int32))))) : Option (Int32)).bind fun t1 =>
(ckz t1).bind fun _ =>
some t1)))
def f_X6_same_L4 (F : Nat) (m_s : Nat → Int32) (m_now : Nat → Int32) : Nat → (Int32) → (Int32) → Option ((Int32))
  | 0, _, _ => none
  | n + 1, u1, u2 =>
    (rd 116 m_s (0 : Int32)).bind fun v9 =>
    (if v9 ≤ u2 then
    some u1
    else
    (rd 10 m_now u2).bind fun v10 =>
    (rd 116 m_s ((1 : Int32) + u2)).bind fun v11 =>
    ((((if v10 = v11 then
    some (1 : Int32)
    else
    some (0 : Int32))) : Option (Int32)).bind fun t12 =>
    (some (u1 + t12)).bind fun v16 =>
    (some (u2 + (1 : Int32))).bind fun v17 =>
    f_X6_same_L4 F m_s m_now n v16 v17))
def f_X6_same (F : Nat) (m_s : Nat → Int32) (m_now : Nat → Int32) : Option (Int32) :=
((f_X6_same_L4 F m_s m_now F (0 : Int32) (0 : Int32)).bind fun e3 =>
some e3)
def f_X6_shuffles_L18 (F : Nat) (m_s : Nat → Int32) (a1 : Int32) (z3 : (Nat → Int32) × (Nat → Int32)) : Nat → (Int32) → (Int32) → (Nat → Int32) → Option ((Int32 × (Nat → Int32)))
  | 0, _, _, _ => none
  | n + 1, u5, u6, u7 =>
    (if u6 = 0 then
    some (u5, u7)
    else
    (f_X6_isOne F m_s u7 z3.2 a1).bind fun z14 =>
    ((((if z14 = 0 then
    some (0 : Int32)
    else
    some (1 : Int32))) : Option (Int32)).bind fun t16 =>
    (some (u5 + t16)).bind fun v20 =>
    (f_X6_goes F m_s u7).bind fun z21 =>
    f_X6_shuffles_L18 F m_s a1 z3 n v20 z21.1 z21.2))
def f_X6_shuffles (F : Nat) (m_s : Nat → Int32) (m_now : Nat → Int32) (m_kept : Nat → Int32) (a1 : Int32) : Option (Int32 × (Nat → Int32) × (Nat → Int32)) :=
(f_X6_is4 F a1).bind fun z1 =>
(if z1 = 0 then
some ((-1000001 : Int32), m_now, m_kept)
else
(f_X6_begin F m_s m_now m_kept).bind fun z3 =>
((f_X6_shuffles_L18 F m_s a1 z3 F (0 : Int32) (1 : Int32) z3.1).bind fun e8 =>
some (e8.1, e8.2, z3.2)))
def f_X6_place_L6 (F : Nat) (m_s : Nat → Int32) (a1 : Int32) (z1 : (Nat → Int32) × (Nat → Int32)) : Nat → (Int32) → (Nat → Int32) → Option ((Int32 × (Nat → Int32)))
  | 0, _, _ => none
  | n + 1, u3, u4 =>
    (f_X6_same F m_s u4).bind fun z11 =>
    (rd 116 m_s (0 : Int32)).bind fun v13 =>
    (if v13 ≤ z11 then
    some (u3, u4)
    else
    (f_X6_isOne F m_s u4 z1.2 a1).bind fun z14 =>
    ((((if z14 = 0 then
    some (0 : Int32)
    else
    some (1 : Int32))) : Option (Int32)).bind fun t16 =>
    (some (u3 + t16)).bind fun v20 =>
    (f_X6_goes F m_s u4).bind fun z21 =>
    f_X6_place_L6 F m_s a1 z1 n v20 z21.2))
def f_X6_place (F : Nat) (m_s : Nat → Int32) (m_now : Nat → Int32) (m_kept : Nat → Int32) (a1 : Int32) : Option (Int32 × (Nat → Int32) × (Nat → Int32)) :=
(f_X6_begin F m_s m_now m_kept).bind fun z1 =>
((f_X6_place_L6 F m_s a1 z1 F (0 : Int32) z1.1).bind fun e5 =>
some (e5.1, e5.2, z1.2))
def f_X6_placeOf (F : Nat) (m_s : Nat → Int32) (m_now : Nat → Int32) (m_kept : Nat → Int32) (a1 : Int32) : Option (Int32 × (Nat → Int32) × (Nat → Int32)) :=
(f_X6_is4 F a1).bind fun z1 =>
((((if z1 = 0 then
some ((-1000001 : Int32), m_now, m_kept)
else
(f_X6_place F m_s m_now m_kept a1).bind fun z6 =>
some (z6.1, z6.2.1, z6.2.2))) : Option (Int32 × (Nat → Int32) × (Nat → Int32))).bind fun t3 =>
some (t3.1, t3.2.1, t3.2.2))
def f_X6_finds_L9 (F : Nat) (m_s : Nat → Int32) (a1 : Int32) (z1 : (Nat → Int32) × (Nat → Int32)) : Nat → (Int32) → (Int32) → (Nat → Int32) → Option (((Nat → Int32)) ⊕ ((Nat → Int32)))
  | 0, _, _, _ => none
  | n + 1, u3, u4, u5 =>
    (if u4 = 0 then
    some (Sum.inr u5)
    else
    (f_X6_isOne F m_s u5 z1.2 a1).bind fun z15 =>
    (if z15 = 0 then
    (f_X6_goes F m_s u5).bind fun z17 =>
    f_X6_finds_L9 F m_s a1 z1 n u3 z17.1 z17.2
    else
    (if u3 = 0 then
    some (Sum.inl u5)
    else
    (some (u3 + (-1 : Int32))).bind fun v19 =>
    (f_X6_goes F m_s u5).bind fun z20 =>
    f_X6_finds_L9 F m_s a1 z1 n v19 z20.1 z20.2)))
def f_X6_finds (F : Nat) (m_s : Nat → Int32) (m_now : Nat → Int32) (m_kept : Nat → Int32) (a1 : Int32) (a2 : Int32) : Option (Int32 × (Nat → Int32) × (Nat → Int32)) :=
(f_X6_begin F m_s m_now m_kept).bind fun z1 =>
((f_X6_finds_L9 F m_s a1 z1 F a2 (1 : Int32) z1.1).bind fun e6 =>
(Sum.elim (fun ax13 =>
some ((1 : Int32), ax13, z1.2)) (fun ax14 =>
some ((0 : Int32), ax14, z1.2))) e6)
def f_X6_shuffleAt (F : Nat) (m_s : Nat → Int32) (m_now : Nat → Int32) (m_kept : Nat → Int32) (a1 : Int32) (a2 : Int32) (a3 : Int32) : Option (Int32 × (Nat → Int32) × (Nat → Int32)) :=
(f_X6_is4 F a1).bind fun z1 =>
(if z1 = 0 then
some ((-1000001 : Int32), m_now, m_kept)
else
(if a2 < 0 then
some ((-1000001 : Int32), m_now, m_kept)
else
(if 0 ≤ a3 then
(rd 116 m_s (0 : Int32)).bind fun v3 =>
((((if v3 ≤ a3 then
some ((-1000004 : Int32), m_now, m_kept)
else
(f_X6_finds F m_s m_now m_kept a1 a2).bind fun z7 =>
(if z7.1 = 0 then
some ((-1000004 : Int32), z7.2.1, z7.2.2)
else
(rd 10 z7.2.1 a3).bind fun v9 =>
some (v9, z7.2.1, z7.2.2)))) : Option (Int32 × (Nat → Int32) × (Nat → Int32))).bind fun t4 =>
some (t4.1, t4.2.1, t4.2.2))
else
some ((-1000001 : Int32), m_now, m_kept))))
def f_X6_takes_L2 (F : Nat) (m_now : Nat → Int32) : Nat → (Int32) → (Nat → Int32) → Option (((Nat → Int32)))
  | 0, _, _ => none
  | n + 1, u1, u2 =>
    (rd 116 u2 (0 : Int32)).bind fun v9 =>
    (if v9 ≤ u1 then
    some u2
    else
    (rd 10 m_now u1).bind fun v10 =>
    (wr 116 u2 ((1 : Int32) + u1) v10).bind fun v11 =>
    (some (u1 + (1 : Int32))).bind fun v12 =>
    f_X6_takes_L2 F m_now n v12 v11)
def f_X6_takes (F : Nat) (m_s : Nat → Int32) (m_now : Nat → Int32) : Option ((Nat → Int32)) :=
((f_X6_takes_L2 F m_now F (0 : Int32) m_s).bind fun e3 =>
some e3)
def f_X6_moves (F : Nat) (m_pasts : Int32) (m_runs0 : Int32) (m_s : Nat → Int32) (m_past : Nat → Int32) (m_now : Nat → Int32) (m_kept : Nat → Int32) (a1 : Int32) (a2 : Int32) : Option (Int32 × Int32 × (Nat → Int32) × (Nat → Int32) × (Nat → Int32) × (Nat → Int32)) :=
(if a2 < 0 then
some ((-1000002 : Int32), m_pasts, m_s, m_past, m_now, m_kept)
else
(f_X6_finds F m_s m_now m_kept a1 a2).bind fun z1 =>
(if z1.1 = 0 then
some ((-1000002 : Int32), m_pasts, m_s, m_past, z1.2.1, z1.2.2)
else
(f_X6_changes F m_pasts m_runs0 m_s m_past).bind fun z3 =>
(f_X6_takes F m_s z1.2.1).bind fun z5 =>
some (a2, z3.1, z5, z3.2, z1.2.1, z1.2.2)))
def f_X6_next (F : Nat) (m_pasts : Int32) (m_runs0 : Int32) (m_s : Nat → Int32) (m_past : Nat → Int32) (m_now : Nat → Int32) (m_kept : Nat → Int32) (a1 : Int32) : Option (Int32 × Int32 × (Nat → Int32) × (Nat → Int32) × (Nat → Int32) × (Nat → Int32)) :=
(f_X6_is4 F a1).bind fun z1 =>
((((if z1 = 0 then
some ((-1000001 : Int32), m_pasts, m_s, m_past, m_now, m_kept)
else
(f_X6_place F m_s m_now m_kept a1).bind fun z6 =>
(f_X6_moves F m_pasts m_runs0 m_s m_past z6.2.1 z6.2.2 a1 (z6.1 + (1 : Int32))).bind fun z8 =>
some (z8.1, z8.2.1, z8.2.2.1, z8.2.2.2.1, z8.2.2.2.2.1, z8.2.2.2.2.2))) : Option (Int32 × Int32 × (Nat → Int32) × (Nat → Int32) × (Nat → Int32) × (Nat → Int32))).bind fun t3 =>
some (t3.1, t3.2.1, t3.2.2.1, t3.2.2.2.1, t3.2.2.2.2.1, t3.2.2.2.2.2))
def f_X6_back (F : Nat) (m_pasts : Int32) (m_runs0 : Int32) (m_s : Nat → Int32) (m_past : Nat → Int32) (m_now : Nat → Int32) (m_kept : Nat → Int32) (a1 : Int32) : Option (Int32 × Int32 × (Nat → Int32) × (Nat → Int32) × (Nat → Int32) × (Nat → Int32)) :=
(f_X6_is4 F a1).bind fun z1 =>
((((if z1 = 0 then
some ((-1000001 : Int32), m_pasts, m_s, m_past, m_now, m_kept)
else
(f_X6_place F m_s m_now m_kept a1).bind fun z6 =>
(f_X6_moves F m_pasts m_runs0 m_s m_past z6.2.1 z6.2.2 a1 (z6.1 - (1 : Int32))).bind fun z8 =>
some (z8.1, z8.2.1, z8.2.2.1, z8.2.2.2.1, z8.2.2.2.2.1, z8.2.2.2.2.2))) : Option (Int32 × Int32 × (Nat → Int32) × (Nat → Int32) × (Nat → Int32) × (Nat → Int32))).bind fun t3 =>
some (t3.1, t3.2.1, t3.2.2.1, t3.2.2.2.1, t3.2.2.2.2.1, t3.2.2.2.2.2))
def f_X6_at (F : Nat) (m_pasts : Int32) (m_runs0 : Int32) (m_s : Nat → Int32) (m_past : Nat → Int32) (m_now : Nat → Int32) (m_kept : Nat → Int32) (a1 : Int32) (a2 : Int32) : Option (Int32 × Int32 × (Nat → Int32) × (Nat → Int32) × (Nat → Int32) × (Nat → Int32)) :=
(f_X6_is4 F a1).bind fun z1 =>
(if z1 = 0 then
some ((-1000001 : Int32), m_pasts, m_s, m_past, m_now, m_kept)
else
(if 0 ≤ a2 then
(f_X6_finds F m_s m_now m_kept a1 a2).bind fun z3 =>
(if z3.1 = 0 then
some ((-1000002 : Int32), m_pasts, m_s, m_past, z3.2.1, z3.2.2)
else
(f_X6_changes F m_pasts m_runs0 m_s m_past).bind fun z5 =>
(rd 116 m_s (0 : Int32)).bind fun v7 =>
(f_X6_same F m_s z3.2.1).bind fun z8 =>
(some (v7 - z8)).bind fun v10 =>
(f_X6_takes F m_s z3.2.1).bind fun z11 =>
some (v10, z5.1, z11, z5.2, z3.2.1, z3.2.2))
else
some ((-1000001 : Int32), m_pasts, m_s, m_past, m_now, m_kept)))
def f_X6_runsOf_m_s_L18 (F : Nat) (m_s : Nat → Int32) (a2 : Int32) : Nat → (Int32) → (Int32) → Option ((Int32))
  | 0, _, _ => none
  | n + 1, u6, u7 =>
    (rd 116 m_s (0 : Int32)).bind fun v14 =>
    (if v14 ≤ u7 then
    some u6
    else
    (rd 116 m_s (a2 + u7)).bind fun v15 =>
    (rd 116 m_s ((a2 + u7) - (1 : Int32))).bind fun v16 =>
    ((((if v15 = v16 then
    some (0 : Int32)
    else
    some (1 : Int32))) : Option (Int32)).bind fun t17 =>
    (some (u6 + t17)).bind fun v21 =>
    (some (u7 + (1 : Int32))).bind fun v22 =>
    f_X6_runsOf_m_s_L18 F m_s a2 n v21 v22))
def f_X6_runsOf_m_s (F : Nat) (m_s : Nat → Int32) (a2 : Int32) : Option (Int32) :=
(rd 116 m_s (0 : Int32)).bind fun v1 =>
((((if v1 = 0 then
some (0 : Int32)
else
some (1 : Int32))) : Option (Int32)).bind fun t2 =>
((f_X6_runsOf_m_s_L18 F m_s a2 F t2 (1 : Int32)).bind fun e8 =>
some e8))
def f_X6_told_m_s_L41 (F : Nat) (m_s : Nat → Int32) (a2 : Int32) (a3 : Int32) (a4 : Int32) : Nat → (Int32) → (Int32) → Option ((Int32))
  | 0, _, _ => none
  | n + 1, u1, u2 =>
    ((((if a3 = (2 : Int32) then
    (rd 116 m_s (0 : Int32)).bind fun v13 =>
    some v13
    else
    (rd 116 m_s (0 : Int32)).bind fun v12 =>
    some (v12 / (2 : Int32)))) : Option (Int32)).bind fun t9 =>
    (if t9 ≤ u2 then
    some u1
    else
    ((((if a3 = (2 : Int32) then
    (rd 116 m_s (a2 + u2)).bind fun v21 =>
    (rd 116 m_s ((1 : Int32) + u2)).bind fun v22 =>
    (if v21 = v22 then
    some (1 : Int32)
    else
    some (0 : Int32))
    else
    (f_X6_codeAt_m_s F m_s a2 u2).bind fun z18 =>
    (if z18 = a4 then
    some (1 : Int32)
    else
    some (0 : Int32)))) : Option (Int32)).bind fun t15 =>
    (some (u1 + t15)).bind fun v25 =>
    (some (u2 + (1 : Int32))).bind fun v26 =>
    f_X6_told_m_s_L41 F m_s a2 a3 a4 n v25 v26)))
def f_X6_told_m_s (F : Nat) (m_s : Nat → Int32) (a2 : Int32) (a3 : Int32) (a4 : Int32) (a5 : Int32) : Option (Int32) :=
(if a3 = 0 then
(rd 116 m_s (0 : Int32)).bind fun v31 =>
(f_X6_often F 116 m_s a2 v31 (((4 : Int32) * a4) + a5)).bind fun z32 =>
some z32
else
(if a3 = (1 : Int32) then
(f_X6_runsOf_m_s F m_s a2).bind fun z28 =>
some z28
else
((f_X6_told_m_s_L41 F m_s a2 a3 a4 F (0 : Int32) (0 : Int32)).bind fun e3 =>
some e3)))
def f_X6_measure (F : Nat) (m_s : Nat → Int32) (a1 : Int32) (a2 : Int32) (a3 : Int32) : Option (Int32) :=
(f_X6_is4 F a1).bind fun z1 =>
((((if z1 = 0 then
some (-1000001 : Int32)
else
(f_X6_is4 F a2).bind fun z6 =>
(if z6 = 0 then
some (-1000001 : Int32)
else
(f_X6_is4 F a3).bind fun z8 =>
(if z8 = 0 then
some (-1000001 : Int32)
else
(f_X6_told_m_s F m_s (1 : Int32) a1 a2 a3).bind fun z10 =>
some z10)))) : Option (Int32)).bind fun t3 =>
some t3)
def f_X6_runsOf_m_now_L18 (F : Nat) (m_s : Nat → Int32) (m_now : Nat → Int32) (a2 : Int32) : Nat → (Int32) → (Int32) → Option ((Int32))
  | 0, _, _ => none
  | n + 1, u6, u7 =>
    (rd 116 m_s (0 : Int32)).bind fun v14 =>
    (if v14 ≤ u7 then
    some u6
    else
    (rd 10 m_now (a2 + u7)).bind fun v15 =>
    (rd 10 m_now ((a2 + u7) - (1 : Int32))).bind fun v16 =>
    ((((if v15 = v16 then
    some (0 : Int32)
    else
    some (1 : Int32))) : Option (Int32)).bind fun t17 =>
    (some (u6 + t17)).bind fun v21 =>
    (some (u7 + (1 : Int32))).bind fun v22 =>
    f_X6_runsOf_m_now_L18 F m_s m_now a2 n v21 v22))
def f_X6_runsOf_m_now (F : Nat) (m_s : Nat → Int32) (m_now : Nat → Int32) (a2 : Int32) : Option (Int32) :=
(rd 116 m_s (0 : Int32)).bind fun v1 =>
((((if v1 = 0 then
some (0 : Int32)
else
some (1 : Int32))) : Option (Int32)).bind fun t2 =>
((f_X6_runsOf_m_now_L18 F m_s m_now a2 F t2 (1 : Int32)).bind fun e8 =>
some e8))
def f_X6_told_m_now_L41 (F : Nat) (m_s : Nat → Int32) (m_now : Nat → Int32) (a2 : Int32) (a3 : Int32) (a4 : Int32) : Nat → (Int32) → (Int32) → Option ((Int32))
  | 0, _, _ => none
  | n + 1, u1, u2 =>
    ((((if a3 = (2 : Int32) then
    (rd 116 m_s (0 : Int32)).bind fun v13 =>
    some v13
    else
    (rd 116 m_s (0 : Int32)).bind fun v12 =>
    some (v12 / (2 : Int32)))) : Option (Int32)).bind fun t9 =>
    (if t9 ≤ u2 then
    some u1
    else
    ((((if a3 = (2 : Int32) then
    (rd 10 m_now (a2 + u2)).bind fun v21 =>
    (rd 116 m_s ((1 : Int32) + u2)).bind fun v22 =>
    (if v21 = v22 then
    some (1 : Int32)
    else
    some (0 : Int32))
    else
    (f_X6_codeAt_m_now F m_s m_now a2 u2).bind fun z18 =>
    (if z18 = a4 then
    some (1 : Int32)
    else
    some (0 : Int32)))) : Option (Int32)).bind fun t15 =>
    (some (u1 + t15)).bind fun v25 =>
    (some (u2 + (1 : Int32))).bind fun v26 =>
    f_X6_told_m_now_L41 F m_s m_now a2 a3 a4 n v25 v26)))
def f_X6_told_m_now (F : Nat) (m_s : Nat → Int32) (m_now : Nat → Int32) (a2 : Int32) (a3 : Int32) (a4 : Int32) (a5 : Int32) : Option (Int32) :=
(if a3 = 0 then
(rd 116 m_s (0 : Int32)).bind fun v31 =>
(f_X6_often F 10 m_now a2 v31 (((4 : Int32) * a4) + a5)).bind fun z32 =>
some z32
else
(if a3 = (1 : Int32) then
(f_X6_runsOf_m_now F m_s m_now a2).bind fun z28 =>
some z28
else
((f_X6_told_m_now_L41 F m_s m_now a2 a3 a4 F (0 : Int32) (0 : Int32)).bind fun e3 =>
some e3)))
def f_X6_surprise_L83 (F : Nat) (m_s : Nat → Int32) (a1 : Int32) (a2 : Int32) (a3 : Int32) (a4 : Int32) (z11 : Int32) (z13 : (Nat → Int32) × (Nat → Int32)) : Nat → (Int32) → (Int32) → (Int32) → (Int32) → (Int32) → (Int32) → (Int32) → (Nat → Int32) → Option ((Int32 × Int32 × Int32 × Int32 × Int32 × (Nat → Int32)))
  | 0, _, _, _, _, _, _, _, _ => none
  | n + 1, u15, u16, u17, u18, u19, u20, u21, u22 =>
    (if u21 = 0 then
    some (u16, u17, u18, u19, u20, u22)
    else
    (f_X6_isOne F m_s u22 z13.2 a1).bind fun z29 =>
    ((((if z29 = 0 then
    some (u15, u16, u17, u18, u19, u20)
    else
    (f_X6_told_m_now F m_s u22 (0 : Int32) a2 a3 a4).bind fun z34 =>
    ((((if z34 < z11 then
    some (0 : Int32)
    else
    some (1 : Int32))) : Option (Int32)).bind fun t36 =>
    (some (u16 + t36)).bind fun v40 =>
    ((((if u17 ≤ z34 then
    some u17
    else
    some z34)) : Option (Int32)).bind fun t41 =>
    ((((if z34 ≤ u18 then
    some u20
    else
    some u15)) : Option (Int32)).bind fun t45 =>
    ((((if z34 ≤ u18 then
    some u18
    else
    some z34)) : Option (Int32)).bind fun t49 =>
    (some (u19 + z34)).bind fun v53 =>
    (some (u15 + (1 : Int32))).bind fun v54 =>
    some (v54, v40, t41, t49, v53, t45))))))) : Option (Int32 × Int32 × Int32 × Int32 × Int32 × Int32)).bind fun t31 =>
    (f_X6_goes F m_s u22).bind fun z56 =>
    f_X6_surprise_L83 F m_s a1 a2 a3 a4 z11 z13 n t31.1 t31.2.1 t31.2.2.1 t31.2.2.2.1 t31.2.2.2.2.1 t31.2.2.2.2.2 z56.1 z56.2))
def f_X6_surprise (F : Nat) (m_s : Nat → Int32) (m_now : Nat → Int32) (m_kept : Nat → Int32) (a1 : Int32) (a2 : Int32) (a3 : Int32) (a4 : Int32) (a5 : Int32) : Option (Int32 × (Nat → Int32) × (Nat → Int32)) :=
(f_X6_is4 F a1).bind fun z1 =>
(if z1 = 0 then
some ((-1000001 : Int32), m_now, m_kept)
else
(f_X6_is4 F a2).bind fun z3 =>
(if z3 = 0 then
some ((-1000001 : Int32), m_now, m_kept)
else
(f_X6_is4 F a3).bind fun z5 =>
(if z5 = 0 then
some ((-1000001 : Int32), m_now, m_kept)
else
(f_X6_is4 F a4).bind fun z7 =>
(if z7 = 0 then
some ((-1000001 : Int32), m_now, m_kept)
else
(f_X6_in F a5 (0 : Int32) (4 : Int32)).bind fun z9 =>
(if z9 = 0 then
some ((-1000001 : Int32), m_now, m_kept)
else
(f_X6_told_m_s F m_s (1 : Int32) a2 a3 a4).bind fun z11 =>
(f_X6_begin F m_s m_now m_kept).bind fun z13 =>
((f_X6_surprise_L83 F m_s a1 a2 a3 a4 z11 z13 F (0 : Int32) (0 : Int32) (99 : Int32) (-1 : Int32) (0 : Int32) (0 : Int32) (1 : Int32) z13.1).bind fun e23 =>
((((if a5 = 0 then
some e23.1
else
(if a5 = (1 : Int32) then
some e23.2.1
else
(if a5 = (2 : Int32) then
some e23.2.2.1
else
(if a5 = (3 : Int32) then
some e23.2.2.2.1
else
some e23.2.2.2.2.1))))) : Option (Int32)).bind fun t59 =>
some (t59, e23.2.2.2.2.2, z13.2))))))))
def f_X6_common_L26 (F : Nat) (m_s : Nat → Int32) (a1 : Int32) (a2 : Int32) (z5 : (Nat → Int32) × (Nat → Int32)) : Nat → (Int32) → (Int32) → (Nat → Int32) → Option ((Int32 × (Nat → Int32)))
  | 0, _, _, _ => none
  | n + 1, u7, u8, u9 =>
    (if u8 = 0 then
    some (u7, u9)
    else
    (f_X6_isOne F m_s u9 z5.2 a1).bind fun z16 =>
    ((((if z16 = 0 then
    some (0 : Int32)
    else
    (f_X6_isOne F m_s u9 z5.2 a2).bind fun z21 =>
    (if z21 = 0 then
    some (0 : Int32)
    else
    some (1 : Int32)))) : Option (Int32)).bind fun t18 =>
    (some (u7 + t18)).bind fun v25 =>
    (f_X6_goes F m_s u9).bind fun z26 =>
    f_X6_common_L26 F m_s a1 a2 z5 n v25 z26.1 z26.2))
def f_X6_common (F : Nat) (m_s : Nat → Int32) (m_now : Nat → Int32) (m_kept : Nat → Int32) (a1 : Int32) (a2 : Int32) : Option (Int32 × (Nat → Int32) × (Nat → Int32)) :=
(f_X6_is4 F a1).bind fun z1 =>
(if z1 = 0 then
some ((-1000001 : Int32), m_now, m_kept)
else
(f_X6_is4 F a2).bind fun z3 =>
(if z3 = 0 then
some ((-1000001 : Int32), m_now, m_kept)
else
(f_X6_begin F m_s m_now m_kept).bind fun z5 =>
((f_X6_common_L26 F m_s a1 a2 z5 F (0 : Int32) (1 : Int32) z5.1).bind fun e10 =>
some (e10.1, e10.2, z5.2))))
def f_X6_keep_L47 (F : Nat) (v6 : Int32) : Nat → (Int32) → (Nat → Int32) → Option (((Nat → Int32)))
  | 0, _, _ => none
  | n + 1, u7, u8 =>
    (if (11 : Int32) ≤ u7 then
    some u8
    else
    (rd 116 u8 ((0 : Int32) + u7)).bind fun v15 =>
    (wr 116 u8 (v6 + u7) v15).bind fun v16 =>
    (some (u7 + (1 : Int32))).bind fun v17 =>
    f_X6_keep_L47 F v6 n v17 v16)
def f_X6_keep (F : Nat) (m_pasts : Int32) (m_runs0 : Int32) (m_s : Nat → Int32) (m_past : Nat → Int32) : Option (Int32 × Int32 × (Nat → Int32) × (Nat → Int32)) :=
(rd 116 m_s (0 : Int32)).bind fun v1 =>
(if v1 = 0 then
some ((-1000002 : Int32), m_pasts, m_s, m_past)
else
(rd 116 m_s (27 : Int32)).bind fun v2 =>
(if v2 = (8 : Int32) then
some ((-1000003 : Int32), m_pasts, m_s, m_past)
else
(f_X6_changes F m_pasts m_runs0 m_s m_past).bind fun z3 =>
(rd 116 m_s (27 : Int32)).bind fun v5 =>
(some ((28 : Int32) + ((11 : Int32) * v5))).bind fun v6 =>
((f_X6_keep_L47 F v6 F (0 : Int32) m_s).bind fun e9 =>
(rd 116 e9 (27 : Int32)).bind fun v19 =>
(wr 116 e9 (27 : Int32) (v19 + (1 : Int32))).bind fun v20 =>
(rd 116 v20 (27 : Int32)).bind fun v21 =>
some (v21, z3.1, v20, z3.2))))
def f_X6_recall_L27 (F : Nat) (a1 : Int32) : Nat → (Int32) → (Nat → Int32) → Option (((Nat → Int32)))
  | 0, _, _ => none
  | n + 1, u4, u5 =>
    (if (11 : Int32) ≤ u4 then
    some u5
    else
    (rd 116 u5 (((28 : Int32) + ((11 : Int32) * a1)) + u4)).bind fun v12 =>
    (wr 116 u5 ((0 : Int32) + u4) v12).bind fun v13 =>
    (some (u4 + (1 : Int32))).bind fun v14 =>
    f_X6_recall_L27 F a1 n v14 v13)
def f_X6_recall (F : Nat) (m_pasts : Int32) (m_runs0 : Int32) (m_s : Nat → Int32) (m_past : Nat → Int32) (a1 : Int32) : Option (Int32 × Int32 × (Nat → Int32) × (Nat → Int32)) :=
(if 0 ≤ a1 then
(rd 116 m_s (27 : Int32)).bind fun v1 =>
(if a1 < v1 then
(f_X6_changes F m_pasts m_runs0 m_s m_past).bind fun z2 =>
((f_X6_recall_L27 F a1 F (0 : Int32) m_s).bind fun e6 =>
(rd 116 e6 (0 : Int32)).bind fun v16 =>
some (v16, z2.1, e6, z2.2))
else
some ((-1000002 : Int32), m_pasts, m_s, m_past))
else
some ((-1000001 : Int32), m_pasts, m_s, m_past))
def f_X6_kinship_L50 (F : Nat) (m_s : Nat → Int32) (a1 : Int32) : Nat → (Int32) → (Nat → Int32) → Option (((Nat → Int32)))
  | 0, _, _ => none
  | n + 1, u6, u7 =>
    (rd 116 m_s (0 : Int32)).bind fun v14 =>
    (if v14 ≤ u6 then
    some u7
    else
    (rd 116 m_s ((((28 : Int32) + ((11 : Int32) * a1)) + (1 : Int32)) + u6)).bind fun v15 =>
    (wr 10 u7 u6 v15).bind fun v16 =>
    (some (u6 + (1 : Int32))).bind fun v17 =>
    f_X6_kinship_L50 F m_s a1 n v17 v16)
def f_X6_kinship_L101 (F : Nat) (m_s : Nat → Int32) (e8 : (Nat → Int32)) (u20 : Int32) : Nat → (Int32) → (Int32) → Option ((Int32))
  | 0, _, _ => none
  | n + 1, u27, u28 =>
    (rd 116 m_s (0 : Int32)).bind fun v35 =>
    (if v35 ≤ u28 then
    some u27
    else
    (rd 10 e8 u28).bind fun v36 =>
    ((((if v36 = u20 then
    some (1 : Int32)
    else
    some (0 : Int32))) : Option (Int32)).bind fun t37 =>
    (some (u27 + t37)).bind fun v41 =>
    (some (u28 + (1 : Int32))).bind fun v42 =>
    f_X6_kinship_L101 F m_s e8 u20 n v41 v42))
def f_X6_kinship_L90 (F : Nat) (m_s : Nat → Int32) (e8 : (Nat → Int32)) : Nat → (Int32) → (Int32) → Option ((Int32))
  | 0, _, _ => none
  | n + 1, u19, u20 =>
    (if (4 : Int32) ≤ u20 then
    some u19
    else
    ((f_X6_kinship_L101 F m_s e8 u20 F (0 : Int32) (0 : Int32)).bind fun e29 =>
    ((((if u19 = 0 then
    some (0 : Int32)
    else
    (f_X6_letters F m_s u20).bind fun z47 =>
    (if e29 = z47 then
    some (1 : Int32)
    else
    some (0 : Int32)))) : Option (Int32)).bind fun t44 =>
    (some (u20 + (1 : Int32))).bind fun v51 =>
    f_X6_kinship_L90 F m_s e8 n t44 v51)))
def f_X6_kinship (F : Nat) (m_s : Nat → Int32) (m_now : Nat → Int32) (m_kept : Nat → Int32) (a1 : Int32) : Option (Int32 × (Nat → Int32) × (Nat → Int32)) :=
(if 0 ≤ a1 then
(rd 116 m_s (27 : Int32)).bind fun v1 =>
(if v1 ≤ a1 then
some ((-1000004 : Int32), m_now, m_kept)
else
(rd 116 m_s ((28 : Int32) + ((11 : Int32) * a1))).bind fun v2 =>
(rd 116 m_s (0 : Int32)).bind fun v3 =>
(if v2 = v3 then
(f_X6_begin F m_s m_now m_kept).bind fun z4 =>
((f_X6_kinship_L50 F m_s a1 F (0 : Int32) z4.1).bind fun e8 =>
((f_X6_kinship_L90 F m_s e8 F (1 : Int32) (0 : Int32)).bind fun e21 =>
((((if e21 = 0 then
some (-1000004 : Int32)
else
(f_X6_isOne F m_s e8 z4.2 (2 : Int32)).bind fun z56 =>
(if z56 = 0 then
(f_X6_isOne F m_s e8 z4.2 (1 : Int32)).bind fun z58 =>
(if z58 = 0 then
(f_X6_isOne F m_s e8 z4.2 (3 : Int32)).bind fun z60 =>
(if z60 = 0 then
some (0 : Int32)
else
some (3 : Int32))
else
some (1 : Int32))
else
some (2 : Int32)))) : Option (Int32)).bind fun t53 =>
some (t53, e8, z4.2))))
else
some ((-1000004 : Int32), m_now, m_kept)))
else
some ((-1000001 : Int32), m_now, m_kept))
def f_X6_unlike_L4 (F : Nat) (m_s : Nat → Int32) (a1 : Int32) : Nat → (Int32) → (Int32) → Option ((Int32))
  | 0, _, _ => none
  | n + 1, u1, u2 =>
    ((((if a1 = 0 then
    some (4 : Int32)
    else
    some (16 : Int32))) : Option (Int32)).bind fun t9 =>
    (if t9 ≤ u2 then
    some u1
    else
    ((((if a1 = 0 then
    (f_X6_letters F m_s u2).bind fun z16 =>
    some z16
    else
    (f_X6_pairs F m_s u2).bind fun z18 =>
    some z18)) : Option (Int32)).bind fun t13 =>
    ((((if t13 ≤ 0 then
    some (0 : Int32)
    else
    some (1 : Int32))) : Option (Int32)).bind fun t21 =>
    (some (u1 + t21)).bind fun v25 =>
    (some (u2 + (1 : Int32))).bind fun v26 =>
    f_X6_unlike_L4 F m_s a1 n v25 v26))))
def f_X6_unlike (F : Nat) (m_s : Nat → Int32) (a1 : Int32) : Option (Int32) :=
((f_X6_unlike_L4 F m_s a1 F (0 : Int32) (0 : Int32)).bind fun e3 =>
some e3)
def f_X6_count (F : Nat) (m_pasts : Int32) (m_typed : Int32) (m_s : Nat → Int32) (a1 : Int32) : Option (Int32) :=
(if a1 = (0 : Int32) then
(rd 116 m_s (0 : Int32)).bind fun v2 =>
some v2
else
(if a1 = (1 : Int32) then
((((if a1 = (2 : Int32) then
some (1 : Int32)
else
some (0 : Int32))) : Option (Int32)).bind fun t4 =>
(f_X6_unlike F m_s t4).bind fun z8 =>
some z8)
else
(if a1 = (2 : Int32) then
((((if a1 = (2 : Int32) then
some (1 : Int32)
else
some (0 : Int32))) : Option (Int32)).bind fun t11 =>
(f_X6_unlike F m_s t11).bind fun z15 =>
some z15)
else
(if a1 = (3 : Int32) then
(f_X6_runsOf_m_s F m_s (1 : Int32)).bind fun z18 =>
some z18
else
(if a1 = (4 : Int32) then
(rd 116 m_s (0 : Int32)).bind fun v21 =>
some (v21 / (2 : Int32))
else
(if a1 = (5 : Int32) then
(rd 116 m_s (27 : Int32)).bind fun v23 =>
some v23
else
(if a1 = (6 : Int32) then
some m_pasts
else
(if a1 = (7 : Int32) then
some m_typed
else
some (-1000001 : Int32)))))))))
def f_X6_undo_L22 (F : Nat) (m_past : Nat → Int32) (v1 : Int32) : Nat → (Int32) → (Nat → Int32) → Option (((Nat → Int32)))
  | 0, _, _ => none
  | n + 1, u2, u3 =>
    (if (116 : Int32) ≤ u2 then
    some u3
    else
    (rd 464 m_past (((116 : Int32) * v1) + u2)).bind fun v10 =>
    (wr 116 u3 u2 v10).bind fun v11 =>
    (some (u2 + (1 : Int32))).bind fun v12 =>
    f_X6_undo_L22 F m_past v1 n v12 v11)
def f_X6_undo (F : Nat) (m_pasts : Int32) (m_s : Nat → Int32) (m_past : Nat → Int32) : Option (Int32 × Int32 × (Nat → Int32)) :=
(if m_pasts = 0 then
some ((-1000002 : Int32), m_pasts, m_s)
else
(some (m_pasts - (1 : Int32))).bind fun v1 =>
((f_X6_undo_L22 F m_past v1 F (0 : Int32) m_s).bind fun e4 =>
some (v1, v1, e4)))
def f_X6_type (F : Nat) (m_typed : Int32) (m_text : Nat → Int32) (a1 : Int32) : Option (Int32 × Int32 × (Nat → Int32)) :=
(f_X6_in F a1 (32 : Int32) (126 : Int32)).bind fun z1 =>
(if z1 = 0 then
some ((-1000001 : Int32), m_typed, m_text)
else
(if m_typed = (60 : Int32) then
some ((-1000003 : Int32), m_typed, m_text)
else
(wr 60 m_text m_typed a1).bind fun v3 =>
(some (m_typed + (1 : Int32))).bind fun v4 =>
some (v4, v4, v3)))
def f_X6_clearText (F : Nat) (m_typed : Int32) : Option (Int32 × Int32) :=
some (m_typed, (0 : Int32))
def f_X6_isAt (F : Nat) (m_typed : Int32) (m_spot : Int32) (m_text : Nat → Int32) (a1 : Int32) (a2 : Int32) : Option (Int32) :=
((((if m_typed ≤ m_spot then
some (0 : Int32)
else
(rd 60 m_text m_spot).bind fun v4 =>
(f_X6_in F v4 a1 a2).bind fun z5 =>
(if z5 = 0 then
some (0 : Int32)
else
some (1 : Int32)))) : Option (Int32)).bind fun t1 =>
(ckz t1).bind fun _ =>
some t1)
def f_X6_isWord (F : Nat) (m_spot : Int32) (m_text : Nat → Int32) (a1 : Int32) (a2 : Int32) (a3 : Int32) (a4 : Int32) (a5 : Int32) (a6 : Int32) : Option (Int32) :=
((((if a6 ≤ 0 then
(if a5 ≤ 0 then
some (3 : Int32)
else
some (4 : Int32))
else
some (5 : Int32))) : Option (Int32)).bind fun t1 =>
((((if (m_spot - a1) = t1 then
(rd 60 m_text a1).bind fun v9 =>
(if v9 = a2 then
(rd 60 m_text (a1 + (1 : Int32))).bind fun v10 =>
(if v10 = a3 then
(rd 60 m_text (a1 + (2 : Int32))).bind fun v11 =>
(if v11 = a4 then
some (1 : Int32)
else
some (0 : Int32))
else
some (0 : Int32))
else
some (0 : Int32))
else
some (0 : Int32))) : Option (Int32)).bind fun t6 =>
((((if t6 = 0 then
some (0 : Int32)
else
(if t1 < (4 : Int32) then
(if t1 < (5 : Int32) then
some (1 : Int32)
else
(rd 60 m_text (a1 + (4 : Int32))).bind fun v19 =>
(if v19 = a6 then
some (1 : Int32)
else
some (0 : Int32)))
else
(rd 60 m_text (a1 + (3 : Int32))).bind fun v22 =>
(if v22 = a5 then
(if t1 < (5 : Int32) then
some (1 : Int32)
else
(rd 60 m_text (a1 + (4 : Int32))).bind fun v23 =>
(if v23 = a6 then
some (1 : Int32)
else
some (0 : Int32)))
else
some (0 : Int32))))) : Option (Int32)).bind fun t16 =>
(ckz t16).bind fun _ =>
some t16)))
def f_X6_wordAt (F : Nat) (m_spot : Int32) (m_text : Nat → Int32) (a1 : Int32) : Option (Int32) :=
(f_X6_isWord F m_spot m_text a1 (114 : Int32) (111 : Int32) (119 : Int32) (0 : Int32) (0 : Int32)).bind fun z1 =>
(if z1 = 0 then
(f_X6_isWord F m_spot m_text a1 (116 : Int32) (117 : Int32) (114 : Int32) (110 : Int32) (0 : Int32)).bind fun z3 =>
(if z3 = 0 then
(f_X6_isWord F m_spot m_text a1 (110 : Int32) (101 : Int32) (120 : Int32) (116 : Int32) (0 : Int32)).bind fun z5 =>
(if z5 = 0 then
(f_X6_isWord F m_spot m_text a1 (112 : Int32) (108 : Int32) (97 : Int32) (99 : Int32) (101 : Int32)).bind fun z7 =>
((((if z7 = 0 then
(f_X6_isWord F m_spot m_text a1 (107 : Int32) (101 : Int32) (101 : Int32) (112 : Int32) (0 : Int32)).bind fun z12 =>
(if z12 = 0 then
some (-1000004 : Int32)
else
some (4 : Int32))
else
some (3 : Int32))) : Option (Int32)).bind fun t9 =>
some t9)
else
some (2 : Int32))
else
some (1 : Int32))
else
some (0 : Int32))
def f_X6_passes (F : Nat) (m_typed : Int32) (m_spot : Int32) (m_text : Nat → Int32) (a1 : Int32) : Option (Int32 × Int32) :=
(f_X6_isAt F m_typed m_spot m_text a1 a1).bind fun z1 =>
((((if z1 = 0 then
some (0 : Int32)
else
some (1 : Int32))) : Option (Int32)).bind fun t3 =>
(some (m_spot + t3)).bind fun v7 =>
(ckz z1).bind fun _ =>
some (z1, v7))
def f_X6_lettersRead_L5 (F : Nat) (m_typed : Int32) (m_spot : Int32) (m_text : Nat → Int32) : Nat → (Int32) → Option ((Int32))
  | 0, _ => none
  | n + 1, u1 =>
    (f_X6_isAt F m_typed u1 m_text (97 : Int32) (100 : Int32)).bind fun z8 =>
    (if z8 = 0 then
    some u1
    else
    (if (10 : Int32) ≤ (u1 - m_spot) then
    some u1
    else
    (some (u1 + (1 : Int32))).bind fun v10 =>
    f_X6_lettersRead_L5 F m_typed m_spot m_text n v10))
def f_X6_lettersRead (F : Nat) (m_typed : Int32) (m_spot : Int32) (m_text : Nat → Int32) : Option (Int32 × Int32) :=
((f_X6_lettersRead_L5 F m_typed m_spot m_text F m_spot).bind fun e2 =>
((((if e2 ≤ m_spot then
some (0 : Int32)
else
some (1 : Int32))) : Option (Int32)).bind fun t13 =>
(ckz t13).bind fun _ =>
some (t13, e2)))
def f_X6_kindRead (F : Nat) (m_typed : Int32) (m_spot : Int32) (m_kindNow : Int32) (m_text : Nat → Int32) : Option (Int32 × Int32 × Int32) :=
(f_X6_passes F m_typed m_spot m_text (32 : Int32)).bind fun z1 =>
(if z1.1 = 0 then
some ((0 : Int32), z1.2, m_kindNow)
else
(f_X6_isAt F m_typed z1.2 m_text (48 : Int32) (57 : Int32)).bind fun z3 =>
(if z3 = 0 then
some ((0 : Int32), z1.2, m_kindNow)
else
(rd 60 m_text z1.2).bind fun v5 =>
(some (v5 - (48 : Int32))).bind fun v6 =>
(some (z1.2 + (1 : Int32))).bind fun v7 =>
some ((1 : Int32), v7, v6)))
def f_X6_numberRead_L21 (F : Nat) (m_typed : Int32) (m_text : Nat → Int32) (z1 : Int32 × Int32) : Nat → (Int32) → (Int32) → Option ((Int32 × Int32))
  | 0, _, _ => none
  | n + 1, u3, u4 =>
    (f_X6_isAt F m_typed u4 m_text (48 : Int32) (57 : Int32)).bind fun z11 =>
    (if z11 = 0 then
    some (u3, u4)
    else
    (if (6 : Int32) ≤ (u4 - z1.2) then
    some (u3, u4)
    else
    (rd 60 m_text u4).bind fun v13 =>
    (some ((((10 : Int32) * u3) + v13) - (48 : Int32))).bind fun v14 =>
    (some (u4 + (1 : Int32))).bind fun v15 =>
    f_X6_numberRead_L21 F m_typed m_text z1 n v14 v15))
def f_X6_numberRead (F : Nat) (m_typed : Int32) (m_spot : Int32) (m_placeNow : Int32) (m_text : Nat → Int32) : Option (Int32 × Int32 × Int32) :=
(f_X6_passes F m_typed m_spot m_text (32 : Int32)).bind fun z1 =>
(if z1.1 = 0 then
some ((0 : Int32), z1.2, m_placeNow)
else
((f_X6_numberRead_L21 F m_typed m_text z1 F (0 : Int32) z1.2).bind fun e5 =>
((((if e5.2 ≤ z1.2 then
some (0 : Int32)
else
some (1 : Int32))) : Option (Int32)).bind fun t18 =>
(ckz t18).bind fun _ =>
some (t18, e5.2, e5.1))))
def f_X6_isForm (F : Nat) (m_typed : Int32) (m_spot : Int32) (m_kindNow : Int32) (m_placeNow : Int32) (m_text : Nat → Int32) (a1 : Int32) : Option (Int32 × Int32 × Int32 × Int32) :=
((((if a1 = 0 then
(f_X6_passes F m_typed m_spot m_text (32 : Int32)).bind fun z13 =>
(if z13.1 = 0 then
some ((0 : Int32), z13.2, m_kindNow, m_placeNow)
else
(f_X6_lettersRead F m_typed z13.2 m_text).bind fun z15 =>
(if z15.1 = 0 then
some ((0 : Int32), z15.2, m_kindNow, m_placeNow)
else
some ((1 : Int32), z15.2, m_kindNow, m_placeNow)))
else
(if a1 < (2 : Int32) then
some ((1 : Int32), m_spot, m_kindNow, m_placeNow)
else
(if a1 = (4 : Int32) then
some ((1 : Int32), m_spot, m_kindNow, m_placeNow)
else
(f_X6_kindRead F m_typed m_spot m_kindNow m_text).bind fun z4 =>
(if z4.1 = 0 then
some ((0 : Int32), z4.2.1, z4.2.2, m_placeNow)
else
(if a1 = (2 : Int32) then
some ((1 : Int32), z4.2.1, z4.2.2, m_placeNow)
else
(f_X6_numberRead F m_typed z4.2.1 m_placeNow m_text).bind fun z6 =>
(if z6.1 = 0 then
some ((0 : Int32), z6.2.1, z4.2.2, z6.2.2)
else
some ((1 : Int32), z6.2.1, z4.2.2, z6.2.2)))))))) : Option (Int32 × Int32 × Int32 × Int32)).bind fun t1 =>
((((if t1.1 = 0 then
some ((0 : Int32), t1.2.1)
else
(f_X6_passes F m_typed t1.2.1 m_text (59 : Int32)).bind fun z23 =>
(if z23.1 = 0 then
some ((0 : Int32), z23.2)
else
some ((1 : Int32), z23.2)))) : Option (Int32 × Int32)).bind fun t20 =>
(ckz t20.1).bind fun _ =>
some (t20.1, t20.2, t1.2.2.1, t1.2.2.2)))
def f_X6_lays_L11 (F : Nat) (m_text : Nat → Int32) (a1 : Int32) (a2 : Int32) : Nat → (Int32) → (Nat → Int32) → Option (((Nat → Int32)))
  | 0, _, _ => none
  | n + 1, u2, u3 =>
    (if a2 ≤ u2 then
    some u3
    else
    (rd 60 m_text u2).bind fun v10 =>
    (wr 116 u3 (((1 : Int32) + u2) - a1) (v10 - (97 : Int32))).bind fun v11 =>
    (some (u2 + (1 : Int32))).bind fun v12 =>
    f_X6_lays_L11 F m_text a1 a2 n v12 v11)
def f_X6_lays (F : Nat) (m_s : Nat → Int32) (m_text : Nat → Int32) (a1 : Int32) (a2 : Int32) : Option ((Nat → Int32)) :=
(wr 116 m_s (0 : Int32) (a2 - a1)).bind fun v1 =>
((f_X6_lays_L11 F m_text a1 a2 F a1 v1).bind fun e4 =>
some e4)
def f_X6_does (F : Nat) (m_pasts : Int32) (m_runs0 : Int32) (m_spot : Int32) (m_kindNow : Int32) (m_placeNow : Int32) (m_s : Nat → Int32) (m_past : Nat → Int32) (m_text : Nat → Int32) (m_now : Nat → Int32) (m_kept : Nat → Int32) (a1 : Int32) (a2 : Int32) : Option (Int32 × Int32 × (Nat → Int32) × (Nat → Int32) × (Nat → Int32) × (Nat → Int32)) :=
(rd 116 m_s (0 : Int32)).bind fun v1 =>
((((if v1 = 0 then
some (1 : Int32)
else
some (0 : Int32))) : Option (Int32)).bind fun t2 =>
(if a1 = (0 : Int32) then
(f_X6_lays F m_s m_text (a2 + (4 : Int32)) (m_spot - (1 : Int32))).bind fun z7 =>
some ((0 : Int32), m_pasts, z7, m_past, m_now, m_kept)
else
(if a1 = (1 : Int32) then
(f_X6_turn F m_pasts m_runs0 m_s m_past).bind fun z10 =>
((((if z10.1 = (-1000002 : Int32) then
some (3 : Int32)
else
some (0 : Int32))) : Option (Int32)).bind fun t12 =>
some (t12, z10.2.1, z10.2.2.1, z10.2.2.2, m_now, m_kept))
else
(if a1 = (2 : Int32) then
(f_X6_next F m_pasts m_runs0 m_s m_past m_now m_kept m_kindNow).bind fun z17 =>
((((if z17.1 = (-1000002 : Int32) then
some (1 : Int32)
else
some (0 : Int32))) : Option (Int32)).bind fun t19 =>
some (t19, z17.2.1, z17.2.2.1, z17.2.2.2.1, z17.2.2.2.2.1, z17.2.2.2.2.2))
else
(if a1 = (3 : Int32) then
(f_X6_at F m_pasts m_runs0 m_s m_past m_now m_kept m_kindNow m_placeNow).bind fun z24 =>
((((if z24.1 = (-1000002 : Int32) then
some (1 : Int32)
else
some (0 : Int32))) : Option (Int32)).bind fun t26 =>
some (t26, z24.2.1, z24.2.2.1, z24.2.2.2.1, z24.2.2.2.2.1, z24.2.2.2.2.2))
else
(rd 116 m_s (27 : Int32)).bind fun v30 =>
((((if v30 = (8 : Int32) then
some ((2 : Int32), m_pasts, m_s, m_past)
else
(if t2 = 0 then
(f_X6_keep F m_pasts m_runs0 m_s m_past).bind fun z34 =>
(if z34.1 ≤ 0 then
some ((2 : Int32), z34.2.1, z34.2.2.1, z34.2.2.2)
else
some ((0 : Int32), z34.2.1, z34.2.2.1, z34.2.2.2))
else
some ((3 : Int32), m_pasts, m_s, m_past)))) : Option (Int32 × Int32 × (Nat → Int32) × (Nat → Int32))).bind fun t31 =>
some (t31.1, t31.2.1, t31.2.2.1, t31.2.2.2, m_now, m_kept)))))))
def f_X6_plays_L50 (F : Nat) (m_typed : Int32) (m_text : Nat → Int32) : Nat → (Int32) → Option ((Int32))
  | 0, _ => none
  | n + 1, u19 =>
    (f_X6_isAt F m_typed u19 m_text (97 : Int32) (122 : Int32)).bind fun z26 =>
    (if z26 = 0 then
    some u19
    else
    (some (u19 + (1 : Int32))).bind fun v28 =>
    f_X6_plays_L50 F m_typed m_text n v28)
def f_X6_plays_L27 (F : Nat) (m_typed : Int32) (m_text : Nat → Int32) : Nat → (Int32) → (Nat → Int32) → (Nat → Int32) → (Nat → Int32) → (Nat → Int32) → (Int32) → (Int32) → (Int32) → (Int32) → (Int32) → (Int32) → (Int32) → Option ((Int32 × (Nat → Int32) × (Nat → Int32) × (Nat → Int32) × (Nat → Int32) × Int32 × Int32 × Int32 × Int32 × Int32 × Int32 × Int32))
  | 0, _, _, _, _, _, _, _, _, _, _, _, _ => none
  | n + 1, u1, u2, u3, u4, u5, u6, u7, u8, u9, u10, u11, u12 =>
    (if m_typed ≤ u12 then
    some (u1, u2, u3, u4, u5, u6, u7, u8, u9, u10, u11, u12)
    else
    (if u6 = 0 then
    ((f_X6_plays_L50 F m_typed m_text F u12).bind fun e20 =>
    (f_X6_wordAt F e20 m_text u12).bind fun z30 =>
    ((((if z30 < 0 then
    ((((if 0 ≤ z30 then
    some (e20 - u12)
    else
    some (0 : Int32))) : Option (Int32)).bind fun t35 =>
    some (u11, e20, (1 : Int32), t35, u8, u9, u10, u5, u4, u3, u2))
    else
    (f_X6_isForm F m_typed e20 u9 u10 m_text z30).bind fun z39 =>
    (if z39.1 = 0 then
    ((((if 0 ≤ z30 then
    some (z39.2.1 - u12)
    else
    some (0 : Int32))) : Option (Int32)).bind fun t66 =>
    some (u11, z39.2.1, (1 : Int32), t66, u8, z39.2.2.1, z39.2.2.2, u5, u4, u3, u2))
    else
    (if z30 = (2 : Int32) then
    (if z39.2.2.1 ≤ (3 : Int32) then
    (f_X6_does F u11 (1 : Int32) z39.2.1 z39.2.2.1 z39.2.2.2 u5 u4 m_text u3 u2 z30 u12).bind fun z41 =>
    ((((if z41.1 ≤ 0 then
    some (0 : Int32)
    else
    some (3 : Int32))) : Option (Int32)).bind fun t43 =>
    (some (u8 + (1 : Int32))).bind fun v47 =>
    some (z41.2.1, z39.2.1, t43, z41.1, v47, z39.2.2.1, z39.2.2.2, z41.2.2.1, z41.2.2.2.1, z41.2.2.2.2.1, z41.2.2.2.2.2))
    else
    some (u11, z39.2.1, (2 : Int32), (-1000004 : Int32), u8, z39.2.2.1, z39.2.2.2, u5, u4, u3, u2))
    else
    (if z30 = (3 : Int32) then
    (if z39.2.2.1 ≤ (3 : Int32) then
    (f_X6_does F u11 (1 : Int32) z39.2.1 z39.2.2.1 z39.2.2.2 u5 u4 m_text u3 u2 z30 u12).bind fun z56 =>
    ((((if z56.1 ≤ 0 then
    some (0 : Int32)
    else
    some (3 : Int32))) : Option (Int32)).bind fun t58 =>
    (some (u8 + (1 : Int32))).bind fun v62 =>
    some (z56.2.1, z39.2.1, t58, z56.1, v62, z39.2.2.1, z39.2.2.2, z56.2.2.1, z56.2.2.2.1, z56.2.2.2.2.1, z56.2.2.2.2.2))
    else
    some (u11, z39.2.1, (2 : Int32), (-1000004 : Int32), u8, z39.2.2.1, z39.2.2.2, u5, u4, u3, u2))
    else
    (f_X6_does F u11 (1 : Int32) z39.2.1 z39.2.2.1 z39.2.2.2 u5 u4 m_text u3 u2 z30 u12).bind fun z49 =>
    ((((if z49.1 ≤ 0 then
    some (0 : Int32)
    else
    some (3 : Int32))) : Option (Int32)).bind fun t51 =>
    (some (u8 + (1 : Int32))).bind fun v55 =>
    some (z49.2.1, z39.2.1, t51, z49.1, v55, z39.2.2.1, z39.2.2.2, z49.2.2.1, z49.2.2.2.1, z49.2.2.2.2.1, z49.2.2.2.2.2))))))) : Option (Int32 × Int32 × Int32 × Int32 × Int32 × Int32 × Int32 × (Nat → Int32) × (Nat → Int32) × (Nat → Int32) × (Nat → Int32))).bind fun t32 =>
    f_X6_plays_L27 F m_typed m_text n u12 t32.2.2.2.2.2.2.2.2.2.2 t32.2.2.2.2.2.2.2.2.2.1 t32.2.2.2.2.2.2.2.2.1 t32.2.2.2.2.2.2.2.1 t32.2.2.1 t32.2.2.2.1 t32.2.2.2.2.1 t32.2.2.2.2.2.1 t32.2.2.2.2.2.2.1 t32.1 t32.2.1))
    else
    some (u1, u2, u3, u4, u5, u6, u7, u8, u9, u10, u11, u12)))
def f_X6_plays (F : Nat) (m_pasts : Int32) (m_typed : Int32) (m_kindNow : Int32) (m_placeNow : Int32) (m_s : Nat → Int32) (m_past : Nat → Int32) (m_text : Nat → Int32) (m_now : Nat → Int32) (m_kept : Nat → Int32) : Option (Int32 × Int32 × Int32 × Int32 × Int32 × Int32 × Int32 × Int32 × Int32 × (Nat → Int32) × (Nat → Int32) × (Nat → Int32) × (Nat → Int32)) :=
((f_X6_plays_L27 F m_typed m_text F (0 : Int32) m_kept m_now m_past m_s (0 : Int32) (0 : Int32) (0 : Int32) m_kindNow m_placeNow m_pasts (0 : Int32)).bind fun e13 =>
((((if e13.2.2.2.2.2.1 = 0 then
some (-1000004 : Int32)
else
some e13.1)) : Option (Int32)).bind fun t74 =>
some (t74, e13.2.2.2.2.2.2.2.2.2.2.1, (0 : Int32), e13.2.2.2.2.2.2.2.2.2.2.2, e13.2.2.2.2.2.1, e13.2.2.2.2.2.2.1, e13.2.2.2.2.2.2.2.1, e13.2.2.2.2.2.2.2.2.1, e13.2.2.2.2.2.2.2.2.2.1, e13.2.2.2.2.1, e13.2.2.2.1, e13.2.2.1, e13.2.1)))
def f_X6_copies_m_s_m_held_L2 (F : Nat) (m_s : Nat → Int32) : Nat → (Int32) → (Nat → Int32) → Option (((Nat → Int32)))
  | 0, _, _ => none
  | n + 1, u1, u2 =>
    (if (116 : Int32) ≤ u1 then
    some u2
    else
    (rd 116 m_s u1).bind fun v9 =>
    (wr 116 u2 u1 v9).bind fun v10 =>
    (some (u1 + (1 : Int32))).bind fun v11 =>
    f_X6_copies_m_s_m_held_L2 F m_s n v11 v10)
def f_X6_copies_m_s_m_held (F : Nat) (m_s : Nat → Int32) (m_held : Nat → Int32) : Option ((Nat → Int32)) :=
((f_X6_copies_m_s_m_held_L2 F m_s F (0 : Int32) m_held).bind fun e3 =>
some e3)
def f_X6_copies_m_held_m_s_L2 (F : Nat) (m_held : Nat → Int32) : Nat → (Int32) → (Nat → Int32) → Option (((Nat → Int32)))
  | 0, _, _ => none
  | n + 1, u1, u2 =>
    (if (116 : Int32) ≤ u1 then
    some u2
    else
    (rd 116 m_held u1).bind fun v9 =>
    (wr 116 u2 u1 v9).bind fun v10 =>
    (some (u1 + (1 : Int32))).bind fun v11 =>
    f_X6_copies_m_held_m_s_L2 F m_held n v11 v10)
def f_X6_copies_m_held_m_s (F : Nat) (m_s : Nat → Int32) (m_held : Nat → Int32) : Option ((Nat → Int32)) :=
((f_X6_copies_m_held_m_s_L2 F m_held F (0 : Int32) m_s).bind fun e3 =>
some e3)
def f_X6_fault (F : Nat) (m_pasts : Int32) (m_runs0 : Int32) (m_typed : Int32) (m_spot : Int32) (m_reason : Int32) (m_cause : Int32) (m_orders : Int32) (m_kindNow : Int32) (m_placeNow : Int32) (m_s : Nat → Int32) (m_past : Nat → Int32) (m_held : Nat → Int32) (m_text : Nat → Int32) (m_now : Nat → Int32) (m_kept : Nat → Int32) (a1 : Int32) : Option (Int32 × Int32 × Int32 × Int32 × Int32 × Int32 × Int32 × Int32 × Int32 × (Nat → Int32) × (Nat → Int32) × (Nat → Int32) × (Nat → Int32) × (Nat → Int32)) :=
(f_X6_in F a1 (0 : Int32) (2 : Int32)).bind fun z1 =>
(if z1 = 0 then
some ((-1000001 : Int32), m_pasts, m_runs0, m_spot, m_reason, m_cause, m_orders, m_kindNow, m_placeNow, m_s, m_past, m_held, m_now, m_kept)
else
(f_X6_copies_m_s_m_held F m_s m_held).bind fun z3 =>
(f_X6_plays F m_pasts m_typed m_kindNow m_placeNow m_s m_past m_text m_now m_kept).bind fun z5 =>
(f_X6_copies_m_held_m_s F z5.2.2.2.2.2.2.2.2.2.1 z3).bind fun z7 =>
((((if z5.1 = (-1000004 : Int32) then
some z5.1
else
(if a1 = 0 then
some z5.1
else
(if a1 = (1 : Int32) then
some z5.2.2.2.2.1
else
some z5.2.2.2.2.2.1)))) : Option (Int32)).bind fun t9 =>
some (t9, z5.2.1, z5.2.2.1, z5.2.2.2.1, z5.2.2.2.2.1, z5.2.2.2.2.2.1, z5.2.2.2.2.2.2.1, z5.2.2.2.2.2.2.2.1, z5.2.2.2.2.2.2.2.2.1, z7, z5.2.2.2.2.2.2.2.2.2.2.1, z3, z5.2.2.2.2.2.2.2.2.2.2.2.1, z5.2.2.2.2.2.2.2.2.2.2.2.2)))
def f_X6_play (F : Nat) (m_pasts : Int32) (m_typed : Int32) (m_kindNow : Int32) (m_placeNow : Int32) (m_s : Nat → Int32) (m_past : Nat → Int32) (m_held : Nat → Int32) (m_text : Nat → Int32) (m_now : Nat → Int32) (m_kept : Nat → Int32) : Option (Int32 × Int32 × Int32 × Int32 × Int32 × Int32 × Int32 × Int32 × Int32 × (Nat → Int32) × (Nat → Int32) × (Nat → Int32) × (Nat → Int32) × (Nat → Int32)) :=
(f_X6_copies_m_s_m_held F m_s m_held).bind fun z1 =>
(f_X6_plays F m_pasts m_typed m_kindNow m_placeNow m_s m_past m_text m_now m_kept).bind fun z3 =>
(f_X6_copies_m_held_m_s F z3.2.2.2.2.2.2.2.2.2.1 z1).bind fun z5 =>
(if z3.1 = (-1000004 : Int32) then
(f_X6_changes F z3.2.1 z3.2.2.1 z5 z3.2.2.2.2.2.2.2.2.2.2.1).bind fun z7 =>
(f_X6_plays F z7.1 m_typed z3.2.2.2.2.2.2.2.1 z3.2.2.2.2.2.2.2.2.1 z5 z7.2 m_text z3.2.2.2.2.2.2.2.2.2.2.2.1 z3.2.2.2.2.2.2.2.2.2.2.2.2).bind fun z9 =>
((((if z9.1 = (-1000004 : Int32) then
some z9.2.2.2.2.2.2.1
else
some (-1000004 : Int32))) : Option (Int32)).bind fun t11 =>
some (t11, z9.2.1, z9.2.2.1, z9.2.2.2.1, z9.2.2.2.2.1, z9.2.2.2.2.2.1, z9.2.2.2.2.2.2.1, z9.2.2.2.2.2.2.2.1, z9.2.2.2.2.2.2.2.2.1, z9.2.2.2.2.2.2.2.2.2.1, z9.2.2.2.2.2.2.2.2.2.2.1, z1, z9.2.2.2.2.2.2.2.2.2.2.2.1, z9.2.2.2.2.2.2.2.2.2.2.2.2))
else
some ((-1000002 : Int32), z3.2.1, z3.2.2.1, z3.2.2.2.1, z3.2.2.2.2.1, z3.2.2.2.2.2.1, z3.2.2.2.2.2.2.1, z3.2.2.2.2.2.2.2.1, z3.2.2.2.2.2.2.2.2.1, z5, z3.2.2.2.2.2.2.2.2.2.2.1, z1, z3.2.2.2.2.2.2.2.2.2.2.2.1, z3.2.2.2.2.2.2.2.2.2.2.2.2))
