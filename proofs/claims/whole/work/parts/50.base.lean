def bt (x : Int32) (i : Nat) : Bool := x.toBitVec.getLsbD i
theorem b_ext {x y : Int32} (h : ∀ i, i < 32 → bt x i = bt y i) : x = y := Int32.toBitVec_inj.mp (BitVec.eq_of_getLsbD_eq (fun i hi => h i hi))
theorem b_or (x y : Int32) (i : Nat) : bt (x ||| y) i = (bt x i || bt y i) := by unfold bt; rw [Int32.toBitVec_or, BitVec.getLsbD_or]
theorem b_and (x y : Int32) (i : Nat) : bt (x &&& y) i = (bt x i && bt y i) := by unfold bt; rw [Int32.toBitVec_and, BitVec.getLsbD_and]
theorem b_xor (x y : Int32) (i : Nat) : bt (x ^^^ y) i = (bt x i ^^ bt y i) := by unfold bt; rw [Int32.toBitVec_xor, BitVec.getLsbD_xor]
theorem b_big {x : Int32} {i : Nat} (h : 32 ≤ i) : bt x i = false := BitVec.getLsbD_of_ge _ _ h
theorem b_255 (i : Nat) : bt 255 i = decide (i < 8) := by
  rcases Nat.lt_or_ge i 32 with h | h
  · exact (by decide +kernel : ∀ i, i < 32 → bt 255 i = decide (i < 8)) i h
  · rw [b_big h, decide_eq_false (by omega)]
theorem b_65535 (i : Nat) : bt 65535 i = decide (i < 16) := by
  rcases Nat.lt_or_ge i 32 with h | h
  · exact (by decide +kernel : ∀ i, i < 32 → bt 65535 i = decide (i < 16)) i h
  · rw [b_big h, decide_eq_false (by omega)]
theorem b_m1 : ∀ i, i < 32 → bt (-1) i = true := by decide +kernel
theorem b_0 (i : Nat) : bt 0 i = false := BitVec.getLsbD_zero
theorem s_l : ∀ n, n < 32 → ((nI n &&& 31).toBitVec.smod 32).toNat = n := by decide +kernel
theorem s_u : ∀ n, n < 32 → (((nI n).toUInt32 &&& Int32.toUInt32 31).toBitVec % 32).toNat = n := by decide +kernel
theorem b_shl (n : Nat) (hn : n < 32) (x : Int32) {i : Nat} (hi : i < 32) : bt (x <<< (nI n &&& 31)) i = (decide (n ≤ i) && bt x (i - n)) := by
  unfold bt
  rw [Int32.toBitVec_shiftLeft]
  show (x.toBitVec <<< ((nI n &&& 31).toBitVec.smod 32).toNat).getLsbD i = _
  rw [s_l n hn, BitVec.getLsbD_shiftLeft]
  rcases Nat.lt_or_ge i n with h | h
  · simp [h, Nat.not_le.mpr h]
  · simp [hi, h, Nat.not_lt.mpr h]
theorem b_ushr (n : Nat) (hn : n < 32) (x : Int32) (i : Nat) : bt ((x.toUInt32 >>> ((nI n).toUInt32 &&& Int32.toUInt32 31)).toInt32) i = bt x (n + i) := by
  show (x.toUInt32 >>> ((nI n).toUInt32 &&& Int32.toUInt32 31)).toBitVec.getLsbD i = x.toUInt32.toBitVec.getLsbD (n + i)
  rw [UInt32.toBitVec_shiftRight]
  show (x.toUInt32.toBitVec >>> (((nI n).toUInt32 &&& Int32.toUInt32 31).toBitVec % 32).toNat).getLsbD i = _
  rw [s_u n hn, BitVec.getLsbD_ushiftRight]
theorem fa_and (a b : Nat) : nI a &&& nI b = nI (a &&& b) := by
  apply Int32.toBitVec_inj.1
  show BitVec.ofNat 32 a &&& BitVec.ofNat 32 b = BitVec.ofNat 32 (a &&& b)
  apply BitVec.eq_of_getLsbD_eq
  intro i hi
  simp [hi]
theorem fa_or (a b : Nat) : nI a ||| nI b = nI (a ||| b) := by
  apply Int32.toBitVec_inj.1
  show BitVec.ofNat 32 a ||| BitVec.ofNat 32 b = BitVec.ofNat 32 (a ||| b)
  apply BitVec.eq_of_getLsbD_eq
  intro i hi
  simp [hi]
/-- a remainder by a power of two, as a mask -/
theorem fa_mask (n k : Nat) : nI n &&& nI (2 ^ k - 1) = nI (n % 2 ^ k) := by rw [fa_and, Nat.and_two_pow_sub_one_eq_mod]
/-- 'or' of a high part and a low one that don't meet is their sum -/
theorem fa_or_sum {a k : Nat} (b : Nat) (h : a < 2 ^ k) : nI (2 ^ k * b) ||| nI a = nI (2 ^ k * b + a) := by rw [fa_or, Nat.two_pow_add_eq_or_of_lt h]
/-- one bit, by 'and' with a power of two -/

-- ===== numbers
theorem nI_bt (n i : Nat) (hi : i < 32) : bt (nI n) i = n.testBit i := by
  show (BitVec.ofNat 32 n).getLsbD i = _
  rw [BitVec.getLsbD_ofNat]
  simp [hi]
theorem nI_inj {a b : Nat} (ha : a < 2 ^ 32) (hb : b < 2 ^ 32) (h : nI a = nI b) : a = b := by
  have h1 : (BitVec.ofNat 32 a).toNat = (BitVec.ofNat 32 b).toNat := congrArg (fun x : Int32 => x.toBitVec.toNat) h
  rw [BitVec.toNat_ofNat, BitVec.toNat_ofNat, Nat.mod_eq_of_lt ha, Nat.mod_eq_of_lt hb] at h1
  exact h1
theorem nI_mul (a b : Nat) : nI a * nI b = nI (a * b) := by
  apply Int32.toBitVec_inj.mp
  rw [Int32.toBitVec_mul]
  show BitVec.ofNat 32 a * BitVec.ofNat 32 b = BitVec.ofNat 32 (a * b)
  exact (BitVec.ofNat_mul a b).symm
theorem nI_sub {a b : Nat} (h : b ≤ a) : nI a - nI b = nI (a - b) := by
  obtain ⟨c, rfl⟩ : ∃ c, a = c + b := ⟨a - b, by omega⟩
  rw [← nI_add, Int32.add_sub_cancel, Nat.add_sub_cancel]
theorem ushr_nI {n j : Nat} (hn : n < 2 ^ 32) (hj : j < 32) : ushr (nI n) (nI j) = nI (n / 2 ^ j) := by
  apply b_ext
  intro i hi
  have h1 : bt (ushr (nI n) (nI j)) i = bt (nI n) (j + i) := b_ushr j hj (nI n) i
  rw [h1, nI_bt _ _ hi, Nat.testBit_div_two_pow]
  rcases Nat.lt_or_ge (j + i) 32 with h | h
  · rw [nI_bt _ _ h, Nat.add_comm]
  · rw [b_big h]
    symm
    rw [Nat.add_comm]
    exact Nat.testBit_lt_two_pow (Nat.lt_of_lt_of_le hn (Nat.pow_le_pow_right (by decide) h))
theorem shl_nI (a : Nat) {k : Nat} (hk : k < 32) : nI a <<< (nI k &&& 31) = nI (a * 2 ^ k) := by
  apply b_ext
  intro i hi
  rw [b_shl k hk _ hi, nI_bt _ _ hi, Nat.testBit_mul_two_pow]
  rcases Nat.lt_or_ge i k with h | h
  · simp [Nat.not_le.mpr h]
  · rw [nI_bt _ _ (by omega)]
theorem and3 (n : Nat) : nI n &&& (3 : Int32) = nI (n % 4) := fa_mask n 2
theorem ob_some {α β : Type} (a : α) (k : α → Option β) : (some a).bind k = k a := rfl
theorem nI_ne {a b : Nat} (ha : a < 2 ^ 31) (hb : b < 2 ^ 31) : nI a = nI b ↔ a = b := nI_eq ha hb
theorem nI_div {a b : Nat} (ha : a < 2 ^ 31) (hb0 : 0 < b) (hb : b < 2 ^ 31) : nI a / nI b = nI (a / b) := pk_div ha hb0 hb
theorem nI_irem {a b : Nat} (ha : a < 2 ^ 31) (hb0 : 0 < b) (hb : b < 2 ^ 31) : irem (nI a) (nI b) = nI (a % b) := pk_rem ha hb0 hb
-- ===== rows
def gl (r : List Nat) (i : Nat) : Nat := r.getD i 0
def RowOk (r : List Nat) : Prop := r.length ≤ 10 ∧ ∀ x ∈ r, x < 4
def valN : List Nat → Nat
  | [] => 0
  | x :: l => x + 4 * valN l
def encR (r : List Nat) : Int32 := nI (2 ^ 20 * r.length + valN r)
theorem valN_lt : ∀ {r : List Nat}, (∀ x ∈ r, x < 4) → valN r < 4 ^ r.length
  | [], _ => by decide
  | x :: l, h => by
    have h1 := valN_lt (r := l) (fun y hy => h y (List.mem_cons_of_mem _ hy))
    have h2 := h x List.mem_cons_self
    rw [List.length_cons, Nat.pow_succ]
    unfold valN
    omega
theorem valN_app (r : List Nat) (x : Nat) : valN (r ++ [x]) = valN r + x * 4 ^ r.length := by
  induction r with
  | nil => show x + 4 * 0 = 0 + x * 1; omega
  | cons y l ih =>
    show y + 4 * valN (l ++ [x]) = y + 4 * valN l + x * 4 ^ (l.length + 1)
    rw [ih, Nat.pow_succ, Nat.mul_add, Nat.add_assoc]
    congr 2
    rw [Nat.mul_comm 4, Nat.mul_assoc]
theorem valN_at : ∀ (r : List Nat) (i : Nat), (∀ x ∈ r, x < 4) → valN r / 4 ^ i % 4 = gl r i
  | [], i, _ => by
    show 0 / 4 ^ i % 4 = _
    rw [Nat.zero_div]
    rfl
  | x :: l, 0, h => by
    have h2 := h x List.mem_cons_self
    show (x + 4 * valN l) / 1 % 4 = x
    omega
  | x :: l, i + 1, h => by
    have h2 := h x List.mem_cons_self
    have h3 := valN_at l i (fun y hy => h y (List.mem_cons_of_mem _ hy))
    show (x + 4 * valN l) / 4 ^ (i + 1) % 4 = gl l i
    rw [← h3, Nat.pow_succ, Nat.mul_comm (4 ^ i) 4, ← Nat.div_div_eq_div_mul]
    congr 2
    omega
theorem p4 (i : Nat) : (2 : Nat) ^ (2 * i) = 4 ^ i := by rw [Nat.pow_mul]
theorem gl_lt {r : List Nat} (h : ∀ x ∈ r, x < 4) (i : Nat) : gl r i < 4 := by
  rw [← valN_at r i h]
  exact Nat.mod_lt _ (by decide)
theorem encR_bd {r : List Nat} (h : RowOk r) : 2 ^ 20 * r.length + valN r < 2 ^ 24 := by
  have h1 := valN_lt h.2
  have h2 : 4 ^ r.length ≤ 4 ^ 10 := Nat.pow_le_pow_right (by decide) h.1
  have h3 := h.1
  omega
theorem valN_20 {r : List Nat} (h : RowOk r) : valN r < 2 ^ 20 := by
  have h1 := valN_lt h.2
  have h2 : 4 ^ r.length ≤ 4 ^ 10 := Nat.pow_le_pow_right (by decide) h.1
  omega
theorem s_lengthOf (F : Nat) {r : List Nat} (h : RowOk r) : f_X5_lengthOf F (encR r) = some (nI r.length) := by
  unfold f_X5_lengthOf encR
  have h1 := encR_bd h
  have h2 := valN_20 h
  rw [show (20 : Int32) = nI 20 from rfl, ushr_nI (by omega) (by decide)]
  congr 2
  rw [Nat.mul_comm, Nat.add_comm, Nat.add_mul_div_right _ _ (by decide), Nat.div_eq_of_lt h2, Nat.zero_add]
theorem row_digit {r : List Nat} (h : RowOk r) {i : Nat} (hi : i < 10) : (2 ^ 20 * r.length + valN r) / 4 ^ i % 4 = gl r i := by
  obtain ⟨k, hk⟩ : ∃ k, 10 = i + (k + 1) := ⟨9 - i, by omega⟩
  have e : 2 ^ 20 * r.length = (4 ^ k * 4 * r.length) * 4 ^ i := by
    have : (2 : Nat) ^ 20 = 4 ^ i * (4 ^ k * 4) := by
      rw [← Nat.pow_succ, ← Nat.pow_add, ← hk]
    rw [this, Nat.mul_comm (4 ^ i) (4 ^ k * 4), Nat.mul_assoc, Nat.mul_comm (4 ^ i) r.length, ← Nat.mul_assoc]
  rw [e, Nat.add_comm, Nat.add_mul_div_right _ _ (Nat.pow_pos (by decide)), ← valN_at r i h.2]
  rw [Nat.mul_assoc, Nat.mul_comm 4 r.length, ← Nat.mul_assoc, Nat.add_mul_mod_self_right]
theorem s_letterOf (F : Nat) {r : List Nat} (h : RowOk r) {i : Nat} (hi : i < 10) : f_X5_letterOf F (encR r) (nI i) = some (nI (gl r i)) := by
  unfold f_X5_letterOf encR
  have h1 := encR_bd h
  rw [show (2 : Int32) = nI 2 from rfl, nI_mul, ushr_nI (by omega) (by omega), and3, p4, row_digit h hi]
theorem RowOk.snoc {r : List Nat} (h : RowOk r) (hl : r.length < 10) {x : Nat} (hx : x < 4) : RowOk (r ++ [x]) := by
  refine ⟨by rw [List.length_append]; show r.length + 1 ≤ 10; omega, fun y hy => ?_⟩
  rcases List.mem_append.mp hy with h1 | h1
  · exact h.2 y h1
  · rw [List.mem_singleton.mp h1]; exact hx
theorem s_longer (F : Nat) {r : List Nat} (h : RowOk r) (hl : r.length < 10) {x : Nat} (hx : x < 4) : f_X5_longer F (encR r) (nI x) = some (encR (r ++ [x])) := by
  unfold f_X5_longer
  rw [s_lengthOf F h, ob_some, if_pos (show nI r.length < (10 : Int32) from nI_lt hl (by decide))]
  have hv := valN_lt h.2
  have h20 := valN_20 h
  congr 1
  unfold encR
  rw [show (1048576 : Int32) = nI (2 ^ 20) from rfl, nI_add, and3, Nat.mod_eq_of_lt hx, show (2 : Int32) = nI 2 from rfl, nI_mul, shl_nI x (by omega), fa_or, p4]
  congr 1
  rw [valN_app, List.length_append]
  show 2 ^ 20 * r.length + valN r + 2 ^ 20 ||| x * 4 ^ r.length = 2 ^ 20 * (r.length + 1) + (valN r + x * 4 ^ r.length)
  have e1 : 2 ^ 20 * r.length + valN r + 2 ^ 20 = 2 ^ 20 * (r.length + 1) + valN r := by omega
  have e2 : valN r + x * 4 ^ r.length < 2 ^ 20 := by
    have h5 : x * 4 ^ r.length ≤ 3 * 4 ^ r.length := Nat.mul_le_mul_right _ (by omega)
    have h6 : 4 ^ (r.length + 1) ≤ 4 ^ 10 := Nat.pow_le_pow_right (by decide) (by omega)
    rw [Nat.pow_succ] at h6
    omega
  rw [e1, Nat.two_pow_add_eq_or_of_lt h20, Nat.two_pow_add_eq_or_of_lt e2, Nat.or_assoc]
  congr 1
  rw [Nat.mul_comm x, ← p4, Nat.add_comm, Nat.two_pow_add_eq_or_of_lt (by rw [p4]; exact hv), Nat.or_comm]
theorem encR_nil : encR [] = (0 : Int32) := rfl
theorem encR_0 {r : List Nat} (h : RowOk r) : encR r = (0 : Int32) ↔ r = [] := by
  refine ⟨fun e => ?_, fun e => by rw [e]; rfl⟩
  have h1 := encR_bd h
  have h2 : 2 ^ 20 * r.length + valN r = 0 := nI_inj (by omega) (by decide) e
  exact List.length_eq_zero_iff.mp (by omega)
theorem encR_inj {r q : List Nat} (h : RowOk r) (hq : RowOk q) (e : encR r = encR q) : r = q := by
  have h1 := encR_bd h
  have h2 := encR_bd hq
  have h3 : 2 ^ 20 * r.length + valN r = 2 ^ 20 * q.length + valN q := nI_inj (by omega) (by omega) e
  have h4 := valN_20 h
  have h5 := valN_20 hq
  have hlen : r.length = q.length := by omega
  apply List.ext_getElem hlen
  intro i hi hi2
  have a := row_digit h (i := i) (by have := h.1; omega)
  have b := row_digit hq (i := i) (by have := h.1; omega)
  rw [h3, b] at a
  have a2 : gl q i = gl r i := a
  unfold gl at a2
  simp only [List.getD_eq_getElem?_getD, List.getElem?_eq_getElem hi, List.getElem?_eq_getElem hi2, Option.getD_some] at a2
  exact a2.symm
