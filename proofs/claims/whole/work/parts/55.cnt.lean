def sumF (f : Nat → Nat) : Nat → Nat → Nat
  | _, 0 => 0
  | k, d + 1 => f k + sumF f (k + 1) d
theorem sumF_cong {f g : Nat → Nat} : ∀ (d k : Nat), (∀ i, k ≤ i → i < k + d → f i = g i) → sumF f k d = sumF g k d
  | 0, _, _ => rfl
  | d + 1, k, h => by
    show f k + sumF f (k + 1) d = g k + sumF g (k + 1) d
    rw [h k (Nat.le_refl _) (by omega), sumF_cong d (k + 1) (fun i h1 h2 => h i (by omega) (by omega))]
theorem sumF_le {f : Nat → Nat} {c : Nat} : ∀ (d k : Nat), (∀ i, k ≤ i → i < k + d → f i ≤ c) → sumF f k d ≤ d * c
  | 0, _, _ => Nat.zero_le _
  | d + 1, k, h => by
    have h1 := sumF_le d (k + 1) (fun i a b => h i (by omega) (by omega))
    have h2 := h k (Nat.le_refl _) (by omega)
    show f k + sumF f (k + 1) d ≤ (d + 1) * c
    rw [Nat.add_mul, Nat.one_mul]
    omega
theorem sumF_shift (f : Nat → Nat) : ∀ (d k : Nat), sumF f (k + 1) d = sumF (fun i => f (i + 1)) k d
  | 0, _ => rfl
  | d + 1, k => by
    show f (k + 1) + sumF f (k + 1 + 1) d = f (k + 1) + sumF (fun i => f (i + 1)) (k + 1) d
    rw [sumF_shift f d (k + 1)]
theorem loop_sum {Lp : Nat → Int32 → Int32 → Option Int32} {N : Nat} (lo : Nat) {f : Nat → Nat} (hx : ∀ n a k, N ≤ k → k ≤ N + 1 → Lp (n + 1) a (nI k) = some a) (hs : ∀ n a k, lo ≤ k → k < N → Lp (n + 1) (nI a) (nI k) = Lp n (nI (a + f k)) (nI (k + 1))) : ∀ d n k a, lo ≤ k → d = N - k → k ≤ N + 1 → d < n → Lp n (nI a) (nI k) = some (nI (a + sumF f k d)) := by
  intro d
  induction d with
  | zero =>
    intro n k a hlo hd hk hn
    obtain ⟨m, rfl⟩ : ∃ m, n = m + 1 := ⟨n - 1, by omega⟩
    exact hx m _ k (by omega) hk
  | succ d ih =>
    intro n k a hlo hd hk hn
    obtain ⟨m, rfl⟩ : ∃ m, n = m + 1 := ⟨n - 1, by omega⟩
    rw [hs m a k hlo (by omega), ih m (k + 1) (a + f k) (by omega) (by omega) (by omega) (by omega)]
    show _ = some (nI (a + (f k + sumF f (k + 1) d)))
    rw [Nat.add_assoc]
def letC (r : List Nat) (x : Nat) : Nat := sumF (fun i => if gl r i = x then 1 else 0) 0 r.length
def pc (r : List Nat) (p : Nat) : Nat := sumF (fun k => if 4 * gl r (k - 1) + gl r k = p then 1 else 0) 1 (r.length - 1)
theorem ind_le (c : Prop) [Decidable c] : (if c then 1 else 0 : Nat) ≤ 1 := by
  by_cases h : c
  · rw [if_pos h]; exact Nat.le_refl 1
  · rw [if_neg h]; exact Nat.zero_le 1
theorem letC_le (r : List Nat) (x : Nat) : letC r x ≤ r.length := by
  have := sumF_le (f := fun i => if gl r i = x then 1 else 0) (c := 1) r.length 0 (fun i _ _ => ind_le _)
  unfold letC
  omega
theorem pc_le (r : List Nat) (p : Nat) : pc r p ≤ r.length - 1 := by
  have := sumF_le (f := fun k => if 4 * gl r (k - 1) + gl r k = p then 1 else 0) (c := 1) (r.length - 1) 1 (fun i _ _ => ind_le _)
  unfold pc
  omega
theorem s_lettersIn {F : Nat} (hF : 1100000 ≤ F) {r : List Nat} (h : RowOk r) {x : Nat} (hx : x < 4) : f_X5_lettersIn F (encR r) (nI x) = some (nI (letC r x)) := by
  have hl := h.1
  have key := loop_sum (Lp := f_X5_lettersIn_L4 F (encR r) (nI x)) (N := r.length) 0 (f := fun i => if gl r i = x then 1 else 0) ?_ ?_ r.length F 0 0 (Nat.le_refl _) rfl (by omega) (by omega)
  · unfold f_X5_lettersIn
    rw [show (0 : Int32) = nI 0 from rfl, key, ob_some, Nat.zero_add]
    rfl
  · intro n a k h1 h2
    rw [f_X5_lettersIn_L4, s_lengthOf F h, ob_some, if_pos (nI_le h1 (by omega))]
  · intro n a k _ hk
    have hg := gl_lt h.2 k
    rw [f_X5_lettersIn_L4, s_lengthOf F h, ob_some, if_neg (nI_ge hk (by omega)), s_letterOf F h (by omega), ob_some]
    by_cases e : gl r k = x
    · rw [if_pos (by rw [e]), if_pos e, show (1 : Int32) = nI 1 from rfl, nI_add, ob_some, ob_some, nI_add, ob_some]
    · rw [if_neg (nIlit (by omega) (by omega) e), if_neg e, ob_some, show (1 : Int32) = nI 1 from rfl, nI_add, ob_some]
      rfl
theorem s_letters {F : Nat} (hF : 1100000 ≤ F) {s : Nat → Int32} {S : AS} (h : StM s S) (hr : RowOk S.1) {x : Nat} (hx : x < 4) : f_X6_letters F s (nI x) = some (nI (letC S.1 x)) := by
  have hl := hr.1
  have key := loop_sum (Lp := f_X6_letters_L4 F s (nI x)) (N := S.1.length) 0 (f := fun i => if gl S.1 i = x then 1 else 0) ?_ ?_ S.1.length F 0 0 (Nat.le_refl _) rfl (by omega) (by omega)
  · unfold f_X6_letters
    rw [show (0 : Int32) = nI 0 from rfl, key, ob_some, Nat.zero_add]
    rfl
  · intro n a k h1 h2
    rw [f_X6_letters_L4, rd0 _ (by decide) (by decide), ob_some, h.1, if_pos (nI_le h1 (by omega))]
  · intro n a k _ hk
    have hg := gl_lt hr.2 k
    rw [f_X6_letters_L4, rd0 _ (by decide) (by decide), ob_some, h.1, if_neg (nI_ge hk (by omega)), show (1 : Int32) = nI 1 from rfl, nI_add, rd_ok _ (by omega) (by decide), ob_some, h.2.1 k hk]
    by_cases e : gl S.1 k = x
    · rw [if_pos (by rw [e]), if_pos e, ob_some, nI_add, ob_some, nI_add, ob_some]
    · rw [if_neg (nIlit (by omega) (by omega) e), if_neg e, ob_some, show (0 : Int32) = nI 0 from rfl, nI_add, ob_some, nI_add, ob_some]
theorem s_pairsIn {F : Nat} (hF : 1100000 ≤ F) {r : List Nat} (h : RowOk r) {x y : Nat} (hx : x < 4) (hy : y < 4) : f_X5_pairsIn F (encR r) (nI x) (nI y) = some (nI (pc r (4 * x + y))) := by
  have hl := h.1
  have key := loop_sum (Lp := f_X5_pairsIn_L5 F (encR r) (nI x) (nI y)) (N := r.length) 1 (f := fun k => if 4 * gl r (k - 1) + gl r k = 4 * x + y then 1 else 0) ?_ ?_ (r.length - 1) F 1 0 (Nat.le_refl _) rfl (by omega) (by omega)
  · unfold f_X5_pairsIn
    rw [show (0 : Int32) = nI 0 from rfl, show (1 : Int32) = nI 1 from rfl, key, ob_some, Nat.zero_add]
    rfl
  · intro n a k h1 h2
    rw [f_X5_pairsIn_L5, s_lengthOf F h, ob_some, if_pos (nI_le h1 (by omega))]
  · intro n a k hk1 hk
    have hg := gl_lt h.2 k
    have hg2 := gl_lt h.2 (k - 1)
    rw [f_X5_pairsIn_L5, s_lengthOf F h, ob_some, if_neg (nI_ge hk (by omega)), show (1 : Int32) = nI 1 from rfl, nI_sub hk1, s_letterOf F h (by omega), ob_some]
    by_cases e : gl r (k - 1) = x
    · rw [if_pos (by rw [e]), s_letterOf F h (by omega), ob_some]
      by_cases e2 : gl r k = y
      · rw [if_pos (by rw [e2]), if_pos (by omega), nI_add, ob_some, ob_some, nI_add, ob_some]
      · rw [if_neg (nIlit (by omega) (by omega) e2), if_neg (by omega), ob_some, nI_add, ob_some]
        rfl
    · rw [if_neg (nIlit (by omega) (by omega) e), if_neg (by omega), ob_some, nI_add, ob_some]
      rfl
theorem s_often {F : Nat} (hF : 1100000 ≤ F) {nb from_ many : Nat} {b : Nat → Int32} {g : Nat → Nat} (hb : from_ + many ≤ nb) (hnb : nb < 2 ^ 20) (hm : many ≤ 10) (hv : ∀ i, i < many → b (from_ + i) = nI (g i) ∧ g i < 4) {p : Nat} (hp : p < 16) : f_X6_often F nb b (nI from_) (nI many) (nI p) = some (nI (sumF (fun k => if 4 * g (k - 1) + g k = p then 1 else 0) 1 (many - 1))) := by
  have key := loop_sum (Lp := f_X6_often_L6 F nb b (nI from_) (nI many) (nI p)) (N := many) 1 (f := fun k => if 4 * g (k - 1) + g k = p then 1 else 0) ?_ ?_ (many - 1) F 1 0 (Nat.le_refl _) rfl (by omega) (by omega)
  · unfold f_X6_often
    rw [show (0 : Int32) = nI 0 from rfl, show (1 : Int32) = nI 1 from rfl, key, ob_some, Nat.zero_add]
  · intro n a k h1 h2
    rw [f_X6_often_L6, if_pos (nI_le h1 (by omega))]
  · intro n a k hk1 hk
    obtain ⟨v1, g1⟩ := hv k hk
    obtain ⟨v2, g2⟩ := hv (k - 1) (by omega)
    rw [f_X6_often_L6, if_neg (nI_ge hk (by omega)), nI_add, show (1 : Int32) = nI 1 from rfl, nI_sub (by omega), rd_ok _ (by omega) (by omega), ob_some, rd_ok _ (by omega) (by omega), ob_some, show from_ + k - 1 = from_ + (k - 1) by omega, v1, v2, show (4 : Int32) = nI 4 from rfl, nI_mul, nI_add]
    by_cases e : 4 * g (k - 1) + g k = p
    · rw [if_pos (by rw [e]), if_pos e, ob_some, nI_add, ob_some, nI_add, ob_some]
    · rw [if_neg (nIlit (by omega) (by omega) e), if_neg e, ob_some, show (0 : Int32) = nI 0 from rfl, nI_add, ob_some, nI_add, ob_some]
theorem s_pairs {F : Nat} (hF : 1100000 ≤ F) {s : Nat → Int32} {S : AS} (h : StM s S) (hr : RowOk S.1) {p : Nat} (hp : p < 16) : f_X6_pairs F s (nI p) = some (nI (pc S.1 p)) := by
  have hl := hr.1
  unfold f_X6_pairs
  rw [rd0 _ (by decide) (by decide), ob_some, h.1, show (1 : Int32) = nI 1 from rfl, s_often hF (from_ := 1) (g := gl S.1) (by omega) (by decide) hl (fun i hi => ⟨h.2.1 i hi, gl_lt hr.2 i⟩) hp, ob_some]
  rfl
-- the greatest common divisor
