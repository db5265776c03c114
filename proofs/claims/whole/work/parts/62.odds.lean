/-! odds: the parts of a set, in order -/
def pdp : Nat → Nat → Nat → Nat
  | 0, _, _ => 0
  | w + 1, f, i => if f % 2 = 1 then 2 * pdp w (f / 2) (i / 2) + i % 2 else 2 * pdp w (f / 2) i
theorem pdp_s (w f i : Nat) : pdp (w + 1) f i = if f % 2 = 1 then 2 * pdp w (f / 2) (i / 2) + i % 2 else 2 * pdp w (f / 2) i := rfl
theorem and2 (a b : Nat) {x y : Nat} (hx : x < 2) (hy : y < 2) : (2 * a + x) &&& (2 * b + y) = 2 * (a &&& b) + x * y := by
  apply Nat.eq_of_testBit_eq
  intro i
  cases i with
  | zero =>
    rw [Nat.testBit_and, Nat.testBit_zero, Nat.testBit_zero, Nat.testBit_zero]
    rcases (show x = 0 ∨ x = 1 by omega) with rfl | rfl <;> rcases (show y = 0 ∨ y = 1 by omega) with rfl | rfl
    · rw [decide_eq_false (show ¬ (2 * a + 0) % 2 = 1 by omega), decide_eq_false (show ¬ (2 * (a &&& b) + 0 * 0) % 2 = 1 by omega)]; rfl
    · rw [decide_eq_false (show ¬ (2 * a + 0) % 2 = 1 by omega), decide_eq_false (show ¬ (2 * (a &&& b) + 0 * 1) % 2 = 1 by omega)]; rfl
    · rw [decide_eq_false (show ¬ (2 * b + 0) % 2 = 1 by omega), decide_eq_false (show ¬ (2 * (a &&& b) + 1 * 0) % 2 = 1 by omega), Bool.and_false]
    · rw [decide_eq_true (show (2 * a + 1) % 2 = 1 by omega), decide_eq_true (show (2 * b + 1) % 2 = 1 by omega), decide_eq_true (show (2 * (a &&& b) + 1 * 1) % 2 = 1 by omega)]; rfl
  | succ i =>
    have e : (2 * (a &&& b) + x * y) / 2 = a &&& b := by
      rcases (show x = 0 ∨ x = 1 by omega) with rfl | rfl <;> rcases (show y = 0 ∨ y = 1 by omega) with rfl | rfl <;> omega
    rw [Nat.testBit_and, Nat.testBit_succ, Nat.testBit_succ, Nat.testBit_succ, e, show (2 * a + x) / 2 = a by omega, show (2 * b + y) / 2 = b by omega, Nat.testBit_and]
theorem pdp_B : ∀ (w f i : Nat), f < 2 ^ w → (pdp w f i + (2 ^ w - 1 - f)) &&& f = pdp w f i
  | 0, f, i, h => by
    have : f = 0 := by omega
    subst this
    exact Nat.and_zero _
  | w + 1, f, i, h => by
    have e2 : 2 ^ (w + 1) = 2 * 2 ^ w := by rw [Nat.pow_succ]; omega
    rw [e2] at h ⊢
    have b1 := pdp_B w (f / 2) (i / 2) (by omega)
    have b2 := pdp_B w (f / 2) i (by omega)
    rw [pdp_s]
    generalize 2 ^ w = N at *
    by_cases e : f % 2 = 1
    · rw [if_pos e]
      generalize pdp w (f / 2) (i / 2) = p at *
      have key := and2 (p + (N - 1 - f / 2)) (f / 2) (x := i % 2) (y := 1) (by omega) (by omega)
      rw [b1, Nat.mul_one, show 2 * (f / 2) + 1 = f by omega, show 2 * (p + (N - 1 - f / 2)) + i % 2 = 2 * p + i % 2 + (2 * N - 1 - f) by omega] at key
      exact key
    · rw [if_neg e]
      generalize pdp w (f / 2) i = p at *
      have key := and2 (p + (N - 1 - f / 2)) (f / 2) (x := 1) (y := 0) (by omega) (by omega)
      rw [b2, Nat.mul_zero, Nat.add_zero, Nat.add_zero, show 2 * (f / 2) = f by omega, show 2 * (p + (N - 1 - f / 2)) + 1 = 2 * p + (2 * N - 1 - f) by omega] at key
      exact key
theorem pdp_A : ∀ (w f i : Nat), f < 2 ^ w → (pdp w f i + (2 ^ w - f)) &&& f = pdp w f (i + 1)
  | 0, f, i, h => by
    have : f = 0 := by omega
    subst this
    exact Nat.and_zero _
  | w + 1, f, i, h => by
    have e2 : 2 ^ (w + 1) = 2 * 2 ^ w := by rw [Nat.pow_succ]; omega
    rw [e2] at h ⊢
    have b1 := pdp_A w (f / 2) (i / 2) (by omega)
    have b2 := pdp_A w (f / 2) i (by omega)
    have b3 := pdp_B w (f / 2) (i / 2) (by omega)
    rw [pdp_s, pdp_s]
    generalize 2 ^ w = N at *
    by_cases e : f % 2 = 1
    · rw [if_pos e, if_pos e]
      by_cases r : i % 2 = 1
      · rw [show (i + 1) / 2 = i / 2 + 1 by omega, show (i + 1) % 2 = 0 by omega, r]
        generalize pdp w (f / 2) (i / 2) = p at *
        have key := and2 (p + (N - f / 2)) (f / 2) (x := 0) (y := 1) (by omega) (by omega)
        rw [b1, Nat.mul_one, show 2 * (f / 2) + 1 = f by omega, show 2 * (p + (N - f / 2)) + 0 = 2 * p + 1 + (2 * N - f) by omega] at key
        exact key
      · rw [show (i + 1) / 2 = i / 2 by omega, show (i + 1) % 2 = 1 by omega, show i % 2 = 0 by omega]
        generalize pdp w (f / 2) (i / 2) = p at *
        have key := and2 (p + (N - 1 - f / 2)) (f / 2) (x := 1) (y := 1) (by omega) (by omega)
        rw [b3, Nat.mul_one, show 2 * (f / 2) + 1 = f by omega, show 2 * (p + (N - 1 - f / 2)) + 1 = 2 * p + 0 + (2 * N - f) by omega] at key
        exact key
    · rw [if_neg e, if_neg e]
      generalize pdp w (f / 2) i = p at *
      have key := and2 (p + (N - f / 2)) (f / 2) (x := 0) (y := 0) (by omega) (by omega)
      rw [b2, Nat.mul_zero, Nat.add_zero, Nat.add_zero, Nat.add_zero, show 2 * (f / 2) = f by omega, show 2 * (p + (N - f / 2)) = 2 * p + (2 * N - f) by omega] at key
      exact key
theorem pdp_w : ∀ (w f i : Nat), f < 2 ^ w → pdp (w + 1) f i = pdp w f i
  | 0, f, i, h => by
    have : f = 0 := by omega
    subst this
    rfl
  | w + 1, f, i, h => by
    have e2 : 2 ^ (w + 1) = 2 * 2 ^ w := by rw [Nat.pow_succ]; omega
    rw [e2] at h
    rw [pdp_s (w + 1), pdp_w w (f / 2) (i / 2) (by omega), pdp_w w (f / 2) i (by omega), ← pdp_s]
theorem pdp_d (w f i : Nat) (h : f < 2 ^ w) : ∀ d, pdp (w + d) f i = pdp w f i
  | 0 => rfl
  | d + 1 => by
    rw [show w + (d + 1) = (w + d) + 1 from rfl, pdp_w (w + d) f i (Nat.lt_of_lt_of_le h (Nat.pow_le_pow_right (by decide) (by omega))), pdp_d w f i h d]
theorem pdp_sub (w f i : Nat) (h : f < 2 ^ w) : pdp w f i &&& f = pdp w f i := by
  have b := pdp_B w f i h
  generalize pdp w f i = p at *
  generalize p + (2 ^ w - 1 - f) = t at *
  rw [← b, Nat.and_assoc, Nat.and_self]
theorem pdp_le (w f i : Nat) (h : f < 2 ^ w) : pdp w f i ≤ f := by
  rw [← pdp_sub w f i h]
  exact Nat.and_le_right
theorem nI_wrap (m : Nat) : nI (2 ^ 32 + m) = nI m := by
  apply b_ext
  intro i hi
  rw [bt_nI _ hi, bt_nI _ hi, Nat.testBit_two_pow_add_gt hi]
theorem pdp_nx {f : Nat} (hf : f < 2 ^ 14) (i : Nat) : (nI (pdp 14 f i) - nI f) &&& nI f = nI (pdp 14 f (i + 1)) := by
  have a := pdp_A (14 + 18) f i (by omega)
  rw [pdp_d 14 f i hf 18, pdp_d 14 f (i + 1) hf 18] at a
  generalize pdp 14 f i = m at *
  have e : nI (m + (2 ^ (14 + 18) - f)) + nI f = nI m := by
    rw [nI_add, show m + (2 ^ (14 + 18) - f) + f = 2 ^ 32 + m by omega, nI_wrap]
  rw [← e, Int32.add_sub_cancel, nI_land, a]
def sumN (F : Nat → Nat) : Nat → Nat
  | 0 => 0
  | k + 1 => sumN F k + F k
theorem sumN_s (F : Nat → Nat) (k : Nat) : sumN F (k + 1) = sumN F k + F k := rfl
theorem sum2 (F : Nat → Nat) : ∀ M, sumN F (2 * M) = sumN (fun m => F (2 * m) + F (2 * m + 1)) M
  | 0 => rfl
  | M + 1 => by
    rw [show 2 * (M + 1) = 2 * M + 1 + 1 by omega, sumN_s, sumN_s, sum2 F M, sumN_s, Nat.add_assoc]
theorem sumN_congr {F G : Nat → Nat} : ∀ {k : Nat}, (∀ m, m < k → F m = G m) → sumN F k = sumN G k
  | 0, _ => rfl
  | k + 1, h => by rw [sumN_s, sumN_s, sumN_congr (fun m hm => h m (by omega)), h k (by omega)]
theorem sumN_cut {F : Nat → Nat} {k : Nat} (h : ∀ m, k ≤ m → F m = 0) : ∀ d, sumN F (k + d) = sumN F k
  | 0 => rfl
  | d + 1 => by rw [show k + (d + 1) = (k + d) + 1 from rfl, sumN_s, sumN_cut h d, h (k + d) (by omega), Nat.add_zero]
theorem sumN_le {F : Nat → Nat} {B : Nat} (h : ∀ m, F m ≤ B) : ∀ k, sumN F k ≤ k * B
  | 0 => by rw [Nat.zero_mul]; exact Nat.le_refl _
  | k + 1 => by
    have := sumN_le h k
    have := h k
    rw [sumN_s, Nat.add_mul, Nat.one_mul]
    omega
def pcw : Nat → Nat → Nat
  | 0, _ => 0
  | w + 1, f => f % 2 + pcw w (f / 2)
theorem pcw_s (w f : Nat) : pcw (w + 1) f = f % 2 + pcw w (f / 2) := rfl
theorem pcw_mkn : ∀ (w f : Nat), pcw w f = mkn (Nat.testBit f) w
  | 0, _ => rfl
  | w + 1, f => by
    rw [pcw_s, pcw_mkn w (f / 2), Nat.add_comm w 1, mkn_add]
    have e : mkn (fun i => Nat.testBit f (1 + i)) w = mkn (Nat.testBit (f / 2)) w := mkn_congr (fun k _ => by rw [Nat.add_comm 1 k, Nat.testBit_succ])
    rw [e]
    congr 1
    show f % 2 = 0 + if Nat.testBit f 0 then 1 else 0
    rw [Nat.testBit_zero]
    by_cases q : f % 2 = 1
    · rw [decide_eq_true q, if_pos rfl, q]
    · rw [decide_eq_false q, if_neg (by decide)]; omega
theorem sum_pd : ∀ (w f : Nat) (g : Nat → Nat), f < 2 ^ w → sumN (fun i => g (pdp w f i)) (2 ^ pcw w f) = sumN (fun m => if m &&& f = m then g m else 0) (2 ^ w)
  | 0, f, g, h => by
    have : f = 0 := by omega
    subst this
    show 0 + g 0 = 0 + if 0 &&& 0 = 0 then g 0 else 0
    rw [if_pos (Nat.and_zero 0)]
  | w + 1, f, g, h => by
    have e2 : 2 ^ (w + 1) = 2 * 2 ^ w := by rw [Nat.pow_succ]; omega
    rw [e2] at h ⊢
    rw [sum2, pcw_s]
    by_cases e : f % 2 = 1
    · have ih := sum_pd w (f / 2) (fun m => g (2 * m) + g (2 * m + 1)) (by omega)
      rw [e, show 2 ^ (1 + pcw w (f / 2)) = 2 * 2 ^ pcw w (f / 2) by rw [Nat.add_comm, Nat.pow_succ]; omega, sum2]
      refine Eq.trans (sumN_congr (fun i _ => ?_)) (ih.trans (sumN_congr (fun m _ => ?_)))
      · rw [pdp_s, pdp_s, if_pos e, if_pos e, show 2 * i / 2 = i by omega, show 2 * i % 2 = 0 by omega, show (2 * i + 1) / 2 = i by omega, show (2 * i + 1) % 2 = 1 by omega]
        rfl
      · have k0 := and2 m (f / 2) (x := 0) (y := 1) (by omega) (by omega)
        have k1 := and2 m (f / 2) (x := 1) (y := 1) (by omega) (by omega)
        rw [show 2 * (f / 2) + 1 = f by omega] at k0 k1
        by_cases q : m &&& f / 2 = m
        · rw [if_pos q, if_pos (show 2 * m &&& f = 2 * m by rw [show 2 * m = 2 * m + 0 from rfl, k0, q]), if_pos (show 2 * m + 1 &&& f = 2 * m + 1 by rw [k1, q])]
        · rw [if_neg q, if_neg (show ¬ 2 * m &&& f = 2 * m by rw [show 2 * m = 2 * m + 0 from rfl, k0]; omega), if_neg (show ¬ 2 * m + 1 &&& f = 2 * m + 1 by rw [k1]; omega)]
    · have ih := sum_pd w (f / 2) (fun m => g (2 * m)) (by omega)
      rw [show f % 2 = 0 by omega, Nat.zero_add]
      refine Eq.trans (sumN_congr (fun i _ => ?_)) (ih.trans (sumN_congr (fun m _ => ?_)))
      · rw [pdp_s, if_neg e]
      · have k0 := and2 m (f / 2) (x := 0) (y := 0) (by omega) (by omega)
        have k1 := and2 m (f / 2) (x := 1) (y := 0) (by omega) (by omega)
        rw [show 2 * (f / 2) + 0 = f by omega] at k0 k1
        rw [if_neg (show ¬ 2 * m + 1 &&& f = 2 * m + 1 by rw [k1]; omega), Nat.add_zero]
        by_cases q : m &&& f / 2 = m
        · rw [if_pos q, if_pos (show 2 * m &&& f = 2 * m by rw [show 2 * m = 2 * m + 0 from rfl, k0, q])]
        · rw [if_neg q, if_neg (show ¬ 2 * m &&& f = 2 * m by rw [show 2 * m = 2 * m + 0 from rfl, k0]; omega)]
/-! the greatest common divisor -/
theorem gcd_st (x y : Nat) : Nat.gcd x y = Nat.gcd y (x % y) := by rw [Nat.gcd_comm x y, Nat.gcd_rec, Nat.gcd_comm]
theorem rem_half {y r : Nat} (hr : 0 < r) (hy : r < y) : 2 * (y % r) < y := by
  have h1 := Nat.mod_lt y hr
  have h2 := Nat.div_add_mod y r
  have h3 : 1 ≤ y / r := (Nat.le_div_iff_mul_le hr).mpr (by omega)
  have h4 : r * 1 ≤ r * (y / r) := Nat.mul_le_mul_left r h3
  omega
theorem X5_div_0 (x i f : Nat) (h : Hp) (hi : i < 100) : f_X5_divisor_b3 (f + 1) (lN x) (lN 0) (nI i) h = some (lN x, h) := by
  show f_X5_divisor_b3_body _ _ _ _ _ = _
  unfold f_X5_divisor_b3_body
  rw [if_neg (show ¬ (100 : Int32) ≤ nI i from nI_ge (b := 100) hi (by decide)), if_pos (show lg_cmp (lN 0) 0 = 0 from (lg_cmp_eq (lN 0) 0).mpr rfl)]
theorem lN_ne0 {y : Nat} (h1 : 0 < y) (h2 : y < 2 ^ 63) : ¬ lN y = 0 := fun z => by
  have := (pk_lEQ h2 (by decide)).mp (show lN y = lN 0 from z)
  omega
theorem X5_div_1 (x y i f : Nat) (h : Hp) (hi : i < 100) (hy : 0 < y) (hy2 : y < 2 ^ 63) (hx : x < 2 ^ 63) : f_X5_divisor_b3 (f + 1) (lN x) (lN y) (nI i) h = f_X5_divisor_b3 f (lN y) (lN (x % y)) (nI (i + 1)) h := by
  show f_X5_divisor_b3_body _ _ _ _ _ = _
  unfold f_X5_divisor_b3_body
  rw [if_neg (show ¬ (100 : Int32) ≤ nI i from nI_ge (b := 100) hi (by decide)), if_neg (fun z => lN_ne0 hy hy2 ((lg_cmp_eq _ _).mp z)), if_pos (lN_ne0 hy hy2), pk_lRem hx hy hy2, nI_1]
theorem X5_div {h : Hp} : ∀ (k x y i fuel : Nat), y < 2 ^ k → k ≤ 40 → x < 2 ^ 63 → i + 2 * k < 100 → 2 * k < fuel → f_X5_divisor_b3 fuel (lN x) (lN y) (nI i) h = some (lN (Nat.gcd x y), h) := by
  intro k
  induction k with
  | zero =>
    intro x y i fuel hy hk hx hi hf
    obtain ⟨f, rfl⟩ : ∃ f, fuel = f + 1 := ⟨fuel - 1, by omega⟩
    have : y = 0 := by omega
    subst this
    rw [X5_div_0 x i f h (by omega), Nat.gcd_zero_right]
  | succ k ih =>
    intro x y i fuel hy hk hx hi hf
    obtain ⟨f, rfl⟩ : ∃ f, fuel = f + 1 + 1 := ⟨fuel - 2, by omega⟩
    have e2 : 2 ^ (k + 1) = 2 * 2 ^ k := by rw [Nat.pow_succ]; omega
    have e3 : 2 ^ (k + 1) ≤ 2 ^ 40 := Nat.pow_le_pow_right (by decide) hk
    by_cases y0 : y = 0
    · subst y0
      rw [X5_div_0 x i (f + 1) h (by omega), Nat.gcd_zero_right]
    · have l := Nat.mod_lt x (show 0 < y by omega)
      rw [X5_div_1 x y i (f + 1) h (by omega) (by omega) (by omega) hx, gcd_st x y]
      generalize x % y = r at *
      by_cases r0 : r = 0
      · subst r0
        rw [X5_div_0 y (i + 1) f h (by omega), Nat.gcd_zero_right]
      · have l2 := rem_half (show 0 < r by omega) l
        rw [X5_div_1 y r (i + 1) f h (by omega) (by omega) (by omega) (by omega), gcd_st y r]
        exact ih r (y % r) (i + 1 + 1) f (by omega) (by omega) (by omega) (by omega) (by omega)
def pend (u w : Nat) (g : Nat) (h : Hp) : Hp := sl (sl h 20 0 3 (lN u / lN g)) 20 0 4 (lN w / lN g)
theorem X6_part_0 (u w x f : Nat) (h : Hp) (hx : 0 < x) (hx2 : x < 2 ^ 63) : f_X6_part_b6 (f + 1) (lN u) (lN w) 1 (lN x) (lN 0) h = some (1, pend u w x h) := by
  show f_X6_part_b6_body _ _ _ _ _ _ _ = _
  unfold f_X6_part_b6_body
  rw [if_pos (show lg_cmp (lN 0) 0 = 0 from (lg_cmp_eq (lN 0) 0).mpr rfl), if_pos (lN_ne0 hx hx2), if_pos (lN_ne0 hx hx2)]
  rfl
theorem X6_part_1 (u w x y f : Nat) (h : Hp) (hy : 0 < y) (hy2 : y < 2 ^ 63) (hx : x < 2 ^ 63) : f_X6_part_b6 (f + 1) (lN u) (lN w) 1 (lN x) (lN y) h = f_X6_part_b6 f (lN u) (lN w) 1 (lN y) (lN (x % y)) h := by
  show f_X6_part_b6_body _ _ _ _ _ _ _ = _
  unfold f_X6_part_b6_body
  rw [if_neg (fun z => lN_ne0 hy hy2 ((lg_cmp_eq _ _).mp z)), if_pos (lN_ne0 hy hy2), pk_lRem hx hy hy2]
theorem X6_part {h : Hp} (u w : Nat) : ∀ (k x y fuel : Nat), y < 2 ^ k → k ≤ 40 → x < 2 ^ 63 → 0 < Nat.gcd x y → 2 * k < fuel → f_X6_part_b6 fuel (lN u) (lN w) 1 (lN x) (lN y) h = some (1, pend u w (Nat.gcd x y) h) := by
  intro k
  induction k with
  | zero =>
    intro x y fuel hy hk hx hg hf
    obtain ⟨f, rfl⟩ : ∃ f, fuel = f + 1 := ⟨fuel - 1, by omega⟩
    have : y = 0 := by omega
    subst this
    rw [Nat.gcd_zero_right] at hg ⊢
    exact X6_part_0 u w x f h hg hx
  | succ k ih =>
    intro x y fuel hy hk hx hg hf
    obtain ⟨f, rfl⟩ : ∃ f, fuel = f + 1 + 1 := ⟨fuel - 2, by omega⟩
    have e2 : 2 ^ (k + 1) = 2 * 2 ^ k := by rw [Nat.pow_succ]; omega
    have e3 : 2 ^ (k + 1) ≤ 2 ^ 40 := Nat.pow_le_pow_right (by decide) hk
    by_cases y0 : y = 0
    · subst y0
      rw [Nat.gcd_zero_right] at hg ⊢
      exact X6_part_0 u w x (f + 1) h hg hx
    · have l := Nat.mod_lt x (show 0 < y by omega)
      rw [X6_part_1 u w x y (f + 1) h (by omega) (by omega) hx, gcd_st x y]
      generalize x % y = r at *
      by_cases r0 : r = 0
      · subst r0
        rw [X6_part_0 u w y f h (by omega) (by omega), Nat.gcd_zero_right]
      · have l2 := rem_half (show 0 < r by omega) l
        have hg2 : 0 < Nat.gcd r (y % r) := Nat.gcd_pos_of_pos_left _ (by omega)
        rw [X6_part_1 u w y r f h (by omega) (by omega) (by omega), gcd_st y r]
        exact ih r (y % r) f (by omega) (by omega) (by omega) hg2 (by omega)
/-! the class -/
theorem X5_power {a k : Nat} (h : Hp) (ha : a < 2 ^ 31) (hk : k ≤ 100) : f_X5_power (nI a) (nI k) h = some (lN (a ^ k), h) := by
  have key : ∀ (d i fuel : Nat), i + d = k → d < fuel → f_X5_power_b5 fuel (nI a) (nI k) (lN (a ^ i)) (nI i) h = some (lN (a ^ k), h) := by
    intro d
    induction d with
    | zero =>
      intro i fuel hi hq
      obtain ⟨f, rfl⟩ : ∃ f, fuel = f + 1 := ⟨fuel - 1, by omega⟩
      show f_X5_power_b5_body _ _ _ _ _ _ = _
      unfold f_X5_power_b5_body
      rw [if_pos (nI_le (by omega) (by omega)), show i = k by omega]
    | succ d ih =>
      intro i fuel hi hq
      obtain ⟨f, rfl⟩ : ∃ f, fuel = f + 1 := ⟨fuel - 1, by omega⟩
      show f_X5_power_b5_body _ _ _ _ _ _ = _
      unfold f_X5_power_b5_body
      rw [if_neg (nI_ge (by omega) (by omega)), nI_l ha, lN_mul, ← Nat.pow_succ, nI_1]
      exact ih (i + 1) f (by omega) (by omega)
  exact key k 0 200 (by omega) (by omega)
def beB (V : Wv) (b k : Nat) : Bool := bt (V.1 2) k && decide (co V k < co V b)
def gN (V : Wv) (n b c p m : Nat) : Nat := if bt (StO V n (nI m)) b then c ^ pcn (nI m) 14 * (12 - c) ^ (p - pcn (nI m) 14) else 0
theorem sh_pow : ∀ p, p < 10 → (1 : Int32) <<< (nI p &&& 31) = nI (2 ^ p) := by decide +kernel
theorem sub14 {k : Nat} (hk : k < 2 ^ 14) : sub (nI k) 14 := (sub_iff (by omega) (by decide)).mpr hk
theorem pcn_mono {m f : Nat} (e : m &&& f = m) : pcn (nI m) 14 ≤ pcn (nI f) 14 := mkn_sub (fun k hk z => by
  rw [bt_nI _ (by omega)] at z ⊢
  rw [← e, Nat.testBit_and, Bool.and_eq_true] at z
  exact z.2)
section ODS
variable {V : Wv} {n dn b : Nat}
theorem X4_allBeneath {h : Hp} (W : CW h V n dn) (hb : b < n) : f_X4_allBeneath 1 (nI b) h = some (mkb (beB V b) n, h) := by
  have hn := WF_n W.1
  have key : ∀ (d k fuel : Nat), k + d = n → d < fuel → f_X4_allBeneath_b4 fuel 1 (nI b) (mkb (beB V b) k) (nI k) h = some (mkb (beB V b) n, h) := by
    intro d
    induction d with
    | zero =>
      intro k fuel hk hq
      obtain ⟨f, rfl⟩ : ∃ f, fuel = f + 1 := ⟨fuel - 1, by omega⟩
      show f_X4_allBeneath_b4_body _ _ _ _ _ _ = _
      unfold f_X4_allBeneath_b4_body
      rw [CW_c7 W, if_pos (nI_le (by omega) (by omega)), show k = n by omega]
    | succ d ih =>
      intro k fuel hk hq
      obtain ⟨f, rfl⟩ : ∃ f, fuel = f + 1 := ⟨fuel - 1, by omega⟩
      have hkn : k < n := by omega
      have c1 := (CW_C W).2.2.1 k hkn
      have c2 := (CW_C W).2.2.1 b hb
      have go := ih (k + 1) f (by omega) (by omega)
      show f_X4_allBeneath_b4_body _ _ _ _ _ _ = _
      unfold f_X4_allBeneath_b4_body f_X4_allBeneath_b46
      rw [CW_c7 W, if_neg (nI_ge hkn (by omega)), if_pos (inb_t (by omega) (by decide)), if_pos (inb_t (by omega) (by decide)), nI_clamp (by omega), nI_clamp (by omega), c1.2.1, c2.2.1, CW_c8 W, and_one _ (by omega), nI_1]
      rw [mkb_s] at go
      unfold beB at go ⊢
      by_cases q : co V b ≤ co V k
      · rw [if_pos (nI_le q (by omega))]
        rw [decide_eq_false (by omega), Bool.and_false, if_neg (by decide)] at go
        exact go
      · rw [if_neg (nI_ge (by omega) (by omega))]
        rw [decide_eq_true (by omega), Bool.and_true] at go
        exact go
  exact key n 0 200 (by omega) (by omega)
theorem X4_chances_loop {c f p : Nat} (hb : b < n) (hn : n ≤ 14) (hc : c ≤ 12) (hf : f < 2 ^ 14) (hp : pcn (nI f) 14 = p) (hp9 : p ≤ 9) : ∀ (d i fuel : Nat) (h : Hp), CW h V n dn → i + d = 2 ^ p → d < fuel → ∃ h', f_X4_chances_b24 fuel 1 (nI b) (nI c) (nI f) (nI p) (lN (sumN (fun i => gN V n b c p (pdp 14 f i)) i)) (nI (pdp 14 f i)) (nI i) h = some (lN (sumN (fun i => gN V n b c p (pdp 14 f i)) (2 ^ p)), h') ∧ Sw 1 h h' := by
  have l9 : 2 ^ p ≤ 2 ^ 9 := Nat.pow_le_pow_right (by decide) hp9
  intro d
  induction d with
  | zero =>
    intro i fuel h W hi hq
    obtain ⟨g, rfl⟩ : ∃ g, fuel = g + 1 := ⟨fuel - 1, by omega⟩
    refine ⟨h, ?_, Sw.rfl'⟩
    show f_X4_chances_b24_body _ _ _ _ _ _ _ _ _ _ = _
    unfold f_X4_chances_b24_body
    rw [sh_pow p (by omega), if_pos (nI_le (by omega) (by omega)), show i = 2 ^ p by omega]
  | succ d ih =>
    intro i fuel h W hi hq
    obtain ⟨g, rfl⟩ : ∃ g, fuel = g + 1 := ⟨fuel - 1, by omega⟩
    obtain ⟨h1, s1, s2⟩ := X4_stO W (nI (pdp 14 f i))
    have W1 := CW_sw s2 W
    obtain ⟨h', e1, e2⟩ := ih (i + 1) g h1 W1 (by omega) (by omega)
    refine ⟨h', ?_, Sw.tr s2 e2⟩
    have ml := pdp_le 14 f i hf
    have ms := pcn_mono (pdp_sub 14 f i hf)
    rw [hp] at ms
    show f_X4_chances_b24_body _ _ _ _ _ _ _ _ _ _ = _
    unfold f_X4_chances_b24_body f_X4_chances_b89
    rw [sh_pow p (by omega), if_neg (nI_ge (by omega) (by omega)), CW_c8 W, CW_c9 W, s1, bnd_some, shr1 _ (by omega), pdp_nx hf, nI_1, bc_of (sub14 (by omega)), bnd_some, X5_power h1 (by omega) (by omega), bnd_some, show (12 : Int32) - nI c = nI (12 - c) from nI_subI (a := 12) hc, nI_subI ms, X5_power h1 (by omega) (by omega), bnd_some, lN_mul, lN_add, ← e1, sumN_s]
    unfold gN
    cases bt (StO V n (nI (pdp 14 f i))) b
    · rw [bi_f, if_pos (by decide), if_neg (by decide)]; rfl
    · rw [bi_t, if_neg (fun z => z rfl), if_pos rfl]
theorem X4_chances {h : Hp} {c f p : Nat} (W : CW h V n dn) (hb : b < n) (hc : c ≤ 12) (hf : f < 2 ^ 14) (hp : pcn (nI f) 14 = p) (hp9 : p ≤ 9) : ∃ h', f_X4_chances 1 (nI b) (nI c) (nI f) h = some (lN (sumN (fun i => gN V n b c p (pdp 14 f i)) (2 ^ p)), h') ∧ Sw 1 h h' := by
  have hn := WF_n W.1
  have l9 : 2 ^ p ≤ 2 ^ 9 := Nat.pow_le_pow_right (by decide) hp9
  have p0 : pdp 14 f 0 = 0 := by
    have key : ∀ w f, pdp w f 0 = 0 := by
      intro w
      induction w with
      | zero => intro f; rfl
      | succ w ih => intro f; rw [pdp_s, show 0 / 2 = 0 from rfl, show 0 % 2 = 0 from rfl, ih]; split <;> rfl
    exact key 14 f
  obtain ⟨h', e1, e2⟩ := X4_chances_loop hb hn hc hf hp hp9 (2 ^ p) 0 2000 h W (by omega) (by omega)
  refine ⟨h', ?_, e2⟩
  unfold f_X4_chances
  rw [bc_of (sub14 hf), bnd_some, hp, if_pos (show nI p ≤ (9 : Int32) from nI_le (b := 9) hp9 (by decide))]
  rw [p0] at e1
  exact e1
/-! the model -/
def FN (V : Wv) (n b c p f m : Nat) : Nat := if m &&& f = m then gN V n b c p m else 0
theorem sub_iff2 {k f : Nat} (hk : k < 2 ^ 14) (hf : f < 2 ^ 14) : nI k &&& (nI f ^^^ (-1)) = 0 ↔ k &&& f = k := by
  rw [and_not_0]
  constructor
  · intro e
    apply Nat.eq_of_testBit_eq
    intro i
    rw [Nat.testBit_and]
    cases z : Nat.testBit k i
    · rfl
    · rcases Nat.lt_or_ge i 32 with y | y
      · have := e i y (by rw [bt_nI _ y]; exact z)
        rw [bt_nI _ y] at this
        rw [this]; rfl
      · rw [Nat.testBit_lt_two_pow (Nat.lt_of_lt_of_le hk (Nat.pow_le_pow_right (by decide) (by omega)))] at z
        cases z
  · intro e i hi z
    rw [bt_nI _ hi] at z ⊢
    rw [← e, Nat.testBit_and, Bool.and_eq_true] at z
    exact z.2
def eA (f m k : Nat) : Nat := mkn (fun i => bt (nI f) i && bt (nI m) i) k
def eB (f m k : Nat) : Nat := mkn (fun i => bt (nI f) i && !bt (nI m) i) k
theorem eA_s (f m k : Nat) : eA f m (k + 1) = eA f m k + if bt (nI f) k && bt (nI m) k then 1 else 0 := rfl
theorem eB_s (f m k : Nat) : eB f m (k + 1) = eB f m k + if bt (nI f) k && !bt (nI m) k then 1 else 0 := rfl
theorem X6_odds_in {h : Hp} {c f m : Nat} {a1 : Int32} {a6 a8 : Int64} (W : MW h V n dn) (hc : c ≤ 12) (kt : Int32 → Int32 → Int32 → Int64 → Int64 → Int32 → Hp → Option (Int32 × Hp)) : ∀ (d k fuel : Nat), k + d = n → d < fuel → f_X6_odds_b180 kt fuel a1 (nI c) (nI f) a6 a8 (nI m) (lN (c ^ eA f m k * (12 - c) ^ eB f m k)) (nI k) h = kt a1 (nI c) (nI f) a6 (a8 + lN (c ^ eA f m n * (12 - c) ^ eB f m n)) (nI (m + 1)) h := by
  have hn := WF_n W.1
  intro d
  induction d with
  | zero =>
    intro k fuel hk hq
    obtain ⟨g, rfl⟩ : ∃ g, fuel = g + 1 := ⟨fuel - 1, by omega⟩
    show f_X6_odds_b180_body _ _ _ _ _ _ _ _ _ _ _ = _
    unfold f_X6_odds_b180_body f_X6_odds_b242
    rw [MW_m11 W, if_pos (nI_le (by omega) (by omega)), show k = n by omega, nI_1]
  | succ d ih =>
    intro k fuel hk hq
    obtain ⟨g, rfl⟩ : ∃ g, fuel = g + 1 := ⟨fuel - 1, by omega⟩
    have go := ih (k + 1) g (by omega) (by omega)
    rw [eA_s, eB_s] at go
    show f_X6_odds_b180_body _ _ _ _ _ _ _ _ _ _ _ = _
    unfold f_X6_odds_b180_body f_X6_odds_b226
    rw [MW_m11 W, if_neg (nI_ge (by omega) (by omega)), X6_has _ h (by omega), bnd_some, X6_has _ h (by omega), bnd_some, nI_l (show c < 2 ^ 31 by omega), show (12 : Int64) - lN c = lN (12 - c) from lN_sub (a := 12) hc, show (1 : Int64) = lN 1 from rfl, lN_mul, lN_mul, lN_mul, Nat.mul_one, nI_1]
    cases hF : bt (nI f) k
    · rw [hF] at go
      rw [bi_f, if_neg (fun z => z rfl)]
      exact go
    · rw [bi_t, if_pos (by decide)]
      rw [hF] at go
      cases hM : bt (nI m) k
      · rw [bi_f, if_pos rfl]
        rw [hM] at go
        have e : c ^ eA f m k * (12 - c) ^ eB f m k * (12 - c) = c ^ eA f m k * (12 - c) ^ (eB f m k + 1) := by rw [Nat.pow_succ, Nat.mul_assoc]
        rw [e]
        exact go
      · rw [bi_t, if_neg (by decide)]
        rw [hM] at go
        have e : c ^ eA f m k * (12 - c) ^ eB f m k * c = c ^ (eA f m k + 1) * (12 - c) ^ eB f m k := by rw [Nat.pow_succ, Nat.mul_assoc, Nat.mul_comm _ c, Nat.mul_assoc]
        rw [e]
        exact go
theorem eA_n {f m : Nat} (hn : n ≤ 14) (sf : sub (nI f) n) (e : m &&& f = m) : eA f m n = pcn (nI m) 14 := by
  have sm : sub (nI m) n := fun i hi => by
    rcases Nat.lt_or_ge i 32 with y | y
    · have := sf i hi
      rw [bt_nI _ y] at this ⊢
      rw [← e, Nat.testBit_and, this, Bool.and_false]
    · exact b_big y
  rw [pcn_n hn sm]
  exact mkn_congr (fun i hi => by
    rw [bt_nI _ (by omega), bt_nI _ (by omega)]
    have : Nat.testBit m i = (Nat.testBit m i && Nat.testBit f i) := by rw [← Nat.testBit_and, e]
    rw [Bool.and_comm]
    exact this.symm)
theorem eB_n {f m : Nat} (hn : n ≤ 14) (sf : sub (nI f) n) (e : m &&& f = m) : eB f m n = pcn (nI f) 14 - pcn (nI m) 14 := by
  have a := eA_n hn sf e
  have t : pcn (nI f) 14 = eA f m n + eB f m n := by
    rw [pcn_n hn sf]
    unfold eA eB
    rw [← mkn_or (fun k hk z => ?_)]
    · exact mkn_congr (fun k _ => by cases bt (nI f) k <;> cases bt (nI m) k <;> rfl)
    · rw [Bool.and_eq_true] at z
      rw [z.1, z.2]; rfl
  omega
theorem X6_odds_loop {h : Hp} {c f p : Nat} {a6 : Int64} (W : MW h V n dn) (hb : b < n) (hc : c ≤ 12) (hf : f < 2 ^ 14) (sf : sub (nI f) n) (hp : pcn (nI f) 14 = p) : ∀ (d k fuel : Nat), k + d = f + 1 → d < fuel → f_X6_odds_b144 fuel (nI b) (nI c) (nI f) a6 (lN (sumN (FN V n b c p f) k)) (nI k) h = bnd (f_X6_part (lN (sumN (FN V n b c p f) (f + 1))) a6 1 h) (fun v2 h3 => some (v2, h3)) := by
  have hn := WF_n W.1
  intro d
  induction d with
  | zero =>
    intro k fuel hk hq
    obtain ⟨g, rfl⟩ : ∃ g, fuel = g + 1 := ⟨fuel - 1, by omega⟩
    show f_X6_odds_b144_body _ _ _ _ _ _ _ _ = _
    unfold f_X6_odds_b144_body
    rw [if_pos (nI_lt (by omega) (by omega)), show k = f + 1 by omega]
  | succ d ih =>
    intro k fuel hk hq
    obtain ⟨g, rfl⟩ : ∃ g, fuel = g + 1 := ⟨fuel - 1, by omega⟩
    have go := ih (k + 1) g (by omega) (by omega)
    rw [sumN_s] at go
    show f_X6_odds_b144_body _ _ _ _ _ _ _ _ = _
    unfold f_X6_odds_b144_body f_X6_odds_b242
    rw [if_neg (nI_nlt (by omega) (by omega)), X6_stand W, bnd_some, X6_has _ h (by omega), bnd_some, nI_1]
    by_cases q : k &&& f = k
    · rw [if_neg (fun z => z ((sub_iff2 (by omega) hf).mpr q))]
      have eF : FN V n b c p f k = gN V n b c p k := if_pos q
      rw [eF] at go
      unfold gN at go
      cases hs : bt (StO V n (nI k)) b
      · rw [bi_f, if_pos rfl]
        rw [hs, if_neg (by decide), Nat.add_zero] at go
        exact go
      · rw [bi_t, if_neg (by decide)]
        rw [hs, if_pos rfl] at go
        refine Eq.trans ?_ go
        have i0 := X6_odds_in (a1 := nI b) (f := f) (m := k) (a6 := a6) (a8 := lN (sumN (FN V n b c p f) k)) W hc (f_X6_odds_b144 g) n 0 20000 (by omega) (by omega)
        rw [eA_n hn sf q, eB_n hn sf q, hp, lN_add] at i0
        have e1 : (lN (c ^ eA f k 0 * (12 - c) ^ eB f k 0)) = 1 := by
          show lN (c ^ 0 * (12 - c) ^ 0) = 1
          rw [Nat.pow_zero, Nat.pow_zero]
          rfl
        rw [e1] at i0
        exact i0
    · rw [if_pos (fun z => q ((sub_iff2 (by omega) hf).mp z))]
      have eF : FN V n b c p f k = 0 := if_neg q
      rw [eF, Nat.add_zero] at go
      exact go
theorem X6_odds_pow {h : Hp} {c f p : Nat} {a1 : Int32} (hp9 : p ≤ 9) : ∀ (d i fuel : Nat), i + d = p → d < fuel → f_X6_odds_b117 fuel a1 (nI c) (nI f) (nI p) (lN (12 ^ i)) (nI i) h = f_X6_odds_b144 20000 a1 (nI c) (nI f) (lN (12 ^ p)) 0 0 h := by
  intro d
  induction d with
  | zero =>
    intro k fuel hk hq
    obtain ⟨g, rfl⟩ : ∃ g, fuel = g + 1 := ⟨fuel - 1, by omega⟩
    show f_X6_odds_b117_body _ _ _ _ _ _ _ _ = _
    unfold f_X6_odds_b117_body
    rw [if_pos (nI_le (by omega) (by omega)), show k = p by omega]
  | succ d ih =>
    intro k fuel hk hq
    obtain ⟨g, rfl⟩ : ∃ g, fuel = g + 1 := ⟨fuel - 1, by omega⟩
    show f_X6_odds_b117_body _ _ _ _ _ _ _ _ = _
    unfold f_X6_odds_b117_body
    rw [if_neg (nI_ge (by omega) (by omega)), show (12 : Int64) = lN 12 from rfl, lN_mul, ← Nat.pow_succ, nI_1]
    exact ih (k + 1) g (by omega) (by omega)
def oend (a1 c E : Int32) (h : Hp) : Option (Int32 × Hp) := bnd (f_X6_sizeOf E h) (fun v2 h3 => if v2 ≤ (9 : Int32) then (f_X6_odds_b117 20000 a1 c E v2 (1 : Int64) (0 : Int32) h3) else (some ((-6 : Int32), h3)))
theorem X6_odds_be {h : Hp} {c : Int32} (W : MW h V n dn) (hb : b < n) : ∀ (d k fuel : Nat), k + d = n → d < fuel → f_X6_odds_b38 fuel (nI b) c (mkb (beB V b) k) (nI k) h = oend (nI b) c (mkb (beB V b) n) h := by
  have hn := WF_n W.1
  intro d
  induction d with
  | zero =>
    intro k fuel hk hq
    obtain ⟨g, rfl⟩ : ∃ g, fuel = g + 1 := ⟨fuel - 1, by omega⟩
    show f_X6_odds_b38_body _ _ _ _ _ _ = _
    unfold f_X6_odds_b38_body
    rw [MW_m11 W, if_pos (nI_le (by omega) (by omega)), show k = n by omega]
    rfl
  | succ d ih =>
    intro k fuel hk hq
    obtain ⟨g, rfl⟩ : ∃ g, fuel = g + 1 := ⟨fuel - 1, by omega⟩
    have hkn : k < n := by omega
    have c1 := WF_br W.1 k hkn
    have c2 := WF_br W.1 b hb
    have go := ih (k + 1) g (by omega) (by omega)
    rw [mkb_s] at go
    unfold beB at go ⊢
    show f_X6_odds_b38_body _ _ _ _ _ _ = _
    unfold f_X6_odds_b38_body f_X6_odds_b84 f_X6_odds_b85
    rw [MW_m11 W, if_neg (nI_ge hkn (by omega)), MW_m13 W, X6_has _ h (by omega), bnd_some, M1 (MW_M W) hkn, bnd_some, M1 (MW_M W) hb, bnd_some, nI_1]
    cases hi : bt (V.1 2) k
    · rw [bi_f, if_pos rfl]
      rw [hi] at go
      exact go
    · rw [bi_t, if_neg (by decide)]
      rw [hi] at go
      by_cases q : co V b ≤ co V k
      · rw [if_pos (nI_le q (by omega))]
        rw [decide_eq_false (show ¬ co V k < co V b by omega)] at go
        exact go
      · rw [if_neg (nI_ge (by omega) (by omega))]
        rw [decide_eq_true (show co V k < co V b by omega)] at go
        exact go
theorem gN_le {c p m : Nat} (hc : c ≤ 12) (hm : pcn (nI m) 14 ≤ p) : gN V n b c p m ≤ 12 ^ p := by
  unfold gN
  split
  · have h1 : c ^ pcn (nI m) 14 ≤ 12 ^ pcn (nI m) 14 := Nat.pow_le_pow_left hc _
    have h2 : (12 - c) ^ (p - pcn (nI m) 14) ≤ 12 ^ (p - pcn (nI m) 14) := Nat.pow_le_pow_left (by omega) _
    have h3 := Nat.mul_le_mul h1 h2
    rw [← Nat.pow_add, show pcn (nI m) 14 + (p - pcn (nI m) 14) = p by omega] at h3
    exact h3
  · exact Nat.zero_le _
end ODS
theorem X5_isTwelfth_n {a : Int32} (h : Hp) (q : a < 0 ∨ nI 13 ≤ a) : f_X5_isTwelfth a h = some (0, h) := by
  unfold f_X5_isTwelfth
  by_cases q1 : a < 0
  · rw [if_pos q1]
  · rw [if_neg q1, if_pos (Int32.lt_of_lt_of_le (show (12 : Int32) < nI 13 by decide) (q.resolve_left q1))]
theorem X5_isTwelfth_y {c : Nat} (h : Hp) (hc : c ≤ 12) : f_X5_isTwelfth (nI c) h = some (1, h) := by
  unfold f_X5_isTwelfth
  rw [if_neg (nI_pos (by omega)), if_neg (show ¬ (12 : Int32) < nI c from nI_nlt (a := 12) hc (by decide))]
theorem st_odds (a1 a2 : Int32) (h : Hp) (hI : Inv h) : ∃ (r : Int32) (h1 h2 : Hp), f_X5_odds a1 a2 h = some (r, h1) ∧ f_X6_odds a1 a2 h1 = some (r, h2) ∧ Inv h2 := by
  obtain ⟨V, n, dn, W⟩ := Inv_W hI
  have hn := IW_n W
  rcases rng n (by omega) a1 with q | ⟨b, hb, rfl⟩
  · refine ⟨-1, h, h, ?_, ?_, hI⟩
    · unfold f_X5_odds; rw [X4_has_n (cw W) q, bnd_some, if_pos rfl]
    · unfold f_X6_odds; rw [X6_isBrick_n (mw W) q, bnd_some, if_pos rfl]
  rcases rng 13 (by decide) a2 with q | ⟨c, hc, rfl⟩
  · refine ⟨-1, h, h, ?_, ?_, hI⟩
    · unfold f_X5_odds; rw [X4_has_y (cw W) hb, bnd_some, if_neg (by decide), X5_isTwelfth_n h q, bnd_some, if_neg (fun z => z rfl)]
    · unfold f_X6_odds; rw [X6_isBrick_y (mw W) hb, bnd_some, if_neg (by decide), show f_X6_in a2 0 12 h = _ from X6_rng_n (N := 12) h (by decide) q, bnd_some, if_neg (fun z => z rfl)]
  have hc' : c ≤ 12 := by omega
  have mo : ∀ k, MW k V n dn → bt (V.1 2) b = true → f_X6_odds (nI b) (nI c) k = oend (nI b) (nI c) (mkb (beB V b) n) k := fun k M hq => by
    unfold f_X6_odds
    rw [X6_isBrick_y M hb, bnd_some, if_neg (by decide), show f_X6_in (nI c) 0 12 k = _ from X6_rng_y (N := 12) k hc (by decide), bnd_some, if_pos (by decide), X6_askedIn_i M hb hq, bnd_some, if_pos (by decide)]
    exact X6_odds_be M hb n 0 20000 (by omega) (by omega)
  cases hq : bt (V.1 2) b
  · have W1 : IW (rfC h 1) V n dn := IW_rf W
    refine ⟨-3, rfC h 1, mtC (rfC h 1) 1, ?_, ?_, rm_Inv hI⟩
    · unfold f_X5_odds; rw [X4_has_y (cw W) hb, bnd_some, if_neg (by decide), X5_isTwelfth_y h hc', bnd_some, if_pos (by decide), X4_isIn' (cw W) hb, bnd_some, hq, bi_f, if_neg (fun z => z rfl), X5_ref1, bnd_some]
    · unfold f_X6_odds; rw [X6_isBrick_y (mw W1) hb, bnd_some, if_neg (by decide), show f_X6_in (nI c) 0 12 _ = _ from X6_rng_y (N := 12) _ hc (by decide), bnd_some, if_pos (by decide), X6_askedIn_o (mw W1) hb hq, bnd_some, if_neg (by decide)]
  have sE : sub (mkb (beB V b) n) n := fun i hi => by
    rcases Nat.lt_or_ge i 32 with y | y
    · rw [b_mkb _ n i (by omega) y, decide_eq_false (by omega)]; rfl
    · exact b_big y
  obtain ⟨f, hf, ef⟩ := sub_nI (sub_mono sE hn)
  generalize hp : pcn (nI f) 14 = p
  have pl := pcn_le (nI f) 14
  have cl : f_X5_odds (nI b) (nI c) h = (if nI p ≤ (9 : Int32) then (bnd (f_X4_chances 1 (nI b) (nI c) (nI f) h) (fun v20 h21 => bnd (f_X5_power (12 : Int32) (nI p) h21) (fun v23 h24 => bnd (f_X5_tellFraction v20 v23 h24) (fun v26 h27 => some ((1 : Int32), h27))))) else (some ((-6 : Int32), h))) := by
    unfold f_X5_odds
    rw [X4_has_y (cw W) hb, bnd_some, if_neg (by decide), X5_isTwelfth_y h hc', bnd_some, if_pos (by decide), X4_isIn' (cw W) hb, bnd_some, hq, bi_t, if_pos (by decide), X4_allBeneath (cw W) hb, bnd_some, ef, bc_of (sub14 hf), bnd_some, hp]
  by_cases p9 : p ≤ 9
  · have e9 : nI p ≤ (9 : Int32) := nI_le (b := 9) p9 (by decide)
    obtain ⟨h1, s1, s2⟩ := X4_chances (cw W) hb hc' hf hp p9
    have W1 := IW_sw s2 W
    have pw : pcw 14 f = p := by
      rw [pcw_mkn, ← hp]
      exact mkn_congr (fun i hi => (bt_nI f (by omega)).symm)
    have es : sumN (fun i => gN V n b c p (pdp 14 f i)) (2 ^ p) = sumN (FN V n b c p f) (f + 1) := by
      have t := sum_pd 14 f (gN V n b c p) hf
      rw [pw] at t
      rw [t, show 2 ^ 14 = (f + 1) + (2 ^ 14 - (f + 1)) by omega]
      exact sumN_cut (F := FN V n b c p f) (fun m hm => if_neg (fun z => by
        have : m &&& f ≤ f := Nat.and_le_right
        omega)) _
    have l9 : 12 ^ p ≤ 12 ^ 9 := Nat.pow_le_pow_right (by decide) p9
    have k9 : 12 ^ 9 < 2 ^ 33 := by decide
    have pos : 0 < 12 ^ p := Nat.pow_pos (by decide)
    have bnd1 : sumN (FN V n b c p f) (f + 1) ≤ (f + 1) * 12 ^ p := sumN_le (fun m => by
      unfold FN
      split
      · rename_i z
        exact gN_le hc' (by rw [← hp]; exact pcn_mono z)
      · exact Nat.zero_le _) _
    have bnd2 : (f + 1) * 12 ^ p ≤ 2 ^ 14 * 2 ^ 33 := Nat.mul_le_mul (by omega) (by omega)
    have bnd3 : 2 ^ 14 * 2 ^ 33 < 2 ^ 63 := by decide
    rw [es] at s1
    generalize hs : sumN (FN V n b c p f) (f + 1) = s at *
    have gp : 0 < Nat.gcd s (12 ^ p) := Nat.gcd_pos_of_pos_right _ pos
    have gl : Nat.gcd s (12 ^ p) ≤ 12 ^ p := Nat.gcd_le_right _ pos
    have dv := X5_div (h := h1) 33 s (12 ^ p) 0 200 (by omega) (by omega) (by omega) (by omega) (by omega)
    have gn : ¬ lN (Nat.gcd s (12 ^ p)) = 0 := lN_ne0 gp (by omega)
    have gm : ¬ lg_cmp (lN (Nat.gcd s (12 ^ p))) 0 ≤ 0 := fun z => by
      have := (pk_lLE (by omega) (by decide)).mp (show lN (Nat.gcd s (12 ^ p)) ≤ lN 0 from (lg_cmp_le _ _).mp z)
      omega
    generalize hh2 : sl (sl h1 0 0 8 (lN s / lN (Nat.gcd s (12 ^ p)))) 0 0 9 (lN (12 ^ p) / lN (Nat.gcd s (12 ^ p))) = h2
    have t2 : h2.1 = h1.1 := by rw [← hh2]; rfl
    have W2 : IW h2 V n dn := IW_of (fun g i j _ => by rw [t2]) W1
    refine ⟨1, h2, pend s (12 ^ p) (Nat.gcd s (12 ^ p)) h2, ?_, ?_, ?_⟩
    · rw [cl, if_pos e9, s1, bnd_some, show f_X5_power 12 (nI p) h1 = _ from X5_power (a := 12) h1 (by omega) (by omega), bnd_some]
      unfold f_X5_tellFraction f_X5_divisor
      rw [show f_X5_divisor_b3 200 (lN s) (lN (12 ^ p)) 0 h1 = _ from dv, bnd_some, if_neg gm, if_pos gn, if_pos gn, bnd_some, hh2]
    · rw [mo h2 (mw W2) hq, ef]
      unfold oend
      rw [X6_sizeOf, bnd_some, hp, if_pos e9]
      refine (X6_odds_pow p9 p 0 20000 (by omega) (by omega)).trans ?_
      refine (X6_odds_loop (mw W2) hb hc' hf (by rw [← ef]; exact sE) hp (f + 1) 0 20000 (by omega) (by omega)).trans ?_
      rw [hs]
      unfold f_X6_part
      rw [X6_part s (12 ^ p) 33 s (12 ^ p) 200 (by omega) (by omega) (by omega) gp (by omega), bnd_some]
    · refine Inv_of (h := h) (fun g i j z => ?_) ?_ hI
      · show h2.1 g i j = _
        rw [t2]; exact Sw_c s2 z
      · obtain ⟨x1, x2, x3, -, -⟩ := hI.1
        have g1 : ∀ g i j, ¬ (g = 15 ∨ g = 16) → (pend s (12 ^ p) (Nat.gcd s (12 ^ p)) h2).1 g i j = h.1 g i j := fun g i j z => by
          show h2.1 g i j = _
          rw [t2]; exact s2.1 g i j (by omega)
        refine ⟨?_, ?_, fun k hk => ?_, ?_, ?_⟩
        · rw [g1 _ _ _ (by omega), g1 _ _ _ (by omega)]; exact x1
        · rw [g1 _ _ _ (by omega), g1 _ _ _ (by omega)]; exact x2
        · rw [g1 _ _ _ (by omega), g1 _ _ _ (by omega)]; exact x3 k hk
        · unfold pend
          rw [sl_ne _ _ (by omega), sl_ne _ _ (by omega), sl_ne _ _ (show ¬ (20 = 20 ∧ 0 = 0 ∧ 3 = 4) by omega), sl_at, ← hh2, sl_ne _ _ (by omega), sl_at]
        · unfold pend
          rw [sl_ne _ _ (show ¬ (0 = 20 ∧ 0 = 0 ∧ 9 = 4) by omega), sl_ne _ _ (show ¬ (0 = 20 ∧ 0 = 0 ∧ 9 = 3) by omega), sl_at, ← hh2, sl_at]
  · have e9 : ¬ nI p ≤ (9 : Int32) := nI_ge (a := 9) (by omega) (by omega)
    refine ⟨-6, h, h, ?_, ?_, hI⟩
    · rw [cl, if_neg e9]
    · rw [mo h (mw W) hq, ef]
      unfold oend
      rw [X6_sizeOf, bnd_some, hp, if_neg e9]
