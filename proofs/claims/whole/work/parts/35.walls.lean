def bi (b : Bool) : Int32 := if b then 1 else 0
theorem bi_t : bi true = 1 := rfl
theorem bi_f : bi false = 0 := rfl
theorem bi_0 (b : Bool) : bi b = 0 ↔ b = false := by cases b <;> decide
theorem bi_1 (b : Bool) : bi b = 1 ↔ b = true := by cases b <;> decide
theorem bi_01 (b : Bool) : bi b = 0 ∨ bi b = 1 := by cases b <;> decide
theorem bt_1 : ∀ i, i < 32 → bt 1 i = decide (i = 0) := by decide +kernel
theorem shr1 (x : Int32) {k : Nat} (hk : k < 32) : (x >>> (nI k &&& 31)) &&& 1 = bi (bt x k) := by
  apply b_ext
  intro i hi
  rw [b_and, bt_1 i hi, b_sshr k hk x hi]
  by_cases q : i = 0
  · subst q
    rw [if_pos (by omega), Nat.add_zero]
    cases bt x k <;> decide
  · rw [decide_eq_false q, Bool.and_false]
    cases bt x k
    · exact (b_0 i).symm
    · show false = bt 1 i
      rw [bt_1 i hi, decide_eq_false q]
theorem b_one {k i : Nat} (hk : k < 32) (hi : i < 32) : bt ((1 : Int32) <<< (nI k &&& 31)) i = decide (i = k) := by
  rw [b_shl k hk 1 hi]
  by_cases q : k ≤ i
  · rw [decide_eq_true q, Bool.true_and, bt_1 _ (by omega)]
    by_cases q2 : i = k
    · rw [decide_eq_true q2, decide_eq_true (by omega)]
    · rw [decide_eq_false q2, decide_eq_false (by omega)]
  · rw [decide_eq_false q, Bool.false_and, decide_eq_false (by omega)]
theorem b_not (x : Int32) {i : Nat} (hi : i < 32) : bt (x ^^^ (-1)) i = !bt x i := by
  rw [b_xor, b_m1 i hi]
  cases bt x i <;> rfl
/-- the set of those below n with p -/
def mkb (p : Nat → Bool) : Nat → Int32
  | 0 => 0
  | n + 1 => mkb p n ||| (if p n then (1 : Int32) <<< (nI n &&& 31) else 0)
theorem b_mkb (p : Nat → Bool) : ∀ (n i : Nat), n ≤ 32 → i < 32 → bt (mkb p n) i = (decide (i < n) && p i)
  | 0, i, _, _ => by
    show bt 0 i = _
    rw [b_0]
    simp
  | n + 1, i, hn, hi => by
    unfold mkb
    rw [b_or, b_mkb p n i (by omega) hi]
    by_cases q : i = n
    · subst q
      cases hp : p i
      · simp [b_0]
      · rw [if_pos rfl, b_one (by omega) hi]
        simp
    · have e : bt (if p n then (1 : Int32) <<< (nI n &&& 31) else 0) i = false := by
        cases p n
        · exact b_0 i
        · rw [if_pos rfl, b_one (by omega) hi, decide_eq_false q]
      rw [e, Bool.or_false]
      by_cases q2 : i < n
      · rw [decide_eq_true q2, decide_eq_true (by omega)]
      · rw [decide_eq_false q2, decide_eq_false (by omega)]
def anyB (p : Nat → Bool) : Nat → Bool
  | 0 => false
  | n + 1 => anyB p n || p n
theorem anyB_iff {p : Nat → Bool} : ∀ {n : Nat}, anyB p n = true ↔ ∃ k, k < n ∧ p k = true
  | 0 => by simp [anyB]
  | n + 1 => by
    unfold anyB
    rw [Bool.or_eq_true, anyB_iff]
    constructor
    · rintro (⟨k, h1, h2⟩ | h)
      · exact ⟨k, by omega, h2⟩
      · exact ⟨n, by omega, h⟩
    · rintro ⟨k, h1, h2⟩
      rcases Nat.lt_or_ge k n with q | q
      · exact Or.inl ⟨k, q, h2⟩
      · rw [show k = n by omega] at h2
        exact Or.inr h2
theorem anyB_congr {p q : Nat → Bool} : ∀ {n : Nat}, (∀ k, k < n → p k = q k) → anyB p n = anyB q n
  | 0, _ => rfl
  | n + 1, h => by
    unfold anyB
    rw [anyB_congr (fun k hk => h k (by omega)), h n (by omega)]
/-! what the model's helpers answer -/
theorem X6_has {k : Nat} (x : Int32) (h : Hp) (hk : k < 32) : f_X6_has x (nI k) h = some (bi (bt x k), h) := by
  unfold f_X6_has
  rw [shr1 x hk]
  cases bt x k <;> rfl
theorem X4_isIn {w k : Nat} (h : Hp) (hk : k < 32) : f_X4_isIn w (nI k) h = some (bi (bt (h.1 11 w 8) k), h) := by
  unfold f_X4_isIn
  rw [shr1 _ hk]
  cases bt (h.1 11 w 8) k <;> rfl
theorem X4_hasVine {w k : Nat} (h : Hp) (hk : k < 32) : f_X4_hasVine w (nI k) h = some (bi (bt (h.1 11 w 10) k), h) := by
  unfold f_X4_hasVine
  rw [shr1 _ hk]
  cases bt (h.1 11 w 10) k <;> rfl
theorem n7 (b f : Nat) : (7 : Int32) * nI b + nI f = nI (7 * b + f) := by rw [show (7 : Int32) = nI 7 from rfl, nI_mul, nI_add]
theorem X6_of {b f : Nat} (h : Hp) (hb : b < 28) (hf : f < 7) : f_X6_of (nI b) (nI f) h = some (h.1 27 0 (7 * b + f), h) := by
  unfold f_X6_of
  rw [n7, if_pos (inb_t (by omega) (by decide)), nI_clamp (by omega)]
theorem X6_write {b f : Nat} (v : Int32) (h : Hp) (hb : b < 28) (hf : f < 7) : f_X6_write (nI b) (nI f) v h = some ((), si h 27 0 (7 * b + f) v) := by
  unfold f_X6_write
  rw [n7, if_pos (inb_t (by omega) (by decide)), nI_clamp (by omega)]
theorem X6_widthOf {k : Nat} (h : Hp) (hk : k < 2 ^ 31) : f_X6_widthOf (nI k) h = some (nI (if 4 ≤ k then 3 else 2), h) := by
  unfold f_X6_widthOf
  by_cases q : 4 ≤ k
  · rw [if_neg (show ¬ nI k < (4 : Int32) from nI_nlt (b := 4) q hk), if_pos q]
    rfl
  · rw [if_pos (show nI k < (4 : Int32) from nI_lt (b := 4) (by omega) (by decide)), if_neg q]
    rfl
/-- what the model holds of its bricks -/
def MB (h : Hp) (V : Wv) (n : Nat) : Prop := n ≤ 14 ∧ h.1 20 0 11 = nI n ∧ (∀ b f, b < n → f < 3 → h.1 27 0 (7 * b + f) = V.2.1 b f) ∧ (∀ b, b < n → V.2.1 b 0 = nI (kd V b) ∧ V.2.1 b 1 = nI (co V b) ∧ V.2.1 b 2 = nI (hf V b) ∧ kd V b ≤ 5 ∧ co V b ≤ 5 ∧ hf V b ≤ 9)
theorem MB_of {h : Hp} {V : Wv} {n dn : Nat} (hW : WF V n dn) (hM : MR h V n dn) : MB h V n := by
  obtain ⟨h1, h2, -, ⟨wd, w1, -, -, w2⟩, h3, -⟩ := hW
  exact ⟨h1, hM.1.2.1.trans h2, fun b f hb hf => hM.2.1 b f hb (by omega), fun b hb => ⟨(h3 b hb).1, (h3 b hb).2.1, (h3 b hb).2.2.1, (h3 b hb).2.2.2.1, (h3 b hb).2.2.2.2, by have := w2 b hb; omega⟩⟩
section MBL
variable {h : Hp} {V : Wv} {n : Nat}
theorem M0 (M : MB h V n) {b : Nat} (hb : b < n) : f_X6_of (nI b) 0 h = some (nI (kd V b), h) := by
  rw [show f_X6_of (nI b) 0 h = _ from X6_of (f := 0) h (by have := M.1; omega) (by decide), M.2.2.1 b 0 hb (by decide), (M.2.2.2 b hb).1]
theorem M1 (M : MB h V n) {b : Nat} (hb : b < n) : f_X6_of (nI b) 1 h = some (nI (co V b), h) := by
  rw [show f_X6_of (nI b) 1 h = _ from X6_of (f := 1) h (by have := M.1; omega) (by decide), M.2.2.1 b 1 hb (by decide), (M.2.2.2 b hb).2.1]
theorem M2 (M : MB h V n) {b : Nat} (hb : b < n) : f_X6_of (nI b) 2 h = some (nI (hf V b), h) := by
  rw [show f_X6_of (nI b) 2 h = _ from X6_of (f := 2) h (by have := M.1; omega) (by decide), M.2.2.1 b 2 hb (by decide), (M.2.2.2 b hb).2.2.1]
theorem Mw (M : MB h V n) {b : Nat} (hb : b < n) : f_X6_widthOf (nI (kd V b)) h = some (nI (ln V b), h) := X6_widthOf h (by have := (M.2.2.2 b hb).2.2.2.1; omega)
def ovB (V : Wv) (a b : Nat) : Bool := decide (hf V a < hf V b + ln V b) && decide (hf V b < hf V a + ln V a)
def tcB (V : Wv) (a b : Nat) : Bool := decide (co V a = co V b) && decide (hf V a + ln V a = hf V b)
theorem ln_le (V : Wv) (b : Nat) : ln V b ≤ 3 := by unfold ln; split <;> omega
theorem X6_over (M : MB h V n) {a b : Nat} (ha : a < n) (hb : b < n) : f_X6_over (nI a) (nI b) h = some (bi (ovB V a b), h) := by
  have h1 := (M.2.2.2 a ha).2.2.2.2.2
  have h2 := (M.2.2.2 b hb).2.2.2.2.2
  have l1 := ln_le V a
  have l2 := ln_le V b
  unfold f_X6_over
  rw [M2 M ha, bnd_some, M2 M hb, bnd_some, M0 M hb, bnd_some, Mw M hb, bnd_some, nI_add]
  unfold ovB
  by_cases q : hf V a < hf V b + ln V b
  · rw [if_neg (nI_ge q (by omega)), M0 M ha, bnd_some, Mw M ha, bnd_some, nI_add, decide_eq_true q, Bool.true_and]
    by_cases q2 : hf V b < hf V a + ln V a
    · rw [if_neg (nI_ge q2 (by omega)), decide_eq_true q2]
      rfl
    · rw [if_pos (nI_le (by omega) (by omega)), decide_eq_false q2]
      rfl
  · rw [if_pos (nI_le (by omega) (by omega)), decide_eq_false q]
    rfl
theorem X6_touches (M : MB h V n) {a b : Nat} (ha : a < n) (hb : b < n) : f_X6_touches (nI a) (nI b) h = some (bi (tcB V a b), h) := by
  have h1 := (M.2.2.2 a ha).2.2.2.2
  have h2 := (M.2.2.2 b hb).2.2.2.2
  have l1 := ln_le V a
  unfold f_X6_touches
  rw [M1 M ha, bnd_some, M1 M hb, bnd_some]
  unfold tcB
  by_cases q : co V a = co V b
  · rw [if_neg (fun z => z (by rw [q])), M2 M ha, bnd_some, M0 M ha, bnd_some, Mw M ha, bnd_some, M2 M hb, bnd_some, nI_add, decide_eq_true q, Bool.true_and]
    by_cases q2 : hf V a + ln V a = hf V b
    · rw [if_neg (fun z => z (by rw [q2])), decide_eq_true q2]
      rfl
    · rw [if_pos (fun z => q2 ((nI_eq (by omega) (by omega)).mp z)), decide_eq_false q2]
      rfl
  · rw [if_pos (fun z => q ((nI_eq (by omega) (by omega)).mp z)), decide_eq_false q]
    rfl
/-- brick k of a set bears half i of brick b -/
def brB (V : Wv) (s : Nat → Bool) (b i k : Nat) : Bool := s k && (decide (co V k + 1 = co V b) && (decide (hf V k ≤ hf V b + i) && decide (hf V b + i < hf V k + ln V k)))
def rsB (V : Wv) (n : Nat) (s : Nat → Bool) (b i : Nat) : Bool := decide (co V b = 0) || anyB (brB V s b i) n
theorem X6_rests_in (M : MB h V n) {b i : Nat} (x a3 : Int32) (hb : b < n) (hi : i < 3) (kt : Int32 → Int32 → Int32 → Int32 → Hp → Option (Int32 × Hp)) : ∀ (d k fuel : Nat), k + d = n → d < fuel → f_X6_restsOn_b38 kt fuel (nI b) x a3 (nI i) (bi (decide (co V b = 0) || anyB (brB V (bt x) b i) k)) (nI k) h = kt (nI b) x (a3 ||| (if rsB V n (bt x) b i then (1 : Int32) <<< (nI i &&& 31) else 0)) (nI (i + 1)) h := by
  have hn := M.1
  have c1 := (M.2.2.2 b hb).2.2.2.2
  intro d
  induction d with
  | zero =>
    intro k fuel hk hq
    obtain ⟨f, rfl⟩ : ∃ f, fuel = f + 1 := ⟨fuel - 1, by omega⟩
    show f_X6_restsOn_b38_body _ _ _ _ _ _ _ _ _ = _
    unfold f_X6_restsOn_b38_body f_X6_restsOn_b145
    rw [M.2.1, if_pos (nI_le (by omega) (by omega)), show k = n by omega, nI_1]
    unfold rsB
    cases decide (co V b = 0) || anyB (brB V (bt x) b i) n
    · rw [bi_f, if_pos rfl, if_neg (by decide)]
    · rw [bi_t, if_neg (by decide), if_pos rfl]
  | succ d ih =>
    intro k fuel hk hq
    obtain ⟨f, rfl⟩ : ∃ f, fuel = f + 1 := ⟨fuel - 1, by omega⟩
    have hkn : k < n := by omega
    have c2 := (M.2.2.2 k hkn).2.2.2.2
    have l2 := ln_le V k
    have nx : ∀ r : Bool, r = (decide (co V b = 0) || anyB (brB V (bt x) b i) (k + 1)) → f_X6_restsOn_b123 kt (f_X6_restsOn_b38 kt f) (nI b) x a3 (nI i) (nI k) (bi r) h = kt (nI b) x (a3 ||| (if rsB V n (bt x) b i then (1 : Int32) <<< (nI i &&& 31) else 0)) (nI (i + 1)) h := by
      intro r hr
      unfold f_X6_restsOn_b123
      rw [nI_1, hr]
      exact ih (k + 1) f (by omega) (by omega)
    show f_X6_restsOn_b38_body _ _ _ _ _ _ _ _ _ = _
    unfold f_X6_restsOn_b38_body
    rw [M.2.1, if_neg (nI_ge hkn (by omega)), M2 M hb, bnd_some, M2 M hkn, bnd_some]
    cases hr : decide (co V b = 0) || anyB (brB V (bt x) b i) k
    · rw [if_neg (fun z => z rfl), X6_has x h (by omega), bnd_some]
      have e : (decide (co V b = 0) || anyB (brB V (bt x) b i) (k + 1)) = brB V (bt x) b i k := by
        show (decide (co V b = 0) || (anyB (brB V (bt x) b i) k || brB V (bt x) b i k)) = _
        rw [← Bool.or_assoc, hr, Bool.false_or]
      have no : brB V (bt x) b i k = false → f_X6_restsOn_b122 kt (f_X6_restsOn_b38 kt f) (nI b) x a3 (nI i) (nI k) h = kt (nI b) x (a3 ||| (if rsB V n (bt x) b i then (1 : Int32) <<< (nI i &&& 31) else 0)) (nI (i + 1)) h := fun z => nx false (by rw [e, z])
      have ye : brB V (bt x) b i k = true → f_X6_restsOn_b118 kt (f_X6_restsOn_b38 kt f) (nI b) x a3 (nI i) (nI k) h = kt (nI b) x (a3 ||| (if rsB V n (bt x) b i then (1 : Int32) <<< (nI i &&& 31) else 0)) (nI (i + 1)) h := fun z => nx true (by rw [e, z])
      cases hs : bt x k
      · rw [bi_f, if_pos rfl]
        exact no (by unfold brB; rw [hs, Bool.false_and])
      · rw [if_neg (by decide), M1 M hkn, bnd_some, M1 M hb, bnd_some]
        by_cases q : co V k + 1 = co V b
        · rw [if_neg (fun z => z (by rw [← q, ← nI_1, show (1 : Int32) = nI 1 from rfl, Int32.add_sub_cancel])), nI_add]
          by_cases q2 : hf V k ≤ hf V b + i
          · rw [nI_subI q2, if_neg (nI_pos (by omega)), M0 M hkn, bnd_some, Mw M hkn, bnd_some]
            by_cases q3 : hf V b + i < hf V k + ln V k
            · rw [if_neg (nI_ge (by omega) (by omega))]
              exact ye (by unfold brB; rw [hs, decide_eq_true q, decide_eq_true q2, decide_eq_true q3]; rfl)
            · rw [if_pos (nI_le (by omega) (by omega))]
              exact no (by unfold brB; rw [decide_eq_false q3]; simp)
          · rw [if_pos (by rw [Int32.lt_iff_toInt_lt, fb_subI (by rw [nI_toInt (by omega), nI_toInt (by omega)]; omega) (by rw [nI_toInt (by omega), nI_toInt (by omega)]; omega), nI_toInt (by omega), nI_toInt (by omega)]; show _ < (0 : Int); omega)]
            exact no (by unfold brB; rw [decide_eq_false q2]; simp)
        · rw [if_pos (fun z => q ?_)]
          · exact no (by unfold brB; rw [decide_eq_false q]; simp)
          · have z2 : nI (co V k) + 1 = nI (co V b) := by rw [z, Int32.sub_add_cancel]
            rw [nI_1] at z2
            exact (nI_eq (by omega) (by omega)).mp z2
    · rw [if_pos (by decide)]
      exact nx true (by show true = (decide (co V b = 0) || (anyB (brB V (bt x) b i) k || brB V (bt x) b i k)); rw [← Bool.or_assoc, hr, Bool.true_or])
theorem X6_rests_out (M : MB h V n) {b : Nat} (x : Int32) (hb : b < n) : ∀ (d i fuel : Nat), i + d = ln V b → d < fuel → f_X6_restsOn_b5 fuel (nI b) x (mkb (rsB V n (bt x) b) i) (nI i) h = some (mkb (rsB V n (bt x) b) (ln V b), h) := by
  have l1 := ln_le V b
  have c1 := (M.2.2.2 b hb).2.2.2.2
  have hn := M.1
  intro d
  induction d with
  | zero =>
    intro i fuel hi hq
    obtain ⟨f, rfl⟩ : ∃ f, fuel = f + 1 := ⟨fuel - 1, by omega⟩
    show f_X6_restsOn_b5_body _ _ _ _ _ _ = _
    unfold f_X6_restsOn_b5_body
    rw [M0 M hb, bnd_some, Mw M hb, bnd_some, if_pos (nI_le (by omega) (by omega)), show i = ln V b by omega]
  | succ d ih =>
    intro i fuel hi hq
    obtain ⟨f, rfl⟩ : ∃ f, fuel = f + 1 := ⟨fuel - 1, by omega⟩
    show f_X6_restsOn_b5_body _ _ _ _ _ _ = _
    unfold f_X6_restsOn_b5_body f_X6_restsOn_b33
    rw [M0 M hb, bnd_some, Mw M hb, bnd_some, if_neg (nI_ge (by omega) (by omega)), M1 M hb, bnd_some]
    have key := X6_rests_in M x (mkb (rsB V n (bt x) b) i) hb (show i < 3 by omega) (f_X6_restsOn_b5 f) n 0 200 (by omega) (by omega)
    have e0 : (decide (co V b = 0) || anyB (brB V (bt x) b i) 0) = decide (co V b = 0) := by
      show (decide (co V b = 0) || false) = _
      rw [Bool.or_false]
    rw [e0] at key
    by_cases q : co V b = 0
    · rw [if_neg (fun z => z (by rw [q]; rfl))]
      rw [decide_eq_true q] at key
      exact key.trans (ih (i + 1) f (by omega) (by omega))
    · rw [if_pos (nI_ne0 (by omega) (by omega))]
      rw [decide_eq_false q] at key
      exact key.trans (ih (i + 1) f (by omega) (by omega))
theorem X6_restsOn (M : MB h V n) {b : Nat} (x : Int32) (hb : b < n) : f_X6_restsOn (nI b) x h = some (mkb (rsB V n (bt x) b) (ln V b), h) := X6_rests_out M x hb (ln V b) 0 200 (by omega) (by have := ln_le V b; omega)
end MBL
