/-! frost -/
theorem CW_s {h h' : Hp} {V : Wv} {n dn : Nat} {s : Nat → Int32} (W : CW h V n dn) (w' : WF (s, V.2) n dn) (a : ∀ t, t < 8 → h'.1 11 1 (6 + t) = s t)
    (e : ∀ g i j, (((g = 13 ∨ g = 14) ∧ i = 1) ∨ (g = 17 ∧ 14 ≤ i ∧ i < 28)) → h'.1 g i j = h.1 g i j) : CW h' (s, V.2) n dn := by
  have hn := WF_n W.1
  obtain ⟨-, b, c, od, o1, o2, o3⟩ := W.2
  refine ⟨w', ⟨a 0 (by decide), a 1 (by decide), a 2 (by decide), a 3 (by decide), a 4 (by decide), a 5 (by decide), a 6 (by decide), a 7 (by decide)⟩, fun x hx => ?_, fun i hi => ?_, od, fun i hi => ?_, o2, o3⟩
  · have e17 : ∀ j, h'.1 17 (14 * 1 + x) j = h.1 17 (14 * 1 + x) j := fun j => e 17 _ j (by omega)
    simp only [e17]; exact b x hx
  · rw [e 14 1 i (by omega)]; exact c i hi
  · rw [e 13 1 i (by omega)]; exact o1 i hi
theorem MW_s {h h' : Hp} {V : Wv} {n dn : Nat} {s : Nat → Int32} (W : MW h V n dn) (w' : WF (s, V.2) n dn)
    (m : h'.1 20 0 10 = s 0 ∧ h'.1 20 0 11 = s 1 ∧ h'.1 20 0 13 = s 2 ∧ h'.1 20 0 14 = s 3 ∧ h'.1 20 0 15 = s 4 ∧ h'.1 20 0 16 = s 5 ∧ h'.1 20 0 17 = s 6 ∧ h'.1 20 0 22 = s 7)
    (e : ∀ g j, (g = 27 ∨ g = 28) → h'.1 g 0 j = h.1 g 0 j) : MW h' (s, V.2) n dn := by
  refine ⟨w', m, fun b f hb hf => ?_, fun i hi => ?_⟩
  · rw [e 27 _ (by omega)]; exact W.2.2.1 b f hb hf
  · rw [e 28 _ (by omega)]; exact W.2.2.2 i hi
def lotn (x : Int64) : Int64 := (x * (48271 : Int64)) - (x * (48271 : Int64)) / (2147483647 : Int64) * (2147483647 : Int64)
def lots (V : Wv) (s : Int64) : Nat → Int64
  | 0 => s
  | k + 1 => if bt (V.1 2) k then lotn (lots V s k) else lots V s k
theorem lots_s (V : Wv) (s : Int64) (k : Nat) : lots V s (k + 1) = if bt (V.1 2) k then lotn (lots V s k) else lots V s k := rfl
def lwB (x : Int64) (c : Int32) : Bool := !decide (0 ≤ lg_cmp (lotn x - lotn x / (12 : Int64) * (12 : Int64)) (Int32.toInt64 c))
def ckB (V : Wv) (s : Int64) (c : Int32) (k : Nat) : Bool := bt (V.1 2) k && (lwB (lots V s k) c && decide (V.2.1 k 0 = 0))
def ckV (V : Wv) (s : Int64) (c : Int32) : Wv := (V.1, (fun b f => if f = 0 ∧ ckB V s c b = true then 1 else V.2.1 b f, V.2.2))
theorem X4_crack_loop {V : Wv} {n : Nat} (hn : n ≤ 14) (s : Int64) (c : Int32) : ∀ (d k fuel : Nat) (h : Hp), h.1 11 1 7 = nI n → h.1 11 1 8 = V.1 2 → (∀ b, k ≤ b → b < n → h.1 17 (14 * 1 + b) 0 = V.2.1 b 0) → k + d = n → d < fuel → ∃ h', f_X4_crack_b9 fuel 1 c (lots V s k) (mkb (ckB V s c) k) (nI k) h = some (mkb (ckB V s c) n, h') ∧ (∀ b, k ≤ b → b < n → h'.1 17 (14 * 1 + b) 0 = (ckV V s c).2.1 b 0) ∧ (∀ g i j, ¬ (g = 17 ∧ 14 + k ≤ i ∧ i < 14 + n ∧ j = 0) → h'.1 g i j = h.1 g i j) ∧ h'.2 = h.2 := by
  intro d
  induction d with
  | zero =>
    intro k fuel h c7 c8 cb hk hq
    obtain ⟨f, rfl⟩ : ∃ f, fuel = f + 1 := ⟨fuel - 1, by omega⟩
    refine ⟨h, ?_, fun b h1 h2 => by omega, fun _ _ _ _ => rfl, rfl⟩
    show f_X4_crack_b9_body _ _ _ _ _ _ _ = _
    unfold f_X4_crack_b9_body
    rw [c7, if_pos (nI_le (by omega) (by omega)), show k = n by omega]
  | succ d ih =>
    intro k fuel h c7 c8 cb hk hq
    obtain ⟨f, rfl⟩ : ∃ f, fuel = f + 1 := ⟨fuel - 1, by omega⟩
    have hkn : k < n := by omega
    have no : ckB V s c k = false → ∃ h', f_X4_crack_b9 f 1 c (lots V s (k + 1)) (mkb (ckB V s c) k) (nI (k + 1)) h = some (mkb (ckB V s c) n, h') ∧ (∀ b, k ≤ b → b < n → h'.1 17 (14 * 1 + b) 0 = (ckV V s c).2.1 b 0) ∧ (∀ g i j, ¬ (g = 17 ∧ 14 + k ≤ i ∧ i < 14 + n ∧ j = 0) → h'.1 g i j = h.1 g i j) ∧ h'.2 = h.2 := fun z => by
      obtain ⟨h', e1, e2, e3, e4⟩ := ih (k + 1) f h c7 c8 (fun b h1 h2 => cb b (by omega) h2) (by omega) (by omega)
      refine ⟨h', ?_, fun b h1 h2 => ?_, fun g i j q => e3 g i j (by omega), e4⟩
      · rw [← e1, mkb_s, z, if_neg (by decide), or_z]
      · rcases Nat.lt_or_ge k b with y | y
        · exact e2 b y h2
        · have eb : b = k := by omega
          subst eb
          rw [e3 _ _ _ (by omega), cb b (by omega) h2]
          exact (if_neg (fun y => by rw [z] at y; exact absurd y.2 (by decide))).symm
    have ex : f_X4_crack_b9 (f + 1) 1 c (lots V s k) (mkb (ckB V s c) k) (nI k) h = f_X4_crack_b9_body (f_X4_crack_b9 f) 1 c (lots V s k) (mkb (ckB V s c) k) (nI k) h := rfl
    rw [ex]
    unfold f_X4_crack_b9_body f_X4_crack_b81
    rw [c7, if_neg (nI_ge hkn (by omega)), X4_isIn h (by omega), bnd_some, c8, nI_1]
    have es := lots_s V s k
    cases h1 : bt (V.1 2) k
    · rw [bi_f, if_pos rfl]
      rw [h1, if_neg (by decide)] at es
      rw [← es]
      exact no (by unfold ckB; rw [h1]; rfl)
    rw [h1, if_pos rfl] at es
    rw [bi_t, if_neg (by decide), if_pos (by decide), if_pos (by decide)]
    have fold : ((lots V s k * (48271 : Int64)) - (lots V s k * (48271 : Int64)) / (2147483647 : Int64) * (2147483647 : Int64)) = lotn (lots V s k) := rfl
    rw [fold, ← es]
    have lw : lwB (lots V s k) c = !decide (0 ≤ lg_cmp (lots V s (k + 1) - lots V s (k + 1) / (12 : Int64) * (12 : Int64)) (Int32.toInt64 c)) := by unfold lwB; rw [es]
    by_cases y : 0 ≤ lg_cmp (lots V s (k + 1) - lots V s (k + 1) / (12 : Int64) * (12 : Int64)) (Int32.toInt64 c)
    · rw [if_pos y]
      exact no (by unfold ckB; rw [lw, decide_eq_true y, Bool.not_true, Bool.false_and, Bool.and_false])
    rw [if_neg y, if_pos (inb_t (by omega) (by decide)), if_pos (inb_t (by omega) (by decide)), nI_clamp (by omega), cb k (by omega) hkn]
    by_cases w : V.2.1 k 0 = 0
    · have ck : ckB V s c k = true := by unfold ckB; rw [lw, decide_eq_false y, h1, decide_eq_true w]; rfl
      rw [if_neg (fun z => z w)]
      obtain ⟨h', e1, e2, e3, e4⟩ := ih (k + 1) f (si h 17 (14 * 1 + k) 0 1) (by rw [si_g h (by decide)]; exact c7) (by rw [si_g h (by decide)]; exact c8) (fun b h1 h2 => by rw [si_ne _ _ (by omega)]; exact cb b (by omega) h2) (by omega) (by omega)
      refine ⟨h', ?_, fun b h1 h2 => ?_, fun g i j q => (e3 g i j (by omega)).trans (si_ne _ _ (by omega)), e4⟩
      · rw [← e1, mkb_s, ck, if_pos rfl]
      · rcases Nat.lt_or_ge k b with y | y
        · exact e2 b y h2
        · have eb : b = k := by omega
          subst eb
          rw [e3 _ _ _ (by omega), si_at]
          exact (if_pos ⟨rfl, ck⟩).symm
    · rw [if_pos w]
      exact no (by unfold ckB; rw [decide_eq_false w, Bool.and_false, Bool.and_false])
def fend (a3 a6 : Int32) (h : Hp) : Option (Int32 × Hp) := bnd (f_X6_standingNow (0 : Int32) h) (fun v2 h3 => bnd (f_X6_ask (a3 &&& (v2 ^^^ (-1))) a6 (si (si h3 20 0 13 ((h3.1 20 0 13) &&& ((a3 &&& (v2 ^^^ (-1))) ^^^ (-1)))) 20 0 14 (((si h3 20 0 13 ((h3.1 20 0 13) &&& ((a3 &&& (v2 ^^^ (-1))) ^^^ (-1)))).1 20 0 14) &&& ((si h3 20 0 13 ((h3.1 20 0 13) &&& ((a3 &&& (v2 ^^^ (-1))) ^^^ (-1)))).1 20 0 13)))) (fun v5 h6 => some (v5, h6)))
theorem X6_frost_loop {V : Wv} {n : Nat} (hn : n ≤ 14) (s : Int64) (c S : Int32) : ∀ (d k fuel : Nat) (h : Hp), h.1 20 0 11 = nI n → h.1 20 0 13 = V.1 2 → (∀ b, k ≤ b → b < n → h.1 27 0 (7 * b + 0) = V.2.1 b 0) → k + d = n → d < fuel → ∃ h', f_X6_frost_b38 fuel c S (lots V s k) (mkb (ckB V s c) k) (nI k) h = fend S (mkb (ckB V s c) n) h' ∧ (∀ b, k ≤ b → b < n → h'.1 27 0 (7 * b + 0) = (ckV V s c).2.1 b 0) ∧ (∀ g i j, ¬ (g = 27 ∧ i = 0 ∧ ∃ b, k ≤ b ∧ b < n ∧ j = 7 * b) → h'.1 g i j = h.1 g i j) ∧ h'.2 = h.2 := by
  intro d
  induction d with
  | zero =>
    intro k fuel h c7 c8 cb hk hq
    obtain ⟨f, rfl⟩ : ∃ f, fuel = f + 1 := ⟨fuel - 1, by omega⟩
    refine ⟨h, ?_, fun b h1 h2 => by omega, fun _ _ _ _ => rfl, rfl⟩
    show f_X6_frost_b38_body _ _ _ _ _ _ _ = _
    unfold f_X6_frost_b38_body
    rw [c7, if_pos (nI_le (by omega) (by omega)), show k = n by omega]
    rfl
  | succ d ih =>
    intro k fuel h c7 c8 cb hk hq
    obtain ⟨f, rfl⟩ : ∃ f, fuel = f + 1 := ⟨fuel - 1, by omega⟩
    have hkn : k < n := by omega
    have no : ckB V s c k = false → ∃ h', f_X6_frost_b38 f c S (lots V s (k + 1)) (mkb (ckB V s c) k) (nI (k + 1)) h = fend S (mkb (ckB V s c) n) h' ∧ (∀ b, k ≤ b → b < n → h'.1 27 0 (7 * b + 0) = (ckV V s c).2.1 b 0) ∧ (∀ g i j, ¬ (g = 27 ∧ i = 0 ∧ ∃ b, k ≤ b ∧ b < n ∧ j = 7 * b) → h'.1 g i j = h.1 g i j) ∧ h'.2 = h.2 := fun z => by
      obtain ⟨h', e1, e2, e3, e4⟩ := ih (k + 1) f h c7 c8 (fun b h1 h2 => cb b (by omega) h2) (by omega) (by omega)
      refine ⟨h', ?_, fun b h1 h2 => ?_, fun g i j q => e3 g i j (fun ⟨q1, q2, b, q3, q4, q5⟩ => q ⟨q1, q2, b, by omega, q4, q5⟩), e4⟩
      · rw [← e1, mkb_s, z, if_neg (by decide), or_z]
      · rcases Nat.lt_or_ge k b with y | y
        · exact e2 b y h2
        · have eb : b = k := by omega
          subst eb
          rw [e3 _ _ _ (fun ⟨q1, q2, b', q3, q4, q5⟩ => by omega), cb b (by omega) h2]
          exact (if_neg (fun y => by rw [z] at y; exact absurd y.2 (by decide))).symm
    have ex : f_X6_frost_b38 (f + 1) c S (lots V s k) (mkb (ckB V s c) k) (nI k) h = f_X6_frost_b38_body (f_X6_frost_b38 f) c S (lots V s k) (mkb (ckB V s c) k) (nI k) h := rfl
    rw [ex]
    unfold f_X6_frost_b38_body f_X6_frost_b110
    rw [c7, if_neg (nI_ge hkn (by omega)), c8, X6_has _ _ (by omega), bnd_some, nI_1]
    have es := lots_s V s k
    cases h1 : bt (V.1 2) k
    · rw [bi_f, if_pos rfl]
      rw [h1, if_neg (by decide)] at es
      rw [← es]
      exact no (by unfold ckB; rw [h1]; rfl)
    rw [h1, if_pos rfl] at es
    rw [bi_t, if_neg (by decide), if_pos (by decide), if_pos (by decide), Int64.mul_comm (48271 : Int64) (lots V s k)]
    have fold : ((lots V s k * (48271 : Int64)) - (lots V s k * (48271 : Int64)) / (2147483647 : Int64) * (2147483647 : Int64)) = lotn (lots V s k) := rfl
    rw [fold, ← es]
    have lw : lwB (lots V s k) c = !decide (0 ≤ lg_cmp (lots V s (k + 1) - lots V s (k + 1) / (12 : Int64) * (12 : Int64)) (Int32.toInt64 c)) := by unfold lwB; rw [es]
    by_cases y : 0 ≤ lg_cmp (lots V s (k + 1) - lots V s (k + 1) / (12 : Int64) * (12 : Int64)) (Int32.toInt64 c)
    · rw [if_pos y]
      exact no (by unfold ckB; rw [lw, decide_eq_true y, Bool.not_true, Bool.false_and, Bool.and_false])
    rw [if_neg y, show f_X6_of (nI k) 0 h = some (h.1 27 0 (7 * k + 0), h) from X6_of (b := k) (f := 0) h (by omega) (by decide), bnd_some, cb k (by omega) hkn, show f_X6_write (nI k) 0 1 h = some ((), si h 27 0 (7 * k + 0) 1) from X6_write (b := k) (f := 0) 1 h (by omega) (by decide), bnd_some]
    by_cases w : V.2.1 k 0 = 0
    · have ck : ckB V s c k = true := by unfold ckB; rw [lw, decide_eq_false y, h1, decide_eq_true w]; rfl
      rw [if_neg (fun z => z w)]
      obtain ⟨h', e1, e2, e3, e4⟩ := ih (k + 1) f (si h 27 0 (7 * k + 0) 1) (by rw [si_g h (by decide)]; exact c7) (by rw [si_g h (by decide)]; exact c8) (fun b h1 h2 => by rw [si_ne _ _ (by omega)]; exact cb b (by omega) h2) (by omega) (by omega)
      refine ⟨h', ?_, fun b h1 h2 => ?_, fun g i j q => (e3 g i j (fun ⟨q1, q2, b, q3, q4, q5⟩ => q ⟨q1, q2, b, by omega, q4, q5⟩)).trans (si_ne _ _ (fun ⟨q1, q2, q3⟩ => q ⟨q1, q2, k, by omega, hkn, q3⟩)), e4⟩
      · rw [← e1, mkb_s, ck, if_pos rfl]
      · rcases Nat.lt_or_ge k b with y | y
        · exact e2 b y h2
        · have eb : b = k := by omega
          subst eb
          rw [e3 _ _ _ (fun ⟨q1, q2, b', q3, q4, q5⟩ => by omega), si_at]
          exact (if_pos ⟨rfl, ck⟩).symm
    · rw [if_pos w]
      exact no (by unfold ckB; rw [decide_eq_false w, Bool.and_false, Bool.and_false])
theorem ck_kd {V : Wv} {s : Int64} {c : Int32} {b : Nat} (z : ckB V s c b = true) : kd V b = 0 := by
  unfold ckB at z
  rw [Bool.and_eq_true, Bool.and_eq_true, decide_eq_true_iff] at z
  unfold kd
  rw [z.2.2]; rfl
theorem ckV_kd (V : Wv) (s : Int64) (c : Int32) (b : Nat) : kd (ckV V s c) b = if ckB V s c b then 1 else kd V b := by
  unfold kd ckV
  dsimp only
  by_cases z : ckB V s c b = true
  · rw [if_pos ⟨rfl, z⟩, if_pos z]; rfl
  · rw [if_neg (fun y => z y.2), if_neg z]
theorem ckV_f (V : Wv) (s : Int64) (c : Int32) (b : Nat) {f : Nat} (hf : f ≠ 0) : (ckV V s c).2.1 b f = V.2.1 b f := if_neg (fun y => hf y.1)
theorem ckV_co (V : Wv) (s : Int64) (c : Int32) (b : Nat) : co (ckV V s c) b = co V b := by unfold co; rw [ckV_f V s c b (by decide)]
theorem ckV_hf (V : Wv) (s : Int64) (c : Int32) (b : Nat) : hf (ckV V s c) b = hf V b := by unfold hf; rw [ckV_f V s c b (by decide)]
theorem ckV_ln (V : Wv) (s : Int64) (c : Int32) (b : Nat) : ln (ckV V s c) b = ln V b := by
  unfold ln
  rw [ckV_kd]
  cases z : ckB V s c b
  · rfl
  · rw [ck_kd z]; rfl
theorem ckV_rk (V : Wv) (s : Int64) (c : Int32) (b : Nat) : rk (ckV V s c) b = rk V b := by
  unfold rk
  rw [ckV_kd, ckV_co]
  cases z : ckB V s c b
  · rfl
  · rw [ck_kd z]; rfl
theorem ckV_msk (V : Wv) (s : Int64) (c : Int32) (b x : Nat) : mskN (kd (ckV V s c) b) x = mskN (kd V b) x := by
  unfold mskN
  rw [ckV_kd]
  cases z : ckB V s c b
  · rfl
  · rw [ck_kd z]; rfl
theorem ckV_WF {V : Wv} {n dn : Nat} (W : WF V n dn) (s : Int64) (c : Int32) : WF (ckV V s c) n dn := by
  obtain ⟨w1, w2, w3, ⟨wd, x1, x2, x3, x4⟩, w5, w6, w7, w8⟩ := W
  obtain ⟨r1, r2, r3, r4, r5, r6, r7, r8⟩ := w8
  refine ⟨w1, w2, w3, ⟨wd, x1, x2, x3, fun b hb => by rw [ckV_hf, ckV_ln]; exact x4 b hb⟩, fun b hb => ?_, fun b hb => ?_, fun b hb => ?_, r1, r2, r3, r4, r5, r6, fun a b ha hb q z1 z2 z3 => ?_, r8⟩
  · obtain ⟨b0, b1, b2, b3, b4⟩ := w5 b hb
    rw [ckV_co, ckV_hf, ckV_f _ _ _ _ (show 1 ≠ 0 by decide), ckV_f _ _ _ _ (show 2 ≠ 0 by decide), ckV_kd]
    refine ⟨?_, b1, b2, ?_, b4⟩
    · by_cases z : ckB V s c b = true
      · rw [if_pos z]; exact if_pos ⟨rfl, z⟩
      · rw [if_neg z]; exact (if_neg (fun y => z y.2)).trans b0
    · split <;> omega
  · rw [ckV_f _ _ _ _ (show 3 ≠ 0 by decide), ckV_f _ _ _ _ (show 4 ≠ 0 by decide), ckV_f _ _ _ _ (show 5 ≠ 0 by decide), ckV_kd]
    obtain ⟨m1, m2, m3, m4⟩ := w6 b hb
    cases z : ckB V s c b
    · exact ⟨m1, m2, m3, m4⟩
    · have := ck_kd z
      exact ⟨m1, m2, fun y => by rw [if_pos rfl] at y; omega, fun _ => m4 (by omega)⟩
  · rw [ckV_f _ _ _ _ (show 6 ≠ 0 by decide)]
    exact w7 b hb
  · have := r7 a b ha hb q z1 z2 (by rw [ckV_co, ckV_co] at z3; exact z3)
    unfold ovl at this ⊢
    rw [ckV_hf, ckV_hf, ckV_ln, ckV_ln]
    exact this
theorem ckV_CW {h h' : Hp} {V : Wv} {n dn : Nat} {s : Int64} {c : Int32} (W : CW h V n dn) (e2 : ∀ b, b < n → h'.1 17 (14 * 1 + b) 0 = (ckV V s c).2.1 b 0) (e3 : ∀ g i j, ¬ (g = 17 ∧ 14 ≤ i ∧ i < 14 + n ∧ j = 0) → h'.1 g i j = h.1 g i j) : CW h' (ckV V s c) n dn := by
  obtain ⟨a, b, c', od, o1, o2, o3⟩ := W.2
  refine ⟨ckV_WF W.1 s c, ?_, fun x hx => ?_, fun i hi => ?_, od, fun i hi => ?_, o2, fun i j hi hj => ?_⟩
  · simp only [fun j => e3 11 1 j (by omega)]; exact a
  · obtain ⟨b0, b1, b2, b3, b4, b5, b6, b7⟩ := b x hx
    have e17 : ∀ j, j ≠ 0 → h'.1 17 (14 * 1 + x) j = h.1 17 (14 * 1 + x) j := fun j hj => e3 17 _ j (by omega)
    rw [ckV_hf, ckV_msk, e17 1 (by decide), e17 2 (by decide), e17 3 (by decide), e17 4 (by decide), e17 5 (by decide), e17 6 (by decide), e17 7 (by decide), ckV_f _ _ _ _ (show 1 ≠ 0 by decide), ckV_f _ _ _ _ (show 2 ≠ 0 by decide), ckV_f _ _ _ _ (show 3 ≠ 0 by decide), ckV_f _ _ _ _ (show 4 ≠ 0 by decide), ckV_f _ _ _ _ (show 5 ≠ 0 by decide), ckV_f _ _ _ _ (show 6 ≠ 0 by decide)]
    exact ⟨e2 x hx, b1, b2, b3, b4, b5, b6, b7⟩
  · rw [e3 14 1 i (by omega)]; exact c' i hi
  · rw [e3 13 1 i (by omega)]; exact o1 i hi
  · rw [ckV_rk, ckV_rk]; exact o3 i j hi hj
theorem ckV_MW {h h' : Hp} {V : Wv} {n dn : Nat} {s : Int64} {c : Int32} (W : MW h V n dn) (e2 : ∀ b, b < n → h'.1 27 0 (7 * b + 0) = (ckV V s c).2.1 b 0) (e3 : ∀ g i j, ¬ (g = 27 ∧ i = 0 ∧ ∃ b, 0 ≤ b ∧ b < n ∧ j = 7 * b) → h'.1 g i j = h.1 g i j) : MW h' (ckV V s c) n dn := by
  obtain ⟨a, b, c'⟩ := W.2
  refine ⟨ckV_WF W.1 s c, ?_, fun x f hx hf => ?_, fun i hi => ?_⟩
  · simp only [fun j => e3 20 0 j (by omega)]; exact a
  · by_cases z : f = 0
    · subst z; exact e2 x hx
    · rw [e3 27 0 _ (fun ⟨_, _, y, q1, q2, q3⟩ => by omega), ckV_f _ _ _ _ z]; exact b x f hx hf
  · rw [e3 28 0 i (by omega)]; exact c' i hi
/-- without those that the frost lets fall -/
def fro (V : Wv) (F : Int32) : Wv := (fun i => if i = 2 then V.1 2 &&& (F ^^^ (-1)) else if i = 3 then V.1 3 &&& (F ^^^ (-1)) else V.1 i, V.2)
theorem fro_WF {V : Wv} {n dn : Nat} {F : Int32} (W : WF V n dn) (hv : ∀ i, i < 32 → bt (V.1 4) i = true → bt F i = false) : WF (fro V F) n dn := by
  obtain ⟨r1, r2, r3, r4, r5, r6, r7, r8, r9, r10⟩ := WF_rest W
  have bf : ∀ x i, i < 32 → bt (x &&& (F ^^^ (-1))) i = (bt x i && !bt F i) := fun x i hi => by rw [b_and, b_not _ hi]
  have sb : ∀ x i, bt (x &&& (F ^^^ (-1))) i = true → bt x i = true := fun x i z => by rw [b_and, Bool.and_eq_true] at z; exact z.1
  have lt : ∀ x i, bt x i = true → i < 32 := fun x i z => by
    rcases Nat.lt_or_ge i 32 with q | q
    · exact q
    · rw [b_big q] at z; cases z
  refine WF_s W rfl rfl rfl ⟨sub_and r1, fun i z => ?_, fun i z => ?_, r4, ?_, r6, ?_, fun i hi => ?_, r9, ?_⟩
  · have z : bt (V.1 3 &&& (F ^^^ (-1))) i = true := z
    show bt (V.1 2 &&& (F ^^^ (-1))) i = true
    rw [bf _ _ (lt _ _ z), Bool.and_eq_true] at z
    rw [b_and, b_not _ (lt _ _ z.1), r2 i z.1, z.2]; rfl
  · have z : bt (V.1 4) i = true := z
    show bt (V.1 2 &&& (F ^^^ (-1))) i = true
    rw [bf _ _ (lt _ _ z), r3 i z, hv i (lt _ _ z) z]; rfl
  · exact Nat.le_trans (mkn_sub (fun k _ z => sb (V.1 3) k z)) r5
  · exact Dj_sub r7 (fun k _ z => sb (V.1 2) k z)
  · obtain ⟨b, b1, b2, b3⟩ := r8 i hi
    refine ⟨b, b1, b2, ?_⟩
    show bt (V.1 2 &&& (F ^^^ (-1))) b = false
    rw [b_and, b3]; rfl
  · have : pcn (V.1 2 &&& (F ^^^ (-1))) 14 ≤ pcn (V.1 2) 14 := mkn_sub (fun k _ z => sb (V.1 2) k z)
    exact Nat.le_trans (Nat.add_le_add_left this dn) r10
theorem s_max {a : Int32} : (2147483647 : Int32) ≤ a ↔ (2147483646 : Int32) < a := by
  rw [Int32.le_iff_toInt_le, Int32.lt_iff_toInt_lt, show (2147483647 : Int32).toInt = 2147483647 by decide, show (2147483646 : Int32).toInt = 2147483646 by decide]
  omega
theorem St_vin {V : Wv} {n dn i : Nat} (W : WF V n dn) (hi : i < n) (z : bt (V.1 4) i = true) : bt (St V n) i = true := by
  have := lv_FP V (V.1 2) (V.1 3 ||| V.1 4) (WF_n W) (fun b hb => (WF_br W b hb).2.2.2.2) i hi
  unfold St
  rw [this, WF_vin W i z, b_or, z, Bool.or_true]; rfl
theorem st_frost (a1 a2 : Int32) (h : Hp) (hI : Inv h) : ∃ (r : Int32) (h1 h2 : Hp), f_X5_frost a1 a2 h = some (r, h1) ∧ f_X6_frost a1 a2 h1 = some (r, h2) ∧ Inv h2 := by
  obtain ⟨V, n, dn, W⟩ := Inv_W hI
  have hn := IW_n W
  by_cases q1 : a1 < 1 ∨ (2147483647 : Int32) ≤ a1
  · refine ⟨-1, h, h, ?_, ?_, hI⟩
    · unfold f_X5_frost
      by_cases q : a1 < 1
      · rw [if_pos q]
      · rw [if_neg q, if_pos (q1.resolve_left q)]
    · unfold f_X6_frost
      rw [X6_in_n h (q1.imp id s_max.mp), bnd_some, if_pos rfl]
  have i1 : ∀ h, f_X6_in a1 1 2147483646 h = some (1, h) := fun h => X6_in_y h (fun z => q1 (Or.inl z)) (fun z => q1 (Or.inr (s_max.mpr z)))
  by_cases q2 : a2 < 0 ∨ (12 : Int32) < a2
  · refine ⟨-1, h, h, ?_, ?_, hI⟩
    · unfold f_X5_frost f_X5_isTwelfth
      rw [if_neg (fun z => q1 (Or.inl z)), if_neg (fun z => q1 (Or.inr z))]
      by_cases q : a2 < 0
      · rw [if_pos q, bnd_some, if_neg (fun z => z rfl)]
      · rw [if_neg q, if_pos (q2.resolve_left q), bnd_some, if_neg (fun z => z rfl)]
    · unfold f_X6_frost
      rw [i1, bnd_some, if_neg (by decide), X6_in_n h q2, bnd_some, if_neg (fun z => z rfl)]
  have i2 : ∀ h, f_X6_in a2 0 12 h = some (1, h) := fun h => X6_in_y h (fun z => q2 (Or.inl z)) (fun z => q2 (Or.inr z))
  have i3 : f_X5_isTwelfth a2 h = some (1, h) := by
    unfold f_X5_isTwelfth
    rw [if_neg (fun z => q2 (Or.inl z)), if_neg (fun z => q2 (Or.inr z))]
  generalize hs : Int32.toInt64 a1 = s
  obtain ⟨h8, e1, e2, -⟩ := X4_stand (cw W)
  have W8 := IW_sw e2 W
  obtain ⟨h11, k1, k2, k3, k4⟩ := X4_crack_loop hn s a2 n 0 200 h8 (CW_c7 (cw W8)) (CW_c8 (cw W8)) (fun b _ hb => (W8.2.1.2.1 b hb).1) (by omega) (by omega)
  have C11 : CW h11 (ckV V s a2) n dn := ckV_CW (cw W8) (fun b hb => k2 b (by omega) hb) (fun g i j q => k3 g i j (by omega))
  obtain ⟨h14, g1, g2, -⟩ := X4_stand C11
  have C14 := CW_sw g2 C11
  generalize hF : St V n &&& (St (ckV V s a2) n ^^^ (-1)) = F
  have hv : ∀ i, i < 32 → bt ((ckV V s a2).1 4) i = true → bt F i = false := fun i hi z => by
    have zn : i < n := by
      rcases Nat.lt_or_ge i n with y | y
      · exact y
      · have := IW_in W i y
        rw [IW_vin W i z] at this; cases this
    rw [← hF, b_and, b_not _ hi, St_vin C11.1 zn z, Bool.not_true, Bool.and_false]
  have wf : WF (fro (ckV V s a2) F) n dn := fro_WF C11.1 hv
  have cl : f_X5_frost a1 a2 h = some (mkb (ckB V s a2) n, si (si (si h14 11 1 8 (V.1 2 &&& (F ^^^ (-1)))) 11 1 9 (V.1 3 &&& (F ^^^ (-1)))) 0 0 7 F) := by
    unfold f_X5_frost f_X4_takeOut
    rw [if_neg (fun z => q1 (Or.inl z)), if_neg (fun z => q1 (Or.inr z)), i3, bnd_some, if_pos (by decide), e1, bnd_some, show f_X4_crack 1 a1 a2 h8 = some (mkb (ckB V s a2) n, h11) by unfold f_X4_crack; rw [hs]; exact k1, bnd_some, g1, bnd_some, bnd_some, hF, si_ne _ _ (by omega), CW_c8 C14, CW_c9 C14]
    rfl
  generalize hH : si (si (si h14 11 1 8 (V.1 2 &&& (F ^^^ (-1)))) 11 1 9 (V.1 3 &&& (F ^^^ (-1)))) 0 0 7 F = H at cl
  have eH : ∀ g i j, ¬ (g = 11 ∧ i = 1 ∧ (j = 8 ∨ j = 9)) → ¬ (g = 0 ∧ i = 0 ∧ j = 7) → ¬ ((g = 15 ∨ g = 16) ∧ i = 1) → ¬ (g = 17 ∧ 14 ≤ i ∧ i < 28) → H.1 g i j = h.1 g i j := fun g i j p1 p2 p3 p4 => by
    rw [← hH, si_ne _ _ (by omega), si_ne _ _ (by omega), si_ne _ _ (by omega), g2.1 g i j p3, k3 g i j (by omega), e2.1 g i j p3]
  have H07 : H.1 0 0 7 = F := by rw [← hH, si_at]
  have H2 : H.2 = h.2 := by rw [← hH]; exact g2.2.trans (k4.trans e2.2)
  have CH : CW H (fro (ckV V s a2) F) n dn := by
    refine CW_s (V := ckV V s a2) C14 wf (fun t ht => ?_) (fun g i j q => by rw [← hH, si_ne _ _ (by omega), si_ne _ _ (by omega), si_ne _ _ (by omega)])
    obtain ⟨a1, a2, a3, a4, a5, a6, a7, a8⟩ := C14.2.1
    rw [← hH, si_g _ (by decide)]
    rcases (show t = 0 ∨ t = 1 ∨ t = 2 ∨ t = 3 ∨ t = 4 ∨ t = 5 ∨ t = 6 ∨ t = 7 by omega) with rfl | rfl | rfl | rfl | rfl | rfl | rfl | rfl
    · rw [si_ne _ _ (by omega), si_ne _ _ (by omega)]; exact a1
    · rw [si_ne _ _ (by omega), si_ne _ _ (by omega)]; exact a2
    · rw [si_ne _ _ (by omega), si_at]; rfl
    · rw [si_at]; rfl
    · rw [si_ne _ _ (by omega), si_ne _ _ (by omega)]; exact a5
    · rw [si_ne _ _ (by omega), si_ne _ _ (by omega)]; exact a6
    · rw [si_ne _ _ (by omega), si_ne _ _ (by omega)]; exact a7
    · rw [si_ne _ _ (by omega), si_ne _ _ (by omega)]; exact a8
  have MH : MW H V n dn := MW_g (mw W) (fun g j q => eH g 0 j (by omega) (by omega) (by omega) (by omega))
  obtain ⟨h', m1, m2, m3, m4⟩ := X6_frost_loop hn s a2 (St V n) n 0 200 H (MW_m11 MH) (MW_m13 MH) (fun b _ hb => MH.2.2.1 b 0 hb (by decide)) (by omega) (by omega)
  have M' : MW h' (ckV V s a2) n dn := ckV_MW MH (fun b hb => m2 b (by omega) hb) m3
  have ew : V.1 3 &&& (V.1 2 &&& (F ^^^ (-1))) = V.1 3 &&& (F ^^^ (-1)) := by
    apply b_ext
    intro i hi
    rw [b_and, b_and, b_and]
    cases e : bt (V.1 3) i
    · rfl
    · rw [IW_wdg W i e]; rfl
  have md : f_X6_frost a1 a2 H = some (mkb (ckB V s a2) n, si (si (si h' 20 0 13 (V.1 2 &&& (F ^^^ (-1)))) 20 0 14 (V.1 3 &&& (F ^^^ (-1)))) 20 0 2 F) := by
    unfold f_X6_frost
    rw [i1, bnd_some, if_neg (by decide), i2, bnd_some, if_pos (by decide), X6_stand MH, bnd_some, StO_0, hs, show f_X6_frost_b38 200 a2 (St V n) s 0 0 H = _ from m1]
    unfold fend f_X6_ask
    rw [X6_stand M', bnd_some, bnd_some, StO_0, hF, si_at, si_ne _ _ (by omega), MW_m13 M', MW_m14 M', show (ckV V s a2).1 3 = V.1 3 from rfl, show (ckV V s a2).1 2 = V.1 2 from rfl, ew]
  refine ⟨_, H, _, cl, md, ?_⟩
  generalize hK : si (si (si h' 20 0 13 (V.1 2 &&& (F ^^^ (-1)))) 20 0 14 (V.1 3 &&& (F ^^^ (-1)))) 20 0 2 F = K
  have eK : ∀ g i j, ¬ (g = 20 ∧ i = 0 ∧ (j = 13 ∨ j = 14 ∨ j = 2)) → ¬ g = 27 → K.1 g i j = H.1 g i j := fun g i j p1 p2 => by
    rw [← hK, si_ne _ _ (by omega), si_ne _ _ (by omega), si_ne _ _ (by omega), m3 g i j (fun z => p2 z.1)]
  have K22 : K.1 20 0 2 = F := by rw [← hK, si_at]
  have K2 : K.2 = h.2 := by rw [← hK]; exact m4.trans H2
  have CK : CW K (fro (ckV V s a2) F) n dn := CW_g CH (fun g i j q => eK g i j (by omega) (by omega))
  have MK : MW K (fro (ckV V s a2) F) n dn := by
    refine MW_s (V := ckV V s a2) M' wf ?_ (fun g j q => by rw [← hK, si_ne _ _ (by omega), si_ne _ _ (by omega), si_ne _ _ (by omega)])
    obtain ⟨a1, a2, a3, a4, a5, a6, a7, a8⟩ := M'.2.1
    rw [← hK]
    refine ⟨?_, ?_, ?_, ?_, ?_, ?_, ?_, ?_⟩
    · rw [si_ne _ _ (by omega), si_ne _ _ (by omega), si_ne _ _ (by omega)]; exact a1
    · rw [si_ne _ _ (by omega), si_ne _ _ (by omega), si_ne _ _ (by omega)]; exact a2
    · rw [si_ne _ _ (by omega), si_ne _ _ (by omega), si_at]; rfl
    · rw [si_ne _ _ (by omega), si_at]; rfl
    · rw [si_ne _ _ (by omega), si_ne _ _ (by omega), si_ne _ _ (by omega)]; exact a5
    · rw [si_ne _ _ (by omega), si_ne _ _ (by omega), si_ne _ _ (by omega)]; exact a6
    · rw [si_ne _ _ (by omega), si_ne _ _ (by omega), si_ne _ _ (by omega)]; exact a7
    · rw [si_ne _ _ (by omega), si_ne _ _ (by omega), si_ne _ _ (by omega)]; exact a8
  have WK : IW K (fro (ckV V s a2) F) n dn := IW_new W CK MK rfl ((eK _ _ _ (by omega) (by omega)).trans (eH _ _ _ (by omega) (by omega) (by omega) (by omega))) (fun g i j q => (eK _ _ _ (by omega) (by omega)).trans (eH _ _ _ (by omega) (by omega) (by omega) (by omega)))
  have eHK : ∀ g i j, ¬ (g = 20 ∧ i = 0 ∧ (j = 13 ∨ j = 14 ∨ j = 2)) → ¬ g = 27 → ¬ g = 11 → ¬ (g = 0 ∧ i = 0 ∧ j = 7) → ¬ (g = 15 ∨ g = 16) → ¬ g = 17 → K.1 g i j = h.1 g i j := fun g i j p1 p2 p3 p4 p5 p6 => (eK g i j p1 p2).trans (eH g i j (by omega) (by omega) (by omega) (by omega))
  obtain ⟨⟨x1, x2, x3, x4, x5⟩, R, T, -⟩ := hI
  refine ⟨⟨?_, ?_, fun f hf => ?_, by rw [K2]; exact x4, by rw [K2]; exact x5⟩, InvR_of (fun g i j q => eHK g i j (by omega) (by omega) (by omega) (by omega) (by omega) (by omega)) R, InvT_of (fun g i j q => eHK g i j (by omega) (by omega) (by omega) (by omega) (by omega) (by omega)) T, ⟨_, n, dn, WK⟩⟩
  · rw [eHK 0 0 6 (by omega) (by omega) (by omega) (by omega) (by omega) (by omega), eHK 20 0 0 (by omega) (by omega) (by omega) (by omega) (by omega) (by omega)]; exact x1
  · rw [K22, eK 0 0 7 (by omega) (by omega), H07]
  · rw [eHK 19 0 f (by omega) (by omega) (by omega) (by omega) (by omega) (by omega), eHK 21 0 f (by omega) (by omega) (by omega) (by omega) (by omega) (by omega)]; exact x3 f hf
