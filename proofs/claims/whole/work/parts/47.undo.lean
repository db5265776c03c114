theorem mkb_0 {p : Nat → Bool} {n : Nat} (hn : n ≤ 32) : mkb p n = 0 ↔ anyB p n = false := by
  constructor
  · intro e
    apply anyB_none
    intro k hk
    have := congrArg (fun z => bt z k) e
    simp only [b_0] at this
    rw [b_mkb p n k hn (by omega), decide_eq_true hk, Bool.true_and] at this
    exact this
  · intro e
    apply b_ext
    intro i hi
    rw [b_mkb p n i hn hi, b_0]
    by_cases q : i < n
    · cases hp : p i
      · simp
      · rw [anyB_iff.mpr ⟨i, q, hp⟩] at e; cases e
    · rw [decide_eq_false q]; rfl
/-- the model's bricks below m, without their count -/
def MK (h : Hp) (V : Wv) (m : Nat) : Prop := m ≤ 14 ∧ (∀ b f, b < m → f < 3 → h.1 27 0 (7 * b + f) = V.2.1 b f) ∧ (∀ b, b < m → V.2.1 b 0 = nI (kd V b) ∧ V.2.1 b 1 = nI (co V b) ∧ V.2.1 b 2 = nI (hf V b) ∧ kd V b ≤ 5 ∧ co V b ≤ 5 ∧ hf V b ≤ 9)
theorem MK_of {h : Hp} {V : Wv} {n : Nat} (M : MB h V n) : MK h V n := ⟨M.1, M.2.2.1, M.2.2.2⟩
section MKL
variable {h : Hp} {V : Wv} {m : Nat}
theorem K0 (M : MK h V m) {b : Nat} (hb : b < m) : f_X6_of (nI b) 0 h = some (nI (kd V b), h) := by
  rw [show f_X6_of (nI b) 0 h = _ from X6_of (f := 0) h (by have := M.1; omega) (by decide), M.2.1 b 0 hb (by decide), (M.2.2 b hb).1]
theorem K1 (M : MK h V m) {b : Nat} (hb : b < m) : f_X6_of (nI b) 1 h = some (nI (co V b), h) := by
  rw [show f_X6_of (nI b) 1 h = _ from X6_of (f := 1) h (by have := M.1; omega) (by decide), M.2.1 b 1 hb (by decide), (M.2.2 b hb).2.1]
theorem K2 (M : MK h V m) {b : Nat} (hb : b < m) : f_X6_of (nI b) 2 h = some (nI (hf V b), h) := by
  rw [show f_X6_of (nI b) 2 h = _ from X6_of (f := 2) h (by have := M.1; omega) (by decide), M.2.1 b 2 hb (by decide), (M.2.2 b hb).2.2.1]
theorem Kw (M : MK h V m) {b : Nat} (hb : b < m) : f_X6_widthOf (nI (kd V b)) h = some (nI (ln V b), h) := X6_widthOf h (by have := (M.2.2 b hb).2.2.2.1; omega)
theorem K_over (M : MK h V m) {a b : Nat} (ha : a < m) (hb : b < m) : f_X6_over (nI a) (nI b) h = some (bi (ovB V a b), h) := by
  have h1 := (M.2.2 a ha).2.2.2.2.2
  have h2 := (M.2.2 b hb).2.2.2.2.2
  have l1 := ln_le V a
  have l2 := ln_le V b
  unfold f_X6_over
  rw [K2 M ha, bnd_some, K2 M hb, bnd_some, K0 M hb, bnd_some, Kw M hb, bnd_some, nI_add]
  unfold ovB
  by_cases q : hf V a < hf V b + ln V b
  · rw [if_neg (nI_ge q (by omega)), K0 M ha, bnd_some, Kw M ha, bnd_some, nI_add, decide_eq_true q, Bool.true_and]
    by_cases q2 : hf V b < hf V a + ln V a
    · rw [if_neg (nI_ge q2 (by omega)), decide_eq_true q2]
      rfl
    · rw [if_pos (nI_le (by omega) (by omega)), decide_eq_false q2]
      rfl
  · rw [if_pos (nI_le (by omega) (by omega)), decide_eq_false q]
    rfl
def tkB (V : Wv) (x : Int32) (b k : Nat) : Bool := !decide (k = b) && (bt x k && (decide (co V k = co V b) && ovB V k b))
theorem X6_taken_loop (M : MK h V m) {n b : Nat} (hm : n ≤ m) (hb : b < m) (c : h.1 20 0 11 = nI n) (x : Int32) (hx : h.1 20 0 13 = x) : ∀ (d k fuel : Nat), k + d = n → d < fuel → f_X6_isTaken_b4 fuel (nI b) (bi (anyB (tkB V x b) k)) (nI k) h = some (bi (anyB (tkB V x b) n), h) := by
  have hn := M.1
  intro d
  induction d with
  | zero =>
    intro k fuel hk hq
    obtain ⟨f, rfl⟩ : ∃ f, fuel = f + 1 := ⟨fuel - 1, by omega⟩
    show f_X6_isTaken_b4_body _ _ _ _ _ = _
    unfold f_X6_isTaken_b4_body
    rw [c, if_pos (nI_le (by omega) (by omega)), show k = n by omega, if_pos (bi_01 _)]
  | succ d ih =>
    intro k fuel hk hq
    have hkn : k < n := by omega
    obtain ⟨f, rfl⟩ : ∃ f, fuel = f + 1 := ⟨fuel - 1, by omega⟩
    have nx : ∀ r : Bool, r = anyB (tkB V x b) (k + 1) → f_X6_isTaken_b61 (f_X6_isTaken_b4 f) (nI b) (nI k) (bi r) h = some (bi (anyB (tkB V x b) n), h) := fun r e => by
      unfold f_X6_isTaken_b61
      rw [e, nI_1]
      exact ih (k + 1) f (by omega) (by omega)
    have es : anyB (tkB V x b) (k + 1) = (anyB (tkB V x b) k || tkB V x b k) := rfl
    show f_X6_isTaken_b4_body _ _ _ _ _ = _
    unfold f_X6_isTaken_b4_body f_X6_isTaken_b56 f_X6_isTaken_b60
    rw [c, if_neg (nI_ge hkn (by omega)), hx]
    cases ha : anyB (tkB V x b) k
    · rw [bi_f, if_neg (fun z => z rfl)]
      have no : tkB V x b k = false → f_X6_isTaken_b61 (f_X6_isTaken_b4 f) (nI b) (nI k) 0 h = some (bi (anyB (tkB V x b) n), h) := fun z => nx false (by rw [es, ha, z]; rfl)
      by_cases q : k = b
      · rw [if_pos (by rw [q])]
        exact no (by unfold tkB; rw [decide_eq_true q]; rfl)
      · rw [if_neg (fun z => q ((nI_eq (by omega) (by omega)).mp z)), X6_has _ h (by omega), bnd_some]
        cases hxk : bt x k
        · rw [bi_f, if_pos rfl]
          exact no (by unfold tkB; rw [hxk]; simp)
        · have c1 := (M.2.2 k (by omega)).2.2.2.2
          have c2 := (M.2.2 b hb).2.2.2.2
          rw [bi_t, if_neg (by decide), K1 M (by omega), bnd_some, K1 M hb, bnd_some]
          by_cases qc : co V k = co V b
          · rw [if_neg (fun z => z (by rw [qc])), K_over M (by omega) hb, bnd_some]
            cases ho : ovB V k b
            · rw [bi_f, if_pos rfl]
              exact no (by unfold tkB; rw [ho]; simp)
            · rw [bi_t, if_neg (by decide)]
              exact nx true (by rw [es, ha]; unfold tkB; rw [decide_eq_false q, hxk, decide_eq_true qc, ho]; rfl)
          · rw [if_pos (fun z => qc ((nI_eq (by omega) (by omega)).mp z))]
            exact no (by unfold tkB; rw [decide_eq_false qc]; simp)
    · rw [bi_t, if_pos (by decide)]
      exact nx true (by rw [es, ha]; rfl)
theorem X6_isTaken (M : MK h V m) {n b : Nat} (hm : n ≤ m) (hb : b < m) (c : h.1 20 0 11 = nI n) (x : Int32) (hx : h.1 20 0 13 = x) : f_X6_isTaken (nI b) h = some (bi (anyB (tkB V x b) n), h) :=
  X6_taken_loop M hm hb c x hx n 0 200 (by omega) (by have := M.1; omega)
end MKL
theorem ovl_iff (V : Wv) (a b : Nat) : ovB V a b = true ↔ ovl V a b := by
  unfold ovB ovl
  rw [Bool.and_eq_true, decide_eq_true_iff, decide_eq_true_iff]
theorem ovl_sym (V : Wv) (a b : Nat) : ovl V a b ↔ ovl V b a := ⟨fun z => ⟨z.2, z.1⟩, fun z => ⟨z.2, z.1⟩⟩
/-- one more that no other shares a half with -/
theorem Dj_add {V : Wv} {n b : Nat} {x : Int32} (D : Dj V n (bt x)) (h : anyB (tkB V x b) n = false) : Dj V n (fun k => bt x k || decide (k = b)) := by
  have key : ∀ a, a < n → a ≠ b → bt x a = true → co V a = co V b → ¬ ovl V a b := fun a ha q z1 z2 z3 => by
    have : anyB (tkB V x b) n = true := anyB_iff.mpr ⟨a, ha, by unfold tkB; rw [decide_eq_false q, z1, decide_eq_true z2, (ovl_iff V a b).mpr z3]; rfl⟩
    rw [h] at this
    cases this
  intro a c ha hc q z1 z2 z3
  rw [Bool.or_eq_true, decide_eq_true_iff] at z1 z2
  rcases z1 with z1 | z1
  · rcases z2 with z2 | z2
    · exact D a c ha hc q z1 z2 z3
    · subst z2; exact key a ha q z1 z3
  · subst z1
    rcases z2 with z2 | z2
    · intro z; exact key c hc (fun y => q y.symm) z2 z3.symm ((ovl_sym V a c).mp z)
    · exact absurd z2.symm q
theorem oc_tk {V : Wv} {n dn b : Nat} (W : WF V n dn) (hb : b < n) {x : Int32} (hx : bt x b = false) {k : Nat} (hk : k < n) : ocB V (V.2.1 b 1) (nI (mskN (kd V b) (hf V b))) x k = tkB V x b k := by
  have h1 := WF_br W k hk
  have h2 := WF_br W b hb
  unfold ocB tkB
  rw [ov_msk W hk hb, h1.2.1, h2.2.1]
  by_cases q : k = b
  · rw [q, hx]; simp
  · rw [decide_eq_false q]
    by_cases qc : co V k = co V b
    · rw [qc]; simp
    · rw [decide_eq_false qc, decide_eq_false (fun z => qc ((nI_eq (by omega) (by omega)).mp z))]; rfl
theorem X4_canBack {h : Hp} {V : Wv} {n dn b : Nat} (W : CW h V n dn) (hb : b < n) (hq : bt (V.1 2) b = false) : ∃ h', f_X4_canComeBack 1 (nI b) h = some (bi (!anyB (tkB V (V.1 2) b) n && bt (lvS V n (V.1 2 ||| (1 : Int32) <<< (nI b &&& 31)) (V.1 3 ||| V.1 4) 12) b), h') ∧ Sw 1 h h' := by
  have hn := WF_n W.1
  obtain ⟨c0, c1, c2, c3, c4, c5, c6, c7⟩ := W.2.2.1 b hb
  unfold f_X4_canComeBack f_X4_canComeBack_b31
  rw [if_pos (inb_t (by omega) (by decide)), nI_clamp (by omega), c1, c3, CW_c8 W, X4_over W, bnd_some]
  have e : anyB (ocB V (V.2.1 b 1) (nI (mskN (kd V b) (hf V b))) (V.1 2)) n = anyB (tkB V (V.1 2) b) n := anyB_congr (fun k hk => oc_tk W.1 hb hq hk)
  cases ht : anyB (tkB V (V.1 2) b) n
  · rw [if_pos ((mkb_0 (by omega)).mpr (e.trans ht)), if_neg (fun z => z rfl), CW_c9 W]
    have D := Dj_add (WF_D W.1) ht
    obtain ⟨h', e1, e2, -⟩ := X4_standing (CW_C W) (V.1 2 ||| (1 : Int32) <<< (nI b &&& 31)) (V.1 3) (Dj_sub D (fun k hk z => by
      rw [b_or, b_one (by omega) (by omega)] at z
      exact z))
    rw [CW_c10 W] at e1
    refine ⟨h', ?_, e2⟩
    rw [CW_c8 W, e1, bnd_some, shr1 _ (by omega)]
    cases bt (lvS V n (V.1 2 ||| (1 : Int32) <<< (nI b &&& 31)) (V.1 3 ||| V.1 4) 12) b <;> rfl
  · refine ⟨h, ?_, Sw.rfl'⟩
    rw [if_neg (fun z => by have := (mkb_0 (by omega)).mp z; rw [e, ht] at this; cases this), if_pos (by decide)]
    rfl
theorem st_undo (h : Hp) (hI : Inv h) : ∃ (r : Int32) (h1 h2 : Hp), f_X5_undo h = some (r, h1) ∧ f_X6_undo h1 = some (r, h2) ∧ Inv h2 := by
  obtain ⟨V, n, dn, W⟩ := Inv_W hI
  have hn := IW_n W
  have hdp := IW_dp W
  by_cases h0 : dn = 0
  · refine ⟨-4, h, h, ?_, ?_, hI⟩
    · unfold f_X5_undo f_X4_lastDrawn
      rw [CW_c13 (cw W), h0, if_pos (by decide), bnd_some, if_pos rfl]
    · unfold f_X6_undo
      rw [MW_m22 (mw W), h0, if_neg (fun z => z rfl)]
  obtain ⟨b, hb, b2, hq⟩ := IW_dr W (dn - 1) (by omega)
  have cd : h.1 14 1 (dn - 1) = nI b := (W.2.1.2.2.1 (dn - 1) (by omega)).trans b2
  have en : nI dn - 1 = nI (dn - 1) := nI_subI (b := 1) (by omega)
  have cl : f_X5_undo h = bnd (f_X4_canComeBack 1 (nI b) h) (fun v5 h6 => if ¬ v5 = 0 then (bnd (f_X4_comeBack 1 (nI b) h6) (fun v9 h10 => some (nI b, h10))) else (some ((-4 : Int32), h6))) := by
    unfold f_X5_undo f_X4_lastDrawn
    rw [CW_c13 (cw W), if_neg (show ¬ nI dn ≤ (0 : Int32) from nI_ge (b := dn) (a := 0) (by omega) (by omega)), en, if_pos (inb_t (by omega) (by decide)), nI_clamp (by omega), cd, bnd_some, if_neg (nI_m9 (by omega))]
  obtain ⟨h', e1, e2⟩ := X4_canBack (cw W) hb hq
  have W1 := IW_sw e2 W
  generalize hx : (1 : Int32) <<< (nI b &&& 31) = x at e1
  have bx : ∀ i, i < 32 → bt x i = decide (i = b) := fun i hi => by rw [← hx, b_one (by omega) hi]
  generalize hin : V.1 2 ||| x = i' at e1
  have bin : ∀ i, i < 32 → bt i' i = (bt (V.1 2) i || decide (i = b)) := fun i hi => by rw [← hin, b_or, bx i hi]
  have mo : ∀ h, MW h V n dn → f_X6_undo h = if ¬ bi (anyB (tkB V (V.1 2) b) n) = 0 then some (-4, h) else if ¬ bi (bt (lvS V n i' (V.1 3 ||| V.1 4) 12) b) = 0 then some (nI b, si (si h 20 0 13 i') 20 0 22 (nI (dn - 1))) else some (-4, h) := fun h M => by
    have cd : h.1 28 0 (dn - 1) = nI b := (M.2.2.2 (dn - 1) (by omega)).trans b2
    unfold f_X6_undo
    rw [MW_m22 M, if_pos (nI_ne0 (by omega) (by omega)), en, if_pos (inb_t (by omega) (by decide)), nI_clamp (by omega), cd, X6_isTaken (MK_of (MW_M M)) (Nat.le_refl n) hb (MW_m11 M) (V.1 2) (MW_m13 M), bnd_some, MW_m13 M, MW_m14 M, MW_m15 M, hx, hin, X6_standing (MW_M M), bnd_some, X6_has _ h (by omega), bnd_some, si_j _ (by decide), MW_m22 M, en]
    rw [MW_m13 M, hin]
  cases ht : anyB (tkB V (V.1 2) b) n
  · cases hs : bt (lvS V n i' (V.1 3 ||| V.1 4) 12) b
    · rw [ht, hs] at e1
      refine ⟨-4, h', h', ?_, ?_, Inv_sw e2 hI⟩
      · rw [cl, e1, bnd_some, if_neg (fun z => z rfl)]
      · rw [mo h' (mw W1), ht, hs, if_neg (fun z => z rfl), if_neg (fun z => z rfl)]
    · rw [ht, hs] at e1
      let h1 : Hp := si (si h' 11 1 8 i') 11 1 13 (nI (dn - 1))
      let h2 : Hp := si (si h1 20 0 13 i') 20 0 22 (nI (dn - 1))
      let s : Nat → Int32 := fun i => if i = 2 then i' else if i = 7 then nI (dn - 1) else V.1 i
      have inle : ∀ i, bt (V.1 2) i = true → bt i' i = true := fun i z => by
        rcases Nat.lt_or_ge i 32 with y | y
        · rw [bin i y, z]; rfl
        · rw [b_big y] at z; cases z
      have ine : ∀ i, i ≠ b → bt i' i = bt (V.1 2) i := fun i q => by
        rcases Nat.lt_or_ge i 32 with y | y
        · rw [bin i y, decide_eq_false q, Bool.or_false]
        · rw [b_big y, b_big y]
      have ib : bt i' b = true := by rw [bin b (by omega), decide_eq_true rfl, Bool.or_true]
      have pin : pcn i' 14 = pcn (V.1 2) 14 + 1 := mkn_up (b := b) (by omega) ine hq ib
      have w2 : WF (s, (V.2.1, V.2.2)) n (dn - 1) := by
        obtain ⟨r1, r2, r3, r4, r5, r6, r7, r8, r9, r10⟩ := WF_rest W.1
        refine WF_sd W.1 rfl rfl rfl ⟨fun i hi => ?_, fun i z => inle i (r2 i z), fun i z => inle i (r3 i z), r4, r5, r6, Dj_sub (Dj_add r7 ht) (fun k hk z => ?_), fun i hi => ?_, fun i j hi hj z => r9 i j (by omega) (by omega) z, ?_⟩
        · show bt i' i = false
          rw [ine i (by omega)]
          exact r1 i hi
        · show (bt (V.1 2) k || decide (k = b)) = true
          rw [← bin k (by omega)]
          exact z
        · obtain ⟨c, c1, c2, c3⟩ := r8 i (by omega)
          refine ⟨c, c1, c2, ?_⟩
          show bt i' c = false
          rw [ine c (fun y => ?_)]
          · exact c3
          · rw [y, ← b2] at c2
            have := r9 i (dn - 1) (by omega) (by omega) c2
            omega
        · show dn - 1 + pcn i' 14 ≤ n
          omega
      have W2 : IW h2 (s, (V.2.1, V.2.2)) n (dn - 1) := by
        have c := W1.2.1.1
        have m := W1.2.2.1.1
        refine IW_sd W1 w2 rfl ⟨c.1, c.2.1, rfl, c.2.2.2.1, c.2.2.2.2.1, c.2.2.2.2.2.1, c.2.2.2.2.2.2.1, rfl⟩ ⟨m.1, m.2.1, rfl, m.2.2.2.1, m.2.2.2.2.1, m.2.2.2.2.2.1, m.2.2.2.2.2.2.1, rfl⟩ rfl (fun i hi => W1.2.1.2.2.1 i (by omega)) (fun i hi => W1.2.2.1.2.2 i (by omega)) (fun g i j q q1 q2 q3 q4 => ?_)
        rw [si_g _ q3, si_g _ q3, si_ne _ _ (by omega), si_ne _ _ (by omega)]
      have M1 : MW h1 V n dn := MW_si (MW_si (mw W1) (by decide)) (by decide)
      refine ⟨nI b, h1, h2, ?_, ?_, Inv_w (Inv_sw e2 hI) W2 rfl (fun g i j q => ?_)⟩
      · rw [cl, e1, bnd_some, if_pos (by decide)]
        unfold f_X4_comeBack
        rw [bnd_some, si_j _ (by decide), CW_c13 (cw W1), CW_c8 (cw W1), hx, hin, en]
      · rw [mo h1 M1, ht, hs, if_neg (fun z => z rfl), if_pos (by decide)]
      · show (si (si h1 20 0 13 i') 20 0 22 (nI (dn - 1))).1 g i j = _
        rw [si_ne _ _ (by omega), si_ne _ _ (by omega)]
        show (si (si h' 11 1 8 i') 11 1 13 (nI (dn - 1))).1 g i j = _
        rw [si_ne _ _ (by omega), si_ne _ _ (by omega)]
  · rw [ht] at e1
    refine ⟨-4, h', h', ?_, ?_, Inv_sw e2 hI⟩
    · rw [cl, e1, bnd_some, if_neg (fun z => z rfl)]
    · rw [mo h' (mw W1), ht, if_pos (by decide)]
