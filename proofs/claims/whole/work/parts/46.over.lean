theorem and_one (x : Int32) {k : Nat} (hk : k < 32) : x &&& ((1 : Int32) <<< (nI k &&& 31)) = if bt x k then (1 : Int32) <<< (nI k &&& 31) else 0 := by
  apply b_ext
  intro i hi
  rw [b_and, b_one hk hi]
  by_cases q : i = k
  · subst q
    cases e : bt x i
    · rw [if_neg (by decide), b_0]; rfl
    · rw [if_pos rfl, b_one hk hi]; simp
  · rw [decide_eq_false q, Bool.and_false]
    split
    · rw [b_one hk hi, decide_eq_false q]
    · rw [b_0]
def ocB (V : Wv) (a m x : Int32) (k : Nat) : Bool := bt x k && (decide (V.2.1 k 1 = a) && !decide (nI (mskN (kd V k) (hf V k)) &&& m = 0))
theorem X4_over_loop {h : Hp} {V : Wv} {n w : Nat} (hn : n ≤ 14) (c7 : h.1 11 w 7 = nI n) (cb : ∀ k, k < n → h.1 17 (14 * w + k) 1 = V.2.1 k 1 ∧ h.1 17 (14 * w + k) 3 = nI (mskN (kd V k) (hf V k))) (a m x : Int32) : ∀ (d k fuel : Nat), k + d = n → d < fuel → f_X4_over_b6 fuel w a m x (mkb (ocB V a m x) k) (nI k) h = some (mkb (ocB V a m x) n, h) := by
  intro d
  induction d with
  | zero =>
    intro k fuel hk hq
    obtain ⟨f, rfl⟩ : ∃ f, fuel = f + 1 := ⟨fuel - 1, by omega⟩
    show f_X4_over_b6_body _ _ _ _ _ _ _ _ = _
    unfold f_X4_over_b6_body
    rw [c7, if_pos (nI_le (by omega) (by omega)), show k = n by omega]
  | succ d ih =>
    intro k fuel hk hq
    have hkn : k < n := by omega
    obtain ⟨f, rfl⟩ : ∃ f, fuel = f + 1 := ⟨fuel - 1, by omega⟩
    obtain ⟨c1, c3⟩ := cb k hkn
    have nx : ∀ z, z = (if ocB V a m x k then (1 : Int32) <<< (nI k &&& 31) else 0) → f_X4_over_b67 (f_X4_over_b6 f) w a m x (nI k) (mkb (ocB V a m x) k) z h = some (mkb (ocB V a m x) n, h) := fun z e => by
      unfold f_X4_over_b67
      rw [e, ← mkb_s, nI_1]
      exact ih (k + 1) f (by omega) (by omega)
    show f_X4_over_b6_body _ _ _ _ _ _ _ _ = _
    unfold f_X4_over_b6_body f_X4_over_b47 f_X4_over_b48
    rw [c7, if_neg (nI_ge hkn (by omega)), if_pos (inb_t (by omega) (by decide)), nI_clamp (by omega), c1, c3]
    by_cases q1 : V.2.1 k 1 = a
    · rw [if_neg (fun z => z q1)]
      by_cases q2 : nI (mskN (kd V k) (hf V k)) &&& m = 0
      · rw [if_pos q2, if_pos rfl]
        exact nx 0 (by unfold ocB; rw [decide_eq_true q2]; simp)
      · rw [if_neg q2, if_neg (by decide)]
        exact nx _ (by rw [and_one x (by omega)]; unfold ocB; rw [decide_eq_true q1, decide_eq_false q2]; simp)
    · rw [if_pos q1, if_pos rfl]
      exact nx 0 (by unfold ocB; rw [decide_eq_false q1]; simp)
theorem X4_over {h : Hp} {V : Wv} {n dn : Nat} (W : CW h V n dn) (a m x : Int32) : f_X4_over 1 a m x h = some (mkb (ocB V a m x) n, h) :=
  X4_over_loop (WF_n W.1) (CW_c7 W) (fun k hk => ⟨(W.2.2.1 k hk).2.1, (W.2.2.1 k hk).2.2.2.1⟩) a m x n 0 200 (by omega) (by have := WF_n W.1; omega)
theorem WF_hf {V : Wv} {n dn : Nat} (W : WF V n dn) : ∀ b, b < n → hf V b + ln V b ≤ 9 := fun b hb => by
  obtain ⟨wd, w1, -, -, w2⟩ := W.2.2.2.1
  have := w2 b hb
  omega
theorem ln_ge (V : Wv) (b : Nat) : 2 ≤ ln V b := by unfold ln; split <;> omega
theorem msk_ov {k x k' x' : Nat} (h1 : k ≤ 5) (h2 : x ≤ 9) (h3 : k' ≤ 5) (h4 : x' ≤ 9) : nI (mskN k x) &&& nI (mskN k' x') = 0 ↔ ¬ (x < x' + (if 4 ≤ k' then 3 else 2) ∧ x' < x + (if 4 ≤ k then 3 else 2)) := by
  rw [and_none]
  have l1 : (if 4 ≤ k then 3 else 2) ≥ 2 ∧ (if 4 ≤ k then 3 else 2) ≤ 3 := by split <;> omega
  have l2 : (if 4 ≤ k' then 3 else 2) ≥ 2 ∧ (if 4 ≤ k' then 3 else 2) ≤ 3 := by split <;> omega
  constructor
  · intro e ⟨z1, z2⟩
    rcases Nat.lt_or_ge x x' with q | q
    · have := e (x' + 1) (by omega) (by rw [msk_bit k' (by omega) x' (by omega) _ (by omega), decide_eq_true (by omega)])
      rw [msk_bit k (by omega) x (by omega) _ (by omega), decide_eq_true (by omega)] at this
      cases this
    · have := e (x + 1) (by omega) (by rw [msk_bit k' (by omega) x' (by omega) _ (by omega), decide_eq_true (by omega)])
      rw [msk_bit k (by omega) x (by omega) _ (by omega), decide_eq_true (by omega)] at this
      cases this
  · intro e j hj z
    rw [msk_bit k' (by omega) x' (by omega) _ hj, decide_eq_true_iff] at z
    rw [msk_bit k (by omega) x (by omega) _ hj]
    apply decide_eq_false
    omega
theorem ov_msk {V : Wv} {n dn a b : Nat} (W : WF V n dn) (ha : a < n) (hb : b < n) : decide (nI (mskN (kd V a) (hf V a)) &&& nI (mskN (kd V b) (hf V b)) = 0) = !ovB V a b := by
  have h1 := WF_br W a ha
  have h2 := WF_br W b hb
  have h3 := WF_hf W a ha
  have h4 := WF_hf W b hb
  have e := msk_ov (k := kd V a) (x := hf V a) (k' := kd V b) (x' := hf V b) h1.2.2.2.1 (by omega) h2.2.2.2.1 (by omega)
  unfold ovB ln
  by_cases q : nI (mskN (kd V a) (hf V a)) &&& nI (mskN (kd V b) (hf V b)) = 0
  · rw [decide_eq_true q]
    have := e.mp q
    by_cases z1 : hf V a < hf V b + if 4 ≤ kd V b then 3 else 2
    · rw [decide_eq_true z1, decide_eq_false (fun z2 => this ⟨z1, z2⟩)]; rfl
    · rw [decide_eq_false z1]; rfl
  · rw [decide_eq_false q]
    have := Classical.not_not.mp (fun z => q (e.mpr z))
    rw [decide_eq_true this.1, decide_eq_true this.2]; rfl
/-! rests -/
def rnB (V : Wv) (a : Int32) (b k : Nat) : Bool := decide (V.2.1 k 1 = a) && ovB V k b
theorem oc_rn {V : Wv} {n dn b : Nat} (W : WF V n dn) (hb : b < n) (a x : Int32) (sx : sub x n) : mkb (ocB V a (nI (mskN (kd V b) (hf V b))) x) n = mkb (rnB V a b) n &&& x := by
  have hn := WF_n W
  apply b_ext
  intro i hi
  rw [b_and, b_mkb _ n i (by omega) hi, b_mkb _ n i (by omega) hi]
  by_cases q : i < n
  · rw [decide_eq_true q]
    unfold ocB rnB
    rw [ov_msk W q hb]
    cases bt x i <;> simp
  · rw [sx i (by omega), decide_eq_false q]; rfl
theorem MK_over {h : Hp} {V : Wv} {n dn : Nat} (W : MW h V n dn) {a b : Nat} (ha : a < n) (hb : b < n) : f_X6_over (nI a) (nI b) h = some (bi (ovB V a b), h) := X6_over (MW_M W) ha hb
theorem X6_rests_loop {V : Wv} {n dn b : Nat} {h : Hp} (W : MW h V n dn) (hb : b < n) : ∀ (d k fuel : Nat), k + d = n → d < fuel → f_X6_rests_b20 fuel (nI b) (mkb (rnB V (V.2.1 b 1 - 1) b) k) (mkb (rnB V (V.2.1 b 1 + 1) b) k) (nI k) h = some (mkb (rnB V (V.2.1 b 1 - 1) b) n &&& St V n, si h 20 0 2 (mkb (rnB V (V.2.1 b 1 + 1) b) n &&& V.1 2)) := by
  have hn := WF_n W.1
  intro d
  induction d with
  | zero =>
    intro k fuel hk hq
    obtain ⟨f, rfl⟩ : ∃ f, fuel = f + 1 := ⟨fuel - 1, by omega⟩
    show f_X6_rests_b20_body _ _ _ _ _ _ = _
    unfold f_X6_rests_b20_body
    rw [MW_m11 W, if_pos (nI_le (by omega) (by omega)), show k = n by omega, X6_stand W, bnd_some, StO_0, MW_m13 W]
    rfl
  | succ d ih =>
    intro k fuel hk hq
    have hkn : k < n := by omega
    obtain ⟨f, rfl⟩ : ∃ f, fuel = f + 1 := ⟨fuel - 1, by omega⟩
    have M1 : ∀ c, c < n → f_X6_of (nI c) 1 h = some (V.2.1 c 1, h) := fun c hc => M_of W (j := 1) hc (by decide)
    have n2 : ∀ x z, x = mkb (rnB V (V.2.1 b 1 - 1) b) (k + 1) → z = (if rnB V (V.2.1 b 1 + 1) b k then (1 : Int32) <<< (nI k &&& 31) else 0) → f_X6_rests_b106 (f_X6_rests_b20 f) (nI b) x (nI k) (mkb (rnB V (V.2.1 b 1 + 1) b) k) z h = some (mkb (rnB V (V.2.1 b 1 - 1) b) n &&& St V n, si h 20 0 2 (mkb (rnB V (V.2.1 b 1 + 1) b) n &&& V.1 2)) := fun x z e1 e2 => by
      unfold f_X6_rests_b106
      rw [e1, e2, ← mkb_s, nI_1]
      exact ih (k + 1) f (by omega) (by omega)
    have n1 : ∀ z, z = (if rnB V (V.2.1 b 1 - 1) b k then (1 : Int32) <<< (nI k &&& 31) else 0) → f_X6_rests_b66 (f_X6_rests_b20 f) (nI b) (mkb (rnB V (V.2.1 b 1 + 1) b) k) (nI k) (mkb (rnB V (V.2.1 b 1 - 1) b) k) z h = some (mkb (rnB V (V.2.1 b 1 - 1) b) n &&& St V n, si h 20 0 2 (mkb (rnB V (V.2.1 b 1 + 1) b) n &&& V.1 2)) := fun z e => by
      unfold f_X6_rests_b66 f_X6_rests_b105
      rw [M1 k hkn, bnd_some, M1 b hb, bnd_some, e, ← mkb_s]
      by_cases q1 : V.2.1 k 1 = V.2.1 b 1 + 1
      · rw [if_neg (fun z => z q1), MK_over W hkn hb, bnd_some]
        cases ho : ovB V k b
        · rw [bi_f, if_pos rfl]
          exact n2 _ _ rfl (by unfold rnB; rw [ho]; simp)
        · rw [bi_t, if_neg (by decide)]
          exact n2 _ _ rfl (by unfold rnB; rw [ho, decide_eq_true q1]; simp)
      · rw [if_pos q1]
        exact n2 _ _ rfl (by unfold rnB; rw [decide_eq_false q1]; simp)
    show f_X6_rests_b20_body _ _ _ _ _ _ = _
    unfold f_X6_rests_b20_body f_X6_rests_b65
    rw [MW_m11 W, if_neg (nI_ge hkn (by omega)), M1 k hkn, bnd_some, M1 b hb, bnd_some]
    by_cases q1 : V.2.1 k 1 = V.2.1 b 1 - 1
    · rw [if_neg (fun z => z q1), MK_over W hkn hb, bnd_some]
      cases ho : ovB V k b
      · rw [bi_f, if_pos rfl]
        exact n1 _ (by unfold rnB; rw [ho]; simp)
      · rw [bi_t, if_neg (by decide)]
        exact n1 _ (by unfold rnB; rw [ho, decide_eq_true q1]; simp)
    · rw [if_pos q1]
      exact n1 _ (by unfold rnB; rw [decide_eq_false q1]; simp)
theorem st_rests (a1 : Int32) (h : Hp) (hI : Inv h) : ∃ (r : Int32) (h1 h2 : Hp), f_X5_rests a1 h = some (r, h1) ∧ f_X6_rests a1 h1 = some (r, h2) ∧ Inv h2 := by
  obtain ⟨V, n, dn, W⟩ := Inv_W hI
  have hn := IW_n W
  rcases rng n (by omega) a1 with q | ⟨b, hb, rfl⟩
  · refine ⟨-1, h, h, ?_, ?_, hI⟩
    · unfold f_X5_rests; rw [X4_has_n (cw W) q, bnd_some, if_neg (fun z => z rfl)]
    · unfold f_X6_rests; rw [X6_askedIn_n (mw W) q, bnd_some, if_neg (by decide)]
  cases hq : bt (V.1 2) b
  · have W1 : IW (rfC h 1) V n dn := IW_rf W
    refine ⟨-3, rfC h 1, mtC (rfC h 1) 1, ?_, ?_, rm_Inv hI⟩
    · unfold f_X5_rests; rw [X4_has_y (cw W) hb, bnd_some, if_pos (by decide), X4_isIn' (cw W) hb, bnd_some, hq, bi_f, if_neg (fun z => z rfl), X5_ref1, bnd_some]
    · unfold f_X6_rests; rw [X6_askedIn_o (mw W1) hb hq, bnd_some, if_neg (by decide)]
  obtain ⟨c0, c1, c2, c3, c4, c5, c6, c7⟩ := W.2.1.2.1 b hb
  generalize ht : mkb (rnB V (V.2.1 b 1 + 1) b) n &&& V.1 2 = t
  have W0 : IW (si h 0 0 7 t) V n dn := IW_si W (by unfold wcore; omega)
  obtain ⟨h', e1, e2, -⟩ := X4_stand (cw W0)
  have W1 := IW_sw e2 W0
  have hI0 : Inv (ask2 h t) := ask_Inv hI
  refine ⟨mkb (rnB V (V.2.1 b 1 - 1) b) n &&& St V n, h', si h' 20 0 2 t, ?_, ?_, ?_⟩
  · unfold f_X5_rests
    rw [X4_has_y (cw W) hb, bnd_some, if_pos (by decide), X4_isIn' (cw W) hb, bnd_some, hq, bi_t, if_pos (by decide), if_pos (inb_t (by omega) (by decide)), nI_clamp (by omega), c1, c3, CW_c8 (cw W), X4_over (cw W), bnd_some, oc_rn W.1 hb _ _ (IW_in W), ht, si_g _ (by decide), si_g _ (by decide), e1, bnd_some, c1, c3, X4_over (cw W1), bnd_some, oc_rn W.1 hb _ _ (St_sub W.1)]
  · unfold f_X6_rests
    rw [X6_askedIn_i (mw W1) hb hq, bnd_some, if_pos (by decide), ← ht]
    exact X6_rests_loop (mw W1) hb n 0 200 (by omega) (by omega)
  · refine Inv_sw (h := ask2 h t) (w := 1) ⟨fun g i j q => ?_, e2.2⟩ hI0
    by_cases q1 : g = 20 ∧ i = 0 ∧ j = 2
    · obtain ⟨rfl, rfl, rfl⟩ := q1
      unfold ask2
      rw [si_at, si_at]
    · unfold ask2
      rw [si_ne _ _ q1, si_ne _ _ q1, e2.1 g i j q]
