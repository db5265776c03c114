theorem mkn_congr {p q : Nat → Bool} : ∀ {n : Nat}, (∀ k, k < n → p k = q k) → mkn p n = mkn q n
  | 0, _ => rfl
  | n + 1, h => by
    unfold mkn
    rw [mkn_congr (fun k hk => h k (by omega)), h n (by omega)]
theorem bcF_nI {k : Nat} (hk : k < 2 ^ 14) : bcF (nI k) = nI (pcn (nI k) 14) := by
  have t := allN_iff (allN_iff bn_tab (k / 128) (by omega)) (k % 128) (by omega)
  rw [show 128 * (k / 128) + k % 128 = k from Nat.div_add_mod k 128] at t
  have t2 : bn5 (bn4 (bn3 (bn2 (bn1 k)))) = mkn (Nat.testBit k) 14 := of_decide_eq_true t
  have e : pcn (nI k) 14 = mkn (Nat.testBit k) 14 := mkn_congr (fun i hi => bt_nI k (by omega))
  rw [e, ← t2]
  have l1 : bn1 k ≤ k := Nat.sub_le _ _
  have l2 : bn2 (bn1 k) < 2 ^ 31 := by
    have a : bn1 k &&& 858993459 ≤ bn1 k := Nat.and_le_left
    have b : (bn1 k >>> 2) &&& 858993459 ≤ bn1 k >>> 2 := Nat.and_le_left
    have c : bn1 k >>> 2 ≤ bn1 k := Nat.shiftRight_le _ _
    unfold bn2
    omega
  have l3 : bn3 (bn2 (bn1 k)) ≤ 252645135 := Nat.and_le_right
  have l4 : bn4 (bn3 (bn2 (bn1 k))) < 2 ^ 31 := by
    have c : bn3 (bn2 (bn1 k)) >>> 8 ≤ bn3 (bn2 (bn1 k)) := Nat.shiftRight_le _ _
    unfold bn4
    omega
  have e1 : nI k - (((nI k).toUInt32 >>> ((nI 1).toUInt32 &&& Int32.toUInt32 31)).toInt32 &&& nI 1431655765) = nI (bn1 k) := by
    rw [nI_ushr (by omega) (by decide), nI_land]
    exact nI_subI (Nat.le_trans Nat.and_le_left (Nat.shiftRight_le _ _))
  have e2 : (nI (bn1 k) &&& nI 858993459) + (((nI (bn1 k)).toUInt32 >>> ((nI 2).toUInt32 &&& Int32.toUInt32 31)).toInt32 &&& nI 858993459) = nI (bn2 (bn1 k)) := by
    rw [nI_ushr (by omega) (by decide), nI_land, nI_land, nI_add]
    rfl
  have e3 : (nI (bn2 (bn1 k)) + ((nI (bn2 (bn1 k))).toUInt32 >>> ((nI 4).toUInt32 &&& Int32.toUInt32 31)).toInt32) &&& nI 252645135 = nI (bn3 (bn2 (bn1 k))) := by
    rw [nI_ushr (by omega) (by decide), nI_add, nI_land]
    rfl
  have e4 : nI (bn3 (bn2 (bn1 k))) + ((nI (bn3 (bn2 (bn1 k)))).toUInt32 >>> ((nI 8).toUInt32 &&& Int32.toUInt32 31)).toInt32 = nI (bn4 (bn3 (bn2 (bn1 k)))) := by
    rw [nI_ushr (by omega) (by decide), nI_add]
    rfl
  have e5 : (nI (bn4 (bn3 (bn2 (bn1 k)))) + ((nI (bn4 (bn3 (bn2 (bn1 k))))).toUInt32 >>> ((nI 16).toUInt32 &&& Int32.toUInt32 31)).toInt32) &&& nI 63 = nI (bn5 (bn4 (bn3 (bn2 (bn1 k))))) := by
    rw [nI_ushr (by omega) (by decide), nI_add, nI_land]
    rfl
  unfold bcF
  rw [show (1 : Int32) = nI 1 from rfl, show (2 : Int32) = nI 2 from rfl, show (4 : Int32) = nI 4 from rfl, show (8 : Int32) = nI 8 from rfl, show (16 : Int32) = nI 16 from rfl, show (1431655765 : Int32) = nI 1431655765 from rfl, show (858993459 : Int32) = nI 858993459 from rfl, show (252645135 : Int32) = nI 252645135 from rfl, show (63 : Int32) = nI 63 from rfl, e1, e2, e3, e4, e5]
theorem sub_nI {x : Int32} (h : sub x 14) : ∃ k, k < 2 ^ 14 ∧ x = nI k := by
  refine ⟨x.toBitVec.toNat, ?_, ?_⟩
  · apply Nat.lt_pow_two_of_testBit
    intro i hi
    exact h i hi
  · apply b_ext
    intro i hi
    rw [bt_nI _ hi]
    rfl
theorem bc_of {x : Int32} (s : sub x 14) (h : Hp) : f_J6_bitCount x h = some (nI (pcn x 14), h) := by
  obtain ⟨k, hk, rfl⟩ := sub_nI s
  rw [J6_bc, bcF_nI hk]
theorem mkn_le (p : Nat → Bool) : ∀ n, mkn p n ≤ n
  | 0 => Nat.le_refl 0
  | n + 1 => by
    have := mkn_le p n
    unfold mkn
    split <;> omega
theorem X6_size_loop (x : Int32) (h : Hp) : ∀ (d k fuel : Nat), k + d = 14 → d < fuel → f_X6_sizeOf_b4 fuel x (nI (mkn (bt x) k)) (nI k) h = some (nI (mkn (bt x) 14), h) := by
  intro d
  induction d with
  | zero =>
    intro k fuel hk hq
    obtain ⟨f, rfl⟩ : ∃ f, fuel = f + 1 := ⟨fuel - 1, by omega⟩
    show f_X6_sizeOf_b4_body _ _ _ _ _ = _
    unfold f_X6_sizeOf_b4_body
    rw [show k = 14 by omega, if_pos (by decide)]
  | succ d ih =>
    intro k fuel hk hq
    obtain ⟨f, rfl⟩ : ∃ f, fuel = f + 1 := ⟨fuel - 1, by omega⟩
    show f_X6_sizeOf_b4_body _ _ _ _ _ = _
    unfold f_X6_sizeOf_b4_body
    rw [if_neg (show ¬ (14 : Int32) ≤ nI k from nI_ge (b := 14) (by omega) (by decide)), shr1 x (by omega), nI_1, ← ih (k + 1) f (by omega) (by omega)]
    show f_X6_sizeOf_b4 f x (nI (mkn (bt x) k) + bi (bt x k)) (nI (k + 1)) h = f_X6_sizeOf_b4 f x (nI (mkn (bt x) k + if bt x k then 1 else 0)) (nI (k + 1)) h
    cases bt x k
    · rw [bi_f, Int32.add_zero]; rfl
    · rw [bi_t, nI_1]; rfl
theorem X6_sizeOf (x : Int32) (h : Hp) : f_X6_sizeOf x h = some (nI (pcn x 14), h) := X6_size_loop x h 14 0 200 (by omega) (by omega)
/-! the wall on both sides, with its value -/
def IW (h : Hp) (V : Wv) (n dn : Nat) : Prop := WF V n dn ∧ CR h 1 V n dn ∧ MR h V n dn ∧ h.1 11 1 5 = (if V.1 0 = 0 then 0 else 1) ∧ ∀ k, k < 3 → Kept h V k
theorem IW_of {h h' : Hp} {V : Wv} {n dn : Nat} (e : ∀ g i j, wcore g i j → h'.1 g i j = h.1 g i j) (H : IW h V n dn) : IW h' V n dn := by
  obtain ⟨H1, H2, H3, H4, H5⟩ := H
  refine ⟨H1, CR_of (Nat.le_refl 1) e H2, MR_of H1.1 e H3, ?_, fun k hk => Kept_of e (H5 k hk)⟩
  rw [e 11 1 5 (by unfold wcore; omega)]
  exact H4
theorem Sw_c {h h' : Hp} {w g i j : Nat} (a : Sw w h h') (q : core g i j) : h'.1 g i j = h.1 g i j := a.g (by unfold core at q; omega) (by unfold core at q; omega)
theorem Sw_wc {h h' : Hp} {w g i j : Nat} (a : Sw w h h') (q : wcore g i j) : h'.1 g i j = h.1 g i j := a.g (by unfold wcore at q; omega) (by unfold wcore at q; omega)
theorem IW_sw {h h' : Hp} {V : Wv} {n dn w : Nat} (a : Sw w h h') (H : IW h V n dn) : IW h' V n dn := IW_of (fun _ _ _ q => Sw_wc a q) H
theorem Inv_sw {h h' : Hp} {w : Nat} (a : Sw w h h') (H : Inv h) : Inv h' := by
  refine Inv_of (fun _ _ _ q => Sw_c a q) ?_ H
  obtain ⟨x1, x2, x3, x4, x5⟩ := H.1
  unfold InvA
  rw [a.2]
  refine ⟨?_, ?_, fun f hf => ?_, x4, x5⟩
  · rw [a.g (by decide) (by decide), a.g (by decide) (by decide)]; exact x1
  · rw [a.g (by decide) (by decide), a.g (by decide) (by decide)]; exact x2
  · rw [a.g (by decide) (by decide), a.g (by decide) (by decide)]; exact x3 f hf
def MW (h : Hp) (V : Wv) (n dn : Nat) : Prop := WF V n dn ∧ MR h V n dn
def CW (h : Hp) (V : Wv) (n dn : Nat) : Prop := WF V n dn ∧ CR h 1 V n dn
theorem mw {h : Hp} {V : Wv} {n dn : Nat} (W : IW h V n dn) : MW h V n dn := ⟨W.1, W.2.2.1⟩
theorem cw {h : Hp} {V : Wv} {n dn : Nat} (W : IW h V n dn) : CW h V n dn := ⟨W.1, W.2.1⟩
theorem CW_sw {h h' : Hp} {V : Wv} {n dn w : Nat} (a : Sw w h h') (H : CW h V n dn) : CW h' V n dn := ⟨H.1, CR_of (Nat.le_refl 1) (fun _ _ _ q => Sw_wc a q) H.2⟩
section IWS
variable {h : Hp} {V : Wv} {n dn : Nat}
theorem WF_n (W : WF V n dn) : n ≤ 14 := W.1
theorem IW_n (W : IW h V n dn) : n ≤ 14 := WF_n W.1
theorem CW_C (W : CW h V n dn) : CB h 1 V n := CB_of W.1 W.2
theorem MW_M (W : MW h V n dn) : MB h V n := MB_of W.1 W.2
theorem CW_c7 (W : CW h V n dn) : h.1 11 1 7 = nI n := W.2.1.2.1.trans W.1.2.1
theorem CW_c8 (W : CW h V n dn) : h.1 11 1 8 = V.1 2 := W.2.1.2.2.1
theorem CW_c9 (W : CW h V n dn) : h.1 11 1 9 = V.1 3 := W.2.1.2.2.2.1
theorem CW_c10 (W : CW h V n dn) : h.1 11 1 10 = V.1 4 := W.2.1.2.2.2.2.1
theorem CW_c11 (W : CW h V n dn) : h.1 11 1 11 = V.1 5 := W.2.1.2.2.2.2.2.1
theorem CW_c12 (W : CW h V n dn) : h.1 11 1 12 = V.1 6 := W.2.1.2.2.2.2.2.2.1
theorem CW_c13 (W : CW h V n dn) : h.1 11 1 13 = nI dn := W.2.1.2.2.2.2.2.2.2.trans W.1.2.2.1
theorem MW_m11 (W : MW h V n dn) : h.1 20 0 11 = nI n := W.2.1.2.1.trans W.1.2.1
theorem MW_m13 (W : MW h V n dn) : h.1 20 0 13 = V.1 2 := W.2.1.2.2.1
theorem MW_m14 (W : MW h V n dn) : h.1 20 0 14 = V.1 3 := W.2.1.2.2.2.1
theorem MW_m15 (W : MW h V n dn) : h.1 20 0 15 = V.1 4 := W.2.1.2.2.2.2.1
theorem MW_m16 (W : MW h V n dn) : h.1 20 0 16 = V.1 5 := W.2.1.2.2.2.2.2.1
theorem MW_m17 (W : MW h V n dn) : h.1 20 0 17 = V.1 6 := W.2.1.2.2.2.2.2.2.1
theorem MW_m22 (W : MW h V n dn) : h.1 20 0 22 = nI dn := W.2.1.2.2.2.2.2.2.2.trans W.1.2.2.1
theorem WF_in (W : WF V n dn) : sub (V.1 2) n := W.2.2.2.2.2.2.2.1
theorem IW_in (W : IW h V n dn) : sub (V.1 2) n := WF_in W.1
theorem WF_wdg (W : WF V n dn) : ∀ i, bt (V.1 3) i = true → bt (V.1 2) i = true := W.2.2.2.2.2.2.2.2.1
theorem IW_wdg (W : IW h V n dn) : ∀ i, bt (V.1 3) i = true → bt (V.1 2) i = true := WF_wdg W.1
theorem WF_vin (W : WF V n dn) : ∀ i, bt (V.1 4) i = true → bt (V.1 2) i = true := W.2.2.2.2.2.2.2.2.2.1
theorem IW_vin (W : IW h V n dn) : ∀ i, bt (V.1 4) i = true → bt (V.1 2) i = true := WF_vin W.1
theorem WF_yes (W : WF V n dn) : sub (V.1 5) 6 := W.2.2.2.2.2.2.2.2.2.2.1
theorem IW_yes (W : IW h V n dn) : sub (V.1 5) 6 := WF_yes W.1
theorem WF_w4 (W : WF V n dn) : pcn (V.1 3) 14 ≤ 4 := W.2.2.2.2.2.2.2.2.2.2.2.1
theorem IW_w4 (W : IW h V n dn) : pcn (V.1 3) 14 ≤ 4 := WF_w4 W.1
theorem WF_y (W : WF V n dn) : ∃ y, y ≤ 1000 ∧ V.1 6 = nI y := W.2.2.2.2.2.2.2.2.2.2.2.2.1
theorem IW_y (W : IW h V n dn) : ∃ y, y ≤ 1000 ∧ V.1 6 = nI y := WF_y W.1
theorem WF_D (W : WF V n dn) : Dj V n (bt (V.1 2)) := W.2.2.2.2.2.2.2.2.2.2.2.2.2.1
theorem IW_D (W : IW h V n dn) : Dj V n (bt (V.1 2)) := WF_D W.1
theorem WF_dr (W : WF V n dn) : ∀ i, i < dn → ∃ b, b < n ∧ V.2.2 i = nI b ∧ bt (V.1 2) b = false := W.2.2.2.2.2.2.2.2.2.2.2.2.2.2.1
theorem IW_dr (W : IW h V n dn) : ∀ i, i < dn → ∃ b, b < n ∧ V.2.2 i = nI b ∧ bt (V.1 2) b = false := WF_dr W.1
theorem WF_dd (W : WF V n dn) : ∀ i j, i < dn → j < dn → V.2.2 i = V.2.2 j → i = j := W.2.2.2.2.2.2.2.2.2.2.2.2.2.2.2.1
theorem IW_dd (W : IW h V n dn) : ∀ i j, i < dn → j < dn → V.2.2 i = V.2.2 j → i = j := WF_dd W.1
theorem WF_dp (W : WF V n dn) : dn + pcn (V.1 2) 14 ≤ n := W.2.2.2.2.2.2.2.2.2.2.2.2.2.2.2.2
theorem IW_dp (W : IW h V n dn) : dn + pcn (V.1 2) 14 ≤ n := WF_dp W.1
theorem sub_mono {x : Int32} {m k : Nat} (h : sub x m) (q : m ≤ k) : sub x k := fun i hi => h i (by omega)
theorem sub_and {x y : Int32} {m : Nat} (h : sub x m) : sub (x &&& y) m := fun i hi => by rw [b_and, h i hi]; rfl
theorem X4_has_y (W : CW h V n dn) {k : Nat} (hk : k < n) : f_X4_has 1 (nI k) h = some (1, h) := by
  have := WF_n W.1
  unfold f_X4_has
  rw [if_neg (nI_pos (by omega)), CW_c7 W, if_neg (nI_ge hk (by omega))]
theorem X4_has_n (W : CW h V n dn) {a : Int32} (q : a < 0 ∨ nI n ≤ a) : f_X4_has 1 a h = some (0, h) := by
  unfold f_X4_has
  rw [CW_c7 W]
  by_cases q1 : a < 0
  · rw [if_pos q1]
  · rw [if_neg q1, if_pos (q.resolve_left q1)]
theorem X6_isBrick_y (W : MW h V n dn) {k : Nat} (hk : k < n) : f_X6_isBrick (nI k) h = some (1, h) := by
  have := WF_n W.1
  unfold f_X6_isBrick
  rw [MW_m11 W, show nI n - 1 = nI (n - 1) from nI_subI (b := 1) (by omega), X6_rng_y h (by omega) (by omega), bnd_some]
  rfl
theorem X6_isBrick_n (W : MW h V n dn) {a : Int32} (q : a < 0 ∨ nI n ≤ a) : f_X6_isBrick a h = some (0, h) := by
  have hn := WF_n W.1
  unfold f_X6_isBrick
  rw [MW_m11 W]
  by_cases h0 : n = 0
  · subst h0
    rw [X6_in_n h (q.imp id (fun z => Int32.lt_of_lt_of_le (show nI 0 - 1 < 0 by decide) z)), bnd_some]
    rfl
  · rw [show nI n - 1 = nI (n - 1) from nI_subI (b := 1) (by omega), X6_rng_n h (by omega) (by rw [Nat.sub_add_cancel (by omega)]; exact q), bnd_some]
    rfl
theorem X6_askedIn_n (W : MW h V n dn) {a : Int32} (q : a < 0 ∨ nI n ≤ a) : f_X6_askedIn a h = some (-1, h) := by
  unfold f_X6_askedIn
  rw [X6_isBrick_n W q, bnd_some, if_neg (fun z => z rfl)]
theorem X6_askedIn_o (W : MW h V n dn) {k : Nat} (hk : k < n) (q : bt (V.1 2) k = false) : f_X6_askedIn (nI k) h = some (-3, mtC h 1) := by
  have := WF_n W.1
  unfold f_X6_askedIn
  rw [X6_isBrick_y W hk, bnd_some, if_pos (by decide), MW_m13 W, X6_has _ h (by omega), bnd_some, q, bi_f, if_pos rfl, show f_X6_meet 1 h = _ from X6_meet (f := 1) h (by decide), bnd_some]
theorem X6_askedIn_i (W : MW h V n dn) {k : Nat} (hk : k < n) (q : bt (V.1 2) k = true) : f_X6_askedIn (nI k) h = some (0, h) := by
  have := WF_n W.1
  unfold f_X6_askedIn
  rw [X6_isBrick_y W hk, bnd_some, if_pos (by decide), MW_m13 W, X6_has _ h (by omega), bnd_some, q, bi_t, if_neg (by decide)]
theorem X4_isIn' (W : CW h V n dn) {k : Nat} (hk : k < n) : f_X4_isIn 1 (nI k) h = some (bi (bt (V.1 2) k), h) := by
  have := WF_n W.1
  rw [X4_isIn h (by omega), CW_c8 W]
theorem X4_hasVine' (W : CW h V n dn) {k : Nat} (hk : k < n) : f_X4_hasVine 1 (nI k) h = some (bi (bt (V.1 4) k), h) := by
  have := WF_n W.1
  rw [X4_hasVine h (by omega), CW_c10 W]
/-! sets -/
theorem pow_n : ∀ n, n < 15 → ((1 : Int32) <<< (nI n &&& 31)) - 1 = nI (2 ^ n - 1) := by decide +kernel
theorem sub_iff {k n : Nat} (hk : k < 2 ^ 31) (hn : n < 15) : sub (nI k) n ↔ k < 2 ^ n := by
  constructor
  · intro s
    apply Nat.lt_pow_two_of_testBit
    intro i hi
    rcases Nat.lt_or_ge i 32 with q | q
    · rw [← bt_nI k q]; exact s i hi
    · exact Nat.testBit_lt_two_pow (Nat.lt_of_lt_of_le hk (Nat.pow_le_pow_right (by decide) (by omega)))
  · intro q i hi
    rcases Nat.lt_or_ge i 32 with z | z
    · rw [bt_nI k z]
      exact Nat.testBit_lt_two_pow (Nat.lt_of_lt_of_le q (Nat.pow_le_pow_right (by decide) hi))
    · exact b_big z
theorem shr_0 {x : Int32} {n : Nat} (hn : n < 32) : x >>> (nI n &&& 31) = 0 ↔ sub x n := by
  constructor
  · intro e i hi
    rcases Nat.lt_or_ge i 32 with z | z
    · have := congrArg (fun y => bt y (i - n)) e
      simp only [b_0] at this
      rw [b_sshr n hn x (by omega), if_pos (by omega), show n + (i - n) = i by omega] at this
      exact this
    · exact b_big z
  · intro s
    apply b_ext
    intro i hi
    rw [b_sshr n hn x hi, b_0]
    split
    · exact s _ (by omega)
    · exact s 31 (by omega)
theorem X4_hasAll_y (W : CW h V n dn) {a : Int32} (h0 : ¬ a < 0) (s : sub a n) : f_X4_hasAll 1 a h = some (1, h) := by
  have := WF_n W.1
  unfold f_X4_hasAll
  rw [if_neg h0, CW_c7 W, if_neg (fun z => z ((shr_0 (by omega)).mpr s))]
theorem X4_hasAll_n (W : CW h V n dn) {a : Int32} (q : a < 0 ∨ ¬ sub a n) : f_X4_hasAll 1 a h = some (0, h) := by
  have := WF_n W.1
  unfold f_X4_hasAll
  rw [CW_c7 W]
  by_cases q1 : a < 0
  · rw [if_pos q1]
  · rw [if_neg q1, if_pos (fun z => (q.resolve_left q1) ((shr_0 (by omega)).mp z))]
theorem X6_isSet_y (W : MW h V n dn) {a : Int32} (h0 : ¬ a < 0) (s : sub a n) : f_X6_isSet a h = some (1, h) := by
  have hn := WF_n W.1
  obtain ⟨k, hk, rfl⟩ := nI_of h0
  have e := (sub_iff hk (by omega)).mp s
  have e2 : 2 ^ n ≤ 2 ^ 14 := Nat.pow_le_pow_right (by decide) hn
  unfold f_X6_isSet
  rw [MW_m11 W, pow_n n (by omega), X6_rng_y h (by omega) (by omega), bnd_some]
  rfl
theorem X6_isSet_n (W : MW h V n dn) {a : Int32} (q : a < 0 ∨ ¬ sub a n) : f_X6_isSet a h = some (0, h) := by
  have hn := WF_n W.1
  have e2 : 2 ^ n ≤ 2 ^ 14 := Nat.pow_le_pow_right (by decide) hn
  have e3 : 0 < 2 ^ n := Nat.pow_pos (by decide)
  unfold f_X6_isSet
  rw [MW_m11 W, pow_n n (by omega), X6_rng_n h (by omega) (by
    rw [Nat.sub_add_cancel e3]
    by_cases q1 : a < 0
    · exact Or.inl q1
    · obtain ⟨k, hk, rfl⟩ := nI_of q1
      refine Or.inr (nI_le ?_ hk)
      rcases Nat.lt_or_ge k (2 ^ n) with z | z
      · exact absurd ((sub_iff hk (by omega)).mpr z) (q.resolve_left q1)
      · exact z), bnd_some]
  rfl
/-! what stands -/
def StO (V : Wv) (n : Nat) (o : Int32) : Int32 := lvS V n (V.1 2 &&& (o ^^^ (-1))) (V.1 3 ||| V.1 4) 12
def St (V : Wv) (n : Nat) : Int32 := lvS V n (V.1 2) (V.1 3 ||| V.1 4) 12
theorem and_n0 (x : Int32) : x &&& ((0 : Int32) ^^^ (-1)) = x := by
  apply b_ext
  intro i hi
  rw [b_and, b_not _ hi, b_0]
  simp
theorem StO_0 (V : Wv) (n : Nat) : StO V n 0 = St V n := by unfold StO St; rw [and_n0]
theorem Dj_sub {s t : Nat → Bool} (D : Dj V n s) (e : ∀ k, k < n → t k = true → s k = true) : Dj V n t := fun a b ha hb q z1 z2 => D a b ha hb q (e a ha z1) (e b hb z2)
theorem X4_stand (W : CW h V n dn) : ∃ h', f_X4_standingNow 1 h = some (St V n, h') ∧ Sw 1 h h' ∧ Rep h' 1 V n (bt (St V n)) := by
  unfold f_X4_standingNow
  rw [CW_c8 W, CW_c9 W]
  obtain ⟨h', e1, e2, e3⟩ := X4_standing (CW_C W) (V.1 2) (V.1 3) (WF_D W.1)
  rw [CW_c10 W] at e1 e3
  exact ⟨h', by rw [e1]; rfl, e2, e3⟩
theorem X4_stO (W : CW h V n dn) (o : Int32) : ∃ h', f_X4_standing 1 (V.1 2 &&& (o ^^^ (-1))) (V.1 3) h = some (StO V n o, h') ∧ Sw 1 h h' := by
  obtain ⟨h', e1, e2, e3⟩ := X4_standing (CW_C W) (V.1 2 &&& (o ^^^ (-1))) (V.1 3) (Dj_sub (WF_D W.1) (fun k _ z => by rw [b_and, Bool.and_eq_true] at z; exact z.1))
  rw [CW_c10 W] at e1
  exact ⟨h', e1, e2⟩
theorem X6_stand (W : MW h V n dn) (o : Int32) : f_X6_standingNow o h = some (StO V n o, h) := by
  unfold f_X6_standingNow
  rw [MW_m13 W, MW_m14 W, MW_m15 W, X6_standing (MW_M W), bnd_some]
  rfl
def Fl (V : Wv) (n : Nat) (o : Int32) : Int32 := (St V n &&& (StO V n o ^^^ (-1))) &&& (o ^^^ (-1))
theorem X4_falls (W : CW h V n dn) (o : Int32) : ∃ h', f_X4_fallsOf 1 o h = some (Fl V n o, h') ∧ Sw 1 h h' := by
  unfold f_X4_fallsOf
  obtain ⟨h1, e1, e2, -⟩ := X4_stand W
  have W1 := CW_sw e2 W
  obtain ⟨h', e3, e4⟩ := X4_stO W1 o
  rw [e1, bnd_some, CW_c8 W1, CW_c9 W1, e3, bnd_some]
  refine ⟨h', ?_, Sw.tr e2 e4⟩
  unfold Fl
  rw [Int32.and_assoc, Int32.and_assoc, Int32.and_comm (o ^^^ (-1))]
theorem X6_falls' (W : MW h V n dn) (o : Int32) : f_X6_fallsOf o h = some (Fl V n o, h) := by
  unfold f_X6_fallsOf
  rw [X6_stand W, bnd_some, X6_stand W, bnd_some, StO_0]
  rfl
theorem St_sub (W : WF V n dn) : sub (St V n) n := lvS_sub V _ _ (WF_n W) 12
theorem StO_sub (W : WF V n dn) (o : Int32) : sub (StO V n o) n := lvS_sub V _ _ (WF_n W) 12
theorem Fl_sub (W : WF V n dn) (o : Int32) : sub (Fl V n o) n := sub_and (sub_and (St_sub W))
end IWS
