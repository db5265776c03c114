theorem mkn_add (p : Nat → Bool) (a : Nat) : ∀ b, mkn p (a + b) = mkn p a + mkn (fun i => p (a + i)) b
  | 0 => rfl
  | b + 1 => by
    rw [show a + (b + 1) = (a + b) + 1 from rfl, mkn_s, mkn_add p a b, mkn_s]
    omega
theorem mkn_z {p : Nat → Bool} : ∀ {n : Nat}, (∀ k, k < n → p k = false) → mkn p n = 0
  | 0, _ => rfl
  | n + 1, e => by
    rw [mkn_s, mkn_z (fun k hk => e k (by omega)), e n (by omega)]
    rfl
theorem mkn_win {q : Nat → Bool} {x l : Nat} (hl : x + l < 14) : mkn (fun j => q j && decide (x < j ∧ j ≤ x + l)) 14 = mkn (fun i => q (x + i + 1)) l := by
  rw [show (14 : Nat) = (x + 1) + (l + (13 - x - l)) by omega, mkn_add _ (x + 1), mkn_add _ l]
  rw [mkn_z (n := x + 1) (fun k hk => by rw [decide_eq_false (by omega)]; simp), mkn_z (n := 13 - x - l) (fun k hk => by rw [decide_eq_false (by omega)]; simp)]
  rw [Nat.zero_add, Nat.add_zero]
  apply mkn_congr
  intro k hk
  rw [decide_eq_true (by omega), Bool.and_true]
  congr 1
  omega
theorem mkn_or {p q : Nat → Bool} : ∀ {n : Nat}, (∀ k, k < n → p k = true → q k = false) → mkn (fun k => p k || q k) n = mkn p n + mkn q n
  | 0, _ => rfl
  | n + 1, e => by
    rw [mkn_s, mkn_s, mkn_s, mkn_or (fun k hk => e k (by omega))]
    have := e n (by omega)
    cases hp : p n
    · cases q n <;> simp <;> omega
    · rw [this hp]; simp; omega
theorem mkn_uq {p : Nat → Bool} : ∀ {n : Nat}, (∀ i j, i < n → j < n → p i = true → p j = true → i = j) → mkn p n = if anyB p n then 1 else 0
  | 0, _ => rfl
  | n + 1, e => by
    rw [mkn_s, mkn_uq (fun i j hi hj => e i j (by omega) (by omega)), show anyB p (n + 1) = (anyB p n || p n) from rfl]
    cases hp : p n
    · simp
    · cases ha : anyB p n
      · rfl
      · obtain ⟨k, hk, z⟩ := anyB_iff.mp ha
        have := e k n (by omega) (by omega) z hp
        omega
theorem mkn_one {q : Nat → Bool} {a N : Nat} (ha : a < N) : mkn (fun j => q j && decide (j = a)) N = if q a then 1 else 0 := by
  rw [mkn_uq (fun i j _ _ z1 z2 => by
    rw [Bool.and_eq_true, decide_eq_true_iff] at z1 z2
    rw [z1.2, z2.2])]
  have e : anyB (fun j => q j && decide (j = a)) N = q a := by
    cases hq : q a
    · apply anyB_none
      intro k hk
      by_cases z : k = a
      · rw [z, hq]; rfl
      · rw [decide_eq_false z]; simp
    · exact anyB_iff.mpr ⟨a, ha, by rw [hq]; simp⟩
  rw [e]
def gz (a x : Int32) : Int32 := if x ≤ a then a else x
theorem gz_n {a b : Nat} (ha : a < 2 ^ 31) (hb : b < 2 ^ 31) : gz (nI a) (nI b) = nI (max a b) := by
  unfold gz
  by_cases q : b ≤ a
  · rw [if_pos (nI_le q ha), Nat.max_eq_left q]
  · rw [if_neg (nI_ge (by omega) hb), Nat.max_eq_right (by omega)]
theorem gz_9 {b : Nat} (hb : b < 2 ^ 31) : gz (-9) (nI b) = nI b := by
  unfold gz
  rw [if_neg (fun z => absurd (Int32.lt_of_le_of_lt z (show (-9 : Int32) < 0 by decide)) (nI_pos hb))]
theorem mx_n {a b : Nat} (ha : a < 2 ^ 31) (hb : b < 2 ^ 31) : (if nI a < nI b then nI b else nI a) = nI (max a b) := by
  by_cases q : a < b
  · rw [if_pos (nI_lt q hb), Nat.max_eq_right (by omega)]
  · rw [if_neg (nI_nlt (by omega) (by omega)), Nat.max_eq_left (by omega)]
def tchB (V : Wv) (s : Int32) (b k : Nat) : Bool := bt s k && (tcB V k b || tcB V b k)
def mrk (V : Wv) (n b j : Nat) : Int32 :=
  if j = 1 then nI (pcn (mkb (rsB V n (bt (St V n)) b) (ln V b)) 14) else if j = 2 then V.2.1 b 4 else if j = 3 then gz (gz (gz (-9) (V.2.1 b 3)) (V.2.1 b 4)) (V.2.1 b 5) else if j = 4 then bi (bt (mkb (rsB V n (bt (St V n)) b) (ln V b)) 1) else nI (mkn (tchB V (St V n) b) n)
theorem X6_marked {h : Hp} {V : Wv} {n dn b j : Nat} (W : MW h V n dn) (hb : b < n) (hj : 1 ≤ j ∧ j ≤ 5) : f_X6_marked (nI b) (nI j) h = some (mrk V n b j, h) := by
  have hn := WF_n W.1
  unfold f_X6_marked
  rw [X6_stand W, bnd_some, StO_0]
  have g1 : ∀ f i a, i < 3 → f_X6_marked_b13 (f + 1) (nI b) (nI j) (St V n) a (nI i) h = f_X6_marked_b13 f (nI b) (nI j) (St V n) (gz a (V.2.1 b (3 + i))) (nI (i + 1)) h := fun f i a hi => by
    show f_X6_marked_b13_body _ _ _ _ _ _ _ = _
    unfold f_X6_marked_b13_body f_X6_marked_b47 gz
    rw [if_neg (show ¬ (3 : Int32) ≤ nI i from nI_ge (b := 3) hi (by decide)), show (3 : Int32) + nI i = nI (3 + i) from nI_add 3 i, M_of W hb (by omega), bnd_some, nI_1]
    by_cases q : V.2.1 b (3 + i) ≤ a
    · rw [if_pos q, if_pos q]
    · rw [if_neg q, if_neg q, M_of W hb (by omega), bnd_some]
  rw [show f_X6_marked_b13 200 (nI b) (nI j) (St V n) (-9) 0 h = _ from g1 199 0 (-9) (by decide), g1 198 (0 + 1) _ (by decide), g1 197 (0 + 1 + 1) _ (by decide)]
  generalize hg : gz (gz (gz (-9) (V.2.1 b (3 + 0))) (V.2.1 b (3 + (0 + 1)))) (V.2.1 b (3 + (0 + 1 + 1))) = G
  show f_X6_marked_b13_body _ _ _ _ _ _ _ = _
  unfold f_X6_marked_b13_body
  rw [if_pos (by decide)]
  have key : ∀ (d k fuel : Nat), k + d = n → d < fuel → f_X6_marked_b61 fuel (nI b) (nI j) (St V n) G (nI (mkn (tchB V (St V n) b) k)) (nI k) h = some (mrk V n b j, h) := by
    intro d
    induction d with
    | zero =>
      intro k fuel hk hq
      obtain ⟨f, rfl⟩ : ∃ f, fuel = f + 1 := ⟨fuel - 1, by omega⟩
      show f_X6_marked_b61_body _ _ _ _ _ _ _ _ = _
      unfold f_X6_marked_b61_body
      rw [MW_m11 W, if_pos (nI_le (by omega) (by omega)), show k = n by omega, X6_restsOn (MW_M W) _ hb, bnd_some, bnd_some, X6_sizeOf, bnd_some, show f_X6_of (nI b) 4 h = _ from M_of W (j := 4) hb (by decide), bnd_some, show (1 : Int32) &&& 31 = nI 1 &&& 31 from rfl, shr1 _ (by decide), ← hg]
      rcases (show j = 1 ∨ j = 2 ∨ j = 3 ∨ j = 4 ∨ j = 5 by omega) with rfl | rfl | rfl | rfl | rfl <;> rfl
    | succ d ih =>
      intro k fuel hk hq
      have hkn : k < n := by omega
      obtain ⟨f, rfl⟩ : ∃ f, fuel = f + 1 := ⟨fuel - 1, by omega⟩
      show f_X6_marked_b61_body _ _ _ _ _ _ _ _ = _
      unfold f_X6_marked_b61_body f_X6_marked_b101 f_X6_marked_b105 f_X6_marked_b106
      rw [MW_m11 W, if_neg (nI_ge hkn (by omega)), X6_has _ h (by omega), bnd_some, ← ih (k + 1) f (by omega) (by omega), mkn_s, nI_1]
      unfold tchB
      cases bt (St V n) k
      · rw [bi_f, if_pos rfl, Int32.add_zero]; rfl
      · rw [bi_t, if_neg (by decide), X6_touches (MW_M W) hkn hb, bnd_some]
        cases tcB V k b
        · rw [bi_f, if_neg (fun z => z rfl), X6_touches (MW_M W) hb hkn, bnd_some]
          cases tcB V b k
          · rw [bi_f, if_pos rfl, Int32.add_zero]; rfl
          · rw [bi_t, if_neg (by decide), nI_1]; rfl
        · rw [bi_t, if_pos (by decide), nI_1]; rfl
  exact key n 0 200 (by omega) (by omega)
theorem St_in {V : Wv} {n dn : Nat} (W : WF V n dn) {k : Nat} (hk : k < n) (z : bt (St V n) k = true) : bt (V.1 2) k = true := lv_in V _ _ (WF_n W) (fun b hb => (WF_br W b hb).2.2.2.2) hk z
theorem X4_markOf {h : Hp} {V : Wv} {n dn b j : Nat} (W : CW h V n dn) (hb : b < n) (hi : bt (V.1 2) b = true) (hj : 1 ≤ j ∧ j ≤ 5) (ok : kd V b = j ∨ (j = 4 ∧ kd V b = 5)) : ∃ h', f_X4_markOf 1 (nI b) (nI j) h = some (mrk V n b j, h') ∧ Sw 1 h h' := by
  have hn := WF_n W.1
  obtain ⟨h', e1, e2, e3⟩ := X4_stand W
  have W1 := CW_sw e2 W
  obtain ⟨c0, c1, c2, c3, c4, c5, c6, c7⟩ := W1.2.2.1 b hb
  obtain ⟨b0, b1, b2, b3, b4⟩ := WF_br W.1 b hb
  have hl := WF_hf W.1 b hb
  have l3 := ln_le V b
  have l2 := ln_ge V b
  obtain ⟨v, v1, v2⟩ := X4_beneath (CW_C W1) e3 hb
  refine ⟨h', ?_, e2⟩
  unfold f_X4_markOf
  rw [if_pos (inb_t (by omega) (by decide)), e1, bnd_some, nI_clamp (by omega), c1, b1, v1, bnd_some, c1, b1, c3, c4, c5, c6]
  have mb : ∀ j, j < 32 → bt (nI (mskN (kd V b) (hf V b))) j = decide (hf V b < j ∧ j ≤ hf V b + ln V b) := fun j hj => msk_bit (kd V b) (by omega) (hf V b) (by omega) j hj
  rcases (show j = 1 ∨ j = 2 ∨ j = 3 ∨ j = 4 ∨ j = 5 by omega) with rfl | rfl | rfl | rfl | rfl
  · rw [if_pos (by decide), bc_of (fun i hi => by
      rcases Nat.lt_or_ge i 32 with z | z
      · rw [b_and, mb i z, decide_eq_false (by omega), Bool.and_false]
      · exact b_big z), bnd_some]
    show some (nI _, h') = some (nI (pcn (mkb (rsB V n (bt (St V n)) b) (ln V b)) 14), h')
    congr 3
    have p1 : pcn (v &&& nI (mskN (kd V b) (hf V b))) 14 = mkn (fun i => bt v (hf V b + i + 1)) (ln V b) := by
      unfold pcn
      rw [← mkn_win (q := bt v) (by omega)]
      exact mkn_congr (fun k hk => by rw [b_and, mb k (by omega)])
    have p2 : pcn (mkb (rsB V n (bt (St V n)) b) (ln V b)) 14 = mkn (rsB V n (bt (St V n)) b) (ln V b) := by
      have t := mkn_cut (p := rsB V n (bt (St V n)) b) (m := ln V b) (14 - ln V b)
      rw [show ln V b + (14 - ln V b) = 14 by omega] at t
      unfold pcn
      rw [← t]
      exact mkn_congr (fun k hk => b_mkb _ _ k (by omega) (by omega))
    rw [p1, p2]
    exact mkn_congr (fun k hk => v2 k (by omega))
  · rfl
  · have k3 : kd V b = 3 := by omega
    obtain ⟨⟨p3, a1, a2⟩, ⟨p4, a3, a4⟩, m3, m4⟩ := WF_mk W.1 b hb
    obtain ⟨p5, a5, a6⟩ := m3 k3
    show some ((if V.2.1 b 3 < (if V.2.1 b 4 < V.2.1 b 5 then V.2.1 b 5 else V.2.1 b 4) then (if V.2.1 b 4 < V.2.1 b 5 then V.2.1 b 5 else V.2.1 b 4) else V.2.1 b 3), h') = some (gz (gz (gz (-9) (V.2.1 b 3)) (V.2.1 b 4)) (V.2.1 b 5), h')
    rw [a2, a4, a6, mx_n (by omega) (by omega), mx_n (by omega) (by omega), gz_9 (by omega), gz_n (by omega) (by omega), gz_n (by omega) (by omega), Nat.max_assoc]
  · have l33 : ln V b = 3 := by unfold ln; rw [if_pos (by omega)]
    unfold f_X0_middle
    rw [c2, b2, if_neg (by decide), if_neg (by decide), if_neg (by decide), if_pos (by decide), bnd_some]
    show _ = some (bi (bt (mkb (rsB V n (bt (St V n)) b) (ln V b)) 1), h')
    rw [b_mkb _ _ 1 (by omega) (by omega), decide_eq_true (by omega), Bool.true_and, ← v2 1 (by omega)]
    have e : v &&& (2 : Int32) <<< ((nI (hf V b) + 1) &&& 31) = 0 ↔ bt v (hf V b + 1 + 1) = false := by
      rw [nI_1, and_none]
      constructor
      · intro z
        exact z _ (by omega) (by rw [mid_bit _ (by omega) _ (by omega), decide_eq_true rfl])
      · intro z i hi y
        rw [mid_bit _ (by omega) _ hi, decide_eq_true_iff] at y
        rw [y]; exact z
    cases hv : bt v (hf V b + 1 + 1)
    · rw [if_pos (e.mpr hv)]; rfl
    · rw [if_neg (fun z => by have := e.mp z; rw [hv] at this; cases this)]; rfl
  · have l33 : ln V b = 3 := by unfold ln; rw [if_pos (by omega)]
    unfold f_X0_sides
    rw [c2, b2, if_neg (by decide), if_neg (by decide), if_neg (by decide), if_neg (by decide), if_pos (inb_t (by omega) (by decide)), nI_clamp (by omega), bnd_some, show nI (hf V b) + 4 = nI (hf V b + 4) from nI_add _ 4]
    generalize hx : h'.1 15 1 (co V b) = x
    have bs : ∀ i, i < 32 → bt (x &&& ((1 : Int32) <<< (nI (hf V b) &&& 31) ||| (1 : Int32) <<< (nI (hf V b + 4) &&& 31))) i = ((bt x i && decide (i = hf V b)) || (bt x i && decide (i = hf V b + 4))) := fun i hi => by
      rw [b_and, b_or, b_one (by omega) hi, b_one (by omega) hi]
      cases bt x i <;> rfl
    rw [bc_of (fun i hi => by
      rcases Nat.lt_or_ge i 32 with z | z
      · rw [bs i z, decide_eq_false (by omega), decide_eq_false (by omega)]; simp
      · exact b_big z), bnd_some]
    show some (nI _, h') = some (nI (mkn (tchB V (St V n) b) n), h')
    congr 3
    have D := WF_D W.1
    have p1 : pcn (x &&& ((1 : Int32) <<< (nI (hf V b) &&& 31) ||| (1 : Int32) <<< (nI (hf V b + 4) &&& 31))) 14 = (if bt x (hf V b) then 1 else 0) + if bt x (hf V b + 4) then 1 else 0 := by
      unfold pcn
      rw [mkn_congr (fun k hk => bs k (by omega)), mkn_or (fun k _ z => by
        rw [Bool.and_eq_true, decide_eq_true_iff] at z
        rw [decide_eq_false (by omega), Bool.and_false]), mkn_one (by omega), mkn_one (by omega)]
    have tl : ∀ k, k < n → cvB V (bt (St V n)) (co V b) (hf V b) k = (bt (St V n) k && tcB V k b) := fun k hk => by
      unfold cvB tcB
      cases hs : bt (St V n) k
      · rfl
      by_cases kc : co V k = co V b
      · by_cases kb : k = b
        · rw [kb, decide_eq_false (show ¬ (hf V b < hf V b ∧ hf V b ≤ hf V b + ln V b) by omega), decide_eq_false (by omega : ¬ hf V b + ln V b = hf V b)]; simp
        · have d := D k b hk hb kb (St_in W.1 hk hs) hi kc
          unfold ovl at d
          have := ln_ge V k
          rw [decide_eq_true kc]
          by_cases z : hf V k + ln V k = hf V b
          · rw [decide_eq_true z, decide_eq_true (by omega)]; rfl
          · rw [decide_eq_false z, decide_eq_false (by omega)]; rfl
      · rw [decide_eq_false kc]; rfl
    have tr : ∀ k, k < n → cvB V (bt (St V n)) (co V b) (hf V b + 4) k = (bt (St V n) k && tcB V b k) := fun k hk => by
      unfold cvB tcB
      cases hs : bt (St V n) k
      · rfl
      by_cases kc : co V k = co V b
      · by_cases kb : k = b
        · rw [kb, decide_eq_false (show ¬ (hf V b < hf V b + 4 ∧ hf V b + 4 ≤ hf V b + ln V b) by omega), decide_eq_false (by omega : ¬ hf V b + ln V b = hf V b)]; simp
        · have d := D k b hk hb kb (St_in W.1 hk hs) hi kc
          unfold ovl at d
          have := ln_ge V k
          rw [decide_eq_true kc, decide_eq_true kc.symm]
          by_cases z : hf V b + ln V b = hf V k
          · rw [decide_eq_true z, decide_eq_true (by omega)]; rfl
          · rw [decide_eq_false z, decide_eq_false (by omega)]; rfl
      · rw [decide_eq_false kc, decide_eq_false (show ¬ co V b = co V k from fun z => kc z.symm)]; rfl
    have p2 : mkn (tchB V (St V n) b) n = mkn (fun k => bt (St V n) k && tcB V k b) n + mkn (fun k => bt (St V n) k && tcB V b k) n := by
      rw [← mkn_or (fun k hk z => ?_)]
      · exact mkn_congr (fun k _ => by unfold tchB; cases bt (St V n) k <;> rfl)
      · unfold tcB at z ⊢
        rw [Bool.and_eq_true, Bool.and_eq_true, decide_eq_true_iff, decide_eq_true_iff] at z
        rw [decide_eq_false (show ¬ hf V b + ln V b = hf V k by have := ln_ge V k; omega)]
        simp
    rw [p1, p2, mkn_uq (p := fun k => bt (St V n) k && tcB V k b) (fun i j hi hj z1 z2 => ?_), mkn_uq (p := fun k => bt (St V n) k && tcB V b k) (fun i j hi hj z1 z2 => ?_), ← hx, (e3 (co V b) (by omega) (hf V b) (by omega)).1, (e3 (co V b) (by omega) (hf V b + 4) (by omega)).1, anyB_congr tl, anyB_congr tr]
    · unfold tcB at z1 z2
      rw [Bool.and_eq_true, Bool.and_eq_true, decide_eq_true_iff, decide_eq_true_iff] at z1 z2
      apply Classical.byContradiction
      intro ne
      have d := D i j hi hj ne (St_in W.1 hi z1.1) (St_in W.1 hj z2.1) (by omega)
      unfold ovl at d
      have := ln_ge V i
      have := ln_ge V j
      omega
    · unfold tcB at z1 z2
      rw [Bool.and_eq_true, Bool.and_eq_true, decide_eq_true_iff, decide_eq_true_iff] at z1 z2
      apply Classical.byContradiction
      intro ne
      have d := D i j hi hj ne (St_in W.1 hi z1.1) (St_in W.1 hj z2.1) (by omega)
      unfold ovl at d
      have := ln_ge V i
      have := ln_ge V j
      omega
theorem st_mark (a1 a2 : Int32) (h : Hp) (hI : Inv h) : ∃ (r : Int32) (h1 h2 : Hp), f_X5_mark a1 a2 h = some (r, h1) ∧ f_X6_mark a1 a2 h1 = some (r, h2) ∧ Inv h2 := by
  obtain ⟨V, n, dn, W⟩ := Inv_W hI
  have hn := IW_n W
  rcases rng n (by omega) a1 with q | ⟨b, hb, rfl⟩
  · refine ⟨-1, h, h, ?_, ?_, hI⟩
    · unfold f_X5_mark; rw [X4_has_n (cw W) q, bnd_some, if_pos rfl]
    · unfold f_X6_mark; rw [X6_isBrick_n (mw W) q, bnd_some, if_pos rfl]
  by_cases q1 : a2 < 1
  · refine ⟨-1, h, h, ?_, ?_, hI⟩
    · unfold f_X5_mark; rw [X4_has_y (cw W) hb, bnd_some, if_neg (by decide), if_pos q1]
    · unfold f_X6_mark; rw [X6_isBrick_y (mw W) hb, bnd_some, if_neg (by decide), X6_in_n h (Or.inl q1), bnd_some, if_neg (fun z => z rfl)]
  by_cases q5 : a2 ≤ 5
  · have q0 : ¬ a2 < 0 := fun z => q1 (Int32.lt_trans z (by decide))
    obtain ⟨j, hj5, rfl⟩ := nI_of2 (M := 5) (n := 5) (by decide) q0 q5
    have hj : 1 ≤ j ∧ j ≤ 5 := by
      refine ⟨?_, hj5⟩
      rcases Nat.eq_zero_or_pos j with z | z
      · subst z; exact absurd (show nI 0 < (1 : Int32) by decide) q1
      · exact z
    cases hq : bt (V.1 2) b
    · have W1 : IW (rfC h 1) V n dn := IW_rf W
      refine ⟨-3, rfC h 1, mtC (rfC h 1) 1, ?_, ?_, rm_Inv hI⟩
      · unfold f_X5_mark; rw [X4_has_y (cw W) hb, bnd_some, if_neg (by decide), if_neg q1, if_pos q5, X4_isIn' (cw W) hb, bnd_some, hq, bi_f, if_neg (fun z => z rfl), X5_ref1, bnd_some]
      · unfold f_X6_mark; rw [X6_isBrick_y (mw W1) hb, bnd_some, if_neg (by decide), X6_in_y _ q1 (Int32.not_lt.mpr q5), bnd_some, if_pos (by decide), MW_m13 (mw W1), X6_has _ _ (by omega), bnd_some, hq, bi_f, if_neg (fun z => z rfl), X6_met1, bnd_some]
    obtain ⟨b0, -, -, b3, -⟩ := WF_br W.1 b hb
    have c0 : h.1 17 (14 * 1 + b) 0 = nI (kd V b) := (W.2.1.2.1 b hb).1.trans b0
    have cl : f_X5_mark (nI b) (nI j) h = if kd V b = j ∨ (j = 4 ∧ kd V b = 5) then f_X4_markOf 1 (nI b) (nI j) h else some (-3, rfC h 3) := by
      unfold f_X5_mark f_X0_isOf
      rw [X4_has_y (cw W) hb, bnd_some, if_neg (by decide), if_neg q1, if_pos q5, X4_isIn' (cw W) hb, bnd_some, hq, bi_t, if_pos (by decide), if_pos (inb_t (by omega) (by decide)), nI_clamp (by omega), c0]
      have r3 : f_X5_refuse 3 h = some (-3, rfC h 3) := X5_refuse (f := 3) h (by decide)
      have bb : ∀ o : Option (Int32 × Hp), bnd o (fun v17 h18 => some (v17, h18)) = o := fun o => by cases o <;> rfl
      by_cases z1 : kd V b = j
      · rw [if_pos (by rw [z1]), bnd_some, if_pos (by decide), if_pos (Or.inl z1), bb]
      · rw [if_neg (fun z => z1 ((nI_eq (by omega) (by omega)).mp z))]
        by_cases z2 : j = 4
        · rw [if_neg (fun z => z (by rw [z2]; rfl))]
          by_cases z3 : kd V b = 5
          · rw [if_neg (fun z => z (by rw [z3]; rfl)), bnd_some, if_pos (by decide), if_pos (Or.inr ⟨z2, z3⟩), bb]
          · rw [if_pos (ne5 (by omega) z3), bnd_some, if_neg (fun z => z rfl), r3, bnd_some, if_neg (by omega)]
        · rw [if_pos (show ¬ nI j = (4 : Int32) from fun z => z2 ((nI_eq (b := 4) (by omega) (by decide)).mp z)), bnd_some, if_neg (fun z => z rfl), r3, bnd_some, if_neg (by omega)]
    have mo : ∀ h, MW h V n dn → f_X6_mark (nI b) (nI j) h = if kd V b = j ∨ (j = 4 ∧ kd V b = 5) then some (mrk V n b j, h) else some (-3, mtC h 3) := fun h M => by
      have r3 : f_X6_meet 3 h = some (-3, mtC h 3) := X6_meet (f := 3) h (by decide)
      have o0 : f_X6_of (nI b) 0 h = some (nI (kd V b), h) := M0 (MW_M M) hb
      unfold f_X6_mark f_X6_mark_b61 f_X6_mark_b65 f_X6_mark_b66
      have t1 : bnd (f_X6_marked (nI b) (nI j) h) (fun v5 h6 => some (v5, h6)) = some (mrk V n b j, h) := by rw [X6_marked M hb hj, bnd_some]
      have t2 : bnd (f_X6_meet 3 h) (fun v5 h6 => some (v5, h6)) = some (-3, mtC h 3) := by rw [r3, bnd_some]
      rw [X6_isBrick_y M hb, bnd_some, if_neg (by decide), X6_in_y _ q1 (Int32.not_lt.mpr q5), bnd_some, if_pos (by decide), MW_m13 M, X6_has _ _ (by omega), bnd_some, hq, bi_t, if_pos (by decide), o0, bnd_some]
      by_cases z1 : kd V b = j
      · rw [if_pos (by rw [z1]), if_pos (Or.inl z1), if_neg (by decide), t1]
      · rw [if_neg (fun z => z1 ((nI_eq (by omega) (by omega)).mp z))]
        by_cases z2 : j = 4
        · rw [if_neg (fun z => z (by rw [z2]; rfl)), o0, bnd_some]
          by_cases z3 : kd V b = 5
          · rw [if_neg (fun z => z (by rw [z3]; rfl)), if_pos (Or.inr ⟨z2, z3⟩), if_neg (by decide), t1]
          · rw [if_pos (ne5 (by omega) z3), if_pos rfl, t2, if_neg (by omega)]
        · rw [if_pos (show ¬ nI j = (4 : Int32) from fun z => z2 ((nI_eq (b := 4) (by omega) (by decide)).mp z)), if_pos rfl, t2, if_neg (by omega)]
    by_cases ok : kd V b = j ∨ (j = 4 ∧ kd V b = 5)
    · obtain ⟨h', e1, e2⟩ := X4_markOf (cw W) hb hq hj ok
      have W1 := IW_sw e2 W
      exact ⟨mrk V n b j, h', h', by rw [cl, if_pos ok]; exact e1, by rw [mo h' (mw W1), if_pos ok], Inv_sw e2 hI⟩
    · exact ⟨-3, rfC h 3, mtC (rfC h 3) 3, by rw [cl, if_neg ok], by rw [mo _ (mw (IW_rf W)), if_neg ok], rm_Inv hI⟩
  · refine ⟨-1, h, h, ?_, ?_, hI⟩
    · unfold f_X5_mark; rw [X4_has_y (cw W) hb, bnd_some, if_neg (by decide), if_neg q1, if_neg q5]
    · unfold f_X6_mark; rw [X6_isBrick_y (mw W) hb, bnd_some, if_neg (by decide), X6_in_n h (Or.inr (Int32.not_le.mp q5)), bnd_some, if_neg (fun z => z rfl)]
