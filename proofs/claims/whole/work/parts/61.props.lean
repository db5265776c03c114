/-! props -/
theorem ho_low {V : Wv} {n b : Nat} {s t : Nat → Bool} (e : ∀ k, k < n → rk V k < rk V b → s k = true → t k = true) (z : hoB V n s b = true) : hoB V n t b = true := by
  rw [ho_congr (s' := fun k => s k && decide (rk V k < rk V b)) (fun k hk hr => by rw [decide_eq_true hr, Bool.and_true])] at z
  exact ho_mono (fun k hk y => by rw [Bool.and_eq_true, decide_eq_true_iff] at y; exact e k hk y.2 y.1) z
theorem mkn_lt {p q : Nat → Bool} {b : Nat} : ∀ {n : Nat}, b < n → (∀ k, k < n → p k = true → q k = true) → p b = false → q b = true → mkn p n < mkn q n
  | 0, hb, _, _, _ => absurd hb (by omega)
  | n + 1, hb, e, z1, z2 => by
    rw [mkn_s, mkn_s]
    by_cases k : b = n
    · subst k
      have := mkn_sub (p := p) (q := q) (n := b) (fun k hk => e k (by omega))
      rw [z1, z2, if_neg (by decide), if_pos rfl]
      omega
    · have := mkn_lt (p := p) (q := q) (b := b) (n := n) (by omega) (fun k hk => e k (by omega)) z1 z2
      cases hp : p n
      · rw [if_neg (by decide)]; omega
      · rw [e n (by omega) hp, if_pos rfl]; omega
theorem pcn_eq {x y : Int32} (sy : sub y 14) (e : ∀ i, i < 14 → bt x i = true → bt y i = true) (sx : sub x 14) (l : pcn y 14 ≤ pcn x 14) : x = y := by
  apply b_ext
  intro i hi
  rcases Nat.lt_or_ge i 14 with q | q
  · cases hx : bt x i
    · cases hy : bt y i
      · rfl
      · have := mkn_lt (p := bt x) (q := bt y) (b := i) (n := 14) q e hx hy
        unfold pcn at l
        omega
    · exact (e i q hx).symm
  · rw [sx i q, sy i q]
def prv (V : Wv) : Int32 := V.1 3 ||| V.1 4
def ob1 (b : Nat) : Int32 := (1 : Int32) <<< (nI b &&& 31)
def Aq (V : Wv) (n b : Nat) : Int32 := St V n &&& (ob1 b ^^^ (-1))
def ndB (V : Wv) (n : Nat) (A : Int32) (i : Nat) : Bool := bt A i && !(bt (prv V) i || hoB V n (bt A) i)
def Nq (V : Wv) (n b : Nat) : Int32 := mkb (ndB V n (Aq V n b)) n
def Sq (V : Wv) (n b : Nat) (set : Int32) : Int32 := lvS V n (V.1 2 &&& (ob1 b ^^^ (-1))) (prv V ||| set) 12
section PRP
variable {V : Wv} {n dn b : Nat}
theorem ob_bit1 (hb : b < 32) {i : Nat} (hi : i < 32) : bt (ob1 b) i = decide (i = b) := b_one hb hi
theorem wo_bit (hb : b < 32) (x : Int32) {i : Nat} (hi : i < 32) : bt (x &&& (ob1 b ^^^ (-1))) i = (bt x i && !decide (i = b)) := by rw [b_and, b_not _ hi, ob_bit1 hb hi]
theorem FP_St (W : WF V n dn) : FP V n (bt (V.1 2)) (bt (prv V)) (bt (St V n)) := lv_FP V _ _ (WF_n W) (fun b hb => (WF_br W b hb).2.2.2.2)
theorem FP_Sq (W : WF V n dn) (set : Int32) : FP V n (bt (V.1 2 &&& (ob1 b ^^^ (-1)))) (bt (prv V ||| set)) (bt (Sq V n b set)) := lv_FP V _ _ (WF_n W) (fun b hb => (WF_br W b hb).2.2.2.2)
theorem Sq_le (W : WF V n dn) (hb : b < n) {set : Int32} (hs : ∀ i, i < n → bt set i = true → bt (Aq V n b) i = true) : ∀ i, i < n → bt (Sq V n b set) i = true → bt (Aq V n b) i = true := by
  have hn := WF_n W
  have key : ∀ m i, i < n → rk V i < m → bt (Sq V n b set) i = true → bt (Aq V n b) i = true := by
    intro m
    induction m with
    | zero => intro i _ hm; omega
    | succ m ih =>
      intro i hi hm z
      rw [FP_Sq W set i hi, wo_bit (by omega) _ (by omega), b_or, Bool.and_eq_true, Bool.and_eq_true, Bool.or_eq_true, Bool.or_eq_true] at z
      obtain ⟨⟨z1, z2⟩, z3⟩ := z
      unfold Aq
      rw [wo_bit (by omega) _ (by omega), z2, Bool.and_true, FP_St W i hi, z1, Bool.true_and, Bool.or_eq_true]
      rcases z3 with (z3 | z3) | z3
      · exact Or.inl z3
      · have := hs i hi z3
        unfold Aq at this
        rw [wo_bit (by omega) _ (by omega), z2, Bool.and_true, FP_St W i hi, z1, Bool.true_and, Bool.or_eq_true] at this
        exact this
      · refine Or.inr (ho_low (fun k hk hr y => ?_) z3)
        have := ih k hk (by omega) y
        unfold Aq at this
        rw [b_and, Bool.and_eq_true] at this
        exact this.1
  exact fun i hi => key _ i hi (Nat.lt_succ_self _)
theorem Sq_ge (W : WF V n dn) (hb : b < n) {set : Int32} (hs : ∀ i, i < n → bt (Nq V n b) i = true → bt set i = true) : ∀ i, i < n → bt (Aq V n b) i = true → bt (Sq V n b set) i = true := by
  have hn := WF_n W
  have key : ∀ m i, i < n → rk V i < m → bt (Aq V n b) i = true → bt (Sq V n b set) i = true := by
    intro m
    induction m with
    | zero => intro i _ hm; omega
    | succ m ih =>
      intro i hi hm z
      have z0 := z
      unfold Aq at z
      rw [wo_bit (by omega) _ (by omega), Bool.and_eq_true] at z
      have zi := St_in W hi z.1
      rw [FP_Sq W set i hi, wo_bit (by omega) _ (by omega), b_or, zi, z.2, Bool.and_self, Bool.true_and, Bool.or_eq_true, Bool.or_eq_true]
      cases hp : bt (prv V) i
      · cases ho : hoB V n (bt (Aq V n b)) i
        · refine Or.inl (Or.inr (hs i hi ?_))
          unfold Nq
          rw [b_mkb _ n i (by omega) (by omega), decide_eq_true hi]
          unfold ndB
          rw [z0, hp, ho]
          rfl
        · exact Or.inr (ho_low (fun k hk hr y => ih k hk (by omega) y) ho)
      · exact Or.inl (Or.inl rfl)
  exact fun i hi => key _ i hi (Nat.lt_succ_self _)
theorem Nq_bit (W : WF V n dn) {i : Nat} (hi : i < n) : bt (Nq V n b) i = ndB V n (Aq V n b) i := by
  have hn := WF_n W
  unfold Nq
  rw [b_mkb _ n i (by omega) (by omega), decide_eq_true hi, Bool.true_and]
theorem Nq_sub (W : WF V n dn) : sub (Nq V n b) n := fun i hi => by
  have hn := WF_n W
  rcases Nat.lt_or_ge i 32 with q | q
  · unfold Nq
    rw [b_mkb _ n i (by omega) q, decide_eq_false (by omega)]; rfl
  · exact b_big q
theorem Fl_le (W : WF V n dn) (hb : b < n) {i : Nat} (hi : i < n) (z : bt (Fl V n (ob1 b)) i = true) : bt (Aq V n b) i = true := by
  have hn := WF_n W
  unfold Fl at z
  rw [wo_bit (by omega) _ (by omega), b_and, Bool.and_eq_true, Bool.and_eq_true] at z
  unfold Aq
  rw [wo_bit (by omega) _ (by omega), z.1.1, z.2]
  rfl
theorem Nq_le (W : WF V n dn) (hb : b < n) {i : Nat} (hi : i < n) (z : bt (Nq V n b) i = true) : bt (Fl V n (ob1 b)) i = true := by
  have hn := WF_n W
  rw [Nq_bit W hi] at z
  unfold ndB at z
  rw [Bool.and_eq_true, Bool.not_eq_true', Bool.or_eq_false_iff] at z
  obtain ⟨z1, z2, z3⟩ := z
  have e0 : StO V n (ob1 b) = Sq V n b 0 := by
    unfold StO Sq
    rw [or_z]
    rfl
  have z1' := z1
  unfold Aq at z1'
  rw [wo_bit (by omega) _ (by omega), Bool.and_eq_true] at z1'
  unfold Fl
  rw [wo_bit (by omega) _ (by omega), b_and, b_not _ (by omega), z1'.1, z1'.2, e0]
  cases hs : bt (Sq V n b 0) i
  · rfl
  · exfalso
    have le := Sq_le W hb (set := 0) (fun k _ y => by rw [b_0] at y; cases y)
    rw [FP_Sq W 0 i hi, b_or, b_0, z2, Bool.and_eq_true, Bool.or_eq_true] at hs
    rcases hs.2 with y | y
    · cases y
    · rw [ho_mono le y] at z3; cases z3
theorem prop_key (W : WF V n dn) (hb : b < n) {set : Int32} (hs : ∀ i, i < n → bt set i = true → bt (Fl V n (ob1 b)) i = true) : Aq V n b &&& (Sq V n b set ^^^ (-1)) = 0 ↔ ∀ i, i < n → bt (Nq V n b) i = true → bt set i = true := by
  have hn := WF_n W
  rw [and_not_0]
  constructor
  · intro e i hi z
    have le := Sq_le W hb (set := set) (fun k hk y => Fl_le W hb hk (hs k hk y))
    rw [Nq_bit W hi] at z
    unfold ndB at z
    rw [Bool.and_eq_true, Bool.not_eq_true', Bool.or_eq_false_iff] at z
    obtain ⟨z1, z2, z3⟩ := z
    have s1 := e i (by omega) z1
    rw [FP_Sq W set i hi, b_or, z2, Bool.false_or, Bool.and_eq_true, Bool.or_eq_true] at s1
    rcases s1.2 with y | y
    · exact y
    · rw [ho_mono le y] at z3; cases z3
  · intro e i hi z
    have hi' : i < n := by
      rcases Nat.lt_or_ge i n with q | q
      · exact q
      · unfold Aq at z
        rw [b_and, St_sub W i q] at z
        cases z
    exact Sq_ge W hb e i hi' z
end PRP
theorem X6_props_loop {h : Hp} {V : Wv} {n dn b f : Nat} (W : MW h V n dn) (hb : b < n) (hf : f < 2 ^ 14) (eF : Fl V n (ob1 b) = nI f) : ∀ (d k fuel : Nat) (B : Int32), k + d = f + 1 → d < fuel → sub B n → (∀ i, i < n → bt (Nq V n b) i = true → bt B i = true) → (∀ m, Nq V n b = nI m → m < k → B = Nq V n b) → f_X6_props_b39 fuel (nI b) (nI f) (Aq V n b) B (nI k) h = some (nI (pcn (Nq V n b) 14), si h 20 0 2 (Nq V n b)) := by
  have hn := WF_n W.1
  have sN : sub (Nq V n b) n := Nq_sub W.1
  obtain ⟨m, hm, em⟩ := sub_nI (sub_mono sN hn)
  have mf : m ≤ f := by
    have e : nI m &&& nI f = nI m := by
      apply b_ext
      intro i hi
      rw [b_and]
      cases z : bt (nI m) i
      · rfl
      · rw [← em] at z
        have hi' : i < n := by
          rcases Nat.lt_or_ge i n with q | q
          · exact q
          · rw [sN i q] at z; cases z
        rw [← eF, Nq_le W.1 hb hi' z]
        rfl
    rw [nI_land] at e
    have l : m &&& f ≤ f := Nat.and_le_right
    have l2 : m &&& f ≤ m := Nat.and_le_left
    have := (nI_eq (by omega) (by omega)).mp e
    omega
  intro d
  induction d with
  | zero =>
    intro k fuel B hk hq sB nB inv
    obtain ⟨g, rfl⟩ : ∃ g, fuel = g + 1 := ⟨fuel - 1, by omega⟩
    show f_X6_props_b39_body _ _ _ _ _ _ _ = _
    unfold f_X6_props_b39_body
    rw [if_pos (nI_lt (by omega) (by omega)), X6_sizeOf, bnd_some, inv m em (by omega)]
    rfl
  | succ d ih =>
    intro k fuel B hk hq sB nB inv
    obtain ⟨g, rfl⟩ : ∃ g, fuel = g + 1 := ⟨fuel - 1, by omega⟩
    have hk14 : k < 2 ^ 14 := by omega
    have go : ∀ B', sub B' n → (∀ i, i < n → bt (Nq V n b) i = true → bt B' i = true) → (m < k + 1 → B' = Nq V n b) → f_X6_props_b105 (f_X6_props_b39 g) (nI b) (nI f) (Aq V n b) B' (nI k) h = some (nI (pcn (Nq V n b) 14), si h 20 0 2 (Nq V n b)) := fun B' s1 s2 s3 => by
      unfold f_X6_props_b105
      rw [nI_1]
      exact ih (k + 1) g B' (by omega) (by omega) s1 s2 (fun m' e1 e2 => s3 (by
        obtain ⟨m'', z1, z2⟩ : ∃ m'', m'' = m' ∧ True := ⟨m', rfl, trivial⟩
        have : m = m' ∨ 2 ^ 31 ≤ m' := by
          rcases Nat.lt_or_ge m' (2 ^ 31) with y | y
          · exact Or.inl ((nI_eq (by omega) y).mp (em.symm.trans e1))
          · exact Or.inr y
        omega))
    show f_X6_props_b39_body _ _ _ _ _ _ _ = _
    unfold f_X6_props_b39_body
    rw [if_neg (nI_nlt (by omega) (by omega)), X6_sizeOf, bnd_some, X6_sizeOf, bnd_some, MW_m13 W, MW_m14 W, MW_m15 W, X6_standing (MW_M W), bnd_some]
    have eqk : m = k → nI k = Nq V n b := fun y => by rw [em, y]
    by_cases q1 : nI k &&& (nI f ^^^ (-1)) = 0
    · rw [if_neg (fun z => z q1)]
      rw [← eF, and_not_0] at q1
      have sk : sub (nI k) n := fun i hi => by
        cases z : bt (nI k) i
        · rfl
        · rcases Nat.lt_or_ge i 32 with y | y
          · have := q1 i y z
            rw [Fl_sub W.1 _ i hi] at this; cases this
          · rw [b_big y] at z; cases z
      have kF : ∀ i, i < n → bt (nI k) i = true → bt (Fl V n (ob1 b)) i = true := fun i hi z => q1 i (by omega) z
      have pk := pcn_le (nI k) 14
      have pB := pcn_le B 14
      by_cases q2 : pcn B 14 ≤ pcn (nI k) 14
      · rw [if_pos (nI_le q2 (by omega))]
        refine go B sB nB (fun y => ?_)
        by_cases y2 : m = k
        · rw [eqk y2] at q2
          exact (pcn_eq (sub_mono sB hn) (fun i hi z => by
            rcases Nat.lt_or_ge i n with t | t
            · exact nB i t z
            · rw [sN i t] at z; cases z) (sub_mono sN hn) q2).symm
        · exact inv m em (by omega)
      · rw [if_neg (nI_ge (by omega) (by omega))]
        have key := prop_key W.1 hb kF
        show (if ¬ (Aq V n b &&& (Sq V n b (nI k) ^^^ (-1))) = 0 then _ else _) = _
        by_cases q3 : Aq V n b &&& (Sq V n b (nI k) ^^^ (-1)) = 0
        · rw [if_neg (fun z => z q3)]
          have nk := key.mp q3
          refine go (nI k) sk nk (fun y => ?_)
          by_cases y2 : m = k
          · exact eqk y2
          · exfalso
            have e := inv m em (by omega)
            have l : pcn (Nq V n b) 14 ≤ pcn (nI k) 14 := mkn_sub (fun i hi z => by
              rcases Nat.lt_or_ge i n with t | t
              · exact nk i t z
              · rw [sN i t] at z; cases z)
            rw [e] at q2
            omega
        · rw [if_pos q3]
          refine go B sB nB (fun y => ?_)
          by_cases y2 : m = k
          · exact absurd (key.mpr (fun i hi z => by rw [eqk y2]; exact z)) q3
          · exact inv m em (by omega)
    · rw [if_pos q1]
      refine go B sB nB (fun y => ?_)
      by_cases y2 : m = k
      · exfalso
        apply q1
        rw [← eF, and_not_0, eqk y2]
        intro i hi z
        rcases Nat.lt_or_ge i n with t | t
        · exact Nq_le W.1 hb t z
        · rw [sN i t] at z; cases z
      · exact inv m em (by omega)
theorem X6_props_y {h : Hp} {V : Wv} {n dn b : Nat} (W : MW h V n dn) (hb : b < n) (hq : bt (V.1 2) b = true) : f_X6_props (nI b) h = some (nI (pcn (Nq V n b) 14), si h 20 0 2 (Nq V n b)) := by
  have hn := WF_n W.1
  have sF := Fl_sub W.1 (ob1 b)
  obtain ⟨f, hf, ef⟩ := sub_nI (sub_mono sF hn)
  unfold f_X6_props
  rw [X6_askedIn_i W hb hq, bnd_some, if_pos (by decide), show f_X6_fallsOf ((1 : Int32) <<< (nI b &&& 31)) h = some (Fl V n (ob1 b), h) from X6_falls' W _, bnd_some, X6_stand W, bnd_some, StO_0, ef]
  refine X6_props_loop W hb hf ef (f + 1) 0 20000 (nI f) (by omega) (by omega) (by rw [← ef]; exact sF) (fun i hi z => by rw [← ef]; exact Nq_le W.1 hb hi z) (fun m _ z => by omega)
/-! the class -/
def fiB (A : Int32) (k i : Nat) : Bool := bt A i && decide (i < k)
theorem X4_props_l1 {V : Wv} {n : Nat} {A P : Int32} : ∀ (d k fuel : Nat) (h : Hp), CB h 1 V n → Rep h 1 V n (fiB A k) → k + d = n → d < fuel → ∃ h', f_X4_propsOf_b28 fuel 1 A P (nI k) h = f_X4_propsOf_b70 200 1 A P 0 0 h' ∧ Sw 1 h h' ∧ Rep h' 1 V n (bt A) := by
  intro d
  induction d with
  | zero =>
    intro k fuel h C R hk hq
    have hn := C.1
    obtain ⟨g, rfl⟩ : ∃ g, fuel = g + 1 := ⟨fuel - 1, by omega⟩
    refine ⟨h, ?_, Sw.rfl', Rep_congr (fun i hi => by unfold fiB; rw [decide_eq_true (by omega), Bool.and_true]) R⟩
    show f_X4_propsOf_b28_body _ _ _ _ _ _ = _
    unfold f_X4_propsOf_b28_body
    rw [C.2.1, if_pos (nI_le (by omega) (by omega))]
  | succ d ih =>
    intro k fuel h C R hk hq
    have hn := C.1
    obtain ⟨g, rfl⟩ : ∃ g, fuel = g + 1 := ⟨fuel - 1, by omega⟩
    have ex : ∀ x, f_X4_propsOf_b28 (g + 1) 1 A P (nI k) x = f_X4_propsOf_b28_body (f_X4_propsOf_b28 g) 1 A P (nI k) x := fun _ => rfl
    rw [ex]
    unfold f_X4_propsOf_b28_body f_X4_propsOf_b58
    rw [C.2.1, if_neg (nI_ge (by omega) (by omega)), nI_1]
    cases hA : bt A k
    · rw [if_pos ((shr_bit A (by omega)).mpr hA)]
      exact ih (k + 1) g h C (Rep_congr (fun i hi => by
        unfold fiB
        by_cases z : i = k
        · rw [z, hA]; rfl
        · by_cases y : i < k
          · rw [decide_eq_true y, decide_eq_true (show i < k + 1 by omega)]
          · rw [decide_eq_false y, decide_eq_false (show ¬ i < k + 1 by omega)]) R) (by omega) (by omega)
    · obtain ⟨h1, f1, f2, f3⟩ := X4_fillHalves C R (show k < n by omega)
      rw [if_neg (fun z => by rw [(shr_bit A (by omega)).mp z] at hA; cases hA), if_pos (inb_t (by omega) (by decide)), nI_clamp (by omega), f1, bnd_some]
      obtain ⟨h', e1, e2, e3⟩ := ih (k + 1) g h1 (CB_sw f2 C) (Rep_congr (fun i hi => by
        unfold fiB
        by_cases z : i = k
        · rw [z, hA, decide_eq_true (rfl : k = k), decide_eq_true (Nat.lt_succ_self k)]
          simp
        · rw [decide_eq_false z, Bool.or_false]
          by_cases y : i < k
          · rw [decide_eq_true y, decide_eq_true (show i < k + 1 by omega)]
          · rw [decide_eq_false y, decide_eq_false (show ¬ i < k + 1 by omega)]) f3) (by omega) (by omega)
      exact ⟨h', e1, Sw.tr f2 e2, e3⟩
theorem X4_props_l2 {V : Wv} {n : Nat} {A : Int32} {h : Hp} (C : CB h 1 V n) (R : Rep h 1 V n (bt A)) (D : Dj V n (bt (V.1 2))) (hA : ∀ k, k < n → bt A k = true → bt (V.1 2) k = true) : ∀ (d k fuel : Nat), k + d = n → d < fuel → f_X4_propsOf_b70 fuel 1 A (prv V) (mkb (ndB V n A) k) (nI k) h = some (mkb (ndB V n A) n, h) := by
  have hn := C.1
  intro d
  induction d with
  | zero =>
    intro k fuel hk hq
    obtain ⟨g, rfl⟩ : ∃ g, fuel = g + 1 := ⟨fuel - 1, by omega⟩
    show f_X4_propsOf_b70_body _ _ _ _ _ _ _ = _
    unfold f_X4_propsOf_b70_body
    rw [C.2.1, if_pos (nI_le (by omega) (by omega)), show k = n by omega]
  | succ d ih =>
    intro k fuel hk hq
    obtain ⟨g, rfl⟩ : ∃ g, fuel = g + 1 := ⟨fuel - 1, by omega⟩
    have hkn : k < n := by omega
    obtain ⟨c0, c1, c2, c3, c4, c5, c6⟩ := C.2.2.1 k hkn
    have nx : ∀ z, z = (if ndB V n A k then (1 : Int32) <<< (nI k &&& 31) else 0) → f_X4_propsOf_b149 (f_X4_propsOf_b70 g) 1 A (prv V) (nI k) (mkb (ndB V n A) k) z h = some (mkb (ndB V n A) n, h) := fun z e => by
      unfold f_X4_propsOf_b149
      rw [e, ← mkb_s, nI_1]
      exact ih (k + 1) g (by omega) (by omega)
    have fin : ∀ r : Bool, (bt A k = true → r = (bt (prv V) k || hoB V n (bt A) k)) → f_X4_propsOf_b130 (f_X4_propsOf_b70 g) 1 A (prv V) (mkb (ndB V n A) k) (nI k) (bi r) h = some (mkb (ndB V n A) n, h) := fun r e => by
      unfold f_X4_propsOf_b130
      cases hr : r
      · rw [bi_f, if_pos rfl]
        refine nx _ ?_
        rw [and_one A (by omega)]
        unfold ndB
        cases z : bt A k
        · rfl
        · rw [← e z, hr]; rfl
      · rw [bi_t, if_neg (by decide)]
        refine nx _ ?_
        unfold ndB
        cases z : bt A k
        · rfl
        · rw [← e z, hr]; rfl
    show f_X4_propsOf_b70_body _ _ _ _ _ _ _ = _
    unfold f_X4_propsOf_b70_body f_X4_propsOf_b125
    rw [C.2.1, if_neg (nI_ge hkn (by omega)), if_pos (inb_t (by omega) (by decide)), nI_clamp (by omega), shr1 _ (by omega)]
    cases hp : bt (prv V) k
    · rw [bi_f, if_neg (by decide), c1]
      obtain ⟨v, v1, v2⟩ := X4_beneath C R hkn
      rw [v1, bnd_some, c1, if_pos (inb_t (by omega) (by decide)), nI_clamp (by omega)]
      cases ht : bt A k
      · obtain ⟨r, hr⟩ := X0_holds_any (14 * 1 + k) v (h.1 16 1 (co V k)) h
        rw [hr, bnd_some]
        cases r
        · rw [bi_f, if_pos rfl]
          exact fin false (fun z => by rw [ht] at z; cases z)
        · rw [bi_t, if_neg (by decide)]
          exact fin true (fun z => by rw [ht] at z; cases z)
      · rw [X0_holds C R D hA hkn (hA k hkn ht) v2, bnd_some]
        cases hr : hoB V n (bt A) k
        · rw [bi_f, if_pos rfl]
          exact fin false (fun z => by rw [hp, hr]; rfl)
        · rw [bi_t, if_neg (by decide)]
          exact fin true (fun z => by rw [hp, hr]; rfl)
    · rw [bi_t, if_pos rfl]
      exact fin true (fun z => by rw [hp]; rfl)
theorem X4_propsOf {h : Hp} {V : Wv} {n dn b : Nat} (W : CW h V n dn) (hb : b < n) : ∃ h', f_X4_propsOf 1 (nI b) h = some (Nq V n b, h') ∧ Sw 1 h h' := by
  have hn := WF_n W.1
  obtain ⟨h1, e1, e2, -⟩ := X4_stand W
  have W1 := CW_sw e2 W
  obtain ⟨h2, g1, g2, g3⟩ := X4_clearHalves 1 n V h1
  have W2 := CW_sw g2 W1
  unfold f_X4_propsOf
  rw [e1, bnd_some, g1, bnd_some, CW_c9 W1, CW_c10 W1]
  obtain ⟨h3, k1, k2, k3⟩ := X4_props_l1 (V := V) (n := n) (A := Aq V n b) (P := prv V) n 0 200 h2 (CW_C W2) (Rep_congr (fun i hi => by unfold fiB; rw [decide_eq_false (Nat.not_lt_zero i), Bool.and_false]) g3) (by omega) (by omega)
  refine ⟨h3, ?_, Sw.tr e2 (Sw.tr g2 k2)⟩
  refine Eq.trans k1 ?_
  exact X4_props_l2 (CB_sw k2 (CW_C W2)) k3 (WF_D W.1) (fun k hk z => by
    unfold Aq at z
    rw [b_and, Bool.and_eq_true] at z
    exact St_in W.1 hk z.1) n 0 200 (by omega) (by omega)
theorem st_props (a1 : Int32) (h : Hp) (hI : Inv h) : ∃ (r : Int32) (h1 h2 : Hp), f_X5_props a1 h = some (r, h1) ∧ f_X6_props a1 h1 = some (r, h2) ∧ Inv h2 := by
  obtain ⟨V, n, dn, W⟩ := Inv_W hI
  have hn := IW_n W
  rcases rng n (by omega) a1 with q | ⟨b, hb, rfl⟩
  · refine ⟨-1, h, h, ?_, ?_, hI⟩
    · unfold f_X5_props; rw [X4_has_n (cw W) q, bnd_some, if_neg (fun z => z rfl)]
    · unfold f_X6_props; rw [X6_askedIn_n (mw W) q, bnd_some, if_neg (by decide)]
  cases hq : bt (V.1 2) b
  · have W1 : IW (rfC h 1) V n dn := IW_rf W
    refine ⟨-3, rfC h 1, mtC (rfC h 1) 1, ?_, ?_, rm_Inv hI⟩
    · unfold f_X5_props; rw [X4_has_y (cw W) hb, bnd_some, if_pos (by decide), X4_isIn' (cw W) hb, bnd_some, hq, bi_f, if_neg (fun z => z rfl), X5_ref1, bnd_some]
    · unfold f_X6_props; rw [X6_askedIn_o (mw W1) hb hq, bnd_some, if_neg (by decide)]
  · obtain ⟨h', e1, e2⟩ := X4_propsOf (cw W) hb
    have W1 := IW_sw e2 W
    have W2 : IW (si h' 0 0 7 (Nq V n b)) V n dn := IW_si W1 (by unfold wcore; omega)
    refine ⟨nI (pcn (Nq V n b) 14), si h' 0 0 7 (Nq V n b), ask2 h' (Nq V n b), ?_, X6_props_y (mw W2) hb hq, ask_Inv (Inv_sw e2 hI)⟩
    unfold f_X5_props
    rw [X4_has_y (cw W) hb, bnd_some, if_pos (by decide), X4_isIn' (cw W) hb, bnd_some, hq, bi_t, if_pos (by decide), e1, bnd_some, si_at, bc_of (sub_mono (Nq_sub W.1) hn), bnd_some]
