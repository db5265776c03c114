/-! owed by the wall -/
def db (V : Wv) (p q : Int32) (b : Nat) : Int32 := if V.2.1 b 0 = 2 then 0 else if V.2.1 b 3 = p then c01 q (V.2.1 b 4) + c01 q (V.2.1 b 5) else 0
def ow (V : Wv) (p q : Int32) : Nat → Int32
  | 0 => 0
  | k + 1 => if bt (V.1 2) k then ow V p q k + db V p q k else ow V p q k
def net (V : Wv) (p q : Int32) : Nat → Int32
  | 0 => 0
  | k + 1 => if bt (V.1 2) k then net V p q k + (db V p q k - db V q p k) else net V p q k
theorem net_ow (V : Wv) (p q : Int32) : ∀ k, net V p q k = ow V p q k - ow V q p k
  | 0 => by show (0 : Int32) = 0 - 0; decide
  | k + 1 => by
    unfold net ow
    cases bt (V.1 2) k
    · rw [if_neg (by decide), if_neg (by decide), if_neg (by decide)]
      exact net_ow V p q k
    · rw [if_pos rfl, if_pos rfl, if_pos rfl, net_ow V p q k, Int32.sub_eq_add_neg, Int32.sub_eq_add_neg, Int32.sub_eq_add_neg, Int32.neg_add, Int32.sub_eq_add_neg]
      ac_rfl
theorem X0_debt {h : Hp} {V : Wv} {n dn : Nat} (W : CW h V n dn) {b : Nat} (hb : b < n) (p q : Int32) : f_X0_debt (14 * 1 + b) p q h = some (db V p q b, h) := by
  obtain ⟨c0, c1, c2, c3, c4, c5, c6, c7⟩ := W.2.2.1 b hb
  unfold f_X0_debt f_X0_debt_b31 db c01
  rw [c0, c4, c5, c6]
  by_cases q1 : V.2.1 b 0 = 2 <;> by_cases q2 : V.2.1 b 3 = p <;> by_cases q3 : V.2.1 b 4 = q <;> by_cases q4 : V.2.1 b 5 = q <;> simp [q1, q2, q3, q4]
theorem X4_net_loop {h : Hp} {V : Wv} {n dn : Nat} (W : CW h V n dn) (p q : Int32) : ∀ (d k fuel : Nat), k + d = n → d < fuel → f_X4_netDebt_b5 fuel 1 p q (net V p q k) (nI k) h = some (net V p q n, h) := by
  have hn := WF_n W.1
  intro d
  induction d with
  | zero =>
    intro k fuel hk hq
    obtain ⟨f, rfl⟩ : ∃ f, fuel = f + 1 := ⟨fuel - 1, by omega⟩
    show f_X4_netDebt_b5_body _ _ _ _ _ _ _ = _
    unfold f_X4_netDebt_b5_body
    rw [CW_c7 W, if_pos (nI_le (by omega) (by omega)), show k = n by omega]
  | succ d ih =>
    intro k fuel hk hq
    have hkn : k < n := by omega
    obtain ⟨f, rfl⟩ : ∃ f, fuel = f + 1 := ⟨fuel - 1, by omega⟩
    have es : net V p q (k + 1) = if bt (V.1 2) k then net V p q k + (db V p q k - db V q p k) else net V p q k := rfl
    show f_X4_netDebt_b5_body _ _ _ _ _ _ _ = _
    unfold f_X4_netDebt_b5_body f_X4_netDebt_b51
    rw [CW_c7 W, if_neg (nI_ge hkn (by omega)), X4_isIn' W hkn, bnd_some, ← ih (k + 1) f (by omega) (by omega), es]
    cases bt (V.1 2) k
    · rw [bi_f, if_pos rfl, if_neg (by decide), nI_1]
    · rw [bi_t, if_neg (by decide), if_pos rfl, if_pos (inb_t (by omega) (by decide)), nI_clamp (by omega), X0_debt W hkn, bnd_some, if_pos (inb_t (by omega) (by decide)), X0_debt W hkn, bnd_some, nI_1]
theorem X4_netDebt {h : Hp} {V : Wv} {n dn : Nat} (W : CW h V n dn) (p q : Int32) : f_X4_netDebt 1 p q h = some (net V p q n, h) := X4_net_loop W p q n 0 200 (by omega) (by have := WF_n W.1; omega)
theorem X6_owed_in {h : Hp} {V : Wv} {n dn : Nat} (W : MW h V n dn) (p q a : Int32) {k : Nat} (hk : k < n) (kt : Int32 → Int32 → Int32 → Int32 → Hp → Option (Int32 × Hp)) : f_X6_owed_b17 kt 200 p q a (nI k) 1 h = kt p q (if bt (V.1 2) k then a + db V p q k else a) (nI (k + 1)) h := by
  have hn := WF_n W.1
  have s : ∀ f i a, (i = 1 ∨ i = 2) → f_X6_owed_b17 kt (f + 1) p q a (nI k) (nI i) h = f_X6_owed_b17 kt f p q (a + if bt (V.1 2) k = true ∧ ¬ V.2.1 k 0 = 2 ∧ V.2.1 k 3 = p ∧ V.2.1 k (3 + i) = q then 1 else 0) (nI k) (nI (i + 1)) h := fun f i a hi => by
    show f_X6_owed_b17_body _ _ _ _ _ _ _ _ = _
    unfold f_X6_owed_b17_body f_X6_owed_b76 f_X6_owed_b77
    rw [if_neg (show ¬ (3 : Int32) ≤ nI i from nI_ge (b := 3) (by omega) (by decide)), MW_m13 W, X6_has _ h (by omega), bnd_some, nI_1]
    cases hb : bt (V.1 2) k
    · rw [bi_f, if_pos rfl, if_neg (fun z => by cases z.1)]
    rw [bi_t, if_neg (by decide), show f_X6_of (nI k) 0 h = _ from M_of W (j := 0) hk (by decide), bnd_some]
    by_cases q1 : V.2.1 k 0 = 2
    · rw [if_pos q1, if_neg (fun z => z.2.1 q1)]
    rw [if_neg q1, show f_X6_of (nI k) 3 h = _ from M_of W (j := 3) hk (by decide), bnd_some]
    by_cases q2 : V.2.1 k 3 = p
    · rw [if_neg (fun z => z q2), show (3 : Int32) + nI i = nI (3 + i) from nI_add 3 i, M_of W hk (by omega), bnd_some]
      by_cases q3 : V.2.1 k (3 + i) = q
      · rw [if_neg (fun z => z q3), if_pos ⟨rfl, q1, q2, q3⟩]
      · rw [if_pos q3, if_neg (fun z => q3 z.2.2.2)]
    · rw [if_pos q2, if_neg (fun z => q2 z.2.2.1)]
  rw [show f_X6_owed_b17 kt 200 p q a (nI k) 1 h = _ from s 199 1 a (Or.inl rfl), s 198 (1 + 1) _ (Or.inr rfl)]
  show f_X6_owed_b17_body _ _ _ _ _ _ _ _ = _
  unfold f_X6_owed_b17_body
  rw [if_pos (by decide), nI_1]
  congr 1
  unfold db c01
  cases bt (V.1 2) k
  · simp
  by_cases q1 : V.2.1 k 0 = 2 <;> by_cases q2 : V.2.1 k 3 = p <;> by_cases q3 : V.2.1 k 4 = q <;> by_cases q4 : V.2.1 k 5 = q <;> simp [q1, q2, q3, q4, Int32.add_assoc]
theorem X6_owed_loop {h : Hp} {V : Wv} {n dn : Nat} (W : MW h V n dn) (p q : Int32) : ∀ (d k fuel : Nat), k + d = n → d < fuel → f_X6_owed_b5 fuel p q (ow V p q k) (nI k) h = some (ow V p q n, h) := by
  have hn := WF_n W.1
  intro d
  induction d with
  | zero =>
    intro k fuel hk hq
    obtain ⟨f, rfl⟩ : ∃ f, fuel = f + 1 := ⟨fuel - 1, by omega⟩
    show f_X6_owed_b5_body _ _ _ _ _ _ = _
    unfold f_X6_owed_b5_body
    rw [MW_m11 W, if_pos (nI_le (by omega) (by omega)), show k = n by omega]
  | succ d ih =>
    intro k fuel hk hq
    have hkn : k < n := by omega
    obtain ⟨f, rfl⟩ : ∃ f, fuel = f + 1 := ⟨fuel - 1, by omega⟩
    show f_X6_owed_b5_body _ _ _ _ _ _ = _
    unfold f_X6_owed_b5_body
    rw [MW_m11 W, if_neg (nI_ge hkn (by omega)), X6_owed_in W p q _ hkn]
    exact ih (k + 1) f (by omega) (by omega)
theorem X6_owed {h : Hp} {V : Wv} {n dn : Nat} (W : MW h V n dn) (p q : Int32) : f_X6_owed p q h = some (ow V p q n, h) := X6_owed_loop W p q n 0 200 (by omega) (by have := WF_n W.1; omega)
theorem st_owes (a1 a2 : Int32) (h : Hp) (hI : Inv h) : ∃ (r : Int32) (h1 h2 : Hp), f_X5_owes a1 a2 h = some (r, h1) ∧ f_X6_owes a1 a2 h1 = some (r, h2) ∧ Inv h2 := by
  obtain ⟨V, n, dn, W⟩ := Inv_W hI
  rcases rng 6 (by decide) a1 with z | ⟨p, hp, rfl⟩
  · refine ⟨-1, h, h, ?_, ?_, hI⟩
    · unfold f_X5_owes; rw [X5_isPerson_n h z, bnd_some, if_pos rfl]
    · unfold f_X6_owes; rw [X6_isOne_n h z, bnd_some, if_pos rfl]
  rcases rng 6 (by decide) a2 with z | ⟨q, hq, rfl⟩
  · refine ⟨-1, h, h, ?_, ?_, hI⟩
    · unfold f_X5_owes; rw [X5_isPerson_y h hp, bnd_some, if_neg (by decide), X5_isPerson_n h z, bnd_some, if_pos rfl]
    · unfold f_X6_owes; rw [X6_isOne_y h hp, bnd_some, if_neg (by decide), X6_isOne_n h z, bnd_some, if_pos rfl]
  by_cases e : nI p = nI q
  · refine ⟨-1, h, h, ?_, ?_, hI⟩
    · unfold f_X5_owes; rw [X5_isPerson_y h hp, bnd_some, if_neg (by decide), X5_isPerson_y h hq, bnd_some, if_neg (by decide), if_neg (fun z => z e)]
    · unfold f_X6_owes; rw [X6_isOne_y h hp, bnd_some, if_neg (by decide), X6_isOne_y h hq, bnd_some, if_neg (by decide), if_pos e]
  refine ⟨net V (nI p) (nI q) n, h, h, ?_, ?_, hI⟩
  · unfold f_X5_owes; rw [X5_isPerson_y h hp, bnd_some, if_neg (by decide), X5_isPerson_y h hq, bnd_some, if_neg (by decide), if_pos e, X4_netDebt (cw W), bnd_some]
  · unfold f_X6_owes; rw [X6_isOne_y h hp, bnd_some, if_neg (by decide), X6_isOne_y h hq, bnd_some, if_neg (by decide), if_neg e, X6_owed (mw W), bnd_some, X6_owed (mw W), bnd_some, net_ow]
/-! rich -/
def crd (V : Wv) (n p : Nat) : Nat → Int32
  | 0 => 0
  | k + 1 => crd V n p k + if k = p then 0 else net V (nI k) (nI p) n
def rch (V : Wv) (n : Nat) : Nat → Int32 × Int32
  | 0 => (0, -1000)
  | k + 1 => if crd V n k 6 ≤ (rch V n k).2 then rch V n k else (nI k, crd V n k 6)
theorem crd_s (V : Wv) (n p k : Nat) : crd V n p (k + 1) = crd V n p k + if k = p then 0 else net V (nI k) (nI p) n := rfl
theorem rch_s (V : Wv) (n k : Nat) : rch V n (k + 1) = if crd V n k 6 ≤ (rch V n k).2 then rch V n k else (nI k, crd V n k 6) := rfl
theorem X4_crd_loop {h : Hp} {V : Wv} {n dn p : Nat} (W : CW h V n dn) (hp : p < 6) : ∀ (d k fuel : Nat), k + d = 6 → d < fuel → f_X4_netCredit_b4 fuel 1 (nI p) (crd V n p k) (nI k) h = some (crd V n p 6, h) := by
  intro d
  induction d with
  | zero =>
    intro k fuel hk hq
    obtain ⟨f, rfl⟩ : ∃ f, fuel = f + 1 := ⟨fuel - 1, by omega⟩
    show f_X4_netCredit_b4_body _ _ _ _ _ _ = _
    unfold f_X4_netCredit_b4_body
    rw [show k = 6 by omega, if_pos (by decide)]
  | succ d ih =>
    intro k fuel hk hq
    obtain ⟨f, rfl⟩ : ∃ f, fuel = f + 1 := ⟨fuel - 1, by omega⟩
    show f_X4_netCredit_b4_body _ _ _ _ _ _ = _
    unfold f_X4_netCredit_b4_body f_X4_netCredit_b26
    rw [if_neg (show ¬ (6 : Int32) ≤ nI k from nI_ge (b := 6) (by omega) (by decide)), ← ih (k + 1) f (by omega) (by omega), crd_s]
    by_cases q : k = p
    · rw [if_neg (fun z => z (by rw [q])), if_pos q, nI_1]
    · rw [if_pos (fun z => q ((nI_eq (by omega) (by omega)).mp z)), X4_netDebt W, bnd_some, if_neg q, nI_1]
theorem X4_netCredit {h : Hp} {V : Wv} {n dn p : Nat} (W : CW h V n dn) (hp : p < 6) : f_X4_netCredit 1 (nI p) h = some (crd V n p 6, h) := X4_crd_loop W hp 6 0 200 (by omega) (by omega)
theorem db_rng (V : Wv) (p q : Int32) (b : Nat) : 0 ≤ (db V p q b).toInt ∧ (db V p q b).toInt ≤ 2 := by
  unfold db c01
  split
  · decide
  · split
    · split <;> split <;> decide
    · decide
theorem net_rng (V : Wv) (p q : Int32) : ∀ k : Nat, k ≤ 14 → -(2 * (k : Int)) ≤ (net V p q k).toInt ∧ (net V p q k).toInt ≤ 2 * k
  | 0, _ => by show -(2 * ((0 : Nat) : Int)) ≤ (0 : Int32).toInt ∧ (0 : Int32).toInt ≤ 2 * (0 : Nat); decide
  | k + 1, hk => by
    have ih := net_rng V p q k (by omega)
    have d1 := db_rng V p q k
    have d2 := db_rng V q p k
    unfold net
    split
    · have e1 : (db V p q k - db V q p k).toInt = (db V p q k).toInt - (db V q p k).toInt := fb_subI (by omega) (by omega)
      rw [fb_addI (by rw [e1]; omega) (by rw [e1]; omega), e1]
      omega
    · omega
theorem crd_rng (V : Wv) {n : Nat} (hn : n ≤ 14) (p : Nat) : ∀ k : Nat, k ≤ 6 → -(28 * (k : Int)) ≤ (crd V n p k).toInt ∧ (crd V n p k).toInt ≤ 28 * k
  | 0, _ => by show -(28 * ((0 : Nat) : Int)) ≤ (0 : Int32).toInt ∧ (0 : Int32).toInt ≤ 28 * (0 : Nat); decide
  | k + 1, hk => by
    have ih := crd_rng V hn p k (by omega)
    have d1 := net_rng V (nI k) (nI p) n hn
    rw [crd_s]
    split
    · rw [Int32.add_zero]; omega
    · rw [fb_addI (by omega) (by omega)]
      omega
theorem X5_rich_loop {h : Hp} {V : Wv} {n dn : Nat} (W : CW h V n dn) : ∀ (d k fuel : Nat), k + d = 6 → d < fuel → f_X5_rich_b13 fuel (rch V n k).1 (rch V n k).2 (nI k) h = some ((rch V n 6).1, si h 0 0 7 (rch V n 6).2) := by
  intro d
  induction d with
  | zero =>
    intro k fuel hk hq
    obtain ⟨f, rfl⟩ : ∃ f, fuel = f + 1 := ⟨fuel - 1, by omega⟩
    show f_X5_rich_b13_body _ _ _ _ _ = _
    unfold f_X5_rich_b13_body
    rw [show k = 6 by omega, if_pos (by decide)]
  | succ d ih =>
    intro k fuel hk hq
    obtain ⟨f, rfl⟩ : ∃ f, fuel = f + 1 := ⟨fuel - 1, by omega⟩
    show f_X5_rich_b13_body _ _ _ _ _ = _
    unfold f_X5_rich_b13_body f_X5_rich_b40
    rw [if_neg (show ¬ (6 : Int32) ≤ nI k from nI_ge (b := 6) (by omega) (by decide)), X4_netCredit W (by omega), bnd_some, ← ih (k + 1) f (by omega) (by omega), rch_s, nI_1]
    by_cases q : crd V n k 6 ≤ (rch V n k).2
    · rw [if_pos q, if_pos q]
    · rw [if_neg q, if_neg q]
theorem X6_rich_in {h : Hp} {V : Wv} {n dn p : Nat} (W : MW h V n dn) (hp : p < 6) (a m : Int32) (kt : Int32 → Int32 → Int32 → Hp → Option (Int32 × Hp)) : ∀ (d k fuel : Nat), k + d = 6 → d < fuel → f_X6_rich_b20 kt fuel a m (nI p) (crd V n p k) (nI k) h = (if crd V n p 6 ≤ m then kt a m (nI (p + 1)) h else kt (nI p) (crd V n p 6) (nI (p + 1)) h) := by
  intro d
  induction d with
  | zero =>
    intro k fuel hk hq
    obtain ⟨f, rfl⟩ : ∃ f, fuel = f + 1 := ⟨fuel - 1, by omega⟩
    show f_X6_rich_b20_body _ _ _ _ _ _ _ _ = _
    unfold f_X6_rich_b20_body f_X6_rich_b74 f_X6_rich_b87
    rw [show k = 6 by omega, if_pos (by decide), nI_1]
    by_cases q : crd V n p 6 ≤ m
    · rw [if_pos q, if_pos q, if_pos q]
    · rw [if_neg q, if_neg q, if_neg q]
  | succ d ih =>
    intro k fuel hk hq
    obtain ⟨f, rfl⟩ : ∃ f, fuel = f + 1 := ⟨fuel - 1, by omega⟩
    show f_X6_rich_b20_body _ _ _ _ _ _ _ _ = _
    unfold f_X6_rich_b20_body f_X6_rich_b54
    rw [if_neg (show ¬ (6 : Int32) ≤ nI k from nI_ge (b := 6) (by omega) (by decide)), ← ih (k + 1) f (by omega) (by omega), crd_s]
    by_cases q : k = p
    · rw [if_neg (fun z => z (by rw [q])), if_pos q, nI_1]
    · rw [if_pos (fun z => q ((nI_eq (by omega) (by omega)).mp z)), X6_owed W, bnd_some, X6_owed W, bnd_some, if_neg q, nI_1, net_ow]
theorem X6_rich_loop {h : Hp} {V : Wv} {n dn : Nat} (W : MW h V n dn) : ∀ (d k fuel : Nat), k + d = 6 → d < fuel → f_X6_rich_b8 fuel (rch V n k).1 (rch V n k).2 (nI k) h = some ((rch V n 6).1, si h 20 0 2 (rch V n 6).2) := by
  intro d
  induction d with
  | zero =>
    intro k fuel hk hq
    obtain ⟨f, rfl⟩ : ∃ f, fuel = f + 1 := ⟨fuel - 1, by omega⟩
    show f_X6_rich_b8_body _ _ _ _ _ = _
    unfold f_X6_rich_b8_body f_X6_ask
    rw [show k = 6 by omega, if_pos (by decide), bnd_some]
  | succ d ih =>
    intro k fuel hk hq
    obtain ⟨f, rfl⟩ : ∃ f, fuel = f + 1 := ⟨fuel - 1, by omega⟩
    show f_X6_rich_b8_body _ _ _ _ _ = _
    unfold f_X6_rich_b8_body
    rw [if_neg (show ¬ (6 : Int32) ≤ nI k from nI_ge (b := 6) (by omega) (by decide)), show f_X6_rich_b20 (f_X6_rich_b8 f) 200 (rch V n k).1 (rch V n k).2 (nI k) 0 0 h = _ from X6_rich_in W (by omega) _ _ _ 6 0 200 (by omega) (by omega), ← ih (k + 1) f (by omega) (by omega), rch_s]
    by_cases q : crd V n k 6 ≤ (rch V n k).2
    · rw [if_pos q, if_pos q]
    · rw [if_neg q, if_neg q]
theorem st_rich (h : Hp) (hI : Inv h) : ∃ (r : Int32) (h1 h2 : Hp), f_X5_rich h = some (r, h1) ∧ f_X6_rich h1 = some (r, h2) ∧ Inv h2 := by
  obtain ⟨V, n, dn, W⟩ := Inv_W hI
  have hn := IW_n W
  have W2 : IW (si h 0 0 7 (rch V n 6).2) V n dn := IW_si W (by unfold wcore; omega)
  refine ⟨(rch V n 6).1, si h 0 0 7 (rch V n 6).2, ask2 h (rch V n 6).2, ?_, X6_rich_loop (mw W2) 6 0 200 (by omega) (by omega), ask_Inv hI⟩
  have e1 : rch V n 1 = (0, crd V n 0 6) := by
    rw [rch_s, if_neg]
    · rfl
    · show ¬ crd V n 0 6 ≤ -1000
      rw [Int32.le_iff_toInt_le]
      have := crd_rng V hn 0 6 (by omega)
      rw [show ((-1000 : Int32)).toInt = -1000 from rfl]
      omega
  have key := X5_rich_loop (cw W) 5 1 200 (by omega) (by omega)
  rw [e1] at key
  unfold f_X5_rich
  rw [show f_X4_netCredit 1 0 h = _ from X4_netCredit (cw W) (p := 0) (by decide), bnd_some]
  exact key
/-! moved -/
theorem X5_isPlace_n {a : Int32} (h : Hp) (q : a < 0 ∨ nI 3 ≤ a) : f_X5_isPlace a h = some (0, h) := by
  unfold f_X5_isPlace
  by_cases q1 : a < 0
  · rw [if_pos q1]
  · rw [if_neg q1, if_pos (show (3 : Int32) ≤ a from q.resolve_left q1)]
theorem X5_isPlace_y {k : Nat} (h : Hp) (hk : k < 3) : f_X5_isPlace (nI k) h = some (1, h) := by
  unfold f_X5_isPlace
  rw [if_neg (nI_pos (by omega)), if_neg (show ¬ (3 : Int32) ≤ nI k from nI_ge hk (by decide))]
theorem sub_m9 {x : Int32} {n : Nat} (hn : n ≤ 14) (s : sub x n) : ¬ x = -9 := fun z => by
  obtain ⟨k, hk, e⟩ := sub_nI (sub_mono s hn)
  rw [e] at z
  exact nI_m9 (by omega) z
theorem n120 (k : Nat) : (120 : Int32) * nI k = nI (120 * k) := by rw [show (120 : Int32) = nI 120 from rfl, nI_mul]
theorem st_moved (a1 : Int32) (h : Hp) (hI : Inv h) : ∃ (r : Int32) (h1 h2 : Hp), f_X5_moved a1 h = some (r, h1) ∧ f_X6_moved a1 h1 = some (r, h2) ∧ Inv h2 := by
  obtain ⟨V, n, dn, W⟩ := Inv_W hI
  have hn := IW_n W
  rcases rng 3 (by decide) a1 with q | ⟨k, hk, rfl⟩
  · refine ⟨-1, h, h, ?_, ?_, hI⟩
    · unfold f_X5_moved; rw [X5_isPlace_n h q, bnd_some, if_neg (fun z => z rfl)]
    · unfold f_X6_moved; rw [show f_X6_in a1 0 2 h = _ from X6_rng_n (N := 2) h (by decide) q, bnd_some, if_neg (fun z => z rfl)]
  have em : ∀ h, f_X6_moved (nI k) h = if ¬ h.1 29 0 (120 * k) = -9 then bnd (f_X6_ask ((h.1 20 0 13) &&& ((h.1 29 0 (120 * k)) ^^^ (-1 : Int32))) ((h.1 29 0 (120 * k)) &&& ((h.1 20 0 13) ^^^ (-1 : Int32))) h) (fun v7 h8 => some (v7, h8)) else bnd (f_X6_meet (1 : Int32) h) (fun v10 h11 => some (v10, h11)) := fun h => by
    unfold f_X6_moved
    rw [show f_X6_in (nI k) 0 2 h = _ from X6_rng_y (N := 2) h hk (by decide), bnd_some, if_pos (by decide), n120, if_pos (inb_t (by omega) (by decide)), nI_clamp (by omega)]
  rcases W.2.2.2.2 k hk with ⟨b0, k0⟩ | ⟨b1, -, U, m, dm, U1, U2, U3, U4⟩
  · refine ⟨-3, rfC h 1, mtC (rfC h 1) 1, ?_, ?_, rm_Inv hI⟩
    · unfold f_X5_moved
      rw [X5_isPlace_y h hk, bnd_some, if_pos (by decide), if_pos (inb_t hk (by decide)), nI_clamp (by omega), b0, if_neg (fun z => z rfl), X5_ref1, bnd_some]
    · rw [em, rfC_g _ _ (by decide) (by decide), if_neg (fun z => z k0), X6_met1, bnd_some]
  · have c8 : h.1 11 (2 + k) 8 = U.1 2 := U3.1.2.2.1
    have k8 : h.1 29 0 (120 * k) = U.1 2 := U4.1.1
    refine ⟨U.1 2 &&& (V.1 2 ^^^ (-1)), si h 0 0 7 (V.1 2 &&& (U.1 2 ^^^ (-1))), ask2 h (V.1 2 &&& (U.1 2 ^^^ (-1))), ?_, ?_, ask_Inv hI⟩
    · unfold f_X5_moved
      rw [X5_isPlace_y h hk, bnd_some, if_pos (by decide), if_pos (inb_t hk (by decide)), nI_clamp (by omega), b1, if_pos (by decide), if_pos (inb_t hk (by decide)), if_pos (inb_t hk (by decide)), si_g _ (by decide), si_g _ (by decide), c8, CW_c8 (cw W)]
    · rw [em, si_g _ (by decide), k8, if_pos (sub_m9 (WF_n U1) (WF_in U1)), si_g _ (by decide), MW_m13 (mw W)]
      rfl
