/-! alone -/
def aln (V : Wv) (x : Int32) : Nat → Int32 × Int32
  | 0 => (63, 0)
  | k + 1 => if bt x k then ((aln V x k).1 &&& pp V k, (aln V x k).2 + if pcn (pp V k) 14 = 1 then 1 else 0) else aln V x k
theorem aln_s (V : Wv) (x : Int32) (k : Nat) : aln V x (k + 1) = if bt x k then ((aln V x k).1 &&& pp V k, (aln V x k).2 + if pcn (pp V k) 14 = 1 then 1 else 0) else aln V x k := rfl
theorem pcn_le (x : Int32) (n : Nat) : pcn x n ≤ n := mkn_le (bt x) n
theorem X5_alone_loop {h : Hp} {V : Wv} {n dn : Nat} (W : CW h V n dn) (x : Int32) : ∀ (d k fuel : Nat), k + d = n → d < fuel → f_X5_alone_b25 fuel x (aln V x k).1 (aln V x k).2 (nI k) h = some ((aln V x n).1, si h 0 0 7 (aln V x n).2) := by
  have hn := WF_n W.1
  intro d
  induction d with
  | zero =>
    intro k fuel hk hq
    obtain ⟨f, rfl⟩ : ∃ f, fuel = f + 1 := ⟨fuel - 1, by omega⟩
    show f_X5_alone_b25_body _ _ _ _ _ _ = _
    unfold f_X5_alone_b25_body
    rw [CW_c7 W, if_pos (nI_le (by omega) (by omega)), show k = n by omega]
  | succ d ih =>
    intro k fuel hk hq
    have hkn : k < n := by omega
    obtain ⟨f, rfl⟩ : ∃ f, fuel = f + 1 := ⟨fuel - 1, by omega⟩
    have hp := pcn_le (pp V k) 14
    show f_X5_alone_b25_body _ _ _ _ _ _ = _
    unfold f_X5_alone_b25_body f_X5_alone_b82 f_X5_alone_b84
    rw [CW_c7 W, if_neg (nI_ge hkn (by omega)), shr1 x (by omega), ← ih (k + 1) f (by omega) (by omega), aln_s, nI_1]
    cases bt x k
    · rw [bi_f, if_pos (by decide), if_neg (by decide)]
    · rw [bi_t, if_neg (fun z => z rfl), if_pos rfl, if_pos (inb_t (by omega) (by decide)), nI_clamp (by omega), X0_people W hkn, bnd_some, bc_of (sub_mono (pp_sub W.1 hkn) (by decide)), bnd_some]
      by_cases q : pcn (pp V k) 14 = 1
      · rw [if_neg (fun z => z (by rw [q]; rfl)), if_pos q]
      · rw [if_pos (ne1 (by omega) q), if_neg q]
theorem X6_alone_loop {h : Hp} {V : Wv} {n dn : Nat} (W : MW h V n dn) (x : Int32) : ∀ (d k fuel : Nat), k + d = n → d < fuel → f_X6_alone_b22 fuel x (aln V x k).1 (aln V x k).2 (nI k) h = some ((aln V x n).1, si h 20 0 2 (aln V x n).2) := by
  have hn := WF_n W.1
  intro d
  induction d with
  | zero =>
    intro k fuel hk hq
    obtain ⟨f, rfl⟩ : ∃ f, fuel = f + 1 := ⟨fuel - 1, by omega⟩
    show f_X6_alone_b22_body _ _ _ _ _ _ = _
    unfold f_X6_alone_b22_body f_X6_ask
    rw [MW_m11 W, if_pos (nI_le (by omega) (by omega)), show k = n by omega, bnd_some]
  | succ d ih =>
    intro k fuel hk hq
    have hkn : k < n := by omega
    obtain ⟨f, rfl⟩ : ∃ f, fuel = f + 1 := ⟨fuel - 1, by omega⟩
    have hp := pcn_le (pp V k) 14
    show f_X6_alone_b22_body _ _ _ _ _ _ = _
    unfold f_X6_alone_b22_body f_X6_alone_b68 f_X6_alone_b70
    rw [MW_m11 W, if_neg (nI_ge hkn (by omega)), X6_has x h (by omega), bnd_some, ← ih (k + 1) f (by omega) (by omega), aln_s]
    cases bt x k
    · rw [bi_f, if_pos rfl, if_neg (by decide), nI_1]
    · rw [bi_t, if_neg (by decide), if_pos rfl, X6_marksOf W hkn, bnd_some, X6_marksOf W hkn, bnd_some, X6_sizeOf, bnd_some, nI_1]
      by_cases q : pcn (pp V k) 14 = 1
      · rw [if_neg (fun z => z (by rw [q]; rfl)), if_pos q]
      · rw [if_pos (ne1 (by omega) q), if_neg q]
theorem st_alone (a1 : Int32) (h : Hp) (hI : Inv h) : ∃ (r : Int32) (h1 h2 : Hp), f_X5_alone a1 h = some (r, h1) ∧ f_X6_alone a1 h1 = some (r, h2) ∧ Inv h2 := by
  obtain ⟨V, n, dn, W⟩ := Inv_W hI
  have hn := IW_n W
  by_cases q : a1 < 0 ∨ ¬ sub a1 n
  · refine ⟨-1, h, h, ?_, ?_, hI⟩
    · unfold f_X5_alone; rw [X4_hasAll_n (cw W) q, bnd_some, if_pos rfl]
    · unfold f_X6_alone; rw [X6_isSet_n (mw W) q, bnd_some, if_pos rfl]
  have q0 : ¬ a1 < 0 := fun z => q (Or.inl z)
  have q1 : sub a1 n := Classical.byContradiction fun z => q (Or.inr z)
  by_cases e : a1 = 0
  · refine ⟨-1, h, h, ?_, ?_, hI⟩
    · unfold f_X5_alone; rw [X4_hasAll_y (cw W) q0 q1, bnd_some, if_neg (by decide), if_neg (fun z => z e)]
    · unfold f_X6_alone; rw [X6_isSet_y (mw W) q0 q1, bnd_some, if_neg (by decide), if_neg (fun z => z e)]
  have W2 : IW (si h 0 0 7 (aln V a1 n).2) V n dn := IW_si W (by unfold wcore; omega)
  refine ⟨(aln V a1 n).1, si h 0 0 7 (aln V a1 n).2, ask2 h (aln V a1 n).2, ?_, ?_, ask_Inv hI⟩
  · unfold f_X5_alone; rw [X4_hasAll_y (cw W) q0 q1, bnd_some, if_neg (by decide), if_pos e]
    exact X5_alone_loop (cw W) a1 n 0 200 (by omega) (by omega)
  · unfold f_X6_alone; rw [X6_isSet_y (mw W2) q0 q1, bnd_some, if_neg (by decide), if_pos e]
    exact X6_alone_loop (mw W2) a1 n 0 200 (by omega) (by omega)
/-! few -/
def allB (p : Nat → Bool) : Nat → Bool
  | 0 => true
  | n + 1 => allB p n && p n
theorem allB_s (p : Nat → Bool) (n : Nat) : allB p (n + 1) = (allB p n && p n) := rfl
theorem allB_iff {p : Nat → Bool} : ∀ {n : Nat}, allB p n = true ↔ ∀ k, k < n → p k = true
  | 0 => ⟨fun _ k hk => absurd hk (by omega), fun _ => rfl⟩
  | n + 1 => by
    rw [allB_s, Bool.and_eq_true, allB_iff]
    constructor
    · intro z k hk
      by_cases q : k = n
      · rw [q]; exact z.2
      · exact z.1 k (by omega)
    · intro z
      exact ⟨fun k hk => z k (by omega), z n (by omega)⟩
theorem allB_no {p : Nat → Bool} {n k : Nat} (hk : k < n) (z : p k = false) : allB p n = false := by
  cases e : allB p n
  · rfl
  · rw [allB_iff.mp e k hk] at z; cases z
def rhB (V : Wv) (x w : Int32) (b : Nat) : Bool := !bt x b || !decide (pp V b &&& w = 0)
theorem X4_reach_loop {h : Hp} {V : Wv} {n dn : Nat} (W : CW h V n dn) (x w : Int32) : ∀ (d k fuel : Nat), k + d = n → d < fuel → (∀ b, b < k → rhB V x w b = true) → f_X4_reachesAll_b2 fuel 1 w x (nI k) h = some (bi (allB (rhB V x w) n), h) := by
  have hn := WF_n W.1
  intro d
  induction d with
  | zero =>
    intro k fuel hk hq hp
    obtain ⟨f, rfl⟩ : ∃ f, fuel = f + 1 := ⟨fuel - 1, by omega⟩
    show f_X4_reachesAll_b2_body _ _ _ _ _ _ = _
    unfold f_X4_reachesAll_b2_body
    rw [CW_c7 W, if_pos (nI_le (by omega) (by omega)), allB_iff.mpr (fun b hb => hp b (by omega))]
    rfl
  | succ d ih =>
    intro k fuel hk hq hp
    have hkn : k < n := by omega
    obtain ⟨f, rfl⟩ : ∃ f, fuel = f + 1 := ⟨fuel - 1, by omega⟩
    have nx : rhB V x w k = true → f_X4_reachesAll_b2 f 1 w x (nI (k + 1)) h = some (bi (allB (rhB V x w) n), h) := fun z => ih (k + 1) f (by omega) (by omega) (fun b hb => by
      by_cases q : b = k
      · rw [q]; exact z
      · exact hp b (by omega))
    show f_X4_reachesAll_b2_body _ _ _ _ _ _ = _
    unfold f_X4_reachesAll_b2_body f_X4_reachesAll_b35
    rw [CW_c7 W, if_neg (nI_ge hkn (by omega)), shr1 x (by omega), nI_1]
    cases hx : bt x k
    · rw [bi_f, if_pos (by decide)]
      exact nx (by unfold rhB; rw [hx]; rfl)
    · rw [bi_t, if_neg (fun z => z rfl), if_pos (inb_t (by omega) (by decide)), nI_clamp (by omega), X0_people W hkn, bnd_some]
      by_cases q : pp V k &&& w = 0
      · rw [if_neg (fun z => z q), allB_no hkn (show rhB V x w k = false by unfold rhB; rw [hx, decide_eq_true q]; rfl)]
        rfl
      · rw [if_pos q]
        exact nx (by unfold rhB; rw [decide_eq_false q]; simp)
theorem X4_reachesAll {h : Hp} {V : Wv} {n dn : Nat} (W : CW h V n dn) (x w : Int32) : f_X4_reachesAll 1 w x h = some (bi (allB (rhB V x w) n), h) := X4_reach_loop W x w n 0 200 (by omega) (by have := WF_n W.1; omega) (fun b hb => by omega)
def fwb (V : Wv) (n : Nat) (x : Int32) : Nat → Int32
  | 0 => 63
  | k + 1 => if pcn (nI (k + 1)) 14 < pcn (fwb V n x k) 14 ∧ allB (rhB V x (nI (k + 1))) n = true then nI (k + 1) else fwb V n x k
theorem fwb_s (V : Wv) (n : Nat) (x : Int32) (k : Nat) : fwb V n x (k + 1) = if pcn (nI (k + 1)) 14 < pcn (fwb V n x k) 14 ∧ allB (rhB V x (nI (k + 1))) n = true then nI (k + 1) else fwb V n x k := rfl
theorem s63 {k : Nat} (hk : k < 64) : sub (nI k) 14 := (sub_iff (by omega) (by omega)).mpr (by omega)
theorem fwb_sub (V : Wv) (n : Nat) (x : Int32) : ∀ k, k < 64 → sub (fwb V n x k) 14
  | 0, _ => s63 (k := 63) (by decide)
  | k + 1, hk => by
    rw [fwb_s]
    split
    · exact s63 hk
    · exact fwb_sub V n x k (by omega)
theorem X5_few_loop {h : Hp} {V : Wv} {n dn : Nat} (W : CW h V n dn) (x : Int32) : ∀ (d k fuel : Nat), k + d = 63 → d < fuel → f_X5_few_b22 fuel x (fwb V n x k) (nI (k + 1)) h = some (nI (pcn (fwb V n x 63) 14), si h 0 0 7 (fwb V n x 63)) := by
  intro d
  induction d with
  | zero =>
    intro k fuel hk hq
    obtain ⟨f, rfl⟩ : ∃ f, fuel = f + 1 := ⟨fuel - 1, by omega⟩
    show f_X5_few_b22_body _ _ _ _ _ = _
    unfold f_X5_few_b22_body
    rw [show k = 63 by omega, if_pos (by decide), bc_of (fwb_sub V n x 63 (by omega)), bnd_some]
  | succ d ih =>
    intro k fuel hk hq
    obtain ⟨f, rfl⟩ : ∃ f, fuel = f + 1 := ⟨fuel - 1, by omega⟩
    have p1 := pcn_le (nI (k + 1)) 14
    have p2 := pcn_le (fwb V n x k) 14
    show f_X5_few_b22_body _ _ _ _ _ = _
    unfold f_X5_few_b22_body f_X5_few_b44 f_X5_few_b65
    rw [if_neg (show ¬ (64 : Int32) ≤ nI (k + 1) from nI_ge (b := 64) (by omega) (by decide)), bc_of (s63 (by omega)), bnd_some, bc_of (fwb_sub V n x k (by omega)), bnd_some, X4_reachesAll W, bnd_some, nI_1, ← ih (k + 1) f (by omega) (by omega), fwb_s]
    by_cases q : pcn (nI (k + 1)) 14 < pcn (fwb V n x k) 14
    · rw [if_neg (nI_ge q (by omega)), if_neg (by decide)]
      cases hr : allB (rhB V x (nI (k + 1))) n
      · rw [bi_f, if_pos rfl, if_neg (fun z => by cases z.2)]
      · rw [bi_t, if_neg (by decide), if_pos ⟨q, rfl⟩]
    · rw [if_pos (nI_le (by omega) (by omega)), if_pos rfl, if_neg (fun z => q z.1)]
theorem X6_few_in {h : Hp} {V : Wv} {n dn : Nat} (W : MW h V n dn) (x b : Int32) {w : Nat} (kt : Int32 → Int32 → Int32 → Hp → Option (Int32 × Hp)) : ∀ (d k fuel : Nat), k + d = n → d < fuel → f_X6_few_b31 kt fuel x b (nI w) (bi (allB (rhB V x (nI w)) k)) (nI k) h = (if pcn (nI w) 14 < pcn b 14 ∧ allB (rhB V x (nI w)) n = true then kt x (nI w) (nI (w + 1)) h else kt x b (nI (w + 1)) h) := by
  have hn := WF_n W.1
  have p1 := pcn_le (nI w) 14
  have p2 := pcn_le b 14
  intro d
  induction d with
  | zero =>
    intro k fuel hk hq
    obtain ⟨f, rfl⟩ : ∃ f, fuel = f + 1 := ⟨fuel - 1, by omega⟩
    show f_X6_few_b31_body _ _ _ _ _ _ _ _ = _
    unfold f_X6_few_b31_body f_X6_few_b98 f_X6_few_b99
    rw [MW_m11 W, if_pos (nI_le (by omega) (by omega)), show k = n by omega, nI_1]
    cases hr : allB (rhB V x (nI w)) n
    · rw [bi_f, if_pos rfl, if_neg (fun z => by cases z.2)]
    · rw [bi_t, if_neg (by decide), X6_sizeOf, bnd_some, X6_sizeOf, bnd_some]
      by_cases q : pcn (nI w) 14 < pcn b 14
      · rw [if_neg (nI_ge q (by omega)), if_pos ⟨q, rfl⟩]
      · rw [if_pos (nI_le (by omega) (by omega)), if_neg (fun z => q z.1)]
  | succ d ih =>
    intro k fuel hk hq
    have hkn : k < n := by omega
    obtain ⟨f, rfl⟩ : ∃ f, fuel = f + 1 := ⟨fuel - 1, by omega⟩
    have nx : ∀ r : Bool, r = allB (rhB V x (nI w)) (k + 1) → f_X6_few_b31 kt f x b (nI w) (bi r) (nI (k + 1)) h = (if pcn (nI w) 14 < pcn b 14 ∧ allB (rhB V x (nI w)) n = true then kt x (nI w) (nI (w + 1)) h else kt x b (nI (w + 1)) h) := fun r e => by
      rw [e]
      exact ih (k + 1) f (by omega) (by omega)
    show f_X6_few_b31_body _ _ _ _ _ _ _ _ = _
    unfold f_X6_few_b31_body f_X6_few_b69 f_X6_few_b65 f_X6_few_b70
    rw [MW_m11 W, if_neg (nI_ge hkn (by omega)), nI_1]
    cases ha : allB (rhB V x (nI w)) k
    · rw [bi_f, if_pos rfl]
      exact nx false (by rw [allB_s, ha]; rfl)
    · rw [bi_t, if_neg (by decide), X6_has x h (by omega), bnd_some]
      cases hx : bt x k
      · rw [bi_f, if_pos rfl]
        exact nx true (by rw [allB_s, ha]; unfold rhB; rw [hx]; rfl)
      · rw [bi_t, if_neg (by decide), X6_marksOf W hkn, bnd_some]
        by_cases q : pp V k &&& nI w = 0
        · rw [if_pos q]
          exact nx false (by rw [allB_s, ha]; unfold rhB; rw [hx, decide_eq_true q]; rfl)
        · rw [if_neg q]
          exact nx true (by rw [allB_s, ha]; unfold rhB; rw [decide_eq_false q]; simp)
theorem X6_few_loop {h : Hp} {V : Wv} {n dn : Nat} (W : MW h V n dn) (x : Int32) : ∀ (d k fuel : Nat), k + d = 63 → d < fuel → f_X6_few_b19 fuel x (fwb V n x k) (nI (k + 1)) h = some (nI (pcn (fwb V n x 63) 14), si h 20 0 2 (fwb V n x 63)) := by
  intro d
  induction d with
  | zero =>
    intro k fuel hk hq
    obtain ⟨f, rfl⟩ : ∃ f, fuel = f + 1 := ⟨fuel - 1, by omega⟩
    show f_X6_few_b19_body _ _ _ _ _ = _
    unfold f_X6_few_b19_body f_X6_ask
    rw [show k = 63 by omega, if_pos (by decide), X6_sizeOf, bnd_some, bnd_some]
  | succ d ih =>
    intro k fuel hk hq
    obtain ⟨f, rfl⟩ : ∃ f, fuel = f + 1 := ⟨fuel - 1, by omega⟩
    show f_X6_few_b19_body _ _ _ _ _ = _
    unfold f_X6_few_b19_body
    rw [if_neg (show ¬ (64 : Int32) ≤ nI (k + 1) from nI_ge (b := 64) (by omega) (by decide)), ← ih (k + 1) f (by omega) (by omega), fwb_s, show f_X6_few_b31 (f_X6_few_b19 f) 200 x (fwb V n x k) (nI (k + 1)) 1 0 h = _ from X6_few_in W x _ _ n 0 200 (by omega) (by have := WF_n W.1; omega)]
    split <;> rfl
theorem st_few (a1 : Int32) (h : Hp) (hI : Inv h) : ∃ (r : Int32) (h1 h2 : Hp), f_X5_few a1 h = some (r, h1) ∧ f_X6_few a1 h1 = some (r, h2) ∧ Inv h2 := by
  obtain ⟨V, n, dn, W⟩ := Inv_W hI
  have hn := IW_n W
  by_cases q : a1 < 0 ∨ ¬ sub a1 n
  · refine ⟨-1, h, h, ?_, ?_, hI⟩
    · unfold f_X5_few; rw [X4_hasAll_n (cw W) q, bnd_some, if_pos rfl]
    · unfold f_X6_few; rw [X6_isSet_n (mw W) q, bnd_some, if_pos rfl]
  have q0 : ¬ a1 < 0 := fun z => q (Or.inl z)
  have q1 : sub a1 n := Classical.byContradiction fun z => q (Or.inr z)
  by_cases e : a1 = 0
  · refine ⟨-1, h, h, ?_, ?_, hI⟩
    · unfold f_X5_few; rw [X4_hasAll_y (cw W) q0 q1, bnd_some, if_neg (by decide), if_neg (fun z => z e)]
    · unfold f_X6_few; rw [X6_isSet_y (mw W) q0 q1, bnd_some, if_neg (by decide), if_neg (fun z => z e)]
  have k5 := X5_few_loop (cw W) a1 63 0 200 (by omega) (by omega)
  have W2 : IW (si h 0 0 7 (fwb V n a1 63)) V n dn := IW_si W (by unfold wcore; omega)
  have k6 := X6_few_loop (mw W2) a1 63 0 200 (by omega) (by omega)
  refine ⟨nI (pcn (fwb V n a1 63) 14), si h 0 0 7 (fwb V n a1 63), ask2 h (fwb V n a1 63), ?_, ?_, ask_Inv hI⟩
  · unfold f_X5_few; rw [X4_hasAll_y (cw W) q0 q1, bnd_some, if_neg (by decide), if_pos e]
    exact k5
  · unfold f_X6_few; rw [X6_isSet_y (mw W2) q0 q1, bnd_some, if_neg (by decide), if_pos e]
    exact k6
