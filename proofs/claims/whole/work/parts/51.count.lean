theorem mkn_s (p : Nat → Bool) (n : Nat) : mkn p (n + 1) = mkn p n + if p n then 1 else 0 := rfl
theorem mkn_cut {p : Nat → Bool} {m : Nat} : ∀ d, mkn (fun k => decide (k < m) && p k) (m + d) = mkn p m
  | 0 => mkn_congr (fun k hk => by rw [decide_eq_true (by omega : k < m), Bool.true_and])
  | d + 1 => by
    rw [show m + (d + 1) = (m + d) + 1 from rfl, mkn_s, mkn_cut d, decide_eq_false (by omega : ¬ m + d < m)]
    rfl
theorem nI_bit (a : Nat) (b : Bool) : nI a + bi b = nI (a + if b then 1 else 0) := by
  cases b
  · rw [bi_f, Int32.add_zero]; rfl
  · rw [bi_t, nI_1]; rfl
def brgB (V : Wv) (k : Nat) : Bool := decide (4 ≤ kd V k)
def rwB (h : Hp) (k : Nat) : Bool := !decide (h.1 4 0 k < 0)
def txB (h : Hp) (k : Nat) : Bool := !decide (h.1 8 0 k < 0)
section CNT
variable {h : Hp} {V : Wv} {n dn : Nat}
theorem X4_bridges (W : CW h V n dn) : f_X4_bridges 1 h = some (nI (mkn (brgB V) n), h) := by
  have hn := WF_n W.1
  have key : ∀ (d k fuel : Nat), k + d = n → d < fuel → f_X4_bridges_b4 fuel 1 (nI (mkn (brgB V) k)) (nI k) h = some (nI (mkn (brgB V) n), h) := by
    intro d
    induction d with
    | zero =>
      intro k fuel hk hq
      obtain ⟨f, rfl⟩ : ∃ f, fuel = f + 1 := ⟨fuel - 1, by omega⟩
      show f_X4_bridges_b4_body _ _ _ _ _ = _
      unfold f_X4_bridges_b4_body
      rw [CW_c7 W, if_pos (nI_le (by omega) (by omega)), show k = n by omega]
    | succ d ih =>
      intro k fuel hk hq
      have hkn : k < n := by omega
      obtain ⟨f, rfl⟩ : ∃ f, fuel = f + 1 := ⟨fuel - 1, by omega⟩
      have c0 := (W.2.2.1 k hkn).1
      have b0 := WF_br W.1 k hkn
      show f_X4_bridges_b4_body _ _ _ _ _ = _
      unfold f_X4_bridges_b4_body f_X4_bridges_b30 f_X0_isBridge
      rw [CW_c7 W, if_neg (nI_ge hkn (by omega)), if_pos (inb_t (by omega) (by decide)), nI_clamp (by omega), c0, b0.1, ← ih (k + 1) f (by omega) (by omega), mkn_s, nI_1]
      unfold brgB
      by_cases q : 4 ≤ kd V k
      · rw [if_neg (show ¬ nI (kd V k) < (4 : Int32) from nI_nlt (b := 4) q (by omega)), bnd_some, if_neg (by decide), decide_eq_true q, nI_1]; rfl
      · rw [if_pos (show nI (kd V k) < (4 : Int32) from nI_lt (b := 4) (by omega) (by decide)), bnd_some, if_pos rfl, decide_eq_false q, Int32.add_zero]; rfl
  exact key n 0 200 (by omega) (by omega)
theorem X2_there (h : Hp) : f_X2_there h = some (nI (mkn (rwB h) 6), h) := by
  have key : ∀ (d k fuel : Nat), k + d = 6 → d < fuel → f_X2_there_b4 fuel (nI (mkn (rwB h) k)) (nI k) h = some (nI (mkn (rwB h) 6), h) := by
    intro d
    induction d with
    | zero =>
      intro k fuel hk hq
      obtain ⟨f, rfl⟩ : ∃ f, fuel = f + 1 := ⟨fuel - 1, by omega⟩
      show f_X2_there_b4_body _ _ _ _ = _
      unfold f_X2_there_b4_body
      rw [show k = 6 by omega, if_pos (by decide)]
    | succ d ih =>
      intro k fuel hk hq
      obtain ⟨f, rfl⟩ : ∃ f, fuel = f + 1 := ⟨fuel - 1, by omega⟩
      show f_X2_there_b4_body _ _ _ _ = _
      unfold f_X2_there_b4_body f_X2_there_b25
      rw [if_neg (show ¬ (6 : Int32) ≤ nI k from nI_ge (b := 6) (by omega) (by decide)), if_pos (inb_t (by omega) (by decide)), nI_clamp (by omega), ← ih (k + 1) f (by omega) (by omega), mkn_s, nI_1]
      unfold rwB
      by_cases q : h.1 4 0 k < 0
      · rw [if_pos q, decide_eq_true q, Int32.add_zero]; rfl
      · rw [if_neg q, decide_eq_false q, nI_1]; rfl
  exact key 6 0 200 (by omega) (by omega)
theorem X3_there (h : Hp) : f_X3_there h = some (nI (mkn (txB h) 4), h) := by
  have key : ∀ (d k fuel : Nat), k + d = 4 → d < fuel → f_X3_there_b4 fuel (nI (mkn (txB h) k)) (nI k) h = some (nI (mkn (txB h) 4), h) := by
    intro d
    induction d with
    | zero =>
      intro k fuel hk hq
      obtain ⟨f, rfl⟩ : ∃ f, fuel = f + 1 := ⟨fuel - 1, by omega⟩
      show f_X3_there_b4_body _ _ _ _ = _
      unfold f_X3_there_b4_body
      rw [show k = 4 by omega, if_pos (by decide)]
    | succ d ih =>
      intro k fuel hk hq
      obtain ⟨f, rfl⟩ : ∃ f, fuel = f + 1 := ⟨fuel - 1, by omega⟩
      show f_X3_there_b4_body _ _ _ _ = _
      unfold f_X3_there_b4_body f_X3_there_b24
      rw [if_neg (show ¬ (4 : Int32) ≤ nI k from nI_ge (b := 4) (by omega) (by decide)), if_pos (inb_t (by omega) (by decide)), nI_clamp (by omega), ← ih (k + 1) f (by omega) (by omega), mkn_s, nI_1]
      unfold txB
      by_cases q : h.1 8 0 k < 0
      · rw [if_pos q, decide_eq_true q, Int32.add_zero]; rfl
      · rw [if_neg q, decide_eq_false q, nI_1]; rfl
  exact key 4 0 200 (by omega) (by omega)
def cfin (h : Hp) (j : Nat) (c : Int32) : Option (Int32 × Hp) :=
  if j = 0 then some (h.1 20 0 11, h) else if j = 1 then some (nI (pcn (h.1 20 0 13) 14), h) else if j = 3 then some (nI (pcn (h.1 20 0 14) 14), h) else if j = 4 then some (nI (pcn (h.1 20 0 15) 14), h) else if j = 5 then some (h.1 20 0 17, h) else some (c, h)
theorem X6_cnt_end (h : Hp) (f : Nat) {j : Nat} (hj : j < 8) (c : Int32) : f_X6_counts_b4 (f + 1) (nI j) c (nI 14) h = cfin h j c := by
  show f_X6_counts_b4_body _ _ _ _ _ = _
  unfold f_X6_counts_b4_body cfin
  rw [if_pos (by decide), X6_sizeOf, bnd_some, X6_sizeOf, bnd_some, X6_sizeOf, bnd_some]
  rcases (show j = 0 ∨ j = 1 ∨ j = 2 ∨ j = 3 ∨ j = 4 ∨ j = 5 ∨ j = 6 ∨ j = 7 by omega) with rfl | rfl | rfl | rfl | rfl | rfl | rfl | rfl <;> rfl
theorem X6_cnt_loop (h : Hp) {j : Nat} (hj : j < 8) (p : Nat → Bool) (st : ∀ k f c, k < 14 → f_X6_counts_b4 (f + 1) (nI j) c (nI k) h = f_X6_counts_b4 f (nI j) (c + bi (p k)) (nI (k + 1)) h) : ∀ (d k fuel : Nat), k + d = 14 → d < fuel → f_X6_counts_b4 fuel (nI j) (nI (mkn p k)) (nI k) h = cfin h j (nI (mkn p 14)) := by
  intro d
  induction d with
  | zero =>
    intro k fuel hk hq
    obtain ⟨f, rfl⟩ : ∃ f, fuel = f + 1 := ⟨fuel - 1, by omega⟩
    rw [show k = 14 by omega]
    exact X6_cnt_end h f hj _
  | succ d ih =>
    intro k fuel hk hq
    obtain ⟨f, rfl⟩ : ∃ f, fuel = f + 1 := ⟨fuel - 1, by omega⟩
    rw [st k f _ (by omega), nI_bit, ← mkn_s]
    exact ih (k + 1) f (by omega) (by omega)
theorem lt14 {k : Nat} (hk : k < 14) : ¬ (14 : Int32) ≤ nI k := nI_ge (b := 14) hk (by decide)
theorem X6_cnt_o (h : Hp) {j : Nat} (hj : j < 8) (h2 : ¬ j = 2) (h6 : ¬ j = 6) (h7 : ¬ j = 7) : ∀ k f c, k < 14 → f_X6_counts_b4 (f + 1) (nI j) c (nI k) h = f_X6_counts_b4 f (nI j) (c + bi ((fun _ => false) k)) (nI (k + 1)) h := fun k f c hk => by
  show f_X6_counts_b4_body _ _ _ _ _ = _
  unfold f_X6_counts_b4_body f_X6_counts_b34 f_X6_counts_b55 f_X6_counts_b79 f_X6_counts_b80
  rw [if_neg (lt14 hk), if_pos (ne2 (by omega) h2), if_pos (show ¬ nI j = (6 : Int32) from fun z => h6 ((nI_eq (b := 6) (by omega) (by decide)).mp z)), if_pos (show ¬ nI j = (7 : Int32) from fun z => h7 ((nI_eq (b := 7) (by omega) (by decide)).mp z)), nI_1]
  rfl
theorem X6_cnt_2 (W : MW h V n dn) : ∀ k f c, k < 14 → f_X6_counts_b4 (f + 1) (nI 2) c (nI k) h = f_X6_counts_b4 f (nI 2) (c + bi (decide (k < n) && brgB V k)) (nI (k + 1)) h := fun k f c hk => by
  have hn := WF_n W.1
  show f_X6_counts_b4_body _ _ _ _ _ = _
  unfold f_X6_counts_b4_body f_X6_counts_b34 f_X6_counts_b55 f_X6_counts_b75 f_X6_counts_b79 f_X6_counts_b80
  rw [if_neg (lt14 hk), if_neg (fun z => z rfl), MW_m11 W, nI_1]
  by_cases q : k < n
  · rw [if_neg (nI_ge q (by omega)), show f_X6_of (nI k) 0 h = _ from M_of W (j := 0) q (by decide), bnd_some, (WF_br W.1 k q).1, decide_eq_true q]
    have := WF_br W.1 k q
    unfold brgB
    by_cases q4 : 4 ≤ kd V k
    · rw [if_pos (show (4 : Int32) ≤ nI (kd V k) from nI_le (a := 4) q4 (by omega)), decide_eq_true q4]; rfl
    · rw [if_neg (show ¬ (4 : Int32) ≤ nI (kd V k) from nI_ge (b := 4) (by omega) (by decide)), if_pos (by decide), if_pos (by decide), decide_eq_false q4]; rfl
  · rw [if_pos (nI_le (by omega) (by omega)), if_pos (by decide), if_pos (by decide), decide_eq_false q]; rfl
theorem RowOk_lt (hR : InvR h) {k : Nat} (hk : k < 6) : h.1 22 0 k < 0 ↔ h.1 4 0 k < 0 := by
  rcases hR k hk with ⟨a, b⟩ | ⟨m, hm, a, b, -⟩
  · rw [a, b]; decide
  · rw [a, b]
theorem TextOk_lt (hT : InvT h) {k : Nat} (hk : k < 4) : h.1 25 0 k < 0 ↔ h.1 8 0 k < 0 := by
  rcases hT k hk with ⟨a, b⟩ | ⟨m, hm, a, b, -⟩
  · rw [a, b]; decide
  · rw [a, b]
theorem X6_cnt_6 (hR : InvR h) : ∀ k f c, k < 14 → f_X6_counts_b4 (f + 1) (nI 6) c (nI k) h = f_X6_counts_b4 f (nI 6) (c + bi (decide (k < 6) && rwB h k)) (nI (k + 1)) h := fun k f c hk => by
  show f_X6_counts_b4_body _ _ _ _ _ = _
  unfold f_X6_counts_b4_body f_X6_counts_b34 f_X6_counts_b55 f_X6_counts_b75 f_X6_counts_b79 f_X6_counts_b80
  rw [if_neg (lt14 hk), if_pos (by decide), if_neg (fun z => z rfl), if_pos (show ¬ nI 6 = (7 : Int32) by decide), nI_1]
  by_cases q : k < 6
  · rw [if_neg (show ¬ (6 : Int32) ≤ nI k from nI_ge (b := 6) q (by decide)), if_pos (inb_t q (by decide)), nI_clamp (by omega), decide_eq_true q]
    unfold rwB
    by_cases q4 : h.1 4 0 k < 0
    · rw [if_neg (Int32.not_le.mpr ((RowOk_lt hR q).mpr q4)), decide_eq_true q4]; rfl
    · rw [if_pos (Int32.not_lt.mp (fun z => q4 ((RowOk_lt hR q).mp z))), decide_eq_false q4]; rfl
  · rw [if_pos (show (6 : Int32) ≤ nI k from nI_le (a := 6) (by omega) (by omega)), decide_eq_false q]; rfl
theorem X6_cnt_7 (hT : InvT h) : ∀ k f c, k < 14 → f_X6_counts_b4 (f + 1) (nI 7) c (nI k) h = f_X6_counts_b4 f (nI 7) (c + bi (decide (k < 4) && txB h k)) (nI (k + 1)) h := fun k f c hk => by
  show f_X6_counts_b4_body _ _ _ _ _ = _
  unfold f_X6_counts_b4_body f_X6_counts_b34 f_X6_counts_b55 f_X6_counts_b75 f_X6_counts_b79 f_X6_counts_b80
  rw [if_neg (lt14 hk), if_pos (by decide), if_pos (show ¬ nI 7 = (6 : Int32) by decide), if_neg (fun z => z rfl), nI_1]
  by_cases q : k < 4
  · rw [if_neg (show ¬ (4 : Int32) ≤ nI k from nI_ge (b := 4) q (by decide)), if_pos (inb_t q (by decide)), nI_clamp (by omega), decide_eq_true q]
    unfold txB
    by_cases q4 : h.1 8 0 k < 0
    · rw [if_pos ((TextOk_lt hT q).mpr q4), decide_eq_true q4]; rfl
    · rw [if_neg (fun z => q4 ((TextOk_lt hT q).mp z)), decide_eq_false q4]; rfl
  · rw [if_pos (show (4 : Int32) ≤ nI k from nI_le (a := 4) (by omega) (by omega)), decide_eq_false q]; rfl
/-- what count tells -/
def cntv (h : Hp) (V : Wv) (n j : Nat) : Int32 :=
  if j = 0 then nI n else if j = 1 then nI (pcn (V.1 2) 14) else if j = 2 then nI (mkn (brgB V) n) else if j = 3 then nI (pcn (V.1 3) 14) else if j = 4 then nI (pcn (V.1 4) 14) else if j = 5 then V.1 6 else if j = 6 then nI (mkn (rwB h) 6) else nI (mkn (txB h) 4)
theorem X5_count_y (W : CW h V n dn) {j : Nat} (hj : j < 8) : f_X5_count (nI j) h = some (cntv h V n j, h) := by
  have hn := WF_n W.1
  have s2 : sub (V.1 2) 14 := sub_mono (WF_in W.1) hn
  unfold f_X5_count
  rw [CW_c7 W, CW_c8 W, bc_of s2, bnd_some, X4_bridges W, bnd_some, CW_c9 W, bc_of (sub_in s2 (WF_wdg W.1)), bnd_some, CW_c10 W, bc_of (sub_in s2 (WF_vin W.1)), bnd_some, CW_c12 W, X2_there, bnd_some, X3_there, bnd_some]
  rcases (show j = 0 ∨ j = 1 ∨ j = 2 ∨ j = 3 ∨ j = 4 ∨ j = 5 ∨ j = 6 ∨ j = 7 by omega) with rfl | rfl | rfl | rfl | rfl | rfl | rfl | rfl <;> rfl
theorem X6_counts (W : MW h V n dn) (hR : InvR h) (hT : InvT h) {j : Nat} (hj : j < 8) : f_X6_counts (nI j) h = some (cntv h V n j, h) := by
  have hn := WF_n W.1
  unfold f_X6_counts
  by_cases h2 : j = 2
  · subst h2
    refine (X6_cnt_loop h (j := 2) (by decide) _ (X6_cnt_2 W) 14 0 200 (by omega) (by omega)).trans ?_
    rw [show (14 : Nat) = n + (14 - n) by omega, mkn_cut]
    rfl
  by_cases h6 : j = 6
  · subst h6
    refine (X6_cnt_loop h (j := 6) (by decide) _ (X6_cnt_6 hR) 14 0 200 (by omega) (by omega)).trans ?_
    rw [show (14 : Nat) = 6 + 8 from rfl, mkn_cut]
    rfl
  by_cases h7 : j = 7
  · subst h7
    refine (X6_cnt_loop h (j := 7) (by decide) _ (X6_cnt_7 hT) 14 0 200 (by omega) (by omega)).trans ?_
    rw [show (14 : Nat) = 4 + 10 from rfl, mkn_cut]
    rfl
  refine (X6_cnt_loop h hj _ (X6_cnt_o h hj h2 h6 h7) 14 0 200 (by omega) (by omega)).trans ?_
  unfold cfin cntv
  rw [MW_m11 W, MW_m13 W, MW_m14 W, MW_m15 W, MW_m17 W]
  rcases (show j = 0 ∨ j = 1 ∨ j = 3 ∨ j = 4 ∨ j = 5 by omega) with rfl | rfl | rfl | rfl | rfl <;> rfl
theorem X6_count_y (W : MW h V n dn) (hR : InvR h) (hT : InvT h) {j : Nat} (hj : j < 8) : f_X6_count (nI j) h = some (cntv h V n j, h) := by
  unfold f_X6_count
  rw [show f_X6_in (nI j) 0 7 h = _ from X6_rng_y (N := 7) h hj (by decide), bnd_some, if_neg (by decide), X6_counts W hR hT hj, bnd_some]
end CNT
theorem st_count (a1 : Int32) (h : Hp) (hI : Inv h) : ∃ (r : Int32) (h1 h2 : Hp), f_X5_count a1 h = some (r, h1) ∧ f_X6_count a1 h1 = some (r, h2) ∧ Inv h2 := by
  obtain ⟨V, n, dn, W⟩ := Inv_W hI
  rcases rng 8 (by decide) a1 with q | ⟨j, hj, rfl⟩
  · have nq : ∀ k, k < 8 → ¬ a1 = nI k := fun k hk z => by
      rcases q with q | q
      · rw [z] at q; exact nI_pos (by omega) q
      · rw [z] at q; exact nI_ge (b := 8) hk (by decide) q
    refine ⟨-1, h, h, ?_, ?_, hI⟩
    · unfold f_X5_count
      rw [if_neg (show ¬ a1 = (0 : Int32) from nq 0 (by decide)), if_neg (show ¬ a1 = (1 : Int32) from nq 1 (by decide)), if_neg (show ¬ a1 = (2 : Int32) from nq 2 (by decide)), if_neg (show ¬ a1 = (3 : Int32) from nq 3 (by decide)), if_neg (show ¬ a1 = (4 : Int32) from nq 4 (by decide)), if_neg (show ¬ a1 = (5 : Int32) from nq 5 (by decide)), if_neg (show ¬ a1 = (6 : Int32) from nq 6 (by decide)), if_neg (show ¬ a1 = (7 : Int32) from nq 7 (by decide))]
    · unfold f_X6_count; rw [show f_X6_in a1 0 7 h = _ from X6_rng_n (N := 7) h (by decide) q, bnd_some, if_pos rfl]
  exact ⟨cntv h V n j, h, h, X5_count_y (cw W) hj, X6_count_y (mw W) hI.2.1 hI.2.2.1 hj, hI⟩
