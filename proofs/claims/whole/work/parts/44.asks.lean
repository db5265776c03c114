theorem ne2 {k : Nat} (hk : k < 2 ^ 31) (q : ¬ k = 2) : ¬ nI k = (2 : Int32) := fun z => q ((nI_eq (b := 2) hk (by decide)).mp z)
theorem ne3 {k : Nat} (hk : k < 2 ^ 31) (q : ¬ k = 3) : ¬ nI k = (3 : Int32) := fun z => q ((nI_eq (b := 3) hk (by decide)).mp z)
theorem nI_m9 {k : Nat} (hk : k < 2 ^ 31) : ¬ nI k = (-9 : Int32) := fun z => absurd (show nI k < 0 by rw [z]; decide) (nI_pos hk)
theorem WF_br {V : Wv} {n dn : Nat} (W : WF V n dn) : ∀ b, b < n → V.2.1 b 0 = nI (kd V b) ∧ V.2.1 b 1 = nI (co V b) ∧ V.2.1 b 2 = nI (hf V b) ∧ kd V b ≤ 5 ∧ co V b ≤ 5 := W.2.2.2.2.1
theorem WF_mk {V : Wv} {n dn : Nat} (W : WF V n dn) : ∀ b, b < n → (∃ p, p < 6 ∧ V.2.1 b 3 = nI p) ∧ (∃ p, p < 6 ∧ V.2.1 b 4 = nI p) ∧ (kd V b = 3 → ∃ p, p < 6 ∧ V.2.1 b 5 = nI p) ∧ (kd V b ≠ 3 → V.2.1 b 5 = -9) := W.2.2.2.2.2.1
theorem WF_hg {V : Wv} {n dn : Nat} (W : WF V n dn) : ∀ b, b < n → V.2.1 b 6 = -9 ∨ ∃ k, k < n ∧ V.2.1 b 6 = nI k := W.2.2.2.2.2.2.1
/-- whose marks a brick bears -/
def pp (V : Wv) (b : Nat) : Int32 :=
  if kd V b = 2 then (1 : Int32) <<< (V.2.1 b 3 &&& 31) else if kd V b = 3 then ((1 : Int32) <<< (V.2.1 b 3 &&& 31) ||| (1 : Int32) <<< (V.2.1 b 4 &&& 31)) ||| (1 : Int32) <<< (V.2.1 b 5 &&& 31) else (1 : Int32) <<< (V.2.1 b 3 &&& 31) ||| (1 : Int32) <<< (V.2.1 b 4 &&& 31)
def aks (V : Wv) (b : Nat) : Int32 := if V.2.1 b 6 = -9 then pp V b else if bt (V.1 2) (V.2.1 b 6).toNatClampNeg then pp V b else 0
section AKS
variable {h : Hp} {V : Wv} {n dn : Nat}
theorem X0_people (W : CW h V n dn) {b : Nat} (hb : b < n) : f_X0_people (14 * 1 + b) h = some (pp V b, h) := by
  obtain ⟨c0, c1, c2, c3, c4, c5, c6, c7⟩ := W.2.2.1 b hb
  obtain ⟨b0, -, -, b3, -⟩ := WF_br W.1 b hb
  unfold f_X0_people f_X0_people_b24 pp
  rw [c0, c4, c5, c6, b0]
  by_cases q2 : kd V b = 2
  · rw [if_pos (show nI (kd V b) = (2 : Int32) by rw [q2]; rfl), if_pos q2, if_pos (ne3 (by omega) (by omega))]
  · rw [if_neg (ne2 (by omega) q2), if_neg q2]
    by_cases q3 : kd V b = 3
    · rw [if_neg (fun z => z (by rw [q3]; rfl)), if_pos q3]
    · rw [if_pos (ne3 (by omega) q3), if_neg q3]
theorem X6_marksOf (W : MW h V n dn) {b : Nat} (hb : b < n) : f_X6_marksOf (nI b) h = some (pp V b, h) := by
  obtain ⟨b0, -, -, b3, -⟩ := WF_br W.1 b hb
  obtain ⟨m1, ⟨p4, m2, m2'⟩, m3, m4⟩ := WF_mk W.1 b hb
  unfold f_X6_marksOf
  rw [show f_X6_of (nI b) 3 h = _ from M_of W (j := 3) hb (by decide), bnd_some]
  have s1 : ∀ f x, f_X6_marksOf_b11 (f + 1) (nI b) x 1 h = if nI (kd V b) = (2 : Int32) then some (x, h) else f_X6_marksOf_b11 f (nI b) (x ||| (1 : Int32) <<< (V.2.1 b 4 &&& 31)) 2 h := fun f x => by
    show f_X6_marksOf_b11_body _ _ _ _ _ = _
    unfold f_X6_marksOf_b11_body f_X6_marksOf_b54
    rw [if_neg (by decide), show f_X6_of (nI b) 0 h = _ from M_of W (j := 0) hb (by decide), bnd_some, b0, show f_X6_of (nI b) (3 + 1) h = _ from M_of W (j := 4) hb (by decide), bnd_some, if_pos (show ¬ V.2.1 b 4 = -9 by rw [m2']; exact nI_m9 (by omega)), show f_X6_of (nI b) (3 + 1) h = _ from M_of W (j := 4) hb (by decide), bnd_some]
    rfl
  have s2 : ∀ f x, f_X6_marksOf_b11 (f + 1) (nI b) x 2 h = if nI (kd V b) = (2 : Int32) then some (x, h) else f_X6_marksOf_b11 f (nI b) (x ||| if ¬ V.2.1 b 5 = -9 then (1 : Int32) <<< (V.2.1 b 5 &&& 31) else 0) 3 h := fun f x => by
    show f_X6_marksOf_b11_body _ _ _ _ _ = _
    unfold f_X6_marksOf_b11_body f_X6_marksOf_b54
    rw [if_neg (by decide), show f_X6_of (nI b) 0 h = _ from M_of W (j := 0) hb (by decide), bnd_some, b0, show f_X6_of (nI b) (3 + 2) h = _ from M_of W (j := 5) hb (by decide), bnd_some]
    by_cases q : V.2.1 b 5 = -9
    · rw [if_neg (show ¬ ¬ V.2.1 b 5 = -9 from fun z => z q), if_neg (show ¬ ¬ V.2.1 b 5 = -9 from fun z => z q)]; rfl
    · rw [if_pos q, if_pos q, show f_X6_of (nI b) (3 + 2) h = _ from M_of W (j := 5) hb (by decide), bnd_some]; rfl
  have s3 : ∀ f x, f_X6_marksOf_b11 (f + 1) (nI b) x 3 h = some (x, h) := fun f x => by
    show f_X6_marksOf_b11_body _ _ _ _ _ = _
    unfold f_X6_marksOf_b11_body
    rw [if_pos (by decide)]
  unfold pp
  rw [s1 199]
  by_cases q2 : kd V b = 2
  · rw [if_pos (show nI (kd V b) = (2 : Int32) by rw [q2]; rfl), if_pos q2]
  · rw [if_neg (ne2 (by omega) q2), if_neg q2, s2 198, if_neg (ne2 (by omega) q2), s3 197]
    by_cases q3 : kd V b = 3
    · obtain ⟨p, hp, hp'⟩ := m3 q3
      rw [if_pos q3, if_pos (show ¬ V.2.1 b 5 = -9 by rw [hp']; exact nI_m9 (by omega))]
    · rw [if_neg q3, if_neg (fun z => z (m4 q3)), Int32.or_zero]
theorem X4_askedToDraw (W : CW h V n dn) {b : Nat} (hb : b < n) : f_X4_askedToDraw 1 (nI b) h = some (aks V b, h) := by
  have hn := WF_n W.1
  obtain ⟨c0, c1, c2, c3, c4, c5, c6, c7⟩ := W.2.2.1 b hb
  unfold f_X4_askedToDraw f_X4_askedToDraw_b28 aks
  rw [if_pos (inb_t (by omega) (by decide)), if_pos (inb_t (by omega) (by decide)), nI_clamp (by omega), c7, X0_people W hb, bnd_some]
  rcases WF_hg W.1 b hb with q | ⟨k, hk, q⟩
  · rw [if_pos q, if_pos q]
  · rw [if_neg (by rw [q]; exact nI_m9 (by omega)), if_neg (by rw [q]; exact nI_m9 (by omega)), q, X4_isIn' W hk, bnd_some, nI_clamp (by omega)]
    cases bt (V.1 2) k
    · rw [bi_f, if_neg (fun z => z rfl), if_neg (by decide)]
    · rw [bi_t, if_pos (by decide), if_pos rfl, if_pos (inb_t (by omega) (by decide)), X0_people W hb, bnd_some]
theorem X6_asksOf (W : MW h V n dn) {b : Nat} (hb : b < n) : f_X6_asksOf (nI b) h = some (aks V b, h) := by
  have hn := WF_n W.1
  unfold f_X6_asksOf f_X6_asksOf_b29 aks
  rw [show f_X6_of (nI b) 6 h = _ from M_of W (j := 6) hb (by decide), bnd_some, X6_marksOf W hb, bnd_some]
  rcases WF_hg W.1 b hb with q | ⟨k, hk, q⟩
  · rw [if_pos q, if_pos q]
  · rw [if_neg (by rw [q]; exact nI_m9 (by omega)), if_neg (by rw [q]; exact nI_m9 (by omega)), q, MW_m13 W, X6_has _ h (by omega), bnd_some, nI_clamp (by omega)]
    cases bt (V.1 2) k
    · rw [bi_f, if_neg (fun z => z rfl), if_neg (by decide)]
    · rw [bi_t, if_pos (by decide), if_pos rfl, X6_marksOf W hb, bnd_some]
theorem pp_sub (W : WF V n dn) {b : Nat} (hb : b < n) : sub (pp V b) 6 := by
  obtain ⟨⟨p3, a1, a2⟩, ⟨p4, a3, a4⟩, m3, m4⟩ := WF_mk W b hb
  unfold pp
  rw [a2, a4]
  split
  · exact one_sub a1 (by decide)
  · split
    · rename_i q3
      obtain ⟨p, hp, hp'⟩ := m3 q3
      rw [hp']
      exact sub_or (sub_or (one_sub a1 (by decide)) (one_sub a3 (by decide))) (one_sub hp (by decide))
    · exact sub_or (one_sub a1 (by decide)) (one_sub a3 (by decide))
theorem sub_0 {m : Nat} : sub 0 m := fun i _ => b_0 i
theorem aks_sub (W : WF V n dn) {b : Nat} (hb : b < n) : sub (aks V b) 6 := by
  unfold aks
  split
  · exact pp_sub W hb
  · split
    · exact pp_sub W hb
    · exact sub_0
def agB (V : Wv) (b : Nat) (said : Int32) : Bool := decide (aks V b &&& (said ^^^ (-1)) = 0)
theorem X4_isAgreed (W : CW h V n dn) {b : Nat} (hb : b < n) : f_X4_isAgreed 1 (nI b) h = some (bi (agB V b (V.1 5)), h) := by
  unfold f_X4_isAgreed agB
  rw [X4_askedToDraw W hb, bnd_some, CW_c11 W]
  by_cases q : aks V b &&& (V.1 5 ^^^ (-1)) = 0
  · rw [if_neg (fun z => z q), decide_eq_true q]; rfl
  · rw [if_pos q, decide_eq_false q]; rfl
def loB (V : Wv) (n b : Nat) : Bool := !bt (V.1 4) b && decide (Fl V n ((1 : Int32) <<< (nI b &&& 31)) = 0)
theorem X4_isLoose (W : CW h V n dn) {b : Nat} (hb : b < n) : ∃ h', f_X4_isLoose 1 (nI b) h = some (bi (loB V n b), h') ∧ Sw 1 h h' := by
  unfold f_X4_isLoose loB
  rw [X4_hasVine' W hb, bnd_some]
  cases hv : bt (V.1 4) b
  · rw [bi_f, if_neg (fun z => z rfl)]
    obtain ⟨h', e1, e2⟩ := X4_falls W ((1 : Int32) <<< (nI b &&& 31))
    refine ⟨h', ?_, e2⟩
    rw [e1, bnd_some]
    by_cases q : Fl V n ((1 : Int32) <<< (nI b &&& 31)) = 0
    · rw [if_neg (fun z => z q), decide_eq_true q]; rfl
    · rw [if_pos q, decide_eq_false q]; rfl
  · exact ⟨h, by rw [bi_t, if_pos (by decide)]; rfl, Sw.rfl'⟩
theorem X6_mayDraw (W : MW h V n dn) {b : Nat} (hb : b < n) (said : Int32) : f_X6_mayDraw (nI b) said h = some (bi (bt (V.1 2) b && (agB V b said && loB V n b)), h) := by
  have hn := WF_n W.1
  unfold f_X6_mayDraw agB loB
  rw [MW_m13 W, X6_has _ h (by omega), bnd_some]
  cases bt (V.1 2) b
  · rfl
  rw [bi_t, if_neg (by decide), X6_asksOf W hb, bnd_some]
  by_cases q : aks V b &&& (said ^^^ (-1)) = 0
  · rw [if_neg (fun z => z q), decide_eq_true q, MW_m15 W, X6_has _ h (by omega), bnd_some]
    cases bt (V.1 4) b
    · rw [bi_f, if_neg (fun z => z rfl), X6_falls' W, bnd_some]
      by_cases q2 : Fl V n ((1 : Int32) <<< (nI b &&& 31)) = 0
      · rw [if_neg (fun z => z q2), decide_eq_true q2]; rfl
      · rw [if_pos q2, decide_eq_false q2]; rfl
    · rfl
  · rw [if_pos q, decide_eq_false q]; rfl
end AKS
theorem st_asks (a1 : Int32) (h : Hp) (hI : Inv h) : ∃ (r : Int32) (h1 h2 : Hp), f_X5_asks a1 h = some (r, h1) ∧ f_X6_asks a1 h1 = some (r, h2) ∧ Inv h2 := by
  obtain ⟨V, n, dn, W⟩ := Inv_W hI
  have hn := IW_n W
  rcases rng n (by omega) a1 with q | ⟨b, hb, rfl⟩
  · refine ⟨-1, h, h, ?_, ?_, hI⟩
    · unfold f_X5_asks; rw [X4_has_n (cw W) q, bnd_some, if_neg (fun z => z rfl)]
    · unfold f_X6_asks; rw [X6_askedIn_n (mw W) q, bnd_some, if_neg (by decide)]
  cases hq : bt (V.1 2) b
  · have W1 : IW (rfC h 1) V n dn := IW_rf W
    refine ⟨-3, rfC h 1, mtC (rfC h 1) 1, ?_, ?_, rm_Inv hI⟩
    · unfold f_X5_asks; rw [X4_has_y (cw W) hb, bnd_some, if_pos (by decide), X4_isIn' (cw W) hb, bnd_some, hq, bi_f, if_neg (fun z => z rfl), X5_ref1, bnd_some]
    · unfold f_X6_asks; rw [X6_askedIn_o (mw W1) hb hq, bnd_some, if_neg (by decide)]
  · have W1 : IW (si h 0 0 7 (aks V b &&& (V.1 5 ^^^ (-1)))) V n dn := IW_si W (by unfold wcore; omega)
    refine ⟨aks V b, si h 0 0 7 (aks V b &&& (V.1 5 ^^^ (-1))), ask2 h (aks V b &&& (V.1 5 ^^^ (-1))), ?_, ?_, ask_Inv hI⟩
    · unfold f_X5_asks; rw [X4_has_y (cw W) hb, bnd_some, if_pos (by decide), X4_isIn' (cw W) hb, bnd_some, hq, bi_t, if_pos (by decide), X4_askedToDraw (cw W) hb, bnd_some, CW_c11 (cw W)]
    · unfold f_X6_asks; rw [X6_askedIn_i (mw W1) hb hq, bnd_some, if_pos (by decide), X6_asksOf (mw W1) hb, bnd_some, MW_m16 (mw W1)]; rfl
/-! free -/
def canB (V : Wv) (n b : Nat) : Bool := bt (V.1 2) b && (agB V b (V.1 5) && loB V n b)
def couB (V : Wv) (n b : Nat) : Bool := bt (V.1 2) b && loB V n b
theorem mkb_s (p : Nat → Bool) (k : Nat) : mkb p (k + 1) = mkb p k ||| (if p k then (1 : Int32) <<< (nI k &&& 31) else 0) := rfl
theorem X5_free_loop {V : Wv} {n dn : Nat} : ∀ (d k fuel : Nat) (h : Hp), CW h V n dn → k + d = n → d < fuel → ∃ h', f_X5_free_b6 fuel (mkb (canB V n) k) (mkb (couB V n) k) (nI k) h = some (mkb (canB V n) n, si h' 0 0 7 (mkb (couB V n) n)) ∧ Sw 1 h h' := by
  intro d
  induction d with
  | zero =>
    intro k fuel h W hk hq
    have hn := WF_n W.1
    obtain ⟨f, rfl⟩ : ∃ f, fuel = f + 1 := ⟨fuel - 1, by omega⟩
    refine ⟨h, ?_, Sw.rfl'⟩
    show f_X5_free_b6_body _ _ _ _ _ = _
    unfold f_X5_free_b6_body
    rw [CW_c7 W, if_pos (nI_le (by omega) (by omega)), show k = n by omega]
  | succ d ih =>
    intro k fuel h W hk hq
    have hn := WF_n W.1
    have hkn : k < n := by omega
    obtain ⟨f, rfl⟩ : ∃ f, fuel = f + 1 := ⟨fuel - 1, by omega⟩
    have nx : ∀ h1 x y, Sw 1 h h1 → x = mkb (canB V n) (k + 1) → y = mkb (couB V n) (k + 1) → ∃ h', f_X5_free_b66 (f_X5_free_b6 f) x y (nI k) h1 = some (mkb (canB V n) n, si h' 0 0 7 (mkb (couB V n) n)) ∧ Sw 1 h h' := by
      intro h1 x y z e1 e2
      unfold f_X5_free_b66
      rw [nI_1, e1, e2]
      obtain ⟨h', r1, r2⟩ := ih (k + 1) f h1 (CW_sw z W) (by omega) (by omega)
      exact ⟨h', r1, Sw.tr z r2⟩
    show ∃ h', f_X5_free_b6_body _ _ _ _ _ = _ ∧ _
    unfold f_X5_free_b6_body f_X5_free_b64
    rw [CW_c7 W, if_neg (nI_ge hkn (by omega)), X4_isIn' W hkn, bnd_some]
    cases hi : bt (V.1 2) k
    · rw [bi_f, if_pos rfl]
      exact nx h _ _ Sw.rfl' (by rw [mkb_s, canB, hi, Bool.false_and, if_neg (by decide), Int32.or_zero]) (by rw [mkb_s, couB, hi, Bool.false_and, if_neg (by decide), Int32.or_zero])
    · rw [bi_t, if_neg (by decide)]
      obtain ⟨h1, e1, e2⟩ := X4_isLoose W hkn
      rw [e1, bnd_some]
      cases hl : loB V n k
      · rw [bi_f, if_pos rfl]
        exact nx h1 _ _ e2 (by rw [mkb_s, canB, hl, Bool.and_false, Bool.and_false, if_neg (by decide), Int32.or_zero]) (by rw [mkb_s, couB, hl, Bool.and_false, if_neg (by decide), Int32.or_zero])
      · rw [bi_t, if_neg (by decide), X4_isAgreed (CW_sw e2 W) hkn, bnd_some]
        cases ha : agB V k (V.1 5)
        · rw [bi_f, if_pos rfl]
          exact nx h1 _ _ e2 (by rw [mkb_s, canB, ha, Bool.false_and, Bool.and_false, if_neg (by decide)]) (by rw [mkb_s, couB, hl, hi, if_pos (by decide)])
        · rw [bi_t, if_neg (by decide)]
          exact nx h1 _ _ e2 (by rw [mkb_s, canB, ha, hi, hl, if_pos (by decide)]) (by rw [mkb_s, couB, hl, hi, if_pos (by decide)])
theorem ag63 {V : Wv} {n dn b : Nat} (W : WF V n dn) (hb : b < n) : agB V b 63 = true := by
  unfold agB
  apply decide_eq_true
  rw [and_not_0]
  intro i hi z
  rcases Nat.lt_or_ge i 6 with q | q
  · exact (by decide +kernel : ∀ i, i < 6 → bt 63 i = true) i q
  · rw [aks_sub W hb i q] at z; cases z
theorem X6_free_loop {V : Wv} {n dn : Nat} {h : Hp} (W : MW h V n dn) : ∀ (d k fuel : Nat), k + d = n → d < fuel → f_X6_free_b6 fuel (mkb (canB V n) k) (mkb (couB V n) k) (nI k) h = some (mkb (canB V n) n, si h 20 0 2 (mkb (couB V n) n)) := by
  have hn := WF_n W.1
  intro d
  induction d with
  | zero =>
    intro k fuel hk hq
    obtain ⟨f, rfl⟩ : ∃ f, fuel = f + 1 := ⟨fuel - 1, by omega⟩
    show f_X6_free_b6_body _ _ _ _ _ = _
    unfold f_X6_free_b6_body
    rw [MW_m11 W, if_pos (nI_le (by omega) (by omega)), show k = n by omega]
    rfl
  | succ d ih =>
    intro k fuel hk hq
    have hkn : k < n := by omega
    obtain ⟨f, rfl⟩ : ∃ f, fuel = f + 1 := ⟨fuel - 1, by omega⟩
    show f_X6_free_b6_body _ _ _ _ _ = _
    unfold f_X6_free_b6_body f_X6_free_b34 f_X6_free_b54
    rw [MW_m11 W, if_neg (nI_ge hkn (by omega)), X6_mayDraw W hkn, bnd_some, X6_mayDraw W hkn, bnd_some, bnd_some, MW_m16 W, ag63 W.1 hkn, Bool.true_and, nI_1, ← ih (k + 1) f (by omega) (by omega), mkb_s, mkb_s]
    unfold canB couB
    cases bt (V.1 2) k <;> cases agB V k (V.1 5) <;> cases loB V n k <;> rfl
theorem st_free (h : Hp) (hI : Inv h) : ∃ (r : Int32) (h1 h2 : Hp), f_X5_free h = some (r, h1) ∧ f_X6_free h1 = some (r, h2) ∧ Inv h2 := by
  obtain ⟨V, n, dn, W⟩ := Inv_W hI
  have hn := IW_n W
  obtain ⟨h', e1, e2⟩ := X5_free_loop (V := V) (n := n) (dn := dn) n 0 200 h (cw W) (by omega) (by omega)
  have W1 := IW_sw e2 W
  have W2 : IW (si h' 0 0 7 (mkb (couB V n) n)) V n dn := IW_si W1 (by unfold wcore; omega)
  exact ⟨mkb (canB V n) n, si h' 0 0 7 (mkb (couB V n) n), ask2 h' (mkb (couB V n) n), e1, X6_free_loop (mw W2) n 0 200 (by omega) (by omega), ask_Inv (Inv_sw e2 hI)⟩
/-! great -/
def wgt (V : Wv) (n k : Nat) : Int32 := if bt (V.1 2) k then nI (pcn (Fl V n ((1 : Int32) <<< (nI k &&& 31))) 14) else -1
def grt (V : Wv) (n : Nat) : Nat → Int32 × Int32
  | 0 => (-9, -1)
  | k + 1 => if wgt V n k ≤ (grt V n k).2 then grt V n k else (nI k, wgt V n k)
theorem grt_s (V : Wv) (n k : Nat) : grt V n (k + 1) = if wgt V n k ≤ (grt V n k).2 then grt V n k else (nI k, wgt V n k) := rfl
theorem X5_great_loop {V : Wv} {n dn : Nat} : ∀ (d k fuel : Nat) (h : Hp), CW h V n dn → k + d = n → d < fuel → ∃ h', f_X5_great_b7 fuel (grt V n k).1 (grt V n k).2 (nI k) h = (if (grt V n n).1 = -9 then some ((grt V n n).1, h') else some ((grt V n n).1, si h' 0 0 7 (grt V n n).2)) ∧ Sw 1 h h' := by
  intro d
  induction d with
  | zero =>
    intro k fuel h W hk hq
    have hn := WF_n W.1
    obtain ⟨f, rfl⟩ : ∃ f, fuel = f + 1 := ⟨fuel - 1, by omega⟩
    refine ⟨h, ?_, Sw.rfl'⟩
    show f_X5_great_b7_body _ _ _ _ _ = _
    unfold f_X5_great_b7_body
    rw [CW_c7 W, if_pos (nI_le (by omega) (by omega)), show k = n by omega]
  | succ d ih =>
    intro k fuel h W hk hq
    have hn := WF_n W.1
    have hkn : k < n := by omega
    obtain ⟨f, rfl⟩ : ∃ f, fuel = f + 1 := ⟨fuel - 1, by omega⟩
    have nx : ∀ h1 x, Sw 1 h h1 → x = wgt V n k → ∃ h', f_X5_great_b41 (f_X5_great_b7 f) (grt V n k).1 (grt V n k).2 (nI k) x h1 = (if (grt V n n).1 = -9 then some ((grt V n n).1, h') else some ((grt V n n).1, si h' 0 0 7 (grt V n n).2)) ∧ Sw 1 h h' := by
      intro h1 x z e
      obtain ⟨h', r1, r2⟩ := ih (k + 1) f h1 (CW_sw z W) (by omega) (by omega)
      refine ⟨h', ?_, Sw.tr z r2⟩
      rw [← r1]
      unfold f_X5_great_b41 f_X5_great_b54
      rw [nI_1, e, grt_s]
      by_cases q : wgt V n k ≤ (grt V n k).2
      · rw [if_pos q, if_pos q]
      · rw [if_neg q, if_neg q]
    show ∃ h', f_X5_great_b7_body _ _ _ _ _ = _ ∧ _
    unfold f_X5_great_b7_body
    rw [CW_c7 W, if_neg (nI_ge hkn (by omega)), X4_isIn' W hkn, bnd_some]
    cases hi : bt (V.1 2) k
    · rw [bi_f, if_pos rfl]
      exact nx h _ Sw.rfl' (by unfold wgt; rw [hi, if_neg (by decide)])
    · rw [bi_t, if_neg (by decide)]
      obtain ⟨h1, e1, e2⟩ := X4_loadOf (k := k) W
      rw [e1, bnd_some]
      exact nx h1 _ e2 (by unfold wgt; rw [hi, if_pos rfl])
theorem X6_great_loop {V : Wv} {n dn : Nat} {h : Hp} (W : MW h V n dn) : ∀ (d k fuel : Nat), k + d = n → d < fuel → f_X6_great_b7 fuel (grt V n k).1 (grt V n k).2 (nI k) h = (if (grt V n n).1 = -9 then some ((grt V n n).1, h) else some ((grt V n n).1, si h 20 0 2 (grt V n n).2)) := by
  have hn := WF_n W.1
  intro d
  induction d with
  | zero =>
    intro k fuel hk hq
    obtain ⟨f, rfl⟩ : ∃ f, fuel = f + 1 := ⟨fuel - 1, by omega⟩
    show f_X6_great_b7_body _ _ _ _ _ = _
    unfold f_X6_great_b7_body
    rw [MW_m11 W, if_pos (nI_le (by omega) (by omega)), show k = n by omega]
    by_cases q : (grt V n n).1 = -9
    · rw [if_neg (fun z => z q), if_pos q, q]
    · rw [if_pos q, if_neg q]; rfl
  | succ d ih =>
    intro k fuel hk hq
    have hkn : k < n := by omega
    obtain ⟨f, rfl⟩ : ∃ f, fuel = f + 1 := ⟨fuel - 1, by omega⟩
    have nx : ∀ x, x = wgt V n k → f_X6_great_b40 (f_X6_great_b7 f) (grt V n k).1 (grt V n k).2 (nI k) x h = (if (grt V n n).1 = -9 then some ((grt V n n).1, h) else some ((grt V n n).1, si h 20 0 2 (grt V n n).2)) := by
      intro x e
      rw [← ih (k + 1) f (by omega) (by omega)]
      unfold f_X6_great_b40 f_X6_great_b53 f_X6_great_b66
      rw [nI_1, e, grt_s]
      by_cases q : wgt V n k ≤ (grt V n k).2
      · rw [if_pos q, if_pos q, if_pos q]
      · rw [if_neg q, if_neg q, if_neg q]
    show f_X6_great_b7_body _ _ _ _ _ = _
    unfold f_X6_great_b7_body
    rw [MW_m11 W, if_neg (nI_ge hkn (by omega)), MW_m13 W, X6_has _ h (by omega), bnd_some]
    cases hi : bt (V.1 2) k
    · rw [bi_f, if_pos rfl]
      exact nx _ (by unfold wgt; rw [hi, if_neg (by decide)])
    · rw [bi_t, if_neg (by decide), X6_falls' W, bnd_some, X6_sizeOf, bnd_some]
      exact nx _ (by unfold wgt; rw [hi, if_pos rfl])
theorem st_great (h : Hp) (hI : Inv h) : ∃ (r : Int32) (h1 h2 : Hp), f_X5_great h = some (r, h1) ∧ f_X6_great h1 = some (r, h2) ∧ Inv h2 := by
  obtain ⟨V, n, dn, W⟩ := Inv_W hI
  have hn := IW_n W
  obtain ⟨h', e1, e2⟩ := X5_great_loop (V := V) (n := n) (dn := dn) n 0 200 h (cw W) (by omega) (by omega)
  have W1 := IW_sw e2 W
  have W2 : IW (si h' 0 0 7 (grt V n n).2) V n dn := IW_si W1 (by unfold wcore; omega)
  by_cases q : (grt V n n).1 = -9
  · rw [if_pos q] at e1
    have m := X6_great_loop (mw W1) n 0 200 (by omega) (by omega)
    rw [if_pos q] at m
    exact ⟨(grt V n n).1, h', h', e1, m, Inv_sw e2 hI⟩
  · rw [if_neg q] at e1
    have m := X6_great_loop (mw W2) n 0 200 (by omega) (by omega)
    rw [if_neg q] at m
    exact ⟨(grt V n n).1, si h' 0 0 7 (grt V n n).2, ask2 h' (grt V n n).2, e1, m, ask_Inv (Inv_sw e2 hI)⟩
