theorem IW_b {h h' : Hp} {V : Wv} {n dn : Nat} {B : Nat → Nat → Int32} (W : IW h V n dn) (w' : WF (V.1, (B, V.2.2)) n dn) (er : ∀ b, b < n → rk (V.1, (B, V.2.2)) b = rk V b)
    (c : ∀ b, b < n → h'.1 17 (14 * 1 + b) 0 = B b 0 ∧ h'.1 17 (14 * 1 + b) 1 = B b 1 ∧ h'.1 17 (14 * 1 + b) 2 = B b 2 ∧ h'.1 17 (14 * 1 + b) 3 = nI (mskN (kd (V.1, (B, V.2.2)) b) (hf (V.1, (B, V.2.2)) b)) ∧ h'.1 17 (14 * 1 + b) 4 = B b 3 ∧ h'.1 17 (14 * 1 + b) 5 = B b 4 ∧ h'.1 17 (14 * 1 + b) 6 = B b 5 ∧ h'.1 17 (14 * 1 + b) 7 = B b 6)
    (m : ∀ b f, b < n → f < 7 → h'.1 27 0 (7 * b + f) = B b f)
    (r : ∀ g i j, wcore g i j → ¬ (g = 17 ∧ i < 28) → ¬ g = 27 → h'.1 g i j = h.1 g i j) : IW h' (V.1, (B, V.2.2)) n dn := by
  obtain ⟨H1, H2, H3, H4, H5⟩ := W
  have hn := H1.1
  have e11 : ∀ j, h'.1 11 1 j = h.1 11 1 j := fun j => r 11 1 j (by unfold wcore; omega) (by omega) (by omega)
  have e20 : ∀ j, (j = 10 ∨ j = 11 ∨ j = 13 ∨ j = 14 ∨ j = 15 ∨ j = 16 ∨ j = 17 ∨ j = 22) → h'.1 20 0 j = h.1 20 0 j := fun j z => r 20 0 j (by unfold wcore; omega) (by omega) (by omega)
  refine ⟨w', ⟨?_, c, fun i hi => ?_, ?_⟩, ⟨?_, m, fun i hi => ?_⟩, ?_, fun k hk => ?_⟩
  · rw [e11, e11, e11, e11, e11, e11, e11, e11]
    exact H2.1
  · rw [r 14 1 i (by unfold wcore; omega) (by omega) (by omega)]
    exact H2.2.2.1 i hi
  · obtain ⟨od, o1, o2, o3⟩ := H2.2.2.2
    refine ⟨od, fun i hi => by rw [r 13 1 i (by unfold wcore; omega) (by omega) (by omega)]; exact o1 i hi, o2, fun i j hij hj => ?_⟩
    rw [er _ (o1 i (by omega)).2, er _ (o1 j hj).2]
    exact o3 i j hij hj
  · rw [e20 10 (by omega), e20 11 (by omega), e20 13 (by omega), e20 14 (by omega), e20 15 (by omega), e20 16 (by omega), e20 17 (by omega), e20 22 (by omega)]
    exact H3.1
  · rw [r 28 0 i (by unfold wcore; omega) (by omega) (by omega)]
    exact H3.2.2 i hi
  · rw [e11]; exact H4
  · have e29 : ∀ j, h'.1 29 0 j = h.1 29 0 j := fun j => r 29 0 j (by unfold wcore; omega) (by omega) (by omega)
    have e11 : ∀ j, h'.1 11 (2 + k) j = h.1 11 (2 + k) j := fun j => r 11 _ j (by unfold wcore; omega) (by omega) (by omega)
    have e13 : ∀ j, h'.1 13 (2 + k) j = h.1 13 (2 + k) j := fun j => r 13 _ j (by unfold wcore; omega) (by omega) (by omega)
    have e14 : ∀ j, h'.1 14 (2 + k) j = h.1 14 (2 + k) j := fun j => r 14 _ j (by unfold wcore; omega) (by omega) (by omega)
    have e17 : ∀ b j, h'.1 17 (14 * (2 + k) + b) j = h.1 17 (14 * (2 + k) + b) j := fun b j => r 17 _ j (by unfold wcore; omega) (by omega) (by omega)
    have K := H5 k hk
    unfold Kept CR KR at K ⊢
    simp only [e29, e11, e13, e14, e17]
    exact K
theorem st_hang (a1 a2 : Int32) (h : Hp) (hI : Inv h) : ∃ (r : Int32) (h1 h2 : Hp), f_X5_hang a1 a2 h = some (r, h1) ∧ f_X6_hang a1 a2 h1 = some (r, h2) ∧ Inv h2 := by
  obtain ⟨V, n, dn, W⟩ := Inv_W hI
  have hn := IW_n W
  rcases rng n (by omega) a1 with q | ⟨b, hb, rfl⟩
  · refine ⟨-1, h, h, ?_, ?_, hI⟩
    · unfold f_X5_hang; rw [X4_has_n (cw W) q, bnd_some, if_pos rfl]
    · unfold f_X6_hang; rw [X6_isBrick_n (mw W) q, bnd_some, if_pos rfl]
  have main : ∀ v : Int32, (v = -9 ∨ ∃ k, k < n ∧ v = nI k) → ¬ nI b = v → ∃ h2, f_X5_hang_b28 (nI b) v h = some (V.2.1 b 6, si h 17 (14 * 1 + b) 7 v) ∧ f_X6_hang_b29 (nI b) v (si h 17 (14 * 1 + b) 7 v) = some (V.2.1 b 6, h2) ∧ Inv h2 := by
    intro v hv hne
    obtain ⟨c0, c1, c2, c3, c4, c5, c6, c7⟩ := W.2.1.2.1 b hb
    let B : Nat → Nat → Int32 := fun c f => if f = 6 then (if c = b then v else V.2.1 c 6) else V.2.1 c f
    have M1 : MW (si h 17 (14 * 1 + b) 7 v) V n dn := MW_si (mw W) (by decide)
    have w' : WF (V.1, (B, V.2.2)) n dn := by
      obtain ⟨r1, r2, r3, r4, r5, r6, r7, r8⟩ := W.1
      refine ⟨r1, r2, r3, r4, r5, r6, fun c hc => ?_, r8⟩
      by_cases q : c = b
      · have e : B c 6 = v := if_pos q
        show B c 6 = -9 ∨ ∃ k, k < n ∧ B c 6 = nI k
        rw [e]; exact hv
      · have e : B c 6 = V.2.1 c 6 := if_neg q
        show B c 6 = -9 ∨ ∃ k, k < n ∧ B c 6 = nI k
        rw [e]; exact r7 c hc
    refine ⟨si (si h 17 (14 * 1 + b) 7 v) 27 0 (7 * b + 6) v, ?_, ?_, Inv_w hI (V := (V.1, (B, V.2.2))) (n := n) (dn := dn) (IW_b W w' (fun c _ => rfl) (fun c hc => ?_) (fun c f hc hf => ?_) (fun g i j q q1 q2 => by rw [si_g _ q2, si_ne _ _ (by omega)])) rfl (fun g i j q => by rw [si_ne _ _ (by omega), si_ne _ _ (by omega)])⟩
    · unfold f_X5_hang_b28
      rw [if_pos hne, if_pos (inb_t (by omega) (by decide)), if_pos (inb_t (by omega) (by decide)), nI_clamp (by omega), c7]
    · unfold f_X6_hang_b29
      rw [show f_X6_of (nI b) 6 _ = _ from M_of M1 (j := 6) hb (by decide), bnd_some, show f_X6_write (nI b) 6 v _ = _ from X6_write (f := 6) v _ (by omega) (by decide), bnd_some]
    · obtain ⟨d0, d1, d2, d3, d4, d5, d6, d7⟩ := W.2.1.2.1 c hc
      have e : ∀ j, j ≠ 7 → (si (si h 17 (14 * 1 + b) 7 v) 27 0 (7 * b + 6) v).1 17 (14 * 1 + c) j = h.1 17 (14 * 1 + c) j := fun j z => by rw [si_g _ (by decide), si_j _ z]
      refine ⟨(e 0 (by decide)).trans d0, (e 1 (by decide)).trans d1, (e 2 (by decide)).trans d2, (e 3 (by decide)).trans d3, (e 4 (by decide)).trans d4, (e 5 (by decide)).trans d5, (e 6 (by decide)).trans d6, ?_⟩
      show _ = if c = b then v else V.2.1 c 6
      rw [si_g _ (by decide)]
      by_cases q : c = b
      · rw [q, si_at, if_pos rfl]
      · rw [si_i _ (by omega), if_neg q]; exact d7
    · show _ = if f = 6 then (if c = b then v else V.2.1 c 6) else V.2.1 c f
      by_cases q : f = 6 ∧ c = b
      · rw [q.1, q.2, si_at, if_pos rfl, if_pos rfl]
      · rw [si_j _ (by omega), si_g _ (by decide), W.2.2.1.2.1 c f hc hf]
        by_cases q6 : f = 6
        · rw [if_pos q6, if_neg (fun z => q ⟨q6, z⟩), q6]
        · rw [if_neg q6]
  by_cases q9 : a2 = -9
  · subst q9
    obtain ⟨h2, e1, e2, e3⟩ := main (-9) (Or.inl rfl) (nI_m9 (by omega))
    refine ⟨V.2.1 b 6, si h 17 (14 * 1 + b) 7 (-9), h2, ?_, ?_, e3⟩
    · unfold f_X5_hang; rw [X4_has_y (cw W) hb, bnd_some, if_neg (by decide), if_pos rfl]; exact e1
    · have M1 : MW (si h 17 (14 * 1 + b) 7 (-9)) V n dn := MW_si (mw W) (by decide)
      unfold f_X6_hang; rw [X6_isBrick_y M1 hb, bnd_some, if_neg (by decide), if_pos rfl]; exact e2
  rcases rng n (by omega) a2 with q | ⟨k, hk, rfl⟩
  · refine ⟨-1, h, h, ?_, ?_, hI⟩
    · unfold f_X5_hang; rw [X4_has_y (cw W) hb, bnd_some, if_neg (by decide), if_neg q9, X4_has_n (cw W) q, bnd_some, if_pos rfl]
    · unfold f_X6_hang; rw [X6_isBrick_y (mw W) hb, bnd_some, if_neg (by decide), if_neg q9, X6_isBrick_n (mw W) q, bnd_some, if_pos rfl]
  by_cases qb : nI b = nI k
  · refine ⟨-1, h, h, ?_, ?_, hI⟩
    · unfold f_X5_hang; rw [X4_has_y (cw W) hb, bnd_some, if_neg (by decide), if_neg q9, X4_has_y (cw W) hk, bnd_some, if_neg (by decide)]
      unfold f_X5_hang_b28
      rw [if_neg (fun z => z qb)]
    · unfold f_X6_hang; rw [X6_isBrick_y (mw W) hb, bnd_some, if_neg (by decide), if_neg q9, X6_isBrick_y (mw W) hk, bnd_some, if_neg (by decide), if_neg (fun z => z qb.symm)]
  · obtain ⟨h2, e1, e2, e3⟩ := main (nI k) (Or.inr ⟨k, hk, rfl⟩) qb
    refine ⟨V.2.1 b 6, si h 17 (14 * 1 + b) 7 (nI k), h2, ?_, ?_, e3⟩
    · unfold f_X5_hang; rw [X4_has_y (cw W) hb, bnd_some, if_neg (by decide), if_neg q9, X4_has_y (cw W) hk, bnd_some, if_neg (by decide)]; exact e1
    · have M1 : MW (si h 17 (14 * 1 + b) 7 (nI k)) V n dn := MW_si (mw W) (by decide)
      unfold f_X6_hang; rw [X6_isBrick_y M1 hb, bnd_some, if_neg (by decide), if_neg q9, X6_isBrick_y M1 hk, bnd_some, if_neg (by decide), if_pos (fun z => qb z.symm)]; exact e2
/-! heir -/
def pas (p q x : Int32) : Int32 := if x = p then q else x
def c01 (p x : Int32) : Int32 := if x = p then 1 else 0
theorem X0_passMarks (a : Nat) (p q : Int32) (h : Hp) : f_X0_passMarks a p q h = some ((c01 p (h.1 17 a 4) + c01 p (h.1 17 a 5)) + c01 p (h.1 17 a 6), si (si (si h 17 a 4 (pas p q (h.1 17 a 4))) 17 a 5 (pas p q (h.1 17 a 5))) 17 a 6 (pas p q (h.1 17 a 6))) := by
  have e5 : ∀ v, (si h 17 a 4 v).1 17 a 5 = h.1 17 a 5 := fun v => si_j _ (by decide)
  have e6 : ∀ v w, (si (si h 17 a 4 v) 17 a 5 w).1 17 a 6 = h.1 17 a 6 := fun v w => by rw [si_j _ (by decide), si_j _ (by decide)]
  unfold f_X0_passMarks f_X0_passMarks_b13 f_X0_passMarks_b26 f_X0_passMarks_b40 f_X0_passMarks_b59 f_X0_passMarks_b79 f_X0_passMarks_b99 pas c01
  simp only [e5, e6]
  by_cases q1 : h.1 17 a 4 = p <;> by_cases q2 : h.1 17 a 5 = p <;> by_cases q3 : h.1 17 a 6 = p <;> simp [q1, q2, q3]
def hcn (V : Wv) (p : Int32) : Nat → Int32
  | 0 => 0
  | k + 1 => hcn V p k + ((c01 p (V.2.1 k 3) + c01 p (V.2.1 k 4)) + c01 p (V.2.1 k 5))
theorem X5_heir_loop {V : Wv} {n : Nat} (hn : n ≤ 14) (p q : Int32) : ∀ (d k fuel : Nat) (h : Hp), h.1 11 1 7 = nI n → (∀ b, k ≤ b → b < n → h.1 17 (14 * 1 + b) 4 = V.2.1 b 3 ∧ h.1 17 (14 * 1 + b) 5 = V.2.1 b 4 ∧ h.1 17 (14 * 1 + b) 6 = V.2.1 b 5) → k + d = n → d < fuel → ∃ h', f_X5_heir_b26 fuel p q (hcn V p k) (nI k) h = some (hcn V p n, h') ∧ (∀ b, k ≤ b → b < n → h'.1 17 (14 * 1 + b) 4 = pas p q (V.2.1 b 3) ∧ h'.1 17 (14 * 1 + b) 5 = pas p q (V.2.1 b 4) ∧ h'.1 17 (14 * 1 + b) 6 = pas p q (V.2.1 b 5)) ∧ (∀ g i j, ¬ (g = 17 ∧ 14 + k ≤ i ∧ i < 14 + n ∧ 4 ≤ j ∧ j ≤ 6) → h'.1 g i j = h.1 g i j) ∧ h'.2 = h.2 := by
  intro d
  induction d with
  | zero =>
    intro k fuel h c7 cb hk hq
    obtain ⟨f, rfl⟩ : ∃ f, fuel = f + 1 := ⟨fuel - 1, by omega⟩
    refine ⟨h, ?_, fun b h1 h2 => by omega, fun g i j _ => rfl, rfl⟩
    show f_X5_heir_b26_body _ _ _ _ _ _ = _
    unfold f_X5_heir_b26_body
    rw [c7, if_pos (nI_le (by omega) (by omega)), show k = n by omega]
  | succ d ih =>
    intro k fuel h c7 cb hk hq
    have hkn : k < n := by omega
    obtain ⟨f, rfl⟩ : ∃ f, fuel = f + 1 := ⟨fuel - 1, by omega⟩
    obtain ⟨c4, c5, c6⟩ := cb k (by omega) hkn
    generalize hh : si (si (si h 17 (14 * 1 + k) 4 (pas p q (V.2.1 k 3))) 17 (14 * 1 + k) 5 (pas p q (V.2.1 k 4))) 17 (14 * 1 + k) 6 (pas p q (V.2.1 k 5)) = hk1
    have en : ∀ g i j, ¬ (g = 17 ∧ i = 14 + k ∧ 4 ≤ j ∧ j ≤ 6) → hk1.1 g i j = h.1 g i j := fun g i j z => by rw [← hh, si_ne _ _ (by omega), si_ne _ _ (by omega), si_ne _ _ (by omega)]
    obtain ⟨h', r1, r2, r3, r4⟩ := ih (k + 1) f hk1 (by rw [en _ _ _ (by omega)]; exact c7) (fun b h1 h2 => by rw [en _ _ _ (by omega), en _ _ _ (by omega), en _ _ _ (by omega)]; exact cb b (by omega) h2) (by omega) (by omega)
    refine ⟨h', ?_, fun b h1 h2 => ?_, fun g i j z => ?_, ?_⟩
    · show f_X5_heir_b26_body _ _ _ _ _ _ = _
      unfold f_X5_heir_b26_body
      rw [c7, if_neg (nI_ge hkn (by omega)), if_pos (inb_t (by omega) (by decide)), nI_clamp (by omega), X0_passMarks, bnd_some, c4, c5, c6, hh, nI_1]
      exact r1
    · by_cases z : b = k
      · rw [z, r3 _ _ _ (by omega), r3 _ _ _ (by omega), r3 _ _ _ (by omega), ← hh]
        exact ⟨by rw [si_j _ (by decide), si_j _ (by decide), si_at], by rw [si_j _ (by decide), si_at], by rw [si_at]⟩
      · exact r2 b (by omega) h2
    · rw [r3 g i j (by omega), en g i j (by omega)]
    · rw [r4, ← hh]; rfl
theorem X6_heir_one (p q a : Int32) {k i : Nat} (hk : k < 14) (hi : i < 3) (kt : Int32 → Int32 → Int32 → Int32 → Hp → Option (Int32 × Hp)) (f : Nat) (h : Hp) : f_X6_heir_b38 kt (f + 1) p q a (nI k) (nI i) h = f_X6_heir_b38 kt f p q (a + c01 p (h.1 27 0 (7 * k + (3 + i)))) (nI k) (nI (i + 1)) (si h 27 0 (7 * k + (3 + i)) (pas p q (h.1 27 0 (7 * k + (3 + i))))) := by
  have eo : f_X6_of (nI k) (3 + nI i) h = some (h.1 27 0 (7 * k + (3 + i)), h) := by
    rw [show (3 : Int32) + nI i = nI (3 + i) from nI_add 3 i]
    exact X6_of h (by omega) (by omega)
  have ew : ∀ v, f_X6_write (nI k) (3 + nI i) v h = some ((), si h 27 0 (7 * k + (3 + i)) v) := fun v => by
    rw [show (3 : Int32) + nI i = nI (3 + i) from nI_add 3 i]
    exact X6_write v h (by omega) (by omega)
  show f_X6_heir_b38_body _ _ _ _ _ _ _ _ = _
  unfold f_X6_heir_b38_body f_X6_heir_b64 f_X6_heir_b101 c01 pas
  rw [if_neg (show ¬ (3 : Int32) ≤ nI i from nI_ge (b := 3) hi (by decide)), eo, bnd_some]
  by_cases z : h.1 27 0 (7 * k + (3 + i)) = p
  · rw [if_neg (fun y => y z), eo, bnd_some, if_neg (fun y => y z), ew, bnd_some, nI_1, if_pos z, if_pos z]
  · rw [if_pos z, eo, bnd_some, if_pos z, eo, bnd_some, ew, bnd_some, nI_1, if_neg z, if_neg z]
theorem X6_heir_loop {V : Wv} {n : Nat} (hn : n ≤ 14) (p q : Int32) : ∀ (d k fuel : Nat) (h : Hp), h.1 20 0 11 = nI n → (∀ b f, k ≤ b → b < n → f < 7 → h.1 27 0 (7 * b + f) = V.2.1 b f) → k + d = n → d < fuel → ∃ h', f_X6_heir_b26 fuel p q (hcn V p k) (nI k) h = some (hcn V p n, h') ∧ (∀ b f, k ≤ b → b < n → 3 ≤ f → f < 6 → h'.1 27 0 (7 * b + f) = pas p q (V.2.1 b f)) ∧ (∀ b f, k ≤ b → b < n → (f < 3 ∨ f = 6) → h'.1 27 0 (7 * b + f) = V.2.1 b f) ∧ (∀ g i j, ¬ (g = 27 ∧ i = 0 ∧ 7 * k ≤ j ∧ j < 7 * n) → h'.1 g i j = h.1 g i j) ∧ h'.2 = h.2 := by
  intro d
  induction d with
  | zero =>
    intro k fuel h c7 cb hk hq
    obtain ⟨f, rfl⟩ : ∃ f, fuel = f + 1 := ⟨fuel - 1, by omega⟩
    refine ⟨h, ?_, fun b f h1 h2 => by omega, fun b f h1 h2 => by omega, fun g i j _ => rfl, rfl⟩
    show f_X6_heir_b26_body _ _ _ _ _ _ = _
    unfold f_X6_heir_b26_body
    rw [c7, if_pos (nI_le (by omega) (by omega)), show k = n by omega]
  | succ d ih =>
    intro k fuel h c7 cb hk hq
    have hkn : k < n := by omega
    obtain ⟨f, rfl⟩ : ∃ f, fuel = f + 1 := ⟨fuel - 1, by omega⟩
    have c3 := cb k 3 (by omega) hkn (by decide)
    have c4 := cb k 4 (by omega) hkn (by decide)
    have c5 := cb k 5 (by omega) hkn (by decide)
    generalize hh : si (si (si h 27 0 (7 * k + 3) (pas p q (V.2.1 k 3))) 27 0 (7 * k + 4) (pas p q (V.2.1 k 4))) 27 0 (7 * k + 5) (pas p q (V.2.1 k 5)) = hk1
    have en : ∀ g i j, ¬ (g = 27 ∧ i = 0 ∧ 7 * k + 3 ≤ j ∧ j ≤ 7 * k + 5) → hk1.1 g i j = h.1 g i j := fun g i j z => by rw [← hh, si_ne _ _ (by omega), si_ne _ _ (by omega), si_ne _ _ (by omega)]
    obtain ⟨h', r1, r2, r3, r4, r5⟩ := ih (k + 1) f hk1 (by rw [en _ _ _ (by omega)]; exact c7) (fun b f h1 h2 h3 => by rw [en _ _ _ (by omega)]; exact cb b f (by omega) h2 h3) (by omega) (by omega)
    refine ⟨h', ?_, fun b f h1 h2 h3 h4 => ?_, fun b f h1 h2 h3 => ?_, fun g i j z => ?_, ?_⟩
    · show f_X6_heir_b26_body _ _ _ _ _ _ = _
      unfold f_X6_heir_b26_body
      rw [c7, if_neg (nI_ge hkn (by omega)), show f_X6_heir_b38 (f_X6_heir_b26 f) 200 p q (hcn V p k) (nI k) 0 h = _ from X6_heir_one p q _ (i := 0) (by omega) (by decide) _ 199 h, X6_heir_one p q _ (i := 0 + 1) (by omega) (by decide) _ 198, X6_heir_one p q _ (i := 0 + 1 + 1) (by omega) (by decide) _ 197]
      rw [show 7 * k + (3 + 0) = 7 * k + 3 from rfl, show 7 * k + (3 + (0 + 1)) = 7 * k + 4 from rfl, show 7 * k + (3 + (0 + 1 + 1)) = 7 * k + 5 from rfl]
      rw [si_j _ (show 7 * k + 5 ≠ 7 * k + 4 by omega), si_j _ (show 7 * k + 5 ≠ 7 * k + 3 by omega), si_j _ (show 7 * k + 4 ≠ 7 * k + 3 by omega), c3, c4, c5, hh]
      show f_X6_heir_b38_body _ _ _ _ _ _ _ _ = _
      unfold f_X6_heir_b38_body
      rw [if_pos (by decide), nI_1, Int32.add_assoc, Int32.add_assoc, ← Int32.add_assoc (c01 p (V.2.1 k 3))]
      exact r1
    · by_cases z : b = k
      · rw [z, r4 _ _ _ (by omega), ← hh]
        rcases (show f = 3 ∨ f = 4 ∨ f = 5 by omega) with rfl | rfl | rfl
        · rw [si_j _ (by omega), si_j _ (by omega), si_at]
        · rw [si_j _ (by omega), si_at]
        · rw [si_at]
      · exact r2 b f (by omega) h2 h3 h4
    · by_cases z : b = k
      · rw [z, r4 _ _ _ (by omega), en _ _ _ (by omega)]
        exact cb k f (by omega) hkn (by omega)
      · exact r3 b f (by omega) h2 h3
    · rw [r4 g i j (by omega), en g i j (by omega)]
    · rw [r5, ← hh]; rfl
theorem st_heir (a1 a2 : Int32) (h : Hp) (hI : Inv h) : ∃ (r : Int32) (h1 h2 : Hp), f_X5_heir a1 a2 h = some (r, h1) ∧ f_X6_heir a1 a2 h1 = some (r, h2) ∧ Inv h2 := by
  obtain ⟨V, n, dn, W⟩ := Inv_W hI
  have hn := IW_n W
  rcases rng 6 (by decide) a1 with z | ⟨p, hp, rfl⟩
  · refine ⟨-1, h, h, ?_, ?_, hI⟩
    · unfold f_X5_heir; rw [X5_isPerson_n h z, bnd_some, if_pos rfl]
    · unfold f_X6_heir; rw [X6_isOne_n h z, bnd_some, if_pos rfl]
  rcases rng 6 (by decide) a2 with z | ⟨q, hq, rfl⟩
  · refine ⟨-1, h, h, ?_, ?_, hI⟩
    · unfold f_X5_heir; rw [X5_isPerson_y h hp, bnd_some, if_neg (by decide), X5_isPerson_n h z, bnd_some, if_pos rfl]
    · unfold f_X6_heir; rw [X6_isOne_y h hp, bnd_some, if_neg (by decide), X6_isOne_n h z, bnd_some, if_pos rfl]
  by_cases e : nI p = nI q
  · refine ⟨-1, h, h, ?_, ?_, hI⟩
    · unfold f_X5_heir; rw [X5_isPerson_y h hp, bnd_some, if_neg (by decide), X5_isPerson_y h hq, bnd_some, if_neg (by decide), if_neg (fun z => z e)]
    · unfold f_X6_heir; rw [X6_isOne_y h hp, bnd_some, if_neg (by decide), X6_isOne_y h hq, bnd_some, if_neg (by decide), if_neg (fun z => z e)]
  obtain ⟨h1, r1, r2, r3, r4⟩ := X5_heir_loop (V := V) hn (nI p) (nI q) n 0 200 h (CW_c7 (cw W)) (fun b _ hb => ⟨(W.2.1.2.1 b hb).2.2.2.2.1, (W.2.1.2.1 b hb).2.2.2.2.2.1, (W.2.1.2.1 b hb).2.2.2.2.2.2.1⟩) (by omega) (by omega)
  obtain ⟨h2, s1, s2, s3, s4, s5⟩ := X6_heir_loop (V := V) hn (nI p) (nI q) n 0 200 h1 (by rw [r3 _ _ _ (by omega)]; exact MW_m11 (mw W)) (fun b f _ hb hf => by rw [r3 _ _ _ (by omega)]; exact W.2.2.1.2.1 b f hb hf) (by omega) (by omega)
  let B : Nat → Nat → Int32 := fun c f => if 3 ≤ f ∧ f ≤ 5 then pas (nI p) (nI q) (V.2.1 c f) else V.2.1 c f
  have pas_r : ∀ x, (∃ p, p < 6 ∧ x = nI p) → ∃ p', p' < 6 ∧ pas (nI p) (nI q) x = nI p' := fun x hx => by
    unfold pas
    split
    · exact ⟨q, hq, rfl⟩
    · exact hx
  have w' : WF (V.1, (B, V.2.2)) n dn := by
    obtain ⟨x1, x2, x3, x4, x5, x6, x7, x8⟩ := W.1
    refine ⟨x1, x2, x3, x4, x5, fun c hc => ?_, x7, x8⟩
    obtain ⟨m1, m2, m3, m4⟩ := x6 c hc
    refine ⟨pas_r _ m1, pas_r _ m2, fun z => pas_r _ (m3 z), fun z => ?_⟩
    show pas (nI p) (nI q) (V.2.1 c 5) = -9
    rw [m4 z]
    exact if_neg (fun y => nI_m9 (k := p) (by omega) y.symm)
  have eB : ∀ g i j, ¬ (g = 17 ∧ 14 ≤ i ∧ i < 28 ∧ 4 ≤ j ∧ j ≤ 6) → ¬ (g = 27 ∧ i = 0 ∧ j < 98) → h2.1 g i j = h.1 g i j := fun g i j z1 z2 => by rw [s4 _ _ _ (by omega), r3 _ _ _ (by omega)]
  refine ⟨hcn V (nI p) n, h1, h2, ?_, ?_, Inv_w hI (V := (V.1, (B, V.2.2))) (n := n) (dn := dn) (IW_b W w' (fun c _ => rfl) (fun c hc => ?_) (fun c f hc hf => ?_) (fun g i j z z1 z2 => eB g i j (by omega) (by omega))) (by rw [s5, r4]) (fun g i j z => eB g i j (by omega) (by omega))⟩
  · unfold f_X5_heir; rw [X5_isPerson_y h hp, bnd_some, if_neg (by decide), X5_isPerson_y h hq, bnd_some, if_neg (by decide), if_pos e]
    exact r1
  · unfold f_X6_heir; rw [X6_isOne_y _ hp, bnd_some, if_neg (by decide), X6_isOne_y _ hq, bnd_some, if_neg (by decide), if_pos e]
    exact s1
  · obtain ⟨d0, d1, d2, d3, d4, d5, d6, d7⟩ := W.2.1.2.1 c hc
    obtain ⟨t4, t5, t6⟩ := r2 c (by omega) hc
    refine ⟨(eB _ _ _ (by omega) (by omega)).trans d0, (eB _ _ _ (by omega) (by omega)).trans d1, (eB _ _ _ (by omega) (by omega)).trans d2, (eB _ _ _ (by omega) (by omega)).trans d3, ?_, ?_, ?_, (eB _ _ _ (by omega) (by omega)).trans d7⟩
    · rw [s4 _ _ _ (by omega)]; exact t4
    · rw [s4 _ _ _ (by omega)]; exact t5
    · rw [s4 _ _ _ (by omega)]; exact t6
  · show _ = if 3 ≤ f ∧ f ≤ 5 then pas (nI p) (nI q) (V.2.1 c f) else V.2.1 c f
    by_cases z : 3 ≤ f ∧ f ≤ 5
    · rw [if_pos z]; exact s2 c f (by omega) hc z.1 (by omega)
    · rw [if_neg z]; exact s3 c f (by omega) hc (by omega)
