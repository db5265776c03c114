/-! keep, on -/
def mkF (k x : Int32) : Int32 := (if k < 4 then (3 : Int32) else 7) <<< ((x + 1) &&& 31)
theorem mkF_tab : ∀ k, k < 6 → ∀ x, x < 10 → mkF (nI k) (nI x) = nI (mskN k x) := by decide +kernel
theorem X0_maskOf (k x : Int32) (h : Hp) : f_X0_maskOf k x h = some (mkF k x, h) := by
  unfold f_X0_maskOf f_X0_maskOf_b11 mkF
  split <;> rfl
theorem X0_lieAt (p : Nat) (k c x : Int32) (h : Hp) : ∃ h', f_X0_lieAt p k c x h = some ((), h') ∧ h'.1 17 p 0 = k ∧ h'.1 17 p 1 = c ∧ h'.1 17 p 2 = x ∧ h'.1 17 p 3 = mkF k x ∧ h'.1 17 p 7 = -9 ∧ (∀ g i j, ¬ (g = 17 ∧ i = p ∧ (j < 4 ∨ j = 7)) → h'.1 g i j = h.1 g i j) ∧ h'.2 = h.2 := by
  unfold f_X0_lieAt
  rw [X0_maskOf, bnd_some]
  refine ⟨_, rfl, ?_, ?_, ?_, ?_, ?_, fun g i j q => ?_, rfl⟩
  · rw [si_ne _ _ (by omega), si_ne _ _ (by omega), si_ne _ _ (by omega), si_ne _ _ (by omega), si_at]
  · rw [si_ne _ _ (by omega), si_ne _ _ (by omega), si_ne _ _ (by omega), si_at]
  · rw [si_ne _ _ (by omega), si_ne _ _ (by omega), si_at]
  · rw [si_ne _ _ (by omega), si_at]
  · rw [si_at]
  · rw [si_ne _ _ (by omega), si_ne _ _ (by omega), si_ne _ _ (by omega), si_ne _ _ (by omega), si_ne _ _ (by omega)]
theorem X0_become {p q : Nat} (pq : q ≠ p) (h : Hp) : ∃ h', f_X0_become p q h = some ((), h') ∧ (∀ j, j < 8 → j ≠ 3 → h'.1 17 p j = h.1 17 q j) ∧ h'.1 17 p 3 = mkF (h.1 17 q 0) (h.1 17 q 2) ∧ (∀ g i j, ¬ (g = 17 ∧ i = p ∧ j < 8) → h'.1 g i j = h.1 g i j) ∧ h'.2 = h.2 := by
  obtain ⟨h1, e, e0, e1, e2, e3, -, e5, e6⟩ := X0_lieAt p (h.1 17 q 0) (h.1 17 q 1) (h.1 17 q 2) h
  unfold f_X0_become f_X0_setMarks
  rw [e, bnd_some, bnd_some]
  have eq : ∀ j, h1.1 17 q j = h.1 17 q j := fun j => e5 17 q j (by omega)
  refine ⟨_, rfl, fun j hj h3 => ?_, ?_, fun g i j z => ?_, e6⟩
  · rcases (show j = 0 ∨ j = 1 ∨ j = 2 ∨ j = 4 ∨ j = 5 ∨ j = 6 ∨ j = 7 by omega) with rfl | rfl | rfl | rfl | rfl | rfl | rfl
    · rw [si_ne _ _ (by omega), si_ne _ _ (by omega), si_ne _ _ (by omega), si_ne _ _ (by omega), e0]
    · rw [si_ne _ _ (by omega), si_ne _ _ (by omega), si_ne _ _ (by omega), si_ne _ _ (by omega), e1]
    · rw [si_ne _ _ (by omega), si_ne _ _ (by omega), si_ne _ _ (by omega), si_ne _ _ (by omega), e2]
    · rw [si_ne _ _ (by omega), si_ne _ _ (by omega), si_ne _ _ (by omega), si_at, eq]
    · rw [si_ne _ _ (by omega), si_ne _ _ (by omega), si_at, eq]
    · rw [si_ne _ _ (by omega), si_at, eq]
    · rw [si_at, si_ne _ _ (by omega), si_ne _ _ (by omega), si_ne _ _ (by omega), eq]
  · rw [si_ne _ _ (by omega), si_ne _ _ (by omega), si_ne _ _ (by omega), si_ne _ _ (by omega), e3]
  · rw [si_ne _ _ (by omega), si_ne _ _ (by omega), si_ne _ _ (by omega), si_ne _ _ (by omega), e5 g i j (by omega)]
theorem X4_become_loop {a b : Nat} (ab : b ≠ a) : ∀ (d k fuel : Nat) (h : Hp), k + d = 14 → d < fuel → ∃ h', f_X4_become_b74 fuel a b (nI k) h = some ((), h') ∧ (∀ x, k ≤ x → x < 14 → (∀ j, j < 8 → j ≠ 3 → h'.1 17 (14 * a + x) j = h.1 17 (14 * b + x) j) ∧ h'.1 17 (14 * a + x) 3 = mkF (h.1 17 (14 * b + x) 0) (h.1 17 (14 * b + x) 2) ∧ h'.1 13 a x = h.1 13 b x ∧ h'.1 14 a x = h.1 14 b x) ∧ (∀ g i j, ¬ (g = 17 ∧ 14 * a + k ≤ i ∧ i < 14 * a + 14) → ¬ ((g = 13 ∨ g = 14) ∧ i = a ∧ k ≤ j) → h'.1 g i j = h.1 g i j) ∧ h'.2 = h.2 := by
  intro d
  induction d with
  | zero =>
    intro k fuel h hk hq
    obtain ⟨f, rfl⟩ : ∃ f, fuel = f + 1 := ⟨fuel - 1, by omega⟩
    refine ⟨h, ?_, fun x h1 h2 => by omega, fun _ _ _ _ _ => rfl, rfl⟩
    show f_X4_become_b74_body _ _ _ _ _ = _
    unfold f_X4_become_b74_body
    rw [if_pos (show (14 : Int32) ≤ nI k from nI_le (a := 14) (by omega) (by omega))]
  | succ d ih =>
    intro k fuel h hk hq
    obtain ⟨f, rfl⟩ : ∃ f, fuel = f + 1 := ⟨fuel - 1, by omega⟩
    have hk4 : k < 14 := by omega
    obtain ⟨h1, e1, e2, e3, e4, e5⟩ := X0_become (p := 14 * a + k) (q := 14 * b + k) (by omega) h
    generalize hh : si (si h1 13 a k (h1.1 13 b k)) 14 a k ((si h1 13 a k (h1.1 13 b k)).1 14 b k) = h2
    have f2 : ∀ g i j, ¬ (g = 13 ∧ i = a ∧ j = k) → ¬ (g = 14 ∧ i = a ∧ j = k) → h2.1 g i j = h1.1 g i j := fun g i j q1 q2 => by rw [← hh, si_ne _ _ q2, si_ne _ _ q1]
    obtain ⟨h', g1, g2, g3, g4⟩ := ih (k + 1) f h2 (by omega) (by omega)
    have t : inb (nI k) 14 = true := inb_t hk4 (by decide)
    refine ⟨h', ?_, fun x x1 x2 => ?_, fun g i j q1 q2 => ?_, ?_⟩
    · show f_X4_become_b74_body _ _ _ _ _ = _
      unfold f_X4_become_b74_body
      rw [if_neg (lt14 hk4), if_pos t, if_pos t, nI_clamp (by omega), e1, bnd_some, if_pos t, if_pos t, if_pos t, if_pos t, hh, nI_1]
      exact g1
    · rcases Nat.lt_or_ge k x with y | y
      · obtain ⟨r1, r2, r3, r4⟩ := g2 x y x2
        have c : ∀ j, ∀ z, z < 14 → h2.1 17 (14 * b + z) j = h.1 17 (14 * b + z) j := fun j z hz => by rw [f2 _ _ _ (by omega) (by omega), e4 _ _ _ (by omega)]
        refine ⟨fun j q1 q2 => ?_, ?_, ?_, ?_⟩
        · rw [r1 j q1 q2, c j x x2]
        · rw [r2, c 0 x x2, c 2 x x2]
        · rw [r3, f2 _ _ _ (by omega) (by omega), e4 _ _ _ (by omega)]
        · rw [r4, f2 _ _ _ (by omega) (by omega), e4 _ _ _ (by omega)]
      · have : x = k := by omega
        subst this
        refine ⟨fun j q1 q2 => ?_, ?_, ?_, ?_⟩
        · rw [g3 _ _ _ (by omega) (by omega), f2 _ _ _ (by omega) (by omega), e2 j q1 q2]
        · rw [g3 _ _ _ (by omega) (by omega), f2 _ _ _ (by omega) (by omega), e3]
        · rw [g3 _ _ _ (by omega) (by omega), ← hh, si_ne _ _ (by omega), si_at, e4 _ _ _ (by omega)]
        · rw [g3 _ _ _ (by omega) (by omega), ← hh, si_at, si_ne _ _ (by omega), e4 _ _ _ (by omega)]
    · rw [g3 g i j (by omega) (by omega), f2 _ _ _ (by omega) (by omega), e4 _ _ _ (by omega)]
    · rw [g4, ← hh]; exact e5
theorem X4_become {a b : Nat} (ab : b ≠ a) (h : Hp) (hb : h.1 11 b 5 = 0 ∨ h.1 11 b 5 = 1) : ∃ h', f_X4_become a b h = some ((), h') ∧ (∀ j, 5 ≤ j → j ≤ 13 → h'.1 11 a j = h.1 11 b j) ∧ (∀ x, x < 14 → (∀ j, j < 8 → j ≠ 3 → h'.1 17 (14 * a + x) j = h.1 17 (14 * b + x) j) ∧ h'.1 17 (14 * a + x) 3 = mkF (h.1 17 (14 * b + x) 0) (h.1 17 (14 * b + x) 2) ∧ h'.1 13 a x = h.1 13 b x ∧ h'.1 14 a x = h.1 14 b x) ∧ (∀ g i j, ¬ (g = 17 ∧ 14 * a ≤ i ∧ i < 14 * a + 14) → ¬ ((g = 11 ∨ g = 13 ∨ g = 14) ∧ i = a) → h'.1 g i j = h.1 g i j) ∧ h'.2 = h.2 := by
  have rd : ∀ (h : Hp) (j k : Nat) (v : Int32), (si h 11 a j v).1 11 b k = h.1 11 b k := fun h j k v => si_i h ab
  unfold f_X4_become
  rw [if_pos hb]
  simp only [rd]
  generalize hh : si (si (si (si (si (si (si (si (si h 11 a 5 (h.1 11 b 5)) 11 a 6 (h.1 11 b 6)) 11 a 7 (h.1 11 b 7)) 11 a 8 (h.1 11 b 8)) 11 a 9 (h.1 11 b 9)) 11 a 10 (h.1 11 b 10)) 11 a 11 (h.1 11 b 11)) 11 a 12 (h.1 11 b 12)) 11 a 13 (h.1 11 b 13) = h1
  have f1 : ∀ g i j, ¬ (g = 11 ∧ i = a) → h1.1 g i j = h.1 g i j := fun g i j q => by
    rw [← hh, si_ne _ _ (by omega), si_ne _ _ (by omega), si_ne _ _ (by omega), si_ne _ _ (by omega), si_ne _ _ (by omega), si_ne _ _ (by omega), si_ne _ _ (by omega), si_ne _ _ (by omega), si_ne _ _ (by omega)]
  have f2 : ∀ j, 5 ≤ j → j ≤ 13 → h1.1 11 a j = h.1 11 b j := fun j q1 q2 => by
    rw [← hh]
    unfold si
    dsimp only
    rcases (show j = 5 ∨ j = 6 ∨ j = 7 ∨ j = 8 ∨ j = 9 ∨ j = 10 ∨ j = 11 ∨ j = 12 ∨ j = 13 by omega) with rfl | rfl | rfl | rfl | rfl | rfl | rfl | rfl | rfl <;> simp
  obtain ⟨h', g1, g2, g3, g4⟩ := X4_become_loop ab 14 0 200 h1 (by omega) (by omega)
  refine ⟨h', g1, fun j q1 q2 => ?_, fun x hx => ?_, fun g i j q1 q2 => ?_, ?_⟩
  · rw [g3 _ _ _ (by omega) (by omega), f2 j q1 q2]
  · obtain ⟨r1, r2, r3, r4⟩ := g2 x (by omega) hx
    refine ⟨fun j z1 z2 => ?_, ?_, ?_, ?_⟩
    · rw [r1 j z1 z2, f1 _ _ _ (by omega)]
    · rw [r2, f1 _ _ _ (by omega), f1 _ _ _ (by omega)]
    · rw [r3, f1 _ _ _ (by omega)]
    · rw [r4, f1 _ _ _ (by omega)]
  · rw [g3 _ _ _ (by omega) (by omega), f1 _ _ _ (by omega)]
  · rw [g4, ← hh]; rfl
theorem become_CR {a b : Nat} {h h' : Hp} {V : Wv} {n dn : Nat} (W : WF V n dn) (C : CR h b V n dn) (e1 : ∀ j, 5 ≤ j → j ≤ 13 → h'.1 11 a j = h.1 11 b j) (e2 : ∀ x, x < 14 → (∀ j, j < 8 → j ≠ 3 → h'.1 17 (14 * a + x) j = h.1 17 (14 * b + x) j) ∧ h'.1 17 (14 * a + x) 3 = mkF (h.1 17 (14 * b + x) 0) (h.1 17 (14 * b + x) 2) ∧ h'.1 13 a x = h.1 13 b x ∧ h'.1 14 a x = h.1 14 b x) : CR h' a V n dn := by
  have hn := WF_n W
  have hdn : dn ≤ 14 := by have := WF_dp W; omega
  obtain ⟨c1, c2, c3, od, o1, o2, o3⟩ := C
  refine ⟨?_, fun x hx => ?_, fun i hi => ?_, od, fun i hi => ?_, o2, o3⟩
  · rw [e1 6 (by omega) (by omega), e1 7 (by omega) (by omega), e1 8 (by omega) (by omega), e1 9 (by omega) (by omega), e1 10 (by omega) (by omega), e1 11 (by omega) (by omega), e1 12 (by omega) (by omega), e1 13 (by omega) (by omega)]
    exact c1
  · obtain ⟨r1, r2, -, -⟩ := e2 x (by omega)
    obtain ⟨b0, b1, b2, b3, b4, b5, b6, b7⟩ := c2 x hx
    obtain ⟨w0, w1, w2, w3, w4⟩ := WF_br W x hx
    have l := WF_hf W x hx
    have l2 := ln_ge V x
    rw [r1 0 (by omega) (by omega), r1 1 (by omega) (by omega), r1 2 (by omega) (by omega), r1 4 (by omega) (by omega), r1 5 (by omega) (by omega), r1 6 (by omega) (by omega), r1 7 (by omega) (by omega), r2]
    exact ⟨b0, b1, b2, by rw [b0, b2, w0, w2]; exact mkF_tab _ (by omega) _ (by omega), b4, b5, b6, b7⟩
  · rw [(e2 i (by omega)).2.2.2]; exact c3 i hi
  · rw [(e2 i (by omega)).2.2.1]; exact o1 i hi
theorem X6_keep_l2 {A : Nat} {F : Nat → Int32} {x : Int32} (hA : A + 120 ≤ 360) : ∀ (d i fuel : Nat) (h : Hp), h.1 20 0 13 = x → i + d = 98 → d < fuel → (∀ c, c < 98 → h.1 27 0 c = F c) → f_X6_keep_b142 fuel (nI A) (nI i) h = some (nI (pcn x 14), fif h 29 0 (A + 21 + i) (A + 21 + 98) (fun c => F (c - (A + 21)))) := by
  intro d
  induction d with
  | zero =>
    intro i fuel h hx hi hq hF
    obtain ⟨f, rfl⟩ : ∃ f, fuel = f + 1 := ⟨fuel - 1, by omega⟩
    show f_X6_keep_b142_body _ _ _ _ = _
    unfold f_X6_keep_b142_body
    rw [if_pos (show (98 : Int32) ≤ nI i from nI_le (a := 98) (by omega) (by omega)), hx, X6_sizeOf, bnd_some, fif_nil _ (by omega)]
  | succ d ih =>
    intro i fuel h hx hi hq hF
    obtain ⟨f, rfl⟩ : ∃ f, fuel = f + 1 := ⟨fuel - 1, by omega⟩
    show f_X6_keep_b142_body _ _ _ _ = _
    unfold f_X6_keep_b142_body
    have e : nI A + (21 : Int32) + nI i = nI (A + 21 + i) := by rw [show (21 : Int32) = nI 21 from rfl, nI_add, nI_add]
    rw [if_neg (show ¬ (98 : Int32) ≤ nI i from nI_ge (b := 98) (by omega) (by decide)), if_pos (inb_t (by omega) (by decide)), e, if_pos (inb_t (by omega) (by decide)), nI_clamp (by omega), nI_clamp (by omega), nI_1, ih (i + 1) f _ (by rw [si_g h (by decide)]; exact hx) (by omega) (by omega) (fun c hc => by rw [si_g h (by decide)]; exact hF c hc), show A + 21 + (i + 1) = (A + 21 + i) + 1 by omega, fif_si _ (by omega) (by rw [hF i (by omega)]; exact congrArg F (by omega))]
theorem X6_keep_l1 {A : Nat} {F : Nat → Int32} (hA : A + 120 ≤ 360) : ∀ (d i fuel : Nat) (h : Hp), i + d = 14 → d < fuel → (∀ c, c < 14 → h.1 28 0 c = F c) → f_X6_keep_b111 fuel (nI A) (nI i) h = f_X6_keep_b142 200 (nI A) 0 (fif h 29 0 (A + 7 + i) (A + 7 + 14) (fun c => F (c - (A + 7)))) := by
  intro d
  induction d with
  | zero =>
    intro i fuel h hi hq hF
    obtain ⟨f, rfl⟩ : ∃ f, fuel = f + 1 := ⟨fuel - 1, by omega⟩
    show f_X6_keep_b111_body _ _ _ _ = _
    unfold f_X6_keep_b111_body
    rw [if_pos (show (14 : Int32) ≤ nI i from nI_le (a := 14) (by omega) (by omega)), fif_nil _ (by omega)]
  | succ d ih =>
    intro i fuel h hi hq hF
    obtain ⟨f, rfl⟩ : ∃ f, fuel = f + 1 := ⟨fuel - 1, by omega⟩
    show f_X6_keep_b111_body _ _ _ _ = _
    unfold f_X6_keep_b111_body
    have e : nI A + (7 : Int32) + nI i = nI (A + 7 + i) := by rw [show (7 : Int32) = nI 7 from rfl, nI_add, nI_add]
    rw [if_neg (lt14 (by omega)), if_pos (inb_t (by omega) (by decide)), e, if_pos (inb_t (by omega) (by decide)), nI_clamp (by omega), nI_clamp (by omega), nI_1, ih (i + 1) f _ (by omega) (by omega) (fun c hc => by rw [si_g h (by decide)]; exact hF c hc), show A + 7 + (i + 1) = (A + 7 + i) + 1 by omega, fif_si _ (by omega) (by rw [hF i (by omega)]; exact congrArg F (by omega))]
def kh (h : Hp) (A : Nat) : Hp := si (si (si (si (si (si (si h 29 0 A (h.1 20 0 13)) 29 0 (A + 1) (h.1 20 0 11)) 29 0 (A + 2) (h.1 20 0 14)) 29 0 (A + 3) (h.1 20 0 15)) 29 0 (A + 4) (h.1 20 0 16)) 29 0 (A + 5) (h.1 20 0 17)) 29 0 (A + 6) (h.1 20 0 22)
def kfin (h : Hp) (A : Nat) : Hp := fif (fif (kh h A) 29 0 (A + 7) (A + 7 + 14) (fun c => h.1 28 0 (c - (A + 7)))) 29 0 (A + 21) (A + 21 + 98) (fun c => h.1 27 0 (c - (A + 21)))
theorem kh_g (h : Hp) (A : Nat) {g i j : Nat} (q : ¬ (g = 29 ∧ i = 0 ∧ A ≤ j ∧ j < A + 7)) : (kh h A).1 g i j = h.1 g i j := by
  unfold kh
  rw [si_ne _ _ (by omega), si_ne _ _ (by omega), si_ne _ _ (by omega), si_ne _ _ (by omega), si_ne _ _ (by omega), si_ne _ _ (by omega), si_ne _ _ (by omega)]
theorem X6_keep_y {k : Nat} (h : Hp) (hk : k < 3) (hw : ¬ h.1 20 0 10 = 0) : f_X6_keep (nI k) h = some (nI (pcn (h.1 20 0 13) 14), kfin h (120 * k)) := by
  unfold f_X6_keep
  rw [show f_X6_in (nI k) 0 2 h = some (1, h) from X6_rng_y (N := 2) h hk (by decide), bnd_some, if_pos (by decide), if_pos hw]
  generalize hA : 120 * k = A
  have hA2 : A + 120 ≤ 360 := by omega
  have c0 : (120 : Int32) * nI k = nI A := by rw [n120, hA]
  have c : ∀ x, nI A + nI x = nI (A + x) := fun x => nI_add A x
  have c1 : nI A + (1 : Int32) = nI (A + 1) := c 1
  have c2 : nI A + (2 : Int32) = nI (A + 2) := c 2
  have c3 : nI A + (3 : Int32) = nI (A + 3) := c 3
  have c4 : nI A + (4 : Int32) = nI (A + 4) := c 4
  have c5 : nI A + (5 : Int32) = nI (A + 5) := c 5
  have c6 : nI A + (6 : Int32) = nI (A + 6) := c 6
  have d0 : (nI A).toNatClampNeg = A := nI_clamp (by omega)
  have d1 : (nI (A + 1)).toNatClampNeg = A + 1 := nI_clamp (by omega)
  have d2 : (nI (A + 2)).toNatClampNeg = A + 2 := nI_clamp (by omega)
  have d3 : (nI (A + 3)).toNatClampNeg = A + 3 := nI_clamp (by omega)
  have d4 : (nI (A + 4)).toNatClampNeg = A + 4 := nI_clamp (by omega)
  have d5 : (nI (A + 5)).toNatClampNeg = A + 5 := nI_clamp (by omega)
  have d6 : (nI (A + 6)).toNatClampNeg = A + 6 := nI_clamp (by omega)
  have rd : ∀ (h : Hp) (j k : Nat) (v : Int32), (si h 29 0 j v).1 20 0 k = h.1 20 0 k := fun h j k v => si_g h (by decide)
  simp only [c0, c1, c2, c3, c4, c5, c6, d0, d1, d2, d3, d4, d5, d6, rd]
  rw [if_pos (inb_t (by omega) (by decide)), if_pos (inb_t (by omega) (by decide)), if_pos (inb_t (by omega) (by decide)), if_pos (inb_t (by omega) (by decide)), if_pos (inb_t (by omega) (by decide)), if_pos (inb_t (by omega) (by decide)), if_pos (inb_t (by omega) (by decide))]
  have l1 := X6_keep_l1 (A := A) (F := fun c => h.1 28 0 c) hA2 14 0 200 (kh h A) (by omega) (by omega) (fun c _ => kh_g h A (by omega))
  have l2 := X6_keep_l2 (A := A) (F := fun c => h.1 27 0 c) (x := h.1 20 0 13) hA2 98 0 200 (fif (kh h A) 29 0 (A + 7) (A + 7 + 14) (fun c => h.1 28 0 (c - (A + 7)))) (by rw [fif_ne _ (by omega), kh_g h A (by omega)]) (by omega) (by omega) (fun c _ => by rw [fif_ne _ (by omega), kh_g h A (by omega)])
  exact l1.trans l2
theorem kfin_g (h : Hp) (A : Nat) {g i j : Nat} (q : ¬ (g = 29 ∧ i = 0 ∧ A ≤ j ∧ j < A + 119)) : (kfin h A).1 g i j = h.1 g i j := by
  unfold kfin
  rw [fif_ne _ (by omega), fif_ne _ (by omega), kh_g h A (by omega)]
theorem kfin_KR {h : Hp} {V : Wv} {n dn k : Nat} (W : WF V n dn) (M : MR h V n dn) : KR (kfin h (120 * k)) k V n dn := by
  have hn := WF_n W
  have hdn : dn ≤ 14 := by have := WF_dp W; omega
  obtain ⟨⟨m1, m2, m3, m4, m5, m6, m7, m8⟩, mb, md⟩ := M
  unfold KR
  generalize 120 * k = A
  have r : ∀ j, j < A + 7 → (kfin h A).1 29 0 j = (kh h A).1 29 0 j := fun j hj => by
    unfold kfin
    rw [fif_ne _ (by omega), fif_ne _ (by omega)]
  refine ⟨⟨?_, ?_, ?_, ?_, ?_, ?_, ?_⟩, fun b f hb hf => ?_, fun i hi => ?_⟩
  · rw [r _ (by omega)]; unfold kh
    rw [si_ne _ _ (by omega), si_ne _ _ (by omega), si_ne _ _ (by omega), si_ne _ _ (by omega), si_ne _ _ (by omega), si_ne _ _ (by omega), si_at]; exact m3
  · rw [r _ (by omega)]; unfold kh
    rw [si_ne _ _ (by omega), si_ne _ _ (by omega), si_ne _ _ (by omega), si_ne _ _ (by omega), si_ne _ _ (by omega), si_at]; exact m2
  · rw [r _ (by omega)]; unfold kh
    rw [si_ne _ _ (by omega), si_ne _ _ (by omega), si_ne _ _ (by omega), si_ne _ _ (by omega), si_at]; exact m4
  · rw [r _ (by omega)]; unfold kh
    rw [si_ne _ _ (by omega), si_ne _ _ (by omega), si_ne _ _ (by omega), si_at]; exact m5
  · rw [r _ (by omega)]; unfold kh
    rw [si_ne _ _ (by omega), si_ne _ _ (by omega), si_at]; exact m6
  · rw [r _ (by omega)]; unfold kh
    rw [si_ne _ _ (by omega), si_at]; exact m7
  · rw [r _ (by omega)]; unfold kh
    rw [si_at]; exact m8
  · unfold kfin
    rw [fif_at _ (by omega) (by omega), show A + 21 + (7 * b + f) - (A + 21) = 7 * b + f by omega]
    exact mb b f hb hf
  · unfold kfin
    rw [fif_ne _ (by omega), fif_at _ (by omega) (by omega), show A + 7 + i - (A + 7) = i by omega]
    exact md i hi
theorem st_keep (a1 : Int32) (h : Hp) (hI : Inv h) : ∃ (r : Int32) (h1 h2 : Hp), f_X5_keep a1 h = some (r, h1) ∧ f_X6_keep a1 h1 = some (r, h2) ∧ Inv h2 := by
  obtain ⟨V, n, dn, W⟩ := Inv_W hI
  have hn := IW_n W
  rcases rng 3 (by omega) a1 with q | ⟨k, hk, rfl⟩
  · refine ⟨-1, h, h, ?_, ?_, hI⟩
    · unfold f_X5_keep; rw [X5_isPlace_n h q, bnd_some, if_neg (fun z => z rfl)]
    · unfold f_X6_keep; rw [show f_X6_in a1 0 2 h = some (0, h) from X6_rng_n (N := 2) h (by decide) q, bnd_some, if_neg (fun z => z rfl)]
  have hb := W.2.2.2.1
  by_cases q0 : V.1 0 = 0
  · rw [if_pos q0] at hb
    refine ⟨-4, h, h, ?_, ?_, hI⟩
    · unfold f_X5_keep; rw [X5_isPlace_y h hk, bnd_some, if_pos (by decide), hb, if_neg (fun z => z rfl)]
    · unfold f_X6_keep; rw [show f_X6_in (nI k) 0 2 h = some (1, h) from X6_rng_y (N := 2) h hk (by decide), bnd_some, if_pos (by decide), W.2.2.1.1.1, if_neg (fun z => z q0)]
  rw [if_neg q0] at hb
  obtain ⟨h', e1, e2, e3, e4, e5⟩ := X4_become (a := 2 + k) (b := 1) (by omega) h (Or.inr hb)
  have M' : MW h' V n dn := MW_g (mw W) (fun g j q => e4 g 0 j (by omega) (by omega))
  have C' : CR h' (2 + k) V n dn := become_CR W.1 W.2.1 e2 e3
  have w10 : ¬ h'.1 20 0 10 = 0 := by rw [M'.2.1.1]; exact q0
  have i8 : h'.1 11 1 8 = V.1 2 := by rw [e4 11 1 8 (by omega) (by omega)]; exact W.2.1.1.2.2.1
  refine ⟨nI (pcn (V.1 2) 14), h', kfin h' (120 * k), ?_, ?_, ?_⟩
  · unfold f_X5_keep
    rw [X5_isPlace_y h hk, bnd_some, if_pos (by decide), hb, if_pos (by decide), if_pos (inb_t hk (by decide)), nI_clamp (by omega), e1, bnd_some, i8, bc_of (sub_mono (IW_in W) hn), bnd_some]
  · rw [X6_keep_y h' hk w10, MW_m13 M']
  have fr : ∀ g i j, ¬ (g = 17 ∧ 14 * (2 + k) ≤ i ∧ i < 14 * (2 + k) + 14) → ¬ ((g = 11 ∨ g = 13 ∨ g = 14) ∧ i = 2 + k) → ¬ (g = 29 ∧ i = 0 ∧ 120 * k ≤ j ∧ j < 120 * k + 119) → (kfin h' (120 * k)).1 g i j = h.1 g i j := fun g i j q1 q2 q3 => by rw [kfin_g h' _ q3, e4 g i j q1 q2]
  refine Inv_w hI (V := V) (n := n) (dn := dn) ⟨W.1, ?_, ?_, ?_, fun k' hk' => ?_⟩ (by show h'.2.1 = h.2.1; rw [e5]) (fun g i j q => fr g i j (by omega) (by omega) (by omega))
  · exact (CW_g (cw W) (fun g i j q => fr g i j (by omega) (by omega) (by omega))).2
  · exact (MW_g (mw W) (fun g j q => fr g 0 j (by omega) (by omega) (by omega))).2
  · rw [fr 11 1 5 (by omega) (by omega) (by omega)]; exact W.2.2.2.1
  · by_cases z : k' = k
    · subst z
      refine Or.inr ⟨?_, q0, V, n, dn, W.1, rfl, ?_, kfin_KR W.1 M'.2⟩
      · rw [kfin_g h' _ (by omega), e2 5 (by omega) (by omega)]; exact hb
      · have e11 : ∀ j, (kfin h' (120 * k')).1 11 (2 + k') j = h'.1 11 (2 + k') j := fun j => kfin_g h' _ (by omega)
        have e13 : ∀ j, (kfin h' (120 * k')).1 13 (2 + k') j = h'.1 13 (2 + k') j := fun j => kfin_g h' _ (by omega)
        have e14 : ∀ j, (kfin h' (120 * k')).1 14 (2 + k') j = h'.1 14 (2 + k') j := fun j => kfin_g h' _ (by omega)
        have e17 : ∀ b j, (kfin h' (120 * k')).1 17 (14 * (2 + k') + b) j = h'.1 17 (14 * (2 + k') + b) j := fun b j => kfin_g h' _ (by omega)
        unfold CR at C' ⊢
        simp only [e11, e13, e14, e17]
        exact C'
    · have K := W.2.2.2.2 k' hk'
      rcases K with ⟨K1, K2⟩ | ⟨K1, K0, U, m, dm, K2, K3, K4, K5⟩
      · exact Or.inl ⟨by rw [fr _ _ _ (by omega) (by omega) (by omega)]; exact K1, by rw [fr _ _ _ (by omega) (by omega) (by omega)]; exact K2⟩
      · have hm := WF_n K2
        have hdm : dm ≤ 14 := by have := WF_dp K2; omega
        refine Or.inr ⟨by rw [fr _ _ _ (by omega) (by omega) (by omega)]; exact K1, K0, U, m, dm, K2, K3, ?_, ?_⟩
        · obtain ⟨c1, c2, c3, od, o1, o2, o3⟩ := K4
          have e11 : ∀ j, (kfin h' (120 * k)).1 11 (2 + k') j = h.1 11 (2 + k') j := fun j => fr _ _ _ (by omega) (by omega) (by omega)
          refine ⟨by simp only [e11]; exact c1, fun b hb => ?_, fun i hi => ?_, od, fun i hi => ?_, o2, o3⟩
          · have e17 : ∀ j, (kfin h' (120 * k)).1 17 (14 * (2 + k') + b) j = h.1 17 (14 * (2 + k') + b) j := fun j => fr _ _ _ (by omega) (by omega) (by omega)
            simp only [e17]; exact c2 b hb
          · rw [fr _ _ _ (by omega) (by omega) (by omega)]; exact c3 i hi
          · rw [fr _ _ _ (by omega) (by omega) (by omega)]; exact o1 i hi
        · obtain ⟨⟨k1, k2, k3, k4, k5, k6, k7⟩, kb, kdd⟩ := K5
          have e29 : ∀ j, 120 * k' ≤ j → j < 120 * k' + 119 → (kfin h' (120 * k)).1 29 0 j = h.1 29 0 j := fun j q1 q2 => fr _ _ _ (by omega) (by omega) (by omega)
          refine ⟨⟨?_, ?_, ?_, ?_, ?_, ?_, ?_⟩, fun b f hb hf => ?_, fun i hi => ?_⟩
          · rw [e29 _ (by omega) (by omega)]; exact k1
          · rw [e29 _ (by omega) (by omega)]; exact k2
          · rw [e29 _ (by omega) (by omega)]; exact k3
          · rw [e29 _ (by omega) (by omega)]; exact k4
          · rw [e29 _ (by omega) (by omega)]; exact k5
          · rw [e29 _ (by omega) (by omega)]; exact k6
          · rw [e29 _ (by omega) (by omega)]; exact k7
          · rw [e29 _ (by omega) (by omega)]; exact kb b f hb hf
          · rw [e29 _ (by omega) (by omega)]; exact kdd i hi
theorem X6_on_l2 {A : Nat} {F : Nat → Int32} {x : Int32} (hA : A + 120 ≤ 360) : ∀ (d i fuel : Nat) (h : Hp), h.1 20 0 13 = x → i + d = 98 → d < fuel → (∀ c, c < 98 → h.1 29 0 (A + 21 + c) = F c) → f_X6_on_b149 fuel (nI A) (nI i) h = some (nI (pcn x 14), fif h 27 0 i 98 F) := by
  intro d
  induction d with
  | zero =>
    intro i fuel h hx hi hq hF
    obtain ⟨f, rfl⟩ : ∃ f, fuel = f + 1 := ⟨fuel - 1, by omega⟩
    show f_X6_on_b149_body _ _ _ _ = _
    unfold f_X6_on_b149_body
    rw [if_pos (show (98 : Int32) ≤ nI i from nI_le (a := 98) (by omega) (by omega)), hx, X6_sizeOf, bnd_some, fif_nil _ (by omega)]
  | succ d ih =>
    intro i fuel h hx hi hq hF
    obtain ⟨f, rfl⟩ : ∃ f, fuel = f + 1 := ⟨fuel - 1, by omega⟩
    show f_X6_on_b149_body _ _ _ _ = _
    unfold f_X6_on_b149_body
    have e : nI A + (21 : Int32) + nI i = nI (A + 21 + i) := by rw [show (21 : Int32) = nI 21 from rfl, nI_add, nI_add]
    rw [if_neg (show ¬ (98 : Int32) ≤ nI i from nI_ge (b := 98) (by omega) (by decide)), e, if_pos (inb_t (by omega) (by decide)), if_pos (inb_t (by omega) (by decide)), nI_clamp (by omega), nI_clamp (by omega), nI_1, ih (i + 1) f _ (by rw [si_g h (by decide)]; exact hx) (by omega) (by omega) (fun c hc => by rw [si_g h (by decide)]; exact hF c hc), fif_si _ (by omega) (hF i (by omega))]
theorem X6_on_l1 {A : Nat} {F : Nat → Int32} (hA : A + 120 ≤ 360) : ∀ (d i fuel : Nat) (h : Hp), i + d = 14 → d < fuel → (∀ c, c < 14 → h.1 29 0 (A + 7 + c) = F c) → f_X6_on_b118 fuel (nI A) (nI i) h = f_X6_on_b149 200 (nI A) 0 (fif h 28 0 i 14 F) := by
  intro d
  induction d with
  | zero =>
    intro i fuel h hi hq hF
    obtain ⟨f, rfl⟩ : ∃ f, fuel = f + 1 := ⟨fuel - 1, by omega⟩
    show f_X6_on_b118_body _ _ _ _ = _
    unfold f_X6_on_b118_body
    rw [if_pos (show (14 : Int32) ≤ nI i from nI_le (a := 14) (by omega) (by omega)), fif_nil _ (by omega)]
  | succ d ih =>
    intro i fuel h hi hq hF
    obtain ⟨f, rfl⟩ : ∃ f, fuel = f + 1 := ⟨fuel - 1, by omega⟩
    show f_X6_on_b118_body _ _ _ _ = _
    unfold f_X6_on_b118_body
    have e : nI A + (7 : Int32) + nI i = nI (A + 7 + i) := by rw [show (7 : Int32) = nI 7 from rfl, nI_add, nI_add]
    rw [if_neg (lt14 (by omega)), e, if_pos (inb_t (by omega) (by decide)), if_pos (inb_t (by omega) (by decide)), nI_clamp (by omega), nI_clamp (by omega), nI_1, ih (i + 1) f _ (by omega) (by omega) (fun c hc => by rw [si_g h (by decide)]; exact hF c hc), fif_si _ (by omega) (hF i (by omega))]
def oh (h : Hp) (A : Nat) : Hp := si (si (si (si (si (si (si h 20 0 13 (h.1 29 0 A)) 20 0 11 (h.1 29 0 (A + 1))) 20 0 14 (h.1 29 0 (A + 2))) 20 0 15 (h.1 29 0 (A + 3))) 20 0 16 (h.1 29 0 (A + 4))) 20 0 17 (h.1 29 0 (A + 5))) 20 0 22 (h.1 29 0 (A + 6))
def ofin (h : Hp) (A : Nat) : Hp := fif (fif (oh h A) 28 0 0 14 (fun c => h.1 29 0 (A + 7 + c))) 27 0 0 98 (fun c => h.1 29 0 (A + 21 + c))
theorem oh_g (h : Hp) (A : Nat) {g i j : Nat} (q : ¬ (g = 20 ∧ i = 0 ∧ (j = 11 ∨ j = 13 ∨ j = 14 ∨ j = 15 ∨ j = 16 ∨ j = 17 ∨ j = 22))) : (oh h A).1 g i j = h.1 g i j := by
  unfold oh
  rw [si_ne _ _ (by omega), si_ne _ _ (by omega), si_ne _ _ (by omega), si_ne _ _ (by omega), si_ne _ _ (by omega), si_ne _ _ (by omega), si_ne _ _ (by omega)]
theorem ofin_g (h : Hp) (A : Nat) {g i j : Nat} (q : ¬ (g = 20 ∧ i = 0 ∧ (j = 11 ∨ j = 13 ∨ j = 14 ∨ j = 15 ∨ j = 16 ∨ j = 17 ∨ j = 22))) (q1 : g ≠ 27) (q2 : g ≠ 28) : (ofin h A).1 g i j = h.1 g i j := by
  unfold ofin
  rw [fif_ne _ (by omega), fif_ne _ (by omega), oh_g h A q]
theorem X6_on_y {k : Nat} (h : Hp) (hk : k < 3) (hw : ¬ h.1 29 0 (120 * k) = -9) : f_X6_on (nI k) h = some (nI (pcn (h.1 29 0 (120 * k)) 14), ofin h (120 * k)) := by
  unfold f_X6_on
  rw [show f_X6_in (nI k) 0 2 h = some (1, h) from X6_rng_y (N := 2) h hk (by decide), bnd_some, if_pos (by decide)]
  revert hw
  generalize hA : 120 * k = A
  intro hw
  have hA2 : A + 120 ≤ 360 := by omega
  have c0 : (120 : Int32) * nI k = nI A := by rw [n120, hA]
  have c : ∀ x, nI A + nI x = nI (A + x) := fun x => nI_add A x
  have c1 : nI A + (1 : Int32) = nI (A + 1) := c 1
  have c2 : nI A + (2 : Int32) = nI (A + 2) := c 2
  have c3 : nI A + (3 : Int32) = nI (A + 3) := c 3
  have c4 : nI A + (4 : Int32) = nI (A + 4) := c 4
  have c5 : nI A + (5 : Int32) = nI (A + 5) := c 5
  have c6 : nI A + (6 : Int32) = nI (A + 6) := c 6
  have d0 : (nI A).toNatClampNeg = A := nI_clamp (by omega)
  have d1 : (nI (A + 1)).toNatClampNeg = A + 1 := nI_clamp (by omega)
  have d2 : (nI (A + 2)).toNatClampNeg = A + 2 := nI_clamp (by omega)
  have d3 : (nI (A + 3)).toNatClampNeg = A + 3 := nI_clamp (by omega)
  have d4 : (nI (A + 4)).toNatClampNeg = A + 4 := nI_clamp (by omega)
  have d5 : (nI (A + 5)).toNatClampNeg = A + 5 := nI_clamp (by omega)
  have d6 : (nI (A + 6)).toNatClampNeg = A + 6 := nI_clamp (by omega)
  have rd : ∀ (h : Hp) (j k : Nat) (v : Int32), (si h 20 0 j v).1 29 0 k = h.1 29 0 k := fun h j k v => si_g h (by decide)
  simp only [c0, c1, c2, c3, c4, c5, c6, d0, d1, d2, d3, d4, d5, d6, rd]
  rw [if_pos (inb_t (by omega) (by decide)), if_pos hw, if_pos (inb_t (by omega) (by decide)), if_pos (inb_t (by omega) (by decide)), if_pos (inb_t (by omega) (by decide)), if_pos (inb_t (by omega) (by decide)), if_pos (inb_t (by omega) (by decide)), if_pos (inb_t (by omega) (by decide)), if_pos (inb_t (by omega) (by decide))]
  have e13 : (oh h A).1 20 0 13 = h.1 29 0 A := by
    unfold oh
    rw [si_ne _ _ (by omega), si_ne _ _ (by omega), si_ne _ _ (by omega), si_ne _ _ (by omega), si_ne _ _ (by omega), si_ne _ _ (by omega), si_at]
  have l1 := X6_on_l1 (A := A) (F := fun c => h.1 29 0 (A + 7 + c)) hA2 14 0 200 (oh h A) (by omega) (by omega) (fun c _ => oh_g h A (by omega))
  have l2 := X6_on_l2 (A := A) (F := fun c => h.1 29 0 (A + 21 + c)) (x := h.1 29 0 A) hA2 98 0 200 (fif (oh h A) 28 0 0 14 (fun c => h.1 29 0 (A + 7 + c))) (by rw [fif_ne _ (by omega), e13]) (by omega) (by omega) (fun c _ => by rw [fif_ne _ (by omega), oh_g h A (by omega)])
  exact l1.trans l2
theorem ofin_MR {h : Hp} {U : Wv} {n dn k : Nat} (W : WF U n dn) (K : KR h k U n dn) (e0 : h.1 20 0 10 = U.1 0) : MR (ofin h (120 * k)) U n dn := by
  have hn := WF_n W
  have hdn : dn ≤ 14 := by have := WF_dp W; omega
  obtain ⟨⟨k1, k2, k3, k4, k5, k6, k7⟩, kb, kdd⟩ := K
  revert k1 k2 k3 k4 k5 k6 k7 kb kdd
  unfold MR
  generalize 120 * k = A
  intro k1 k2 k3 k4 k5 k6 k7 kb kdd
  have r : ∀ j, (ofin h A).1 20 0 j = (oh h A).1 20 0 j := fun j => by
    unfold ofin
    rw [fif_ne _ (by omega), fif_ne _ (by omega)]
  refine ⟨⟨?_, ?_, ?_, ?_, ?_, ?_, ?_, ?_⟩, fun b f hb hf => ?_, fun i hi => ?_⟩
  · rw [r, oh_g h A (by omega)]; exact e0
  · rw [r]; unfold oh
    rw [si_ne _ _ (by omega), si_ne _ _ (by omega), si_ne _ _ (by omega), si_ne _ _ (by omega), si_ne _ _ (by omega), si_at]; exact k2
  · rw [r]; unfold oh
    rw [si_ne _ _ (by omega), si_ne _ _ (by omega), si_ne _ _ (by omega), si_ne _ _ (by omega), si_ne _ _ (by omega), si_ne _ _ (by omega), si_at]; exact k1
  · rw [r]; unfold oh
    rw [si_ne _ _ (by omega), si_ne _ _ (by omega), si_ne _ _ (by omega), si_ne _ _ (by omega), si_at]; exact k3
  · rw [r]; unfold oh
    rw [si_ne _ _ (by omega), si_ne _ _ (by omega), si_ne _ _ (by omega), si_at]; exact k4
  · rw [r]; unfold oh
    rw [si_ne _ _ (by omega), si_ne _ _ (by omega), si_at]; exact k5
  · rw [r]; unfold oh
    rw [si_ne _ _ (by omega), si_at]; exact k6
  · rw [r]; unfold oh
    rw [si_at]; exact k7
  · unfold ofin
    rw [fif_at _ (by omega) (by omega)]
    exact kb b f hb hf
  · unfold ofin
    rw [fif_ne _ (by omega), fif_at _ (by omega) (by omega)]
    exact kdd i hi
theorem st_on (a1 : Int32) (h : Hp) (hI : Inv h) : ∃ (r : Int32) (h1 h2 : Hp), f_X5_on a1 h = some (r, h1) ∧ f_X6_on a1 h1 = some (r, h2) ∧ Inv h2 := by
  obtain ⟨V, n, dn, W⟩ := Inv_W hI
  rcases rng 3 (by omega) a1 with q | ⟨k, hk, rfl⟩
  · refine ⟨-1, h, h, ?_, ?_, hI⟩
    · unfold f_X5_on; rw [X5_isPlace_n h q, bnd_some, if_neg (fun z => z rfl)]
    · unfold f_X6_on; rw [show f_X6_in a1 0 2 h = some (0, h) from X6_rng_n (N := 2) h (by decide) q, bnd_some, if_neg (fun z => z rfl)]
  rcases W.2.2.2.2 k hk with ⟨K1, K2⟩ | ⟨K1, K0, U, m, dm, K2, K3, K4, K5⟩
  · refine ⟨-3, rfC h 1, mtC (rfC h 1) 1, ?_, ?_, rm_Inv hI⟩
    · unfold f_X5_on; rw [X5_isPlace_y h hk, bnd_some, if_pos (by decide), if_pos (inb_t hk (by decide)), nI_clamp (by omega), K1, if_neg (fun z => z rfl), X5_ref1, bnd_some]
    · unfold f_X6_on; rw [show f_X6_in (nI k) 0 2 (rfC h 1) = some (1, rfC h 1) from X6_rng_y (N := 2) _ hk (by decide), bnd_some, if_pos (by decide), n120, if_pos (inb_t (by omega) (by decide)), nI_clamp (by omega), rfC_g h 1 (by decide) (by decide), K2, if_neg (fun z => z rfl), X6_met1, bnd_some]
  have hm := WF_n K2
  have hb := W.2.2.2.1
  rw [if_neg K0] at hb
  obtain ⟨h', e1, e2, e3, e4, e5⟩ := X4_become (a := 1) (b := 2 + k) (by omega) h (Or.inr K1)
  have C' : CR h' 1 U m dm := become_CR K2 K4 e2 e3
  have e29 : ∀ j, h'.1 29 0 j = h.1 29 0 j := fun j => e4 29 0 j (by omega) (by omega)
  have K5' : KR h' k U m dm := by
    unfold KR at K5 ⊢
    simp only [e29]
    exact K5
  have u10 : h'.1 20 0 10 = U.1 0 := by rw [e4 20 0 10 (by omega) (by omega), W.2.2.1.1.1, K3]
  have M' := ofin_MR K2 K5' u10
  refine ⟨nI (pcn (U.1 2) 14), h', ofin h' (120 * k), ?_, ?_, ?_⟩
  · unfold f_X5_on
    rw [X5_isPlace_y h hk, bnd_some, if_pos (by decide), if_pos (inb_t hk (by decide)), nI_clamp (by omega), K1, if_pos (by decide), if_pos (inb_t hk (by decide)), e1, bnd_some, C'.1.2.2.1, bc_of (sub_mono (WF_in K2) hm), bnd_some]
  · have z : ¬ h'.1 29 0 (120 * k) = -9 := by rw [K5'.1.1]; exact sub_m9 hm (WF_in K2)
    rw [X6_on_y h' hk z, K5'.1.1]
  have fr : ∀ g i j, ¬ (g = 17 ∧ 14 ≤ i ∧ i < 28) → ¬ ((g = 11 ∨ g = 13 ∨ g = 14) ∧ i = 1) → ¬ (g = 20 ∧ i = 0 ∧ (j = 11 ∨ j = 13 ∨ j = 14 ∨ j = 15 ∨ j = 16 ∨ j = 17 ∨ j = 22)) → g ≠ 27 → g ≠ 28 → (ofin h' (120 * k)).1 g i j = h.1 g i j := fun g i j q1 q2 q3 q4 q5 => by rw [ofin_g h' _ q3 q4 q5, e4 g i j (by omega) (by omega)]
  have CK : CW (ofin h' (120 * k)) U m dm := CW_g ⟨K2, C'⟩ (fun g i j q => ofin_g h' _ (by omega) (by omega) (by omega))
  exact Inv_w hI (IW_new W CK ⟨K2, M'⟩ K3 (by rw [ofin_g h' _ (by omega) (by omega) (by omega), e2 5 (by omega) (by omega), K1, hb]) (fun g i j q => fr g i j (by omega) (by omega) (by omega) (by omega) (by omega))) (by show h'.2.1 = h.2.1; rw [e5]) (fun g i j q => fr g i j (by omega) (by omega) (by omega) (by omega) (by omega))
