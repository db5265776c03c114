/-! wall -/
theorem X5_wall_loop : ∀ (d i fuel : Nat) (h : Hp), i + d = 3 → d < fuel → ∃ h', f_X5_wall_b76 fuel (nI i) h = some (h.1 11 1 7, h') ∧ (∀ j, i ≤ j → j < 3 → h'.1 11 (2 + j) 5 = 0) ∧ (∀ g a j, ¬ (g = 11 ∧ 2 + i ≤ a ∧ a < 5 ∧ j = 5) → h'.1 g a j = h.1 g a j) ∧ h'.2 = h.2 := by
  intro d
  induction d with
  | zero =>
    intro i fuel h hi hq
    obtain ⟨f, rfl⟩ : ∃ f, fuel = f + 1 := ⟨fuel - 1, by omega⟩
    refine ⟨h, ?_, fun j h1 h2 => by omega, fun _ _ _ _ => rfl, rfl⟩
    show f_X5_wall_b76_body _ _ _ = _
    unfold f_X5_wall_b76_body
    rw [show i = 3 by omega, if_pos (by decide)]
  | succ d ih =>
    intro i fuel h hi hq
    obtain ⟨f, rfl⟩ : ∃ f, fuel = f + 1 := ⟨fuel - 1, by omega⟩
    obtain ⟨h', a1, a2, a3, a4⟩ := ih (i + 1) f (si h 11 (2 + i) 5 0) (by omega) (by omega)
    refine ⟨h', ?_, fun j h1 h2 => ?_, fun g a j z => ?_, a4⟩
    · show f_X5_wall_b76_body _ _ _ = _
      unfold f_X5_wall_b76_body
      rw [if_neg (show ¬ (3 : Int32) ≤ nI i from nI_ge (b := 3) (by omega) (by decide)), if_pos (inb_t (by omega) (by decide)), if_pos (Or.inl rfl), nI_clamp (by omega), nI_1, a1, si_ne _ _ (by omega)]
    · by_cases y : j = i
      · rw [y, a3 _ _ _ (by omega), si_at]
      · exact a2 j (by omega) h2
    · rw [a3 _ _ _ (by omega), si_ne _ _ (by omega)]
theorem X6_wall_l2 : ∀ (d i fuel : Nat) (k : Hp), i + d = 3 → d < fuel → ∃ k', f_X6_wall_b109 fuel (nI i) k = some (k.1 20 0 11, k') ∧ (∀ j, i ≤ j → j < 3 → k'.1 29 0 (120 * j) = -9) ∧ (∀ g a j, ¬ (g = 29 ∧ a = 0 ∧ 120 * i ≤ j) → k'.1 g a j = k.1 g a j) ∧ k'.2 = k.2 := by
  intro d
  induction d with
  | zero =>
    intro i fuel h hi hq
    obtain ⟨f, rfl⟩ : ∃ f, fuel = f + 1 := ⟨fuel - 1, by omega⟩
    refine ⟨h, ?_, fun j h1 h2 => by omega, fun _ _ _ _ => rfl, rfl⟩
    show f_X6_wall_b109_body _ _ _ = _
    unfold f_X6_wall_b109_body
    rw [show i = 3 by omega, if_pos (by decide)]
  | succ d ih =>
    intro i fuel h hi hq
    obtain ⟨f, rfl⟩ : ∃ f, fuel = f + 1 := ⟨fuel - 1, by omega⟩
    obtain ⟨h', a1, a2, a3, a4⟩ := ih (i + 1) f (si h 29 0 (120 * i) (-9)) (by omega) (by omega)
    refine ⟨h', ?_, fun j h1 h2 => ?_, fun g a j z => ?_, a4⟩
    · show f_X6_wall_b109_body _ _ _ = _
      unfold f_X6_wall_b109_body
      rw [if_neg (show ¬ (3 : Int32) ≤ nI i from nI_ge (b := 3) (by omega) (by decide)), n120, if_pos (inb_t (by omega) (by decide)), nI_clamp (by omega), nI_1, a1, si_ne _ _ (by omega)]
    · by_cases y : j = i
      · rw [y, a3 _ _ _ (by omega), si_at]
      · exact a2 j (by omega) h2
    · rw [a3 _ _ _ (by omega), si_ne _ _ (by omega)]
def wfin (k : Hp) : Hp := si (si (si (si (si (si k 20 0 13 (((1 : Int32) <<< ((k.1 20 0 11) &&& 31)) - (1 : Int32))) 20 0 14 (0 : Int32)) 20 0 15 (0 : Int32)) 20 0 16 (0 : Int32)) 20 0 17 (0 : Int32)) 20 0 22 (0 : Int32)
theorem X6_wall_l1 {F : Nat → Int32} : ∀ (d i fuel : Nat) (k : Hp), i + d = 98 → d < fuel → (∀ c, c < 98 → k.1 27 0 (98 + c) = F c) → f_X6_wall_b43 fuel (nI i) k = f_X6_wall_b109 200 0 (wfin (fif k 27 0 i 98 F)) := by
  intro d
  induction d with
  | zero =>
    intro i fuel k hi hq hF
    obtain ⟨f, rfl⟩ : ∃ f, fuel = f + 1 := ⟨fuel - 1, by omega⟩
    show f_X6_wall_b43_body _ _ _ = _
    unfold f_X6_wall_b43_body
    rw [show i = 98 by omega, if_pos (by decide), fif_nil _ (Nat.le_refl _)]
    rfl
  | succ d ih =>
    intro i fuel k hi hq hF
    obtain ⟨f, rfl⟩ : ∃ f, fuel = f + 1 := ⟨fuel - 1, by omega⟩
    have e : (98 : Int32) + nI i = nI (98 + i) := by rw [show (98 : Int32) = nI 98 from rfl, nI_add]
    show f_X6_wall_b43_body _ _ _ = _
    unfold f_X6_wall_b43_body
    rw [if_neg (show ¬ (98 : Int32) ≤ nI i from nI_ge (b := 98) (by omega) (by decide)), e, if_pos (inb_t (by omega) (by decide)), if_pos (inb_t (by omega) (by decide)), nI_clamp (by omega), nI_clamp (by omega), nI_1, ih (i + 1) f _ (by omega) (by omega) (fun c hc => by rw [si_j _ (by omega)]; exact hF c hc), fif_si k (by omega) (hF i (by omega))]
theorem FU_in {V : Wv} {n dn : Nat} (W : WF V n dn) (F : FU V n) : V.1 2 = ((1 : Int32) <<< (nI n &&& 31)) - 1 := by
  have hn := WF_n W
  rw [pow_n n (by omega)]
  apply b_ext
  intro i hi
  rw [F.1 i hi, bt_nI _ hi, Nat.testBit_two_pow_sub_one]
theorem st_wall (a1 : Int32) (h : Hp) (hI : Inv h) : ∃ (r : Int32) (h1 h2 : Hp), f_X5_wall a1 h = some (r, h1) ∧ f_X6_wall a1 h1 = some (r, h2) ∧ Inv h2 := by
  rcases rng 4 (by decide) a1 with q | ⟨t, ht, rfl⟩
  · refine ⟨-1, h, h, ?_, ?_, hI⟩
    · unfold f_X5_wall; rw [X5_isText_n h q, bnd_some, if_neg (fun z => z rfl)]
    · unfold f_X6_wall; rw [X6_askedText_n h q, bnd_some, if_neg n1]
  rcases hI.2.2.1 t ht with ⟨s1, s2⟩ | ⟨L, hL, s1, s2, s3⟩
  · refine ⟨-3, rfC h 1, mtC (rfC h 1) 1, ?_, ?_, rm_Inv hI⟩
    · unfold f_X5_wall; rw [X5_isText_y h ht, bnd_some, if_pos (by decide), if_pos (inb_t ht (by decide)), nI_clamp (by omega), s1, if_neg n1, X5_ref1, bnd_some]
    · unfold f_X6_wall; rw [X6_askedText_m _ ht (by rw [rfC_g _ _ (by decide) (by decide)]; exact s2), bnd_some, if_neg n3]
  have cl : f_X5_wall (nI t) h = bnd (f_X1_read t (nI L) h) (fun v10 h11 => if v10 = (-9 : Int32) then (bnd (f_X4_become 1 0 h11) (fun v14 h15 => f_X5_wall_b76 200 ((0 : Int32)) h15)) else (some ((-4 : Int32), h11))) := by
    unfold f_X5_wall
    rw [X5_isText_y h ht, bnd_some, if_pos (by decide), if_pos (inb_t ht (by decide)), nI_clamp (by omega), s1, if_pos (nI_pos' (by omega)), if_pos (inb_t ht (by decide)), if_pos (inb_t ht (by decide))]
  have mo : ∀ k : Hp, k.1 25 0 t = nI L → f_X6_wall (nI t) k = bnd (f_X6_goesOn (nI t) k) (fun v5 h6 => if v5 = (-9 : Int32) then (f_X6_wall_b43 200 ((0 : Int32)) (si (si h6 20 0 10 (h6.1 20 0 19)) 20 0 11 ((si h6 20 0 10 (h6.1 20 0 19)).1 20 0 20))) else (some ((-4 : Int32), h6))) := fun k e => by
    unfold f_X6_wall
    rw [X6_askedText_y k ht hL e, bnd_some, if_pos (by decide)]
  rcases rd_all (X := fun j => h.1 7 t j) ht hL (h := h) (fun j _ => rfl) with ⟨h', q, e1, e2, e3, e4⟩ | ⟨h', V, n, e1, e2, e3, e4⟩
  · obtain ⟨k0, g1, g2, g3⟩ := X6_goes (X := fun j => h.1 7 t j) hL e3 s2 (fun j hj => (s3 j hj).symm)
    obtain ⟨k', c1, c2⟩ := e4 k0 200 g2 (by omega)
    refine ⟨-4, h', k', ?_, ?_, Inv_fc hI e3 (Fk.tr g3 c2)⟩
    · rw [cl, e1, bnd_some, if_neg (nI_m9 (by omega))]
    · rw [mo h' (by rw [e3.1 _ _ _ (by omega) (by omega) (by omega)]; exact s2), g1]
      have c1' : f_X6_goesOn_b15 200 (nI t) k0 = some (nI q, k') := c1
      rw [c1', bnd_some, if_neg (nI_m9 (by omega))]
  · obtain ⟨C, W, F, b5, wd, w1, w2, w3⟩ := e2
    have hn := WF_n W
    -- the class: the draft becomes the wall
    obtain ⟨h2, p1, p2, p3, p4, p5⟩ := X4_become (a := 1) (b := 0) (by decide) h' (Or.inr b5)
    obtain ⟨h3, q1, q2, q3, q4⟩ := X5_wall_loop 3 0 200 h2 (by omega) (by omega)
    have C2 : CR h2 1 V n 0 := become_CR W C p2 p3
    have f3 : ∀ g i j, ¬ (g = 17 ∧ i < 28) → ¬ ((g = 11 ∨ g = 13 ∨ g = 14) ∧ i < 2) → ¬ (g = 11 ∧ j = 5) → g ≠ 9 → h3.1 g i j = h.1 g i j := fun g i j z1 z2 z3 z4 => by
      rw [q3 _ _ _ (by omega), p4 _ _ _ (by omega) (by omega), e3.1 _ _ _ z4 (by omega) (by omega)]
      rfl
    have W3 : CW h3 V n 0 := CW_g ⟨W, C2⟩ (fun g i j z => q3 _ _ _ (by omega))
    have l3 : h3.2 = h'.2 := by rw [q4, p5]
    have F3 : ∀ g i j, g ≠ 9 → ¬ ((g = 11 ∨ g = 13 ∨ g = 14) ∧ i < 5) → ¬ (g = 17 ∧ i < 28) → h3.1 g i j = h'.1 g i j := fun g i j z1 z2 z3 => by
      rw [q3 _ _ _ (by omega), p4 _ _ _ (by omega) (by omega)]
    -- the model from there
    have k00 : ∃ k0, f_X6_goesOn (nI t) h3 = f_X6_goesOn_b15 200 (nI t) k0 ∧ (HS t L (fun j => h.1 7 t j) k0 0 ∧ k0.1 20 0 19 = 0 ∧ k0.1 20 0 20 = 0) ∧ Fk h3 k0 := by
      refine ⟨si (si (si h3 20 0 18 0) 20 0 19 0) 20 0 20 0, rfl, ⟨⟨rfl, ?_, fun j hj => ?_, by omega⟩, rfl, rfl⟩, Fk.tr (Fk_s (by omega)) (Fk.tr (Fk_s (by omega)) (Fk_s (by omega)))⟩
      · rw [si_g _ (by decide), si_g _ (by decide), si_g _ (by decide), f3 _ _ _ (by omega) (by omega) (by omega) (by omega)]; exact s2
      · rw [si_g _ (by decide), si_g _ (by decide), si_g _ (by decide), f3 _ _ _ (by omega) (by omega) (by omega) (by omega)]; exact (s3 j hj).symm
    obtain ⟨k0, g1, g2, g3⟩ := k00
    obtain ⟨k1, c1, c2, c3⟩ := e4 k0 200 g2 (by omega)
    have c1' : f_X6_goesOn_b15 200 (nI t) k0 = some (-9, k1) := c1
    have Fa := Fk.tr g3 c3
    have e20 : ∀ v, (si k1 20 0 10 v).1 20 0 20 = nI n := fun v => by rw [si_j _ (by decide)]; exact c2.2.1
    generalize hk2 : si (si k1 20 0 10 (V.1 0)) 20 0 11 (nI n) = k2
    have f2 : ∀ g i j, ¬ (g = 20 ∧ i = 0 ∧ (j = 10 ∨ j = 11)) → k2.1 g i j = k1.1 g i j := fun g i j z => by rw [← hk2, si_ne _ _ (by omega), si_ne _ _ (by omega)]
    have k211 : k2.1 20 0 11 = nI n := by rw [← hk2, si_at]
    have k210 : k2.1 20 0 10 = V.1 0 := by rw [← hk2, si_j _ (by decide), si_at]
    have l1 := X6_wall_l1 (F := fun c => k1.1 27 0 (98 + c)) 98 0 200 k2 (by omega) (by omega) (fun c hc => f2 _ _ _ (by omega))
    generalize hk3 : fif k2 27 0 0 98 (fun c => k1.1 27 0 (98 + c)) = k3 at l1
    have f3' : ∀ g i j, ¬ (g = 27 ∧ i = 0 ∧ j < 98) → k3.1 g i j = k2.1 g i j := fun g i j z => by rw [← hk3, fif_ne _ (by omega)]
    have k311 : k3.1 20 0 11 = nI n := by rw [f3' _ _ _ (by omega)]; exact k211
    obtain ⟨k5, r1, r2, r3, r4⟩ := X6_wall_l2 3 0 200 (wfin k3) (by omega) (by omega)
    have f4 : ∀ g i j, ¬ (g = 20 ∧ i = 0 ∧ (j = 13 ∨ j = 14 ∨ j = 15 ∨ j = 16 ∨ j = 17 ∨ j = 22)) → (wfin k3).1 g i j = k3.1 g i j := fun g i j z => by
      unfold wfin
      rw [si_ne _ _ (by omega), si_ne _ _ (by omega), si_ne _ _ (by omega), si_ne _ _ (by omega), si_ne _ _ (by omega), si_ne _ _ (by omega)]
    have f5 : ∀ g i j, g ≠ 20 → g ≠ 29 → ¬ (g = 27 ∧ i = 0) → k5.1 g i j = h3.1 g i j := fun g i j z1 z2 z3 => by
      rw [r3 _ _ _ (by omega), f4 _ _ _ (by omega), f3' _ _ _ (by omega), f2 _ _ _ (by omega), Fa.1 _ _ _ (by omega) (by omega)]
    have g20 : ∀ j, k5.1 20 0 j = (wfin k3).1 20 0 j := fun j => r3 _ _ _ (by omega)
    have M5 : MW k5 V n 0 := by
      refine ⟨W, ⟨?_, ?_, ?_, ?_, ?_, ?_, ?_, ?_⟩, fun b f hb hf => ?_, fun i hi => by omega⟩
      · rw [g20, f4 _ _ _ (by omega), f3' _ _ _ (by omega)]; exact k210
      · rw [g20, f4 _ _ _ (by omega), k311]; exact W.2.1.symm
      · rw [g20, FU_in W F, ← k311]; rfl
      · rw [g20, F.2.1]; rfl
      · rw [g20, F.2.2.1]; rfl
      · rw [g20, F.2.2.2.1]; rfl
      · rw [g20, F.2.2.2.2]; rfl
      · rw [g20]; exact W.2.2.1.symm
      · rw [r3 _ _ _ (by omega), f4 _ _ _ (by omega), ← hk3, fif_at k2 (by omega) (by omega)]
        have := c2.2.2 b f hb hf
        rw [show 7 * (14 + b) + f = 98 + (7 * b + f) by omega] at this
        exact this
    have C5 : CW k5 V n 0 := CW_g W3 (fun g i j z => f5 _ _ _ (by omega) (by omega) (by omega))
    have I5 : IW k5 V n 0 := by
      refine ⟨W, C5.2, M5.2, ?_, fun k hk => Or.inl ⟨?_, r2 k (by omega) hk⟩⟩
      · rw [f5 _ _ _ (by omega) (by omega) (by omega), q3 _ _ _ (by omega), p2 5 (by omega) (by omega), b5, if_neg (by rw [w3]; exact nI_ne0 (by omega) (by omega))]
      · rw [f5 _ _ _ (by omega) (by omega) (by omega)]; exact q2 k (by omega) hk
    refine ⟨nI n, h3, k5, ?_, ?_, Inv_w hI I5 ?_ (fun g i j z => ?_)⟩
    · rw [cl, e1, bnd_some, if_pos rfl, p1, bnd_some]
      refine Eq.trans q1 ?_
      rw [C2.1.2.1, W.2.1]
    · rw [mo h3 (by rw [f3 _ _ _ (by omega) (by omega) (by omega) (by omega)]; exact s2), g1, c1', bnd_some, if_pos rfl, c2.1, e20, hk2]
      refine Eq.trans l1 (Eq.trans r1 ?_)
      rw [f4 _ _ _ (by omega), k311]
    · rw [r4]
      show k3.2.1 = h.2.1
      rw [← hk3]
      show k2.2.1 = h.2.1
      rw [← hk2]
      show k1.2.1 = h.2.1
      rw [Fa.2, l3, e3.2]
      rfl
    · by_cases y : g = 20
      · subst y
        rw [r3 _ _ _ (by omega), f4 _ _ _ (by omega), f3' _ _ _ (by omega), f2 _ _ _ (by omega), Fa.1 _ _ _ (by omega) (by omega), f3 _ _ _ (by omega) (by omega) (by omega) (by omega)]
      · rw [f5 _ _ _ y (by omega) (by omega), f3 _ _ _ (by omega) (by omega) (by omega) (by omega)]
theorem Inv0 : Inv hp0 := by
  refine ⟨⟨rfl, rfl, fun _ _ => rfl, rfl, rfl⟩, fun _ _ => Or.inl ⟨rfl, rfl⟩, fun _ _ => Or.inl ⟨rfl, rfl⟩, Vw 0, 0, 0, Vw_WF (by omega), ⟨⟨rfl, rfl, rfl, rfl, rfl, rfl, rfl, rfl⟩, fun b hb => by omega, fun i hi => by omega, fun _ => 0, fun i hi => by omega, fun b hb => by omega, fun i j _ hj => by omega⟩, ⟨⟨rfl, rfl, rfl, rfl, rfl, rfl, rfl, rfl⟩, fun b f hb => by omega, fun i hi => by omega⟩, rfl, fun k hk => Or.inl ⟨rfl, ?_⟩⟩
  rcases (show k = 0 ∨ k = 1 ∨ k = 2 by omega) with rfl | rfl | rfl <;> rfl
theorem lawstp : LawStp Inv :=
  ⟨st_row, st_lay, st_at, st_tear, st_copy, st_mean, st_text, st_put, st_fault, st_wall, st_brick, st_mark, st_yes, st_heir, st_hang, st_wedge, st_vine, st_stands, st_falls, st_load, st_great, st_asks, st_draw, st_free, st_undo, st_ahead, st_rests, st_props, st_set, st_soon, st_owes, st_rich, st_alone, st_few, st_moved, st_frost, st_odds, st_go, st_keep, st_on, st_asked, st_upper, st_lower, st_count, st_finding, st_findings, st_digest⟩
