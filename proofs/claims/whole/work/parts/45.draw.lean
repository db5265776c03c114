theorem WF_sd {V : Wv} {n dn dn' : Nat} {s : Nat → Int32} {D : Nat → Int32} (W : WF V n dn) (e0 : s 0 = V.1 0) (e1 : s 1 = V.1 1) (e7 : s 7 = nI dn')
    (r : sub (s 2) n ∧ (∀ i, bt (s 3) i = true → bt (s 2) i = true) ∧ (∀ i, bt (s 4) i = true → bt (s 2) i = true) ∧ sub (s 5) 6 ∧
      pcn (s 3) 14 ≤ 4 ∧ (∃ y, y ≤ 1000 ∧ s 6 = nI y) ∧ Dj V n (bt (s 2)) ∧
      (∀ i, i < dn' → ∃ b, b < n ∧ D i = nI b ∧ bt (s 2) b = false) ∧ (∀ i j, i < dn' → j < dn' → D i = D j → i = j) ∧ dn' + pcn (s 2) 14 ≤ n) : WF (s, (V.2.1, D)) n dn' :=
  ⟨W.1, e1.trans W.2.1, e7, by
    obtain ⟨wd, x1, x2, x3⟩ := W.2.2.2.1
    exact ⟨wd, x1, e0.trans x2, x3⟩, W.2.2.2.2.1, W.2.2.2.2.2.1, W.2.2.2.2.2.2.1, r⟩
theorem IW_sd {h h' : Hp} {V : Wv} {n dn dn' : Nat} {s D : Nat → Int32} (W : IW h V n dn) (w' : WF (s, (V.2.1, D)) n dn') (e0 : s 0 = V.1 0)
    (c : h'.1 11 1 6 = s 0 ∧ h'.1 11 1 7 = s 1 ∧ h'.1 11 1 8 = s 2 ∧ h'.1 11 1 9 = s 3 ∧ h'.1 11 1 10 = s 4 ∧ h'.1 11 1 11 = s 5 ∧ h'.1 11 1 12 = s 6 ∧ h'.1 11 1 13 = s 7)
    (m : h'.1 20 0 10 = s 0 ∧ h'.1 20 0 11 = s 1 ∧ h'.1 20 0 13 = s 2 ∧ h'.1 20 0 14 = s 3 ∧ h'.1 20 0 15 = s 4 ∧ h'.1 20 0 16 = s 5 ∧ h'.1 20 0 17 = s 6 ∧ h'.1 20 0 22 = s 7)
    (b : h'.1 11 1 5 = h.1 11 1 5) (d1 : ∀ i, i < dn' → h'.1 14 1 i = D i) (d2 : ∀ i, i < dn' → h'.1 28 0 i = D i)
    (r : ∀ g i j, wcore g i j → ¬ (g = 11 ∧ i = 1) → ¬ (g = 14 ∧ i = 1) → ¬ g = 20 → ¬ g = 28 → h'.1 g i j = h.1 g i j) : IW h' (s, (V.2.1, D)) n dn' := by
  obtain ⟨H1, H2, H3, H4, H5⟩ := W
  have hn := H1.1
  refine ⟨w', ⟨c, fun x hx => ?_, d1, ?_⟩, ⟨m, fun x f hx hf => ?_, d2⟩, ?_, fun k hk => ?_⟩
  · have e : ∀ j, h'.1 17 (14 * 1 + x) j = h.1 17 (14 * 1 + x) j := fun j => r 17 _ j (by unfold wcore; omega) (by omega) (by omega) (by omega) (by omega)
    rw [e, e, e, e, e, e, e, e]
    exact H2.2.1 x hx
  · obtain ⟨od, o1, o2, o3⟩ := H2.2.2.2
    exact ⟨od, fun i hi => by rw [r 13 1 i (by unfold wcore; omega) (by omega) (by omega) (by omega) (by omega)]; exact o1 i hi, o2, o3⟩
  · rw [r 27 0 _ (by unfold wcore; omega) (by omega) (by omega) (by omega) (by omega)]
    exact H3.2.1 x f hx hf
  · rw [b, H4]
    show _ = if s 0 = 0 then _ else _
    rw [e0]
  · have e29 : ∀ j, h'.1 29 0 j = h.1 29 0 j := fun j => r 29 0 j (by unfold wcore; omega) (by omega) (by omega) (by omega) (by omega)
    have e11 : ∀ j, h'.1 11 (2 + k) j = h.1 11 (2 + k) j := fun j => r 11 _ j (by unfold wcore; omega) (by omega) (by omega) (by omega) (by omega)
    have e13 : ∀ j, h'.1 13 (2 + k) j = h.1 13 (2 + k) j := fun j => r 13 _ j (by unfold wcore; omega) (by omega) (by omega) (by omega) (by omega)
    have e14 : ∀ j, h'.1 14 (2 + k) j = h.1 14 (2 + k) j := fun j => r 14 _ j (by unfold wcore; omega) (by omega) (by omega) (by omega) (by omega)
    have e17 : ∀ b j, h'.1 17 (14 * (2 + k) + b) j = h.1 17 (14 * (2 + k) + b) j := fun b j => r 17 _ j (by unfold wcore; omega) (by omega) (by omega) (by omega) (by omega)
    have K := H5 k hk
    unfold Kept CR KR at K ⊢
    simp only [e29, e11, e13, e14, e17]
    show _ ∨ (_ ∧ ¬ s 0 = 0 ∧ ∃ U n dn, WF U n dn ∧ U.1 0 = s 0 ∧ _)
    rw [e0]
    exact K
theorem mkn_mem {p : Nat → Bool} {b : Nat} : ∀ {n : Nat}, b < n → p b = true → 0 < mkn p n
  | 0, hb, _ => absurd hb (by omega)
  | n + 1, hb, e => by
    unfold mkn
    by_cases k : b = n
    · subst k; rw [e, if_pos rfl]; omega
    · have := mkn_mem (p := p) (n := n) (by omega) e; omega
theorem mkn_sub {p q : Nat → Bool} : ∀ {n : Nat}, (∀ k, k < n → p k = true → q k = true) → mkn p n ≤ mkn q n
  | 0, _ => Nat.le_refl 0
  | n + 1, e => by
    have h1 := mkn_sub (p := p) (q := q) (n := n) (fun k hk => e k (by omega))
    have h2 := e n (by omega)
    unfold mkn
    cases hp : p n
    · cases q n <;> simp <;> omega
    · rw [h2 hp]; simp; omega
theorem st_draw (a1 : Int32) (h : Hp) (hI : Inv h) : ∃ (r : Int32) (h1 h2 : Hp), f_X5_draw a1 h = some (r, h1) ∧ f_X6_draw a1 h1 = some (r, h2) ∧ Inv h2 := by
  obtain ⟨V, n, dn, W⟩ := Inv_W hI
  have hn := IW_n W
  rcases rng n (by omega) a1 with q | ⟨b, hb, rfl⟩
  · refine ⟨-1, h, h, ?_, ?_, hI⟩
    · unfold f_X5_draw; rw [X4_has_n (cw W) q, bnd_some, if_neg (fun z => z rfl)]
    · unfold f_X6_draw; rw [X6_askedIn_n (mw W) q, bnd_some, if_neg (by decide)]
  cases hq : bt (V.1 2) b
  · have W1 : IW (rfC h 1) V n dn := IW_rf W
    refine ⟨-3, rfC h 1, mtC (rfC h 1) 1, ?_, ?_, rm_Inv hI⟩
    · unfold f_X5_draw; rw [X4_has_y (cw W) hb, bnd_some, if_pos (by decide), X4_isIn' (cw W) hb, bnd_some, hq, bi_f, if_neg (fun z => z rfl), X5_ref1, bnd_some]
    · unfold f_X6_draw; rw [X6_askedIn_o (mw W1) hb hq, bnd_some, if_neg (by decide)]
  have cl : f_X5_draw (nI b) h = if bi (agB V b (V.1 5)) = 0 then some (-4, h) else bnd (f_X4_isLoose 1 (nI b) h) (fun v13 h14 => if ¬ v13 = 0 then (bnd (f_X4_drawOut 1 (nI b) h14) (fun v17 h18 => some ((1 : Int32), h18))) else (some ((-4 : Int32), h14))) := by
    unfold f_X5_draw
    rw [X4_has_y (cw W) hb, bnd_some, if_pos (by decide), X4_isIn' (cw W) hb, bnd_some, hq, bi_t, if_pos (by decide), X4_isAgreed (cw W) hb, bnd_some]
  have no : ∀ h', MW h' V n dn → (agB V b (V.1 5) && loB V n b) = false → f_X6_draw (nI b) h' = some (-4, h') := fun h' M z => by
    unfold f_X6_draw
    rw [X6_askedIn_i M hb hq, bnd_some, if_pos (by decide), MW_m16 M, X6_mayDraw M hb, bnd_some, hq, z, Bool.true_and, bi_f, if_neg (fun z => z rfl)]
  cases ha : agB V b (V.1 5)
  · exact ⟨-4, h, h, by rw [cl, ha, bi_f, if_pos rfl], no h (mw W) (by rw [ha]; rfl), hI⟩
  rw [ha, bi_t, if_neg (by decide)] at cl
  obtain ⟨h', e1, e2⟩ := X4_isLoose (cw W) hb
  have W1 := IW_sw e2 W
  cases hl : loB V n b
  · exact ⟨-4, h', h', by rw [cl, e1, bnd_some, hl, bi_f, if_neg (fun z => z rfl)], no h' (mw W1) (by rw [ha, hl]; rfl), Inv_sw e2 hI⟩
  rw [e1, bnd_some, hl, bi_t, if_pos (by decide)] at cl
  have hpos : 0 < pcn (V.1 2) 14 := mkn_mem (b := b) (by omega) hq
  have hdp := IW_dp W
  have hdn : dn < 14 := by omega
  have nov : bt (V.1 4) b = false := by
    unfold loB at hl
    rw [Bool.and_eq_true] at hl
    cases e : bt (V.1 4) b
    · rfl
    · rw [e] at hl; cases hl.1
  generalize hx : (1 : Int32) <<< (nI b &&& 31) = x
  have bx : ∀ i, i < 32 → bt x i = decide (i = b) := fun i hi => by rw [← hx, b_one (by omega) hi]
  generalize hin : V.1 2 &&& (x ^^^ (-1)) = i'
  have bin : ∀ i, i < 32 → bt i' i = (bt (V.1 2) i && !decide (i = b)) := fun i hi => by rw [← hin, b_and, b_not _ hi, bx i hi]
  generalize hwv : V.1 3 &&& (x ^^^ (-1)) = w'
  have bwv : ∀ i, i < 32 → bt w' i = (bt (V.1 3) i && !decide (i = b)) := fun i hi => by rw [← hwv, b_and, b_not _ hi, bx i hi]
  have ew : V.1 3 &&& i' = w' := by
    apply b_ext
    intro i hi
    rw [b_and, bin i hi, bwv i hi]
    cases e : bt (V.1 3) i
    · rfl
    · rw [IW_wdg W i e]; rfl
  have inle : ∀ i, bt i' i = true → bt (V.1 2) i = true ∧ i ≠ b := fun i z => by
    rcases Nat.lt_or_ge i 32 with y | y
    · rw [bin i y, Bool.and_eq_true, Bool.not_eq_true', decide_eq_false_iff_not] at z; exact z
    · rw [b_big y] at z; cases z
  have inmk : ∀ i, bt (V.1 2) i = true → i ≠ b → bt i' i = true := fun i z y => by
    rcases Nat.lt_or_ge i 32 with q | q
    · rw [bin i q, z, decide_eq_false y]; rfl
    · rw [b_big q] at z; cases z
  have wle : ∀ i, bt w' i = true → bt (V.1 3) i = true ∧ i ≠ b := fun i z => by
    rcases Nat.lt_or_ge i 32 with y | y
    · rw [bwv i y, Bool.and_eq_true, Bool.not_eq_true', decide_eq_false_iff_not] at z; exact z
    · rw [b_big y] at z; cases z
  have ib : bt i' b = false := by rw [bin b (by omega), decide_eq_true rfl]; simp
  have pin : pcn (V.1 2) 14 = pcn i' 14 + 1 := mkn_up (b := b) (by omega) (fun k q => by
    cases e : bt (V.1 2) k
    · cases e2 : bt i' k
      · rfl
      · rw [(inle k e2).1] at e; cases e
    · exact (inmk k e q).symm) ib hq
  let s : Nat → Int32 := fun i => if i = 2 then i' else if i = 3 then w' else if i = 7 then nI (dn + 1) else V.1 i
  let D : Nat → Int32 := fun i => if i = dn then nI b else V.2.2 i
  have Dn : D dn = nI b := if_pos rfl
  have Do : ∀ i, i ≠ dn → D i = V.2.2 i := fun i z => if_neg z
  have w2 : WF (s, (V.2.1, D)) n (dn + 1) := by
    obtain ⟨r1, r2, r3, r4, r5, r6, r7, r8, r9, r10⟩ := WF_rest W.1
    refine WF_sd W.1 rfl rfl rfl ⟨sub_in r1 (fun i z => (inle i z).1), fun i z => inmk i (r2 i (wle i z).1) (wle i z).2, fun i z => inmk i (r3 i z) (fun y => by have z2 : bt (V.1 4) i = true := z; rw [y, nov] at z2; cases z2), r4, Nat.le_trans (mkn_sub (fun k _ z => (wle k z).1)) r5, r6, Dj_sub r7 (fun k _ z => (inle k z).1), fun i hi => ?_, fun i j hi hj z => ?_, ?_⟩
    · by_cases q : i = dn
      · rw [q, Dn]; exact ⟨b, hb, rfl, ib⟩
      · rw [Do i q]
        obtain ⟨c, c1, c2, c3⟩ := r8 i (by omega)
        refine ⟨c, c1, c2, ?_⟩
        cases e : bt (s 2) c
        · rfl
        · have := (inle c e).1; rw [c3] at this; cases this
    · have key : ∀ i, i < dn → V.2.2 i ≠ nI b := fun i hi z => by
        obtain ⟨c, c1, c2, c3⟩ := r8 i hi
        rw [c2] at z
        have := (nI_eq (by omega) (by omega)).mp z
        rw [this, hq] at c3
        cases c3
      by_cases q : i = dn
      · by_cases q2 : j = dn
        · omega
        · rw [q, Dn, Do j q2] at z
          exact absurd z.symm (key j (by omega))
      · by_cases q2 : j = dn
        · rw [q2, Dn, Do i q] at z
          exact absurd z (key i (by omega))
        · rw [Do i q, Do j q2] at z
          exact r9 i j (by omega) (by omega) z
    · show dn + 1 + pcn i' 14 ≤ n
      omega
  let h1 : Hp := si (si (si (si h' 11 1 8 i') 11 1 9 w') 14 1 dn (nI b)) 11 1 13 (nI (dn + 1))
  have M1 : MW h1 V n dn := MW_si (MW_si (MW_si (MW_si (mw W1) (by decide)) (by decide)) (by decide)) (by decide)
  let h2 : Hp := si (si (si (si h1 20 0 13 i') 20 0 14 w') 28 0 dn (nI b)) 20 0 22 (nI (dn + 1))
  have W2 : IW h2 (s, (V.2.1, D)) n (dn + 1) := by
    have c := W1.2.1.1
    have m := W1.2.2.1.1
    refine IW_sd W1 w2 rfl ⟨c.1, c.2.1, rfl, rfl, c.2.2.2.2.1, c.2.2.2.2.2.1, c.2.2.2.2.2.2.1, rfl⟩ ⟨m.1, m.2.1, rfl, rfl, m.2.2.2.2.1, m.2.2.2.2.2.1, m.2.2.2.2.2.2.1, rfl⟩ rfl (fun i hi => ?_) (fun i hi => ?_) (fun g i j q q1 q2 q3 q4 => ?_)
    · by_cases q : i = dn
      · rw [q, Dn]
        show (si _ 14 1 dn (nI b)).1 14 1 dn = _
        rw [si_at]
      · rw [Do i q]
        show (si _ 14 1 dn (nI b)).1 14 1 i = _
        rw [si_j _ q]
        exact W1.2.1.2.2.1 i (by omega)
    · by_cases q : i = dn
      · rw [q, Dn]
        show (si _ 28 0 dn (nI b)).1 28 0 dn = _
        rw [si_at]
      · rw [Do i q]
        show (si _ 28 0 dn (nI b)).1 28 0 i = _
        rw [si_j _ q]
        exact W1.2.2.1.2.2 i (by omega)
    · rw [si_g _ q3, si_g _ q4, si_g _ q3, si_g _ q3, si_ne _ _ (by omega), si_ne _ _ (by omega), si_ne _ _ (by omega), si_ne _ _ (by omega)]
  refine ⟨1, h1, h2, ?_, ?_, Inv_w (Inv_sw e2 hI) W2 rfl (fun g i j q => ?_)⟩
  · rw [cl]
    have e9 : ∀ x, (si h' 11 1 8 x).1 11 1 9 = V.1 3 := fun x => by rw [si_j _ (by decide)]; exact CW_c9 (cw W1)
    have e13 : ∀ x y, (si (si h' 11 1 8 x) 11 1 9 y).1 11 1 13 = nI dn := fun x y => by rw [si_j _ (by decide), si_j _ (by decide)]; exact CW_c13 (cw W1)
    have e14 : ∀ x y k z, (si (si (si h' 11 1 8 x) 11 1 9 y) 14 1 k z).1 11 1 13 = nI dn := fun x y k z => by rw [si_g _ (by decide)]; exact e13 x y
    unfold f_X4_drawOut f_X4_takeOut
    simp only [bnd_some, e9, e13, e14, CW_c8 (cw W1)]
    rw [if_neg (show ¬ (14 : Int32) ≤ nI dn from nI_ge (b := 14) hdn (by decide)), if_pos (inb_t hdn (by decide)), bnd_some, nI_clamp (by omega), nI_1, hx, hin, hwv]
  · have e14 : ∀ x, (si h1 20 0 13 x).1 20 0 14 = V.1 3 := fun x => by rw [si_j _ (by decide)]; exact MW_m14 M1
    have e22 : ∀ x y, (si (si h1 20 0 13 x) 20 0 14 y).1 20 0 22 = nI dn := fun x y => by rw [si_j _ (by decide), si_j _ (by decide)]; exact MW_m22 M1
    have e23 : ∀ x y k z, (si (si (si h1 20 0 13 x) 20 0 14 y) 28 0 k z).1 20 0 22 = nI dn := fun x y k z => by rw [si_g _ (by decide)]; exact e22 x y
    unfold f_X6_draw
    rw [X6_askedIn_i M1 hb hq, bnd_some, if_pos (by decide), MW_m16 M1, X6_mayDraw M1 hb, bnd_some, hq, ha, hl, if_pos (by decide)]
    simp only [e14, e22, e23, si_at, MW_m13 M1]
    rw [if_pos (inb_t hdn (by decide)), nI_clamp (by omega), nI_1, hx, hin, ew]
  · show (si (si (si (si h1 20 0 13 i') 20 0 14 w') 28 0 dn (nI b)) 20 0 22 (nI (dn + 1))).1 g i j = _
    rw [si_ne _ _ (by omega), si_ne _ _ (by omega), si_ne _ _ (by omega), si_ne _ _ (by omega)]
    show (si (si (si (si h' 11 1 8 i') 11 1 9 w') 14 1 dn (nI b)) 11 1 13 (nI (dn + 1))).1 g i j = _
    rw [si_ne _ _ (by omega), si_ne _ _ (by omega), si_ne _ _ (by omega), si_ne _ _ (by omega)]
