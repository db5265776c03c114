theorem MW_g {h h' : Hp} {V : Wv} {n dn : Nat} (W : MW h V n dn) (e : ∀ g j, (g = 20 ∨ g = 27 ∨ g = 28) → h'.1 g 0 j = h.1 g 0 j) : MW h' V n dn := by
  refine ⟨W.1, ?_⟩
  have e20 : ∀ j, h'.1 20 0 j = h.1 20 0 j := fun j => e 20 j (by omega)
  have e27 : ∀ j, h'.1 27 0 j = h.1 27 0 j := fun j => e 27 j (by omega)
  have e28 : ∀ j, h'.1 28 0 j = h.1 28 0 j := fun j => e 28 j (by omega)
  have M := W.2
  unfold MR at M ⊢
  simp only [e20, e27, e28]
  exact M
theorem MW_si {h : Hp} {V : Wv} {n dn g i j : Nat} {v : Int32} (W : MW h V n dn) (q : g ≠ 20 ∧ g ≠ 27 ∧ g ≠ 28) : MW (si h g i j v) V n dn := MW_g W (fun a b z => si_g h (by omega))
theorem one_sub {b n : Nat} (hb : b < n) (hn : n ≤ 32) : sub ((1 : Int32) <<< (nI b &&& 31)) n := fun i hi => by
  rcases Nat.lt_or_ge i 32 with z | z
  · rw [b_one (by omega) z, decide_eq_false (by omega)]
  · exact b_big z
theorem sub_or {x y : Int32} {m : Nat} (h1 : sub x m) (h2 : sub y m) : sub (x ||| y) m := fun i hi => by rw [b_or, h1 i hi, h2 i hi]; rfl
theorem sub_xor {x y : Int32} {m : Nat} (h1 : sub x m) (h2 : sub y m) : sub (x ^^^ y) m := fun i hi => by rw [b_xor, h1 i hi, h2 i hi]; rfl
theorem sub_in {x y : Int32} {m : Nat} (h1 : sub y m) (h2 : ∀ i, bt x i = true → bt y i = true) : sub x m := fun i hi => by
  cases e : bt x i
  · rfl
  · exact absurd (h2 i e) (by rw [h1 i hi]; decide)
theorem st_vine (a1 : Int32) (h : Hp) (hI : Inv h) : ∃ (r : Int32) (h1 h2 : Hp), f_X5_vine a1 h = some (r, h1) ∧ f_X6_vine a1 h1 = some (r, h2) ∧ Inv h2 := by
  obtain ⟨V, n, dn, W⟩ := Inv_W hI
  have hn := IW_n W
  rcases rng n (by omega) a1 with q | ⟨b, hb, rfl⟩
  · refine ⟨-1, h, h, ?_, ?_, hI⟩
    · unfold f_X5_vine; rw [X4_has_n (cw W) q, bnd_some, if_neg (fun z => z rfl)]
    · unfold f_X6_vine; rw [X6_askedIn_n (mw W) q, bnd_some, if_neg (by decide)]
  cases hq : bt (V.1 2) b
  · have W1 : IW (rfC h 1) V n dn := IW_rf W
    refine ⟨-3, rfC h 1, mtC (rfC h 1) 1, ?_, ?_, rm_Inv hI⟩
    · unfold f_X5_vine; rw [X4_has_y (cw W) hb, bnd_some, if_pos (by decide), X4_isIn' (cw W) hb, bnd_some, hq, bi_f, if_neg (fun z => z rfl), X5_ref1, bnd_some]
    · unfold f_X6_vine; rw [X6_askedIn_o (mw W1) hb hq, bnd_some, if_neg (by decide)]
  cases hv : bt (V.1 4) b
  · generalize hx : V.1 4 ||| ((1 : Int32) <<< (nI b &&& 31)) = v
    have vi : ∀ i, bt v i = true → bt (V.1 2) i = true := fun i z => by
      rcases Nat.lt_or_ge i 32 with y | y
      · rw [← hx, b_or, b_one (by omega) y, Bool.or_eq_true] at z
        rcases z with z | z
        · exact IW_vin W i z
        · rw [of_decide_eq_true z]; exact hq
      · rw [b_big y] at z; cases z
    have w' : WF (us V 4 v) n dn := by
      obtain ⟨r1, r2, r3, r4⟩ := WF_rest W.1
      exact WF_s W.1 rfl rfl rfl ⟨r1, r2, vi, r4⟩
    have W2 : IW (si (si h 11 1 10 v) 20 0 15 v) (us V 4 v) n dn := IW_us2 W (by omega) w'
    have M1 : MW (si h 11 1 10 v) V n dn := MW_si (mw W) (by decide)
    refine ⟨nI (pcn v 14), si h 11 1 10 v, si (si h 11 1 10 v) 20 0 15 v, ?_, ?_, Inv_w hI W2 rfl (fun g i j q => by rw [si_ne _ _ (by omega), si_ne _ _ (by omega)])⟩
    · unfold f_X5_vine
      rw [X4_has_y (cw W) hb, bnd_some, if_pos (by decide), X4_isIn' (cw W) hb, bnd_some, hq, bi_t, if_pos (by decide), X4_hasVine' (cw W) hb, bnd_some, hv, bi_f, if_pos rfl, CW_c10 (cw W), hx, si_at, bc_of (sub_in (sub_mono (IW_in W) hn) vi), bnd_some]
    · unfold f_X6_vine
      rw [X6_askedIn_i M1 hb hq, bnd_some, if_pos (by decide), MW_m15 M1, X6_has _ _ (by omega), bnd_some, hv, bi_f, if_pos rfl, MW_m15 M1, hx, si_at, X6_sizeOf, bnd_some]
  · refine ⟨-4, h, h, ?_, ?_, hI⟩
    · unfold f_X5_vine
      rw [X4_has_y (cw W) hb, bnd_some, if_pos (by decide), X4_isIn' (cw W) hb, bnd_some, hq, bi_t, if_pos (by decide), X4_hasVine' (cw W) hb, bnd_some, hv, bi_t, if_neg (by decide)]
    · unfold f_X6_vine
      rw [X6_askedIn_i (mw W) hb hq, bnd_some, if_pos (by decide), MW_m15 (mw W), X6_has _ _ (by omega), bnd_some, hv, bi_t, if_neg (by decide)]
/-! more help, more stands -/
theorem anyB_mono {p q : Nat → Bool} {n : Nat} (e : ∀ k, k < n → p k = true → q k = true) (z : anyB p n = true) : anyB q n = true := by
  obtain ⟨k, h1, h2⟩ := anyB_iff.mp z
  exact anyB_iff.mpr ⟨k, h1, e k h1 h2⟩
theorem rs_mono {V : Wv} {n b i : Nat} {s t : Nat → Bool} (e : ∀ k, k < n → s k = true → t k = true) (z : rsB V n s b i = true) : rsB V n t b i = true := by
  unfold rsB at z ⊢
  rw [Bool.or_eq_true] at z ⊢
  refine z.imp id (anyB_mono (fun k hk y => ?_))
  unfold brB at y ⊢
  rw [Bool.and_eq_true] at y ⊢
  exact ⟨e k hk y.1, y.2⟩
theorem ho_mono {V : Wv} {n b : Nat} {s t : Nat → Bool} (e : ∀ k, k < n → s k = true → t k = true) (z : hoB V n s b = true) : hoB V n t b = true := by
  have r := fun i => rs_mono (V := V) (b := b) (i := i) e
  have l : anyB (lfB V s b) n = true → anyB (lfB V t b) n = true := anyB_mono (fun k hk y => by
    unfold lfB at y ⊢
    rw [Bool.and_eq_true, Bool.and_eq_true] at y ⊢
    exact ⟨⟨e k hk y.1.1, y.1.2⟩, y.2⟩)
  have rr : anyB (rtB V s b) n = true → anyB (rtB V t b) n = true := anyB_mono (fun k hk y => by
    unfold rtB at y ⊢
    rw [Bool.and_eq_true, Bool.and_eq_true] at y ⊢
    exact ⟨⟨e k hk y.1.1, y.1.2⟩, y.2⟩)
  unfold hoB at z ⊢
  split
  · rename_i q
    rw [if_pos q] at z
    rw [Bool.or_eq_true, Bool.and_eq_true, Bool.and_eq_true, Bool.and_eq_true] at z ⊢
    exact z.imp (fun y => ⟨r 0 y.1, r 2 y.2⟩) (fun y => ⟨y.1, l y.2.1, rr y.2.2⟩)
  · rename_i q
    rw [if_neg q] at z
    split
    · rename_i q1
      rw [if_pos q1] at z
      rw [Bool.and_eq_true] at z ⊢
      exact ⟨r 0 z.1, r 1 z.2⟩
    · rename_i q1
      rw [if_neg q1] at z
      rw [Bool.or_eq_true] at z ⊢
      exact z.imp (r 0) (r 1)
theorem lv_mono {V : Wv} {n : Nat} {th th' pr pr' : Int32} (hn : n ≤ 14) (et : ∀ k, k < n → bt th k = true → bt th' k = true) (ep : ∀ k, k < n → bt pr k = true → bt pr' k = true) : ∀ l k, k < n → bt (lvS V n th pr l) k = true → bt (lvS V n th' pr' l) k = true
  | 0, k, _, z => by
    rw [show bt (lvS V n th pr 0) k = false from b_0 k] at z
    cases z
  | l + 1, k, hk, z => by
    have ih := lv_mono (V := V) hn et ep l
    have eb : ∀ th pr, bt (lvS V n th pr (l + 1)) k = (bt (lvS V n th pr l) k || dueB V n th pr (lvS V n th pr l) l k) := fun th pr => by
      show bt (lvS V n th pr l ||| mkb (dueB V n th pr (lvS V n th pr l) l) n) k = _
      rw [b_or, b_mkb _ n k (by omega) (by omega), decide_eq_true hk, Bool.true_and]
    rw [eb, Bool.or_eq_true] at z ⊢
    refine z.imp (ih k hk) (fun y => ?_)
    unfold dueB at y ⊢
    rw [Bool.and_eq_true, Bool.and_eq_true, Bool.or_eq_true] at y ⊢
    exact ⟨⟨et k hk y.1.1, y.1.2⟩, y.2.imp (ep k hk) (ho_mono ih)⟩
theorem mkn_up {p q : Nat → Bool} {b : Nat} : ∀ {n : Nat}, b < n → (∀ k, k ≠ b → q k = p k) → p b = false → q b = true → mkn q n = mkn p n + 1
  | 0, hb, _, _, _ => absurd hb (by omega)
  | n + 1, hb, e, z1, z2 => by
    unfold mkn
    by_cases k : b = n
    · subst k
      rw [z1, z2, mkn_congr (fun k hk => e k (by omega))]
      simp
    · rw [mkn_up (by omega) e z1 z2, e n (fun z => k z.symm)]
      omega
theorem and_not_0 (x y : Int32) : x &&& (y ^^^ (-1)) = 0 ↔ ∀ i, i < 32 → bt x i = true → bt y i = true := by
  constructor
  · intro e i hi z
    have h1 := congrArg (fun w => bt w i) e
    simp only [b_and, b_0, b_not _ hi, z, Bool.true_and] at h1
    cases hy : bt y i
    · rw [hy] at h1; cases h1
    · rfl
  · intro e
    apply b_ext
    intro i hi
    rw [b_and, b_0, b_not _ hi]
    cases hx : bt x i
    · rfl
    · rw [e i hi hx]; rfl
theorem st_wedge (a1 a2 : Int32) (h : Hp) (hI : Inv h) : ∃ (r : Int32) (h1 h2 : Hp), f_X5_wedge a1 a2 h = some (r, h1) ∧ f_X6_wedge a1 a2 h1 = some (r, h2) ∧ Inv h2 := by
  obtain ⟨V, n, dn, W⟩ := Inv_W hI
  have hn := IW_n W
  rcases rng n (by omega) a1 with q | ⟨b, hb, rfl⟩
  · refine ⟨-1, h, h, ?_, ?_, hI⟩
    · unfold f_X5_wedge; rw [X4_has_n (cw W) q, bnd_some, if_pos rfl]
    · unfold f_X6_wedge; rw [X6_isBrick_n (mw W) q, bnd_some, if_pos rfl]
  rcases rng 2 (by decide) a2 with q | ⟨j, hj, rfl⟩
  · refine ⟨-1, h, h, ?_, ?_, hI⟩
    · unfold f_X5_wedge
      rw [X4_has_y (cw W) hb, bnd_some, if_neg (by decide)]
      by_cases q1 : a2 < 0
      · rw [if_pos q1]
      · rw [if_neg q1, if_neg (is01_n q q1)]
    · unfold f_X6_wedge
      rw [X6_isBrick_y (mw W) hb, bnd_some, if_neg (by decide), show f_X6_in a2 0 1 h = _ from X6_rng_n (N := 1) h (by decide) q, bnd_some, if_neg (fun z => z rfl)]
  have ec : ∀ h, CW h V n dn → f_X5_wedge (nI b) (nI j) h = bnd (f_X4_isIn 1 (nI b) h) (fun v7 h8 => if ¬ v7 = 0 then (if ¬ (((h8.1 11 1 9) >>> (nI b &&& 31)) &&& (1 : Int32)) = nI j then (if ¬ nI j = 0 then (f_X5_wedge_b103 (nI j) (((1 : Int32) <<< (nI b &&& 31))) h8) else (bnd (f_X4_standingNow 1 h8) (fun v13 h14 => bnd (f_X4_standing 1 (h14.1 11 1 8) ((h14.1 11 1 9) &&& (((1 : Int32) <<< (nI b &&& 31)) ^^^ (-1 : Int32))) h14) (fun v16 h17 => if v13 = v16 then (f_X5_wedge_b103 (nI j) (((1 : Int32) <<< (nI b &&& 31))) h17) else (some ((-4 : Int32), h17)))))) else (some ((-4 : Int32), h8))) else (bnd (f_X5_refuse (1 : Int32) h8) (fun v20 h21 => some (v20, h21)))) := fun h W => by
    unfold f_X5_wedge
    rw [X4_has_y W hb, bnd_some, if_neg (by decide), if_neg (nI_pos (by omega)), if_pos (show nI j ≤ (1 : Int32) from nI_le (b := 1) (by omega) (by decide))]
  have em : ∀ h, MW h V n dn → f_X6_wedge (nI b) (nI j) h = bnd (f_X6_askedIn (nI b) h) (fun v9 h10 => if 0 ≤ v9 then (if ¬ (((h10.1 20 0 14) >>> (nI b &&& 31)) &&& (1 : Int32)) = nI j then (if ¬ nI j = 0 then (f_X6_wedge_b89 (nI j) (((h10.1 20 0 14) ^^^ ((1 : Int32) <<< (nI b &&& 31)))) h10) else (bnd (f_X6_standingNow (0 : Int32) h10) (fun v15 h16 => bnd (f_X6_standing (h16.1 20 0 13) (((h10.1 20 0 14) ^^^ ((1 : Int32) <<< (nI b &&& 31))) ||| (h16.1 20 0 15)) h16) (fun v18 h19 => if (v15 &&& (v18 ^^^ (-1 : Int32))) = 0 then (f_X6_wedge_b89 (nI j) (((h10.1 20 0 14) ^^^ ((1 : Int32) <<< (nI b &&& 31)))) h19) else (some ((-4 : Int32), h19)))))) else (some ((-4 : Int32), h10))) else (some (v9, h10))) := fun h W => by
    unfold f_X6_wedge
    rw [X6_isBrick_y W hb, bnd_some, if_neg (by decide), show f_X6_in (nI j) 0 1 _ = _ from X6_rng_y (N := 1) _ hj (by decide), bnd_some, if_pos (by decide)]
  cases hq : bt (V.1 2) b
  · have W1 : IW (rfC h 1) V n dn := IW_rf W
    refine ⟨-3, rfC h 1, mtC (rfC h 1) 1, ?_, ?_, rm_Inv hI⟩
    · rw [ec h (cw W), X4_isIn' (cw W) hb, bnd_some, hq, bi_f, if_neg (fun z => z rfl), X5_ref1, bnd_some]
    · rw [em _ (mw W1), X6_askedIn_o (mw W1) hb hq, bnd_some, if_neg (by decide)]
  have ec2 : ∀ h, CW h V n dn → f_X5_wedge (nI b) (nI j) h = _ := fun h W => by
    rw [ec h W, X4_isIn' W hb, bnd_some, hq, bi_t, if_pos (by decide), CW_c9 W, shr1 _ (by omega)]
  have em2 : ∀ h, MW h V n dn → f_X6_wedge (nI b) (nI j) h = _ := fun h W => by
    rw [em h W, X6_askedIn_i W hb hq, bnd_some, if_pos (by decide), MW_m14 W, shr1 _ (by omega)]
  by_cases qs : bi (bt (V.1 3) b) = nI j
  · refine ⟨-4, h, h, ?_, ?_, hI⟩
    · rw [ec2 h (cw W), if_neg (fun z => z qs)]
    · rw [em2 h (mw W), if_neg (fun z => z qs)]
  generalize hx : V.1 3 ^^^ ((1 : Int32) <<< (nI b &&& 31)) = v
  have bx : ∀ i, i < 32 → bt v i = (bt (V.1 3) i ^^ decide (i = b)) := fun i hi => by rw [← hx, b_xor, b_one (by omega) hi]
  have vi : ∀ i, bt v i = true → bt (V.1 2) i = true := fun i z => by
    rcases Nat.lt_or_ge i 32 with y | y
    · rw [bx i y] at z
      by_cases q : i = b
      · rw [q]; exact hq
      · rw [decide_eq_false q, Bool.xor_false] at z
        exact IW_wdg W i z
    · rw [b_big y] at z; cases z
  have ne : ∀ k, k ≠ b → bt v k = bt (V.1 3) k := fun k q => by
    rcases Nat.lt_or_ge k 32 with y | y
    · rw [bx k y, decide_eq_false q, Bool.xor_false]
    · rw [b_big y, b_big y]
  have s3 : sub (V.1 3) 14 := sub_in (sub_mono (IW_in W) hn) (IW_wdg W)
  have sv : sub v 14 := sub_in (sub_mono (IW_in W) hn) vi
  have w4 := IW_w4 W
  have fin : ∀ h', Sw 1 h h' → pcn v 14 ≤ 4 → ∃ h2, f_X5_wedge_b125 ((1 : Int32) <<< (nI b &&& 31)) h' = some (nI (pcn v 14), si h' 11 1 9 v) ∧ f_X6_wedge_b108 v (si h' 11 1 9 v) = some (nI (pcn v 14), h2) ∧ Inv h2 := by
    intro h' z z4
    have W1 := IW_sw z W
    have w' : WF (us V 3 v) n dn := by
      obtain ⟨r1, r2, r3, r4, r5, r6⟩ := WF_rest W.1
      exact WF_s W.1 rfl rfl rfl ⟨r1, vi, r3, r4, z4, r6⟩
    have W2 : IW (si (si h' 11 1 9 v) 20 0 14 v) (us V 3 v) n dn := IW_us2 W1 (by omega) w'
    refine ⟨si (si h' 11 1 9 v) 20 0 14 v, ?_, ?_, Inv_w (Inv_sw z hI) W2 rfl (fun g i j q => by rw [si_ne _ _ (by omega), si_ne _ _ (by omega)])⟩
    · unfold f_X5_wedge_b125
      rw [CW_c9 (cw W1), hx, si_at, bc_of sv, bnd_some]
    · unfold f_X6_wedge_b108
      rw [si_at, X6_sizeOf, bnd_some]
  rcases (show j = 0 ∨ j = 1 by omega) with rfl | rfl
  · have hw : bt (V.1 3) b = true := by
      cases e : bt (V.1 3) b
      · exact absurd (by rw [e]; rfl) qs
      · rfl
    have evx : V.1 3 &&& (((1 : Int32) <<< (nI b &&& 31)) ^^^ (-1)) = v := by
      apply b_ext
      intro i hi
      rw [b_and, b_not _ hi, b_one (by omega) hi, bx i hi]
      by_cases q : i = b
      · rw [decide_eq_true q, q, hw]; rfl
      · rw [decide_eq_false q]; simp
    have pv : pcn v 14 + 1 = pcn (V.1 3) 14 := by
      have := mkn_up (p := bt v) (q := bt (V.1 3)) (b := b) (n := 14) (by omega) (fun k q => (ne k q).symm) (by rw [bx b (by omega), hw]; simp) hw
      unfold pcn
      omega
    obtain ⟨h', e1, e2, -⟩ := X4_stand (cw W)
    have W1 := IW_sw e2 W
    obtain ⟨h'', e3, e4, -⟩ := X4_standing (CW_C (cw W1)) (V.1 2) v (IW_D W)
    rw [CW_c10 (cw W1)] at e3
    have W2 := IW_sw e4 W1
    have e5 := Sw.tr e2 e4
    have cl : f_X5_wedge (nI b) (nI 0) h = if St V n = lvS V n (V.1 2) (v ||| V.1 4) 12 then f_X5_wedge_b103 (nI 0) ((1 : Int32) <<< (nI b &&& 31)) h'' else some (-4, h'') := by
      rw [ec2 h (cw W), if_pos qs, if_neg (by decide), e1, bnd_some, CW_c8 (cw W1), CW_c9 (cw W1), evx, e3, bnd_some]
    have mo : ∀ h, MW h V n dn → f_X6_wedge (nI b) (nI 0) h = if St V n &&& (lvS V n (V.1 2) (v ||| V.1 4) 12 ^^^ (-1)) = 0 then f_X6_wedge_b89 (nI 0) v h else some (-4, h) := fun h W => by
      rw [em2 h W, if_pos qs, if_neg (by decide), X6_stand W, bnd_some, StO_0, MW_m13 W, MW_m15 W, hx, X6_standing (MW_M W), bnd_some]
    have key : St V n = lvS V n (V.1 2) (v ||| V.1 4) 12 ↔ St V n &&& (lvS V n (V.1 2) (v ||| V.1 4) 12 ^^^ (-1)) = 0 := by
      rw [and_not_0]
      constructor
      · intro z i hi y
        rw [← z]; exact y
      · intro z
        apply b_ext
        intro i hi
        by_cases q : i < n
        · cases hs : bt (St V n) i
          · cases ht : bt (lvS V n (V.1 2) (v ||| V.1 4) 12) i
            · rfl
            · rw [← hs]
              exact (lv_mono hn (fun k _ y => y) (fun k hk y => by
                rw [b_or, Bool.or_eq_true] at y ⊢
                refine y.imp (fun x => ?_) id
                by_cases q2 : k = b
                · rw [q2]; exact hw
                · rw [← ne k q2]; exact x) 12 i q ht)
          · rw [z i hi hs]
        · rw [St_sub W.1 i (by omega), lvS_sub V _ _ hn 12 i (by omega)]
    by_cases q0 : St V n = lvS V n (V.1 2) (v ||| V.1 4) 12
    · obtain ⟨h2, f1, f2, f3⟩ := fin h'' e5 (by omega)
      refine ⟨nI (pcn v 14), si h'' 11 1 9 v, h2, ?_, ?_, f3⟩
      · rw [cl, if_pos q0]
        unfold f_X5_wedge_b103
        rw [if_pos (by decide)]
        exact f1
      · rw [mo _ (MW_si (mw W2) (by decide)), if_pos (key.mp q0)]
        unfold f_X6_wedge_b89
        rw [if_pos (by decide)]
        exact f2
    · refine ⟨-4, h'', h'', ?_, ?_, Inv_sw e5 hI⟩
      · rw [cl, if_neg q0]
      · rw [mo _ (mw W2), if_neg (fun z => q0 (key.mpr z))]
  · have hw : bt (V.1 3) b = false := by
      cases e : bt (V.1 3) b
      · rfl
      · exact absurd (by rw [e]; rfl) qs
    have pv : pcn v 14 = pcn (V.1 3) 14 + 1 := mkn_up (b := b) (by omega) ne hw (by rw [bx b (by omega), hw]; simp)
    by_cases q4 : pcn (V.1 3) 14 < 4
    · obtain ⟨h2, f1, f2, f3⟩ := fin h Sw.rfl' (by omega)
      refine ⟨nI (pcn v 14), si h 11 1 9 v, h2, ?_, ?_, f3⟩
      · rw [ec2 h (cw W), if_pos qs, if_pos (by decide)]
        unfold f_X5_wedge_b103
        rw [if_neg (fun z => z rfl), CW_c9 (cw W), bc_of s3, bnd_some, if_pos (show nI (pcn (V.1 3) 14) < (4 : Int32) from nI_lt (b := 4) q4 (by decide))]
        exact f1
      · have M1 : MW (si h 11 1 9 v) V n dn := MW_si (mw W) (by decide)
        rw [em2 _ M1, if_pos qs, if_pos (by decide), hx]
        unfold f_X6_wedge_b89
        rw [if_neg (fun z => z rfl), MW_m14 M1, X6_sizeOf, bnd_some, if_pos (show ¬ nI (pcn (V.1 3) 14) = (4 : Int32) from fun z => by have := (nI_eq (b := 4) (by omega) (by decide)).mp z; omega)]
        exact f2
    · refine ⟨-2, h, h, ?_, ?_, hI⟩
      · rw [ec2 h (cw W), if_pos qs, if_pos (by decide)]
        unfold f_X5_wedge_b103
        rw [if_neg (fun z => z rfl), CW_c9 (cw W), bc_of s3, bnd_some, if_neg (show ¬ nI (pcn (V.1 3) 14) < (4 : Int32) from nI_nlt (b := 4) (by omega) (by omega))]
      · rw [em2 _ (mw W), if_pos qs, if_pos (by decide)]
        unfold f_X6_wedge_b89
        rw [if_neg (fun z => z rfl), MW_m14 (mw W), X6_sizeOf, bnd_some, if_neg (fun z => z (by rw [show pcn (V.1 3) 14 = 4 by omega]; rfl))]
