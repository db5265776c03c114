/-! changes of the wall's numbers -/
theorem WF_s {V : Wv} {n dn : Nat} {s : Nat → Int32} (W : WF V n dn) (e0 : s 0 = V.1 0) (e1 : s 1 = V.1 1) (e7 : s 7 = V.1 7)
    (r : sub (s 2) n ∧ (∀ i, bt (s 3) i = true → bt (s 2) i = true) ∧ (∀ i, bt (s 4) i = true → bt (s 2) i = true) ∧ sub (s 5) 6 ∧
      pcn (s 3) 14 ≤ 4 ∧ (∃ y, y ≤ 1000 ∧ s 6 = nI y) ∧ Dj V n (bt (s 2)) ∧
      (∀ i, i < dn → ∃ b, b < n ∧ V.2.2 i = nI b ∧ bt (s 2) b = false) ∧ (∀ i j, i < dn → j < dn → V.2.2 i = V.2.2 j → i = j) ∧ dn + pcn (s 2) 14 ≤ n) : WF (s, V.2) n dn :=
  ⟨W.1, e1.trans W.2.1, e7.trans W.2.2.1, by
    obtain ⟨wd, x1, x2, x3⟩ := W.2.2.2.1
    exact ⟨wd, x1, e0.trans x2, x3⟩, W.2.2.2.2.1, W.2.2.2.2.2.1, W.2.2.2.2.2.2.1, r⟩
theorem IW_s {h h' : Hp} {V : Wv} {n dn : Nat} {s : Nat → Int32} (W : IW h V n dn) (w' : WF (s, V.2) n dn) (e0 : s 0 = V.1 0)
    (c : h'.1 11 1 6 = s 0 ∧ h'.1 11 1 7 = s 1 ∧ h'.1 11 1 8 = s 2 ∧ h'.1 11 1 9 = s 3 ∧ h'.1 11 1 10 = s 4 ∧ h'.1 11 1 11 = s 5 ∧ h'.1 11 1 12 = s 6 ∧ h'.1 11 1 13 = s 7)
    (m : h'.1 20 0 10 = s 0 ∧ h'.1 20 0 11 = s 1 ∧ h'.1 20 0 13 = s 2 ∧ h'.1 20 0 14 = s 3 ∧ h'.1 20 0 15 = s 4 ∧ h'.1 20 0 16 = s 5 ∧ h'.1 20 0 17 = s 6 ∧ h'.1 20 0 22 = s 7)
    (b : h'.1 11 1 5 = h.1 11 1 5) (r : ∀ g i j, wcore g i j → ¬ (g = 11 ∧ i = 1) → ¬ g = 20 → h'.1 g i j = h.1 g i j) : IW h' (s, V.2) n dn := by
  obtain ⟨H1, H2, H3, H4, H5⟩ := W
  have hn := H1.1
  refine ⟨w', ⟨c, fun x hx => ?_, fun i hi => ?_, ?_⟩, ⟨m, fun x f hx hf => ?_, fun i hi => ?_⟩, ?_, fun k hk => ?_⟩
  · have e : ∀ j, h'.1 17 (14 * 1 + x) j = h.1 17 (14 * 1 + x) j := fun j => r 17 _ j (by unfold wcore; omega) (by omega) (by omega)
    rw [e, e, e, e, e, e, e, e]
    exact H2.2.1 x hx
  · rw [r 14 1 i (by unfold wcore; omega) (by omega) (by omega)]
    exact H2.2.2.1 i hi
  · obtain ⟨od, o1, o2, o3⟩ := H2.2.2.2
    exact ⟨od, fun i hi => by rw [r 13 1 i (by unfold wcore; omega) (by omega) (by omega)]; exact o1 i hi, o2, o3⟩
  · rw [r 27 0 _ (by unfold wcore; omega) (by omega) (by omega)]
    exact H3.2.1 x f hx hf
  · rw [r 28 0 i (by unfold wcore; omega) (by omega) (by omega)]
    exact H3.2.2 i hi
  · rw [b, H4]
    show _ = if s 0 = 0 then _ else _
    rw [e0]
  · have e29 : ∀ j, h'.1 29 0 j = h.1 29 0 j := fun j => r 29 0 j (by unfold wcore; omega) (by omega) (by omega)
    have e11 : ∀ j, h'.1 11 (2 + k) j = h.1 11 (2 + k) j := fun j => r 11 _ j (by unfold wcore; omega) (by omega) (by omega)
    have e13 : ∀ j, h'.1 13 (2 + k) j = h.1 13 (2 + k) j := fun j => r 13 _ j (by unfold wcore; omega) (by omega) (by omega)
    have e14 : ∀ j, h'.1 14 (2 + k) j = h.1 14 (2 + k) j := fun j => r 14 _ j (by unfold wcore; omega) (by omega) (by omega)
    have e17 : ∀ b j, h'.1 17 (14 * (2 + k) + b) j = h.1 17 (14 * (2 + k) + b) j := fun b j => r 17 _ j (by unfold wcore; omega) (by omega) (by omega)
    have K := H5 k hk
    unfold Kept CR KR at K ⊢
    simp only [e29, e11, e13, e14, e17]
    show _ ∨ (_ ∧ ¬ s 0 = 0 ∧ ∃ U n dn, WF U n dn ∧ U.1 0 = s 0 ∧ _)
    rw [e0]
    exact K
/-- Inv again, when only the wall changed -/
theorem Inv_w {h h' : Hp} {V : Wv} {n dn : Nat} (hI : Inv h) (W : IW h' V n dn) (l : h'.2.1 = h.2.1)
    (e : ∀ g i j, ((g = 0 ∧ (j = 6 ∨ j = 7)) ∨ g = 3 ∨ g = 4 ∨ g = 7 ∨ g = 8 ∨ g = 19 ∨ g = 21 ∨ g = 22 ∨ g = 23 ∨ g = 25 ∨ g = 26 ∨ (g = 20 ∧ (j = 0 ∨ j = 2))) → h'.1 g i j = h.1 g i j) : Inv h' := by
  obtain ⟨⟨x1, x2, x3, x4, x5⟩, R, T, -⟩ := hI
  refine ⟨⟨?_, ?_, fun f hf => ?_, by rw [l]; exact x4, by rw [l]; exact x5⟩, InvR_of (fun g i j q => e g i j (by omega)) R, InvT_of (fun g i j q => e g i j (by omega)) T, ⟨V, n, dn, W⟩⟩
  · rw [e 0 0 6 (by omega), e 20 0 0 (by omega)]; exact x1
  · rw [e 0 0 7 (by omega), e 20 0 2 (by omega)]; exact x2
  · rw [e 19 0 f (by omega), e 21 0 f (by omega)]; exact x3 f hf
theorem X5_isPerson_n {a : Int32} (h : Hp) (q : a < 0 ∨ nI 6 ≤ a) : f_X5_isPerson a h = some (0, h) := by
  unfold f_X5_isPerson
  by_cases q1 : a < 0
  · rw [if_pos q1]
  · rw [if_neg q1, if_pos (show (6 : Int32) ≤ a from q.resolve_left q1)]
theorem X5_isPerson_y {k : Nat} (h : Hp) (hk : k < 6) : f_X5_isPerson (nI k) h = some (1, h) := by
  unfold f_X5_isPerson
  rw [if_neg (nI_pos (by omega)), if_neg (show ¬ (6 : Int32) ≤ nI k from nI_ge hk (by decide))]
theorem X6_isOne_n {a : Int32} (h : Hp) (q : a < 0 ∨ nI 6 ≤ a) : f_X6_isOne a h = some (0, h) := by
  unfold f_X6_isOne
  rw [show f_X6_in a 0 5 h = some (0, h) from X6_rng_n (N := 5) h (by decide) q, bnd_some]
  rfl
theorem X6_isOne_y {k : Nat} (h : Hp) (hk : k < 6) : f_X6_isOne (nI k) h = some (1, h) := by
  unfold f_X6_isOne
  rw [show f_X6_in (nI k) 0 5 h = some (1, h) from X6_rng_y (N := 5) h hk (by decide), bnd_some]
  rfl
theorem is01_n {a : Int32} (q : a < 0 ∨ nI 2 ≤ a) (q1 : ¬ a < 0) : ¬ a ≤ 1 := fun z => absurd (Int32.le_trans (q.resolve_left q1) z) (by decide)
/-- one number of the wall anew -/
def us (V : Wv) (j : Nat) (v : Int32) : Wv := (fun i => if i = j then v else V.1 i, V.2)
theorem WF_rest {V : Wv} {n dn : Nat} (W : WF V n dn) : sub (V.1 2) n ∧ (∀ i, bt (V.1 3) i = true → bt (V.1 2) i = true) ∧ (∀ i, bt (V.1 4) i = true → bt (V.1 2) i = true) ∧ sub (V.1 5) 6 ∧
      pcn (V.1 3) 14 ≤ 4 ∧ (∃ y, y ≤ 1000 ∧ V.1 6 = nI y) ∧ Dj V n (bt (V.1 2)) ∧
      (∀ i, i < dn → ∃ b, b < n ∧ V.2.2 i = nI b ∧ bt (V.1 2) b = false) ∧ (∀ i j, i < dn → j < dn → V.2.2 i = V.2.2 j → i = j) ∧ dn + pcn (V.1 2) 14 ≤ n := W.2.2.2.2.2.2.2
theorem IW_us {h h' : Hp} {V : Wv} {n dn j : Nat} {v : Int32} (W : IW h V n dn) (hj : 3 ≤ j ∧ j ≤ 6) (w' : WF (us V j v) n dn)
    (e : ∀ g i c, wcore g i c → h'.1 g i c = if (g = 11 ∧ i = 1 ∧ c = 6 + j) ∨ (g = 20 ∧ i = 0 ∧ c = 11 + j) then v else h.1 g i c) : IW h' (us V j v) n dn := by
  have c := W.2.1.1
  have m := W.2.2.1.1
  have e11 : ∀ c, ¬ c = 6 + j → h'.1 11 1 c = h.1 11 1 c := fun c q => by rw [e 11 1 c (by unfold wcore; omega), if_neg (by omega)]
  have ev : h'.1 11 1 (6 + j) = v := by rw [e 11 1 _ (by unfold wcore; omega), if_pos (by omega)]
  have mv : h'.1 20 0 (11 + j) = v := by rw [e 20 0 _ (by unfold wcore; omega), if_pos (by omega)]
  have e20 : ∀ c, (c = 10 ∨ c = 11 ∨ c = 13 ∨ c = 14 ∨ c = 15 ∨ c = 16 ∨ c = 17 ∨ c = 22) → ¬ c = 11 + j → h'.1 20 0 c = h.1 20 0 c := fun c z q => by rw [e 20 0 c (by unfold wcore; omega), if_neg (by omega)]
  refine IW_s W w' ?_ ?_ ?_ (e11 5 (by omega)) (fun g i c q q1 q2 => by rw [e g i c q, if_neg (by omega)])
  · show (if 0 = j then v else V.1 0) = V.1 0
    rw [if_neg (by omega)]
  · refine ⟨?_, ?_, ?_, ?_, ?_, ?_, ?_, ?_⟩
    · rw [e11 6 (by omega), c.1, if_neg (by omega)]
    · rw [e11 7 (by omega), c.2.1, if_neg (by omega)]
    · rw [e11 8 (by omega), c.2.2.1, if_neg (by omega)]
    · by_cases q : 3 = j
      · subst q; rw [if_pos rfl]; exact ev
      · rw [e11 9 (by omega), c.2.2.2.1, if_neg q]
    · by_cases q : 4 = j
      · subst q; rw [if_pos rfl]; exact ev
      · rw [e11 10 (by omega), c.2.2.2.2.1, if_neg q]
    · by_cases q : 5 = j
      · subst q; rw [if_pos rfl]; exact ev
      · rw [e11 11 (by omega), c.2.2.2.2.2.1, if_neg q]
    · by_cases q : 6 = j
      · subst q; rw [if_pos rfl]; exact ev
      · rw [e11 12 (by omega), c.2.2.2.2.2.2.1, if_neg q]
    · rw [e11 13 (by omega), c.2.2.2.2.2.2.2, if_neg (by omega)]
  · refine ⟨?_, ?_, ?_, ?_, ?_, ?_, ?_, ?_⟩
    · rw [e20 10 (by omega) (by omega), m.1, if_neg (by omega)]
    · rw [e20 11 (by omega) (by omega), m.2.1, if_neg (by omega)]
    · rw [e20 13 (by omega) (by omega), m.2.2.1, if_neg (by omega)]
    · by_cases q : 3 = j
      · subst q; rw [if_pos rfl]; exact mv
      · rw [e20 14 (by omega) (by omega), m.2.2.2.1, if_neg q]
    · by_cases q : 4 = j
      · subst q; rw [if_pos rfl]; exact mv
      · rw [e20 15 (by omega) (by omega), m.2.2.2.2.1, if_neg q]
    · by_cases q : 5 = j
      · subst q; rw [if_pos rfl]; exact mv
      · rw [e20 16 (by omega) (by omega), m.2.2.2.2.2.1, if_neg q]
    · by_cases q : 6 = j
      · subst q; rw [if_pos rfl]; exact mv
      · rw [e20 17 (by omega) (by omega), m.2.2.2.2.2.2.1, if_neg q]
    · rw [e20 22 (by omega) (by omega), m.2.2.2.2.2.2.2, if_neg (by omega)]
/-- a number written on both sides -/
theorem IW_us2 {h : Hp} {V : Wv} {n dn j : Nat} {v : Int32} (W : IW h V n dn) (hj : 3 ≤ j ∧ j ≤ 6) (w' : WF (us V j v) n dn) : IW (si (si h 11 1 (6 + j) v) 20 0 (11 + j) v) (us V j v) n dn := by
  refine IW_us W hj w' (fun g i c q => ?_)
  by_cases q1 : g = 20 ∧ i = 0 ∧ c = 11 + j
  · obtain ⟨rfl, rfl, rfl⟩ := q1
    rw [if_pos (by omega)]
    exact if_pos ⟨rfl, rfl, rfl⟩
  · rw [si_ne _ _ q1]
    by_cases q2 : g = 11 ∧ i = 1 ∧ c = 6 + j
    · obtain ⟨rfl, rfl, rfl⟩ := q2
      rw [if_pos (by omega)]
      exact if_pos ⟨rfl, rfl, rfl⟩
    · rw [si_ne _ _ q2, if_neg (by omega)]
theorem st_yes (a1 a2 : Int32) (h : Hp) (hI : Inv h) : ∃ (r : Int32) (h1 h2 : Hp), f_X5_yes a1 a2 h = some (r, h1) ∧ f_X6_yes a1 a2 h1 = some (r, h2) ∧ Inv h2 := by
  obtain ⟨V, n, dn, W⟩ := Inv_W hI
  have hn := IW_n W
  rcases rng 6 (by decide) a1 with q | ⟨p, hp, rfl⟩
  · refine ⟨-1, h, h, ?_, ?_, hI⟩
    · unfold f_X5_yes; rw [X5_isPerson_n h q, bnd_some, if_pos rfl]
    · unfold f_X6_yes; rw [X6_isOne_n h q, bnd_some, if_pos rfl]
  rcases rng 2 (by decide) a2 with q | ⟨j, hj, rfl⟩
  · refine ⟨-1, h, h, ?_, ?_, hI⟩
    · unfold f_X5_yes
      rw [X5_isPerson_y h hp, bnd_some, if_neg (by decide)]
      by_cases q1 : a2 < 0
      · rw [if_pos q1]
      · rw [if_neg q1, if_neg (is01_n q q1)]
    · unfold f_X6_yes
      rw [X6_isOne_y h hp, bnd_some, if_neg (by decide), show f_X6_in a2 0 1 h = _ from X6_rng_n (N := 1) h (by decide) q, bnd_some, if_neg (fun z => z rfl)]
  generalize hv : (V.1 5 &&& ((1 : Int32) <<< (nI p &&& 31) ^^^ (-1))) ||| (nI j <<< (nI p &&& 31)) = v
  have bv : ∀ i, i < 32 → bt v i = if i = p then decide (j = 1) else bt (V.1 5) i := fun i hi => by
    rw [← hv, b_or, b_and, b_not _ hi, b_one (by omega) hi, b_shl p (by omega) _ hi]
    rcases (show j = 0 ∨ j = 1 by omega) with rfl | rfl
    · rw [show nI 0 = (0 : Int32) from rfl, b_0]
      by_cases q : i = p
      · rw [if_pos q, decide_eq_true q]; simp
      · rw [if_neg q, decide_eq_false q]; simp
    · rw [show nI 1 = (1 : Int32) from rfl]
      by_cases q : i = p
      · rw [if_pos q, decide_eq_true q, bt_1 _ (by omega)]; simp; omega
      · rw [if_neg q, decide_eq_false q, bt_1 _ (by omega)]; simp; omega
  have sv : sub v 6 := fun i hi => by
    rcases Nat.lt_or_ge i 32 with z | z
    · rw [bv i z, if_neg (by omega)]; exact IW_yes W i hi
    · exact b_big z
  have w' : WF (us V 5 v) n dn := by
    obtain ⟨r1, r2, r3, r4, r5⟩ := WF_rest W.1
    exact WF_s W.1 rfl rfl rfl ⟨r1, r2, r3, sv, r5⟩
  have W2 : IW (si (si h 11 1 11 v) 20 0 16 v) (us V 5 v) n dn := IW_us2 W (by omega) w'
  have em : (if ¬ nI j = (1 : Int32) then V.1 5 &&& ((1 : Int32) <<< (nI p &&& 31) ^^^ (-1)) else V.1 5 ||| (1 : Int32) <<< (nI p &&& 31)) = v := by
    apply b_ext
    intro i hi
    rw [bv i hi]
    rcases (show j = 0 ∨ j = 1 by omega) with rfl | rfl
    · rw [if_pos (by decide), b_and, b_not _ hi, b_one (by omega) hi]
      by_cases q : i = p
      · rw [if_pos q, decide_eq_true q]; simp
      · rw [if_neg q, decide_eq_false q]; simp
    · rw [if_neg (fun z => z rfl), b_or, b_one (by omega) hi]
      by_cases q : i = p
      · rw [if_pos q, decide_eq_true q]; simp
      · rw [if_neg q, decide_eq_false q]; simp
  refine ⟨bi (bt (V.1 5) p), si h 11 1 11 v, si (si h 11 1 11 v) 20 0 16 v, ?_, ?_, Inv_w hI W2 rfl (fun g i j q => by rw [si_ne _ _ (by omega), si_ne _ _ (by omega)])⟩
  · unfold f_X5_yes
    rw [X5_isPerson_y h hp, bnd_some, if_neg (by decide), if_neg (nI_pos (by omega)), if_pos (show nI j ≤ (1 : Int32) from nI_le (b := 1) (by omega) (by decide)), CW_c11 (cw W), shr1 _ (by omega), hv]
  · have e16 : (si h 11 1 11 v).1 20 0 16 = V.1 5 := by rw [si_g _ (by decide)]; exact MW_m16 (mw W)
    unfold f_X6_yes f_X6_yes_b54
    rw [X6_isOne_y _ hp, bnd_some, if_neg (by decide), show f_X6_in (nI j) 0 1 _ = _ from X6_rng_y (N := 1) _ hj (by decide), bnd_some, if_pos (by decide), e16, shr1 _ (by omega), ← em]
    rcases (show j = 0 ∨ j = 1 by omega) with rfl | rfl
    · rw [if_pos (by decide), if_pos (by decide)]
    · rw [if_neg (fun z => z rfl), if_neg (fun z => z rfl)]
