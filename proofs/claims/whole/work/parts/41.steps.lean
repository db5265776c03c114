theorem Inv_W {h : Hp} (hI : Inv h) : ∃ V n dn, IW h V n dn := hI.2.2.2
theorem IW_si {h : Hp} {V : Wv} {n dn g i j : Nat} {v : Int32} (W : IW h V n dn) (q : ¬ wcore g i j) : IW (si h g i j v) V n dn := IW_of (fun a b c z => si_ne _ _ (fun y => q (by rw [← y.1, ← y.2.1, ← y.2.2]; exact z))) W
theorem IW_rf {h : Hp} {V : Wv} {n dn f : Nat} (W : IW h V n dn) : IW (rfC h f) V n dn := IW_si (IW_si W (by unfold wcore; omega)) (by unfold wcore; omega)
theorem IW_mt {h : Hp} {V : Wv} {n dn f : Nat} (W : IW h V n dn) : IW (mtC h f) V n dn := IW_si (IW_si W (by unfold wcore; omega)) (by unfold wcore; omega)
theorem X5_ref1 (h : Hp) : f_X5_refuse 1 h = some (-3, rfC h 1) := X5_refuse (f := 1) h (by decide)
theorem X6_met1 (h : Hp) : f_X6_meet 1 h = some (-3, mtC h 1) := X6_meet (f := 1) h (by decide)
section ST1
variable {h : Hp} {V : Wv} {n dn : Nat}
/-- what is told of a brick -/
def tel (V : Wv) (b j : Nat) : Int32 := if j ≤ 5 then V.2.1 b j else if j = 6 then bi (bt (V.1 2) b) else if j = 7 then bi (bt (V.1 3) b) + 2 * bi (bt (V.1 4) b) else V.2.1 b 6
theorem X4_tells (W : CW h V n dn) {b j : Nat} (hb : b < n) (hj : j < 9) : f_X4_tells 1 (nI b) (nI j) h = some (tel V b j, h) := by
  have hn := WF_n W.1
  obtain ⟨c0, c1, c2, c3, c4, c5, c6, c7⟩ := W.2.2.1 b hb
  unfold f_X4_tells
  rw [if_pos (inb_t (by omega) (by decide)), nI_clamp (by omega), CW_c8 W, CW_c9 W, CW_c10 W, shr1 _ (by omega), shr1 _ (by omega), shr1 _ (by omega), c0, c1, c2, c4, c5, c6, c7]
  rcases (show j = 0 ∨ j = 1 ∨ j = 2 ∨ j = 3 ∨ j = 4 ∨ j = 5 ∨ j = 6 ∨ j = 7 ∨ j = 8 by omega) with rfl | rfl | rfl | rfl | rfl | rfl | rfl | rfl | rfl <;> rfl
theorem M_of (W : MW h V n dn) {b j : Nat} (hb : b < n) (hj : j < 7) : f_X6_of (nI b) (nI j) h = some (V.2.1 b j, h) := by
  have hn := WF_n W.1
  rw [X6_of h (by omega) hj, W.2.2.1 b j hb hj]
theorem X6_brickOf (W : MW h V n dn) {b j : Nat} (hb : b < n) (hj : j < 9) : f_X6_brickOf (nI b) (nI j) h = some (tel V b j, h) := by
  have hn := WF_n W.1
  unfold f_X6_brickOf tel
  by_cases q : j ≤ 5
  · rw [if_neg (show ¬ (5 : Int32) < nI j from nI_nlt (a := 5) q (by decide)), M_of W hb (by omega), bnd_some, if_pos q]
  · rw [if_pos (show (5 : Int32) < nI j from nI_lt (a := 5) (by omega) (by omega)), if_neg q]
    unfold f_X6_brickOf_b59
    rw [MW_m13 W, MW_m14 W, X6_has _ h (by omega), X6_has _ h (by omega), bnd_some, bnd_some, MW_m15 W, X6_has _ h (by omega), bnd_some, bnd_some, show f_X6_of (nI b) 6 h = _ from M_of W hb (j := 6) (by decide), bnd_some]
    rcases (show j = 6 ∨ j = 7 ∨ j = 8 by omega) with rfl | rfl | rfl
    · cases bt (V.1 2) b <;> rfl
    · cases bt (V.1 3) b <;> cases bt (V.1 4) b <;> rfl
    · rfl
end ST1
theorem st_brick (a1 a2 : Int32) (h : Hp) (hI : Inv h) : ∃ (r : Int32) (h1 h2 : Hp), f_X5_brick a1 a2 h = some (r, h1) ∧ f_X6_brick a1 a2 h1 = some (r, h2) ∧ Inv h2 := by
  obtain ⟨V, n, dn, W⟩ := Inv_W hI
  have hn := IW_n W
  rcases rng n (by omega) a1 with q | ⟨b, hb, rfl⟩
  · refine ⟨-1, h, h, ?_, ?_, hI⟩
    · unfold f_X5_brick; rw [X4_has_n (cw W) q, bnd_some, if_pos rfl]
    · unfold f_X6_brick; rw [X6_isBrick_n (mw W) q, bnd_some, if_pos rfl]
  rcases rng 9 (by decide) a2 with q | ⟨j, hj, rfl⟩
  · refine ⟨-1, h, h, ?_, ?_, hI⟩
    · unfold f_X5_brick
      rw [X4_has_y (cw W) hb, bnd_some, if_neg (by decide)]
      by_cases q1 : a2 < 0
      · rw [if_pos q1]
      · rw [if_neg q1, if_neg (fun z => absurd (Int32.le_trans (q.resolve_left q1) z) (by decide))]
    · unfold f_X6_brick
      rw [X6_isBrick_y (mw W) hb, bnd_some, if_neg (by decide), show f_X6_in a2 0 8 h = _ from X6_rng_n (N := 8) h (by decide) q, bnd_some, if_pos rfl]
  refine ⟨1, si h 0 0 7 (tel V b j), ask2 h (tel V b j), ?_, ?_, ask_Inv hI⟩
  · unfold f_X5_brick
    rw [X4_has_y (cw W) hb, bnd_some, if_neg (by decide), if_neg (nI_pos (by omega)), if_pos (show nI j ≤ (8 : Int32) from nI_le (b := 8) (by omega) (by decide)), X4_tells (cw W) hb hj, bnd_some]
  · have W1 : IW (si h 0 0 7 (tel V b j)) V n dn := IW_si W (by unfold wcore; omega)
    unfold f_X6_brick
    rw [X6_isBrick_y (mw W1) hb, bnd_some, if_neg (by decide), show f_X6_in (nI j) 0 8 _ = _ from X6_rng_y (N := 8) _ hj (by decide), bnd_some, if_neg (by decide), X6_brickOf (mw W1) hb hj, bnd_some]
    rfl
theorem st_stands (h : Hp) (hI : Inv h) : ∃ (r : Int32) (h1 h2 : Hp), f_X5_stands h = some (r, h1) ∧ f_X6_stands h1 = some (r, h2) ∧ Inv h2 := by
  obtain ⟨V, n, dn, W⟩ := Inv_W hI
  obtain ⟨h', e1, e2, -⟩ := X4_stand (cw W)
  have W1 := IW_sw e2 W
  have W2 : IW (si h' 0 0 7 (V.1 2 &&& (St V n ^^^ (-1)))) V n dn := IW_si W1 (by unfold wcore; omega)
  refine ⟨St V n, si h' 0 0 7 (V.1 2 &&& (St V n ^^^ (-1))), ask2 h' (V.1 2 &&& (St V n ^^^ (-1))), ?_, ?_, ask_Inv (Inv_sw e2 hI)⟩
  · unfold f_X5_stands
    rw [e1, bnd_some, CW_c8 (cw W1)]
  · unfold f_X6_stands
    rw [X6_stand (mw W2), bnd_some, StO_0, MW_m13 (mw W2)]
    rfl
theorem st_falls (a1 : Int32) (h : Hp) (hI : Inv h) : ∃ (r : Int32) (h1 h2 : Hp), f_X5_falls a1 h = some (r, h1) ∧ f_X6_falls a1 h1 = some (r, h2) ∧ Inv h2 := by
  obtain ⟨V, n, dn, W⟩ := Inv_W hI
  by_cases q : a1 < 0 ∨ ¬ sub a1 n
  · refine ⟨-1, h, h, ?_, ?_, hI⟩
    · unfold f_X5_falls; rw [X4_hasAll_n (cw W) q, bnd_some, if_neg (fun z => z rfl)]
    · unfold f_X6_falls; rw [X6_isSet_n (mw W) q, bnd_some, if_neg (fun z => z rfl)]
  have q0 : ¬ a1 < 0 := fun z => q (Or.inl z)
  have q1 : sub a1 n := Classical.byContradiction fun z => q (Or.inr z)
  by_cases q2 : a1 &&& (V.1 2 ^^^ (-1)) = 0
  · obtain ⟨h', e1, e2⟩ := X4_falls (cw W) a1
    have W1 := IW_sw e2 W
    refine ⟨Fl V n a1, h', h', ?_, ?_, Inv_sw e2 hI⟩
    · unfold f_X5_falls
      rw [X4_hasAll_y (cw W) q0 q1, bnd_some, if_pos (by decide), CW_c8 (cw W), if_pos q2, e1, bnd_some]
    · unfold f_X6_falls
      rw [X6_isSet_y (mw W1) q0 q1, bnd_some, if_pos (by decide), MW_m13 (mw W1), if_pos q2, X6_falls' (mw W1), bnd_some]
  · have W1 : IW (rfC h 1) V n dn := IW_rf W
    refine ⟨-3, rfC h 1, mtC (rfC h 1) 1, ?_, ?_, rm_Inv hI⟩
    · unfold f_X5_falls
      rw [X4_hasAll_y (cw W) q0 q1, bnd_some, if_pos (by decide), CW_c8 (cw W), if_neg q2, X5_ref1, bnd_some]
    · unfold f_X6_falls
      rw [X6_isSet_y (mw W1) q0 q1, bnd_some, if_pos (by decide), MW_m13 (mw W1), if_neg q2, X6_met1, bnd_some]
theorem X4_loadOf {h : Hp} {V : Wv} {n dn k : Nat} (W : CW h V n dn) : ∃ h', f_X4_loadOf 1 (nI k) h = some (nI (pcn (Fl V n ((1 : Int32) <<< (nI k &&& 31))) 14), h') ∧ Sw 1 h h' := by
  unfold f_X4_loadOf
  obtain ⟨h', e1, e2⟩ := X4_falls W ((1 : Int32) <<< (nI k &&& 31))
  refine ⟨h', ?_, e2⟩
  rw [e1, bnd_some, bc_of (sub_mono (Fl_sub W.1 _) (WF_n W.1)), bnd_some]
theorem st_load (a1 : Int32) (h : Hp) (hI : Inv h) : ∃ (r : Int32) (h1 h2 : Hp), f_X5_load a1 h = some (r, h1) ∧ f_X6_load a1 h1 = some (r, h2) ∧ Inv h2 := by
  obtain ⟨V, n, dn, W⟩ := Inv_W hI
  have hn := IW_n W
  rcases rng n (by omega) a1 with q | ⟨b, hb, rfl⟩
  · refine ⟨-1, h, h, ?_, ?_, hI⟩
    · unfold f_X5_load; rw [X4_has_n (cw W) q, bnd_some, if_neg (fun z => z rfl)]
    · unfold f_X6_load; rw [X6_askedIn_n (mw W) q, bnd_some, if_neg (by decide)]
  cases hq : bt (V.1 2) b
  · have W1 : IW (rfC h 1) V n dn := IW_rf W
    refine ⟨-3, rfC h 1, mtC (rfC h 1) 1, ?_, ?_, rm_Inv hI⟩
    · unfold f_X5_load; rw [X4_has_y (cw W) hb, bnd_some, if_pos (by decide), X4_isIn' (cw W) hb, bnd_some, hq, bi_f, if_neg (fun z => z rfl), X5_ref1, bnd_some]
    · unfold f_X6_load; rw [X6_askedIn_o (mw W1) hb hq, bnd_some, if_neg (by decide)]
  · obtain ⟨h', e1, e2⟩ := X4_loadOf (k := b) (cw W)
    have W1 := IW_sw e2 W
    refine ⟨nI (pcn (Fl V n ((1 : Int32) <<< (nI b &&& 31))) 14), h', h', ?_, ?_, Inv_sw e2 hI⟩
    · unfold f_X5_load; rw [X4_has_y (cw W) hb, bnd_some, if_pos (by decide), X4_isIn' (cw W) hb, bnd_some, hq, bi_t, if_pos (by decide), e1, bnd_some]
    · unfold f_X6_load; rw [X6_askedIn_i (mw W1) hb hq, bnd_some, if_pos (by decide), X6_falls' (mw W1), bnd_some, X6_sizeOf, bnd_some]
