/-! reading a text: signs, digits, kinds, marks, on both sides -/
def SS (t L : Nat) (X : Nat → Int32) (h : Hp) (p : Nat) : Prop := h.1 9 0 2 = nI L ∧ h.1 9 0 3 = nI p ∧ h.2.2 = some t ∧ (∀ j, j < L → h.1 7 t j = X j) ∧ p ≤ L
def HS (t L : Nat) (X : Nat → Int32) (k : Hp) (p : Nat) : Prop := k.1 20 0 18 = nI p ∧ k.1 25 0 t = nI L ∧ (∀ j, j < L → k.1 26 0 (100 * t + j) = X j) ∧ p ≤ L
def sgc (L : Nat) (X : Nat → Int32) (p : Nat) : Int32 := if p < L then X p else 1000
def sgm (L : Nat) (X : Nat → Int32) (p : Nat) : Int32 := if p < L then X p else -9
def Fc (h h' : Hp) : Prop := (∀ g i j, g ≠ 9 → ¬ ((g = 11 ∨ g = 13 ∨ g = 14) ∧ i = 0) → ¬ (g = 17 ∧ i < 14) → h'.1 g i j = h.1 g i j) ∧ h'.2 = h.2
def Fk (k k' : Hp) : Prop := (∀ g i j, ¬ (g = 20 ∧ i = 0 ∧ (j = 18 ∨ j = 19 ∨ j = 20)) → ¬ (g = 27 ∧ i = 0 ∧ 98 ≤ j) → k'.1 g i j = k.1 g i j) ∧ k'.2 = k.2
theorem Fc.rf {h : Hp} : Fc h h := ⟨fun _ _ _ _ _ _ => rfl, rfl⟩
theorem Fc.tr {h h' h'' : Hp} (a : Fc h h') (b : Fc h' h'') : Fc h h'' := ⟨fun g i j z1 z2 z3 => (b.1 g i j z1 z2 z3).trans (a.1 g i j z1 z2 z3), b.2.trans a.2⟩
theorem Fk.rf {h : Hp} : Fk h h := ⟨fun _ _ _ _ _ => rfl, rfl⟩
theorem Fk.tr {h h' h'' : Hp} (a : Fk h h') (b : Fk h' h'') : Fk h h'' := ⟨fun g i j z1 z2 => (b.1 g i j z1 z2).trans (a.1 g i j z1 z2), b.2.trans a.2⟩
theorem Fc_si {h : Hp} {v : Int32} {i j : Nat} : Fc h (si h 9 i j v) := ⟨fun _ _ _ z _ _ => si_g h z, rfl⟩
theorem Fk_s {h : Hp} {v : Int32} {j : Nat} (q : j = 18 ∨ j = 19 ∨ j = 20) : Fk h (si h 20 0 j v) := ⟨fun _ _ _ z _ => si_ne _ _ (by omega), rfl⟩
theorem Fk_b {h : Hp} {v : Int32} {j : Nat} (q : 98 ≤ j) : Fk h (si h 27 0 j v) := ⟨fun _ _ _ _ z => si_ne _ _ (by omega), rfl⟩
section RDR
variable {t L : Nat} {X : Nat → Int32}
theorem SS_nx {h : Hp} {p : Nat} (S : SS t L X h p) {q : Nat} (hq : q ≤ L) : SS t L X (si h 9 0 3 (nI q)) q := by
  obtain ⟨a, b, c, d, e⟩ := S
  exact ⟨by rw [si_j _ (by decide)]; exact a, si_at _ _ _ _ _, c, fun j hj => by rw [si_g _ (by decide)]; exact d j hj, hq⟩
theorem SS_fc {h h' : Hp} {p : Nat} (S : SS t L X h p) (F : Fc h h') (e : ∀ j, h'.1 9 0 j = h.1 9 0 j) : SS t L X h' p := by
  obtain ⟨a, b, c, d, l⟩ := S
  exact ⟨by rw [e]; exact a, by rw [e]; exact b, by rw [F.2]; exact c, fun j hj => by rw [F.1 _ _ _ (by omega) (by omega) (by omega)]; exact d j hj, l⟩
theorem HS_nx {k : Hp} {p : Nat} (S : HS t L X k p) {q : Nat} (hq : q ≤ L) : HS t L X (si k 20 0 18 (nI q)) q := by
  obtain ⟨a, b, c, d⟩ := S
  exact ⟨si_at _ _ _ _ _, by rw [si_g _ (by decide)]; exact b, fun j hj => by rw [si_g _ (by decide)]; exact c j hj, hq⟩
theorem HS_b {k : Hp} {p j : Nat} {v : Int32} (S : HS t L X k p) : HS t L X (si k 27 0 j v) p := by
  obtain ⟨a, b, c, d⟩ := S
  exact ⟨by rw [si_g _ (by decide)]; exact a, by rw [si_g _ (by decide)]; exact b, fun j hj => by rw [si_g _ (by decide)]; exact c j hj, d⟩
theorem HS_o {k : Hp} {p j : Nat} {v : Int32} (S : HS t L X k p) (q : j ≠ 18) : HS t L X (si k 20 0 j v) p := by
  obtain ⟨a, b, c, d⟩ := S
  exact ⟨by rw [si_j _ (by omega)]; exact a, by rw [si_g _ (by decide)]; exact b, fun j hj => by rw [si_g _ (by decide)]; exact c j hj, d⟩
theorem X1_sign (ht : t < 4) (hL : L ≤ 100) {h : Hp} {p : Nat} (S : SS t L X h p) : f_X1_sign h = some (sgc L X p, h) := by
  obtain ⟨a, b, c, d, e⟩ := S
  unfold f_X1_sign sgc
  rw [a, b]
  by_cases q : p < L
  · have tx : ∀ k : Nat → Option (Int32 × Hp), txo h k = k t := fun k => by
      unfold txo
      rw [c]
      exact if_pos ht
    rw [if_neg (nI_ge q (by omega)), tx, if_neg (show ¬ (100 : Int32) ≤ nI p from nI_ge (b := 100) (by omega) (by decide)), tx, if_pos (inb_t (by omega) (by decide)), nI_clamp (by omega), d p q, if_pos q]
  · rw [if_pos (nI_le (by omega) (by omega)), if_neg q]
theorem X6_here (ht : t < 4) (hL : L ≤ 100) {k : Hp} {p : Nat} (S : HS t L X k p) : f_X6_here (nI t) k = some (sgm L X p, k) := by
  obtain ⟨a, b, c, d⟩ := S
  unfold f_X6_here sgm
  rw [if_pos (inb_t ht (by decide)), nI_clamp (by omega), a, b]
  by_cases q : p < L
  · rw [if_neg (nI_ge q (by omega)), n100, if_pos (inb_t (by omega) (by decide)), nI_clamp (by omega), c p q, if_pos q]
  · rw [if_pos (nI_le (by omega) (by omega)), if_neg q]
theorem dg_cases {lo cnt p : Nat} (h1 : lo + cnt ≤ 100) (h2 : 1 ≤ cnt) : (∃ d, d < cnt ∧ p < L ∧ sgc L X p = nI (lo + d) ∧ sgm L X p = nI (lo + d)) ∨ ((sgc L X p - nI lo < 0 ∨ nI cnt ≤ sgc L X p - nI lo) ∧ (sgm L X p - nI lo < 0 ∨ nI cnt ≤ sgm L X p - nI lo) ∧ (sgm L X p < nI lo ∨ nI (lo + cnt - 1) < sgm L X p)) := by
  unfold sgc sgm
  by_cases q : p < L
  · rw [if_pos q, if_pos q]
    rcases rng cnt (by omega) (X p - nI lo) with z | ⟨d, hd, e⟩
    · refine Or.inr ⟨z, z, ?_⟩
      by_cases y : X p < nI lo
      · exact Or.inl y
      · refine Or.inr (Classical.byContradiction fun y2 => ?_)
        have y0 : ¬ X p < 0 := fun u => y (Int32.lt_of_lt_of_le u (nI_pos' (by omega)))
        obtain ⟨j, hj, e⟩ := nI_of y0
        rw [e] at y y2 z
        have a1 : lo ≤ j := by
          rcases Nat.lt_or_ge j lo with u | u
          · exact absurd (nI_lt u (by omega)) y
          · exact u
        have a2 : j ≤ lo + cnt - 1 := by
          rcases Nat.lt_or_ge (lo + cnt - 1) j with u | u
          · exact absurd (nI_lt u hj) y2
          · exact u
        rw [nI_subI a1] at z
        rcases z with z | z
        · exact nI_pos (by omega) z
        · exact nI_ge (by omega) (by omega) z
    · have e2 : X p = nI (lo + d) := by
        have : X p = X p - nI lo + nI lo := (Int32.sub_add_cancel _ _).symm
        rw [this, e, nI_add, Nat.add_comm]
      exact Or.inl ⟨d, hd, q, e2, e2⟩
  · rw [if_neg q, if_neg q]
    refine Or.inr ⟨Or.inr ?_, Or.inl ?_, Or.inl (Int32.lt_of_lt_of_le (show (-9 : Int32) < 0 by decide) (nI_pos' (by omega)))⟩
    · rw [show (1000 : Int32) - nI lo = nI (1000 - lo) from nI_subI (a := 1000) (by omega)]
      exact nI_le (by omega) (by omega)
    · have e9 : ((-9 : Int32)).toInt = -9 := by decide
      rw [Int32.lt_iff_toInt_lt, fb_subI (by rw [nI_toInt (by omega), e9]; omega) (by rw [nI_toInt (by omega), e9]; omega), nI_toInt (by omega), e9]
      show _ < (0 : Int)
      omega
theorem kd_cases (p : Nat) : (∃ kk, kk ≤ 5 ∧ p < L ∧ (∀ h, f_X1_kindOf (sgc L X p) h = some (nI kk, h)) ∧ (∀ k, f_X6_kindOf (sgm L X p) k = some (nI kk, k))) ∨ ((∀ h, f_X1_kindOf (sgc L X p) h = some (-1, h)) ∧ (∀ k, f_X6_kindOf (sgm L X p) k = some (-9, k))) := by
  unfold sgc sgm
  by_cases q : p < L
  · rw [if_pos q, if_pos q]
    by_cases c1 : X p = 98
    · rw [c1]; exact Or.inl ⟨0, by omega, q, fun _ => rfl, fun _ => rfl⟩
    by_cases c2 : X p = 99
    · rw [c2]; exact Or.inl ⟨1, by omega, q, fun _ => rfl, fun _ => rfl⟩
    by_cases c3 : X p = 102
    · rw [c3]; exact Or.inl ⟨2, by omega, q, fun _ => rfl, fun _ => rfl⟩
    by_cases c4 : X p = 116
    · rw [c4]; exact Or.inl ⟨3, by omega, q, fun _ => rfl, fun _ => rfl⟩
    by_cases c5 : X p = 114
    · rw [c5]; exact Or.inl ⟨4, by omega, q, fun _ => rfl, fun _ => rfl⟩
    by_cases c6 : X p = 97
    · rw [c6]; exact Or.inl ⟨5, by omega, q, fun _ => rfl, fun _ => rfl⟩
    refine Or.inr ⟨fun h => ?_, fun k => ?_⟩
    · unfold f_X1_kindOf
      rw [if_neg c6, if_neg c1, if_neg c2, if_neg c3, if_neg c5, if_neg c4]
    · unfold f_X6_kindOf
      rw [if_pos c1, if_pos c2, if_pos c3, if_pos c4, if_pos c5, if_pos c6]
  · rw [if_neg q, if_neg q]
    exact Or.inr ⟨fun _ => rfl, fun _ => rfl⟩
theorem X1_person_y (ht : t < 4) (hL : L ≤ 100) {h : Hp} {p m : Nat} {u1 u2 : Int32} (S : SS t L X h p) (hm : m < 6) (e : sgc L X p = nI (65 + m)) (n1 : ¬ nI m = u1) (n2 : ¬ nI m = u2) : f_X1_readPerson u1 u2 h = some (nI m, si h 9 0 3 (nI (p + 1))) := by
  unfold f_X1_readPerson
  rw [X1_sign ht hL S, bnd_some, e, show nI (65 + m) - 65 = nI m from by rw [show (65 : Int32) = nI 65 from rfl, nI_subI (by omega), Nat.add_sub_cancel_left], X5_isPerson_y h hm, bnd_some, if_neg (by decide), if_neg n1, if_pos n2, S.2.1, nI_1]
theorem X1_person_n (ht : t < 4) (hL : L ≤ 100) {h : Hp} {p : Nat} {u1 u2 : Int32} (S : SS t L X h p) (q : (sgc L X p - nI 65 < 0 ∨ nI 6 ≤ sgc L X p - nI 65) ∨ ∃ m, m < 6 ∧ sgc L X p = nI (65 + m) ∧ (nI m = u1 ∨ nI m = u2)) : f_X1_readPerson u1 u2 h = some (-9, h) := by
  unfold f_X1_readPerson
  rw [X1_sign ht hL S, bnd_some]
  rcases q with q | ⟨m, hm, e, q⟩
  · rw [show f_X5_isPerson (sgc L X p - 65) h = _ from X5_isPerson_n h q, bnd_some, if_pos rfl]
  · rw [e, show nI (65 + m) - 65 = nI m from by rw [show (65 : Int32) = nI 65 from rfl, nI_subI (by omega), Nat.add_sub_cancel_left], X5_isPerson_y h hm, bnd_some, if_neg (by decide)]
    by_cases q1 : nI m = u1
    · rw [if_pos q1]
    · rw [if_neg q1, if_neg (fun z => z (q.resolve_left q1))]
/-- the model's mark -/
def mkB (k : Hp) (a : Nat) (v : Int32) (j : Nat) : Bool := !decide (k.1 27 0 (7 * a + (3 + j)) = v)
theorem X6_mark (ht : t < 4) (hL : L ≤ 100) {k : Hp} {p a i : Nat} {inP : Bool} (S : HS t L X k p) (ha : a < 28) (hi : i ≤ 2) (e : f_X6_in (sgm L X p - 65) 0 5 k = some (bi inP, k)) : f_X6_readsMark (nI t) (nI a) (nI i) k = some (bi (inP && allB (mkB k a (sgm L X p - 65)) i), si (si k 27 0 (7 * a + (3 + i)) (sgm L X p - 65)) 20 0 18 (nI p + bi (inP && allB (mkB k a (sgm L X p - 65)) i))) := by
  generalize hv : sgm L X p - 65 = v at e
  have n3' : ∀ j, (3 : Int32) + nI j = nI (3 + j) := fun j => by rw [show (3 : Int32) = nI 3 from rfl, nI_add]
  have key : ∀ (d j fuel : Nat), j + d = i → d < fuel → f_X6_readsMark_b22 fuel (nI a) (nI i) v (bi (inP && allB (mkB k a v) j)) (nI j) k = some (bi (inP && allB (mkB k a v) i), si (si k 27 0 (7 * a + (3 + i)) v) 20 0 18 (nI p + bi (inP && allB (mkB k a v) i))) := by
    intro d
    induction d with
    | zero =>
      intro j fuel hj hq
      obtain ⟨f, rfl⟩ : ∃ f, fuel = f + 1 := ⟨fuel - 1, by omega⟩
      show f_X6_readsMark_b22_body _ _ _ _ _ _ _ = _
      unfold f_X6_readsMark_b22_body f_X6_readsMark_b85
      rw [if_pos (nI_le (by omega) (by omega)), n3', X6_write v k ha (by omega), bnd_some, si_g _ (by decide), S.1, show j = i by omega]
      cases inP && allB (mkB k a v) i
      · rw [bi_f, if_pos rfl, if_pos (Or.inl rfl)]
      · rw [bi_t, if_neg (by decide), if_pos (Or.inr rfl)]
    | succ d ih =>
      intro j fuel hj hq
      obtain ⟨f, rfl⟩ : ∃ f, fuel = f + 1 := ⟨fuel - 1, by omega⟩
      have go := ih (j + 1) f (by omega) (by omega)
      rw [allB_s, ← Bool.and_assoc] at go
      show f_X6_readsMark_b22_body _ _ _ _ _ _ _ = _
      unfold f_X6_readsMark_b22_body f_X6_readsMark_b51 f_X6_readsMark_b52
      rw [if_neg (nI_ge (by omega) (by omega)), n3', X6_of k ha (by omega), bnd_some, nI_1]
      cases hb : inP && allB (mkB k a v) j
      · rw [hb] at go
        rw [bi_f, if_pos rfl]
        exact go
      · rw [hb, Bool.true_and] at go
        rw [bi_t, if_neg (by decide)]
        unfold mkB at go ⊢
        by_cases z : k.1 27 0 (7 * a + (3 + j)) = v
        · rw [if_pos z]
          rw [decide_eq_true z] at go
          exact go
        · rw [if_neg z]
          rw [decide_eq_false z] at go
          exact go
  unfold f_X6_readsMark
  rw [X6_here ht hL S, bnd_some, hv, e, bnd_some]
  have := key i 0 200 (by omega) (by omega)
  rw [show allB (mkB k a v) 0 = true from rfl, Bool.and_true] at this
  exact this
theorem X6_mark_n (ht : t < 4) (hL : L ≤ 100) {k : Hp} {p a i : Nat} (S : HS t L X k p) (ha : a < 28) (hi : i ≤ 2) (q : (sgm L X p - nI 65 < 0 ∨ nI 6 ≤ sgm L X p - nI 65) ∨ ∃ m, m < 6 ∧ sgm L X p = nI (65 + m) ∧ ∃ j, j < i ∧ k.1 27 0 (7 * a + (3 + j)) = nI m) : ∃ k', f_X6_readsMark (nI t) (nI a) (nI i) k = some (0, k') ∧ k'.1 20 0 18 = nI p ∧ (∀ g i' j, ¬ (g = 20 ∧ i' = 0 ∧ j = 18) → ¬ (g = 27 ∧ i' = 0 ∧ j = 7 * a + (3 + i)) → k'.1 g i' j = k.1 g i' j) ∧ k'.2 = k.2 := by
  have fin : ∀ v : Int32, f_X6_readsMark (nI t) (nI a) (nI i) k = some (0, si (si k 27 0 (7 * a + (3 + i)) v) 20 0 18 (nI p + 0)) → ∃ k', f_X6_readsMark (nI t) (nI a) (nI i) k = some (0, k') ∧ k'.1 20 0 18 = nI p ∧ (∀ g i' j, ¬ (g = 20 ∧ i' = 0 ∧ j = 18) → ¬ (g = 27 ∧ i' = 0 ∧ j = 7 * a + (3 + i)) → k'.1 g i' j = k.1 g i' j) ∧ k'.2 = k.2 := fun v e => ⟨_, e, by rw [si_at, Int32.add_zero], fun g i' j z1 z2 => by rw [si_ne _ _ z1, si_ne _ _ z2], rfl⟩
  rcases q with q | ⟨m, hm, e, j, hj, ej⟩
  · have e0 : f_X6_in (sgm L X p - 65) 0 5 k = some (bi false, k) := X6_rng_n (N := 5) k (by decide) q
    have := X6_mark ht hL S ha hi e0
    rw [Bool.false_and, bi_f] at this
    exact fin _ this
  · have ev : sgm L X p - 65 = nI m := by rw [e, show (65 : Int32) = nI 65 from rfl, nI_subI (by omega), Nat.add_sub_cancel_left]
    have e0 : f_X6_in (sgm L X p - 65) 0 5 k = some (bi true, k) := by rw [ev]; exact X6_rng_y (N := 5) k hm (by decide)
    have := X6_mark ht hL S ha hi e0
    rw [allB_no hj (by unfold mkB; rw [ev, ej, decide_eq_true rfl]; rfl), Bool.and_false, bi_f] at this
    exact fin _ this
theorem X6_mark_y (ht : t < 4) (hL : L ≤ 100) {k : Hp} {p a i m : Nat} (S : HS t L X k p) (ha : a < 28) (hi : i ≤ 2) (hm : m < 6) (e : sgm L X p = nI (65 + m)) (q : ∀ j, j < i → ¬ k.1 27 0 (7 * a + (3 + j)) = nI m) : f_X6_readsMark (nI t) (nI a) (nI i) k = some (1, si (si k 27 0 (7 * a + (3 + i)) (nI m)) 20 0 18 (nI (p + 1))) := by
  have ev : sgm L X p - 65 = nI m := by rw [e, show (65 : Int32) = nI 65 from rfl, nI_subI (by omega), Nat.add_sub_cancel_left]
  have e0 : f_X6_in (sgm L X p - 65) 0 5 k = some (bi true, k) := by rw [ev]; exact X6_rng_y (N := 5) k hm (by decide)
  have := X6_mark ht hL S ha hi e0
  rw [allB_iff.mpr (fun j hj => by unfold mkB; rw [ev, decide_eq_false (q j hj)]; rfl), Bool.and_self, bi_t, ev, nI_1] at this
  exact this
end RDR
/-! the draft on each side -/
def FU (V : Wv) (n : Nat) : Prop := (∀ i, i < 32 → bt (V.1 2) i = decide (i < n)) ∧ V.1 3 = 0 ∧ V.1 4 = 0 ∧ V.1 5 = 0 ∧ V.1 6 = 0
def RD (h : Hp) (V : Wv) (n : Nat) : Prop := CR h 0 V n 0 ∧ WF V n 0 ∧ FU V n ∧ h.1 11 0 5 = 1 ∧ ∃ wd, 2 ≤ wd ∧ wd ≤ 9 ∧ V.1 0 = nI wd
def MD (k : Hp) (V : Wv) (n : Nat) : Prop := k.1 20 0 19 = V.1 0 ∧ k.1 20 0 20 = nI n ∧ ∀ b f, b < n → f < 7 → k.1 27 0 (7 * (14 + b) + f) = V.2.1 b f
theorem RD_9 {h : Hp} {V : Wv} {n i j : Nat} {v : Int32} (D : RD h V n) : RD (si h 9 i j v) V n := by
  obtain ⟨⟨c1, c2, c3, od, o1, o2, o3⟩, w, f, b, r⟩ := D
  have e : ∀ g a c, g ≠ 9 → (si h 9 i j v).1 g a c = h.1 g a c := fun g a c z => si_g h z
  refine ⟨⟨?_, fun x hx => ?_, fun a ha => absurd ha (Nat.not_lt_zero a), od, fun a ha => by rw [e _ _ _ (by decide)]; exact o1 a ha, o2, o3⟩, w, f, by rw [e _ _ _ (by decide)]; exact b, r⟩
  · simp only [e 11 _ _ (by decide)]; exact c1
  · simp only [e 17 _ _ (by decide)]; exact c2 x hx
theorem MD_si {k : Hp} {V : Wv} {n i j g : Nat} {v : Int32} (D : MD k V n) (q : ¬ (g = 20 ∧ (j = 19 ∨ j = 20))) (q2 : ¬ (g = 27 ∧ 98 ≤ j ∧ j < 7 * (14 + n))) : MD (si k g i j v) V n := by
  obtain ⟨a, b, c⟩ := D
  exact ⟨by rw [si_ne _ _ (by omega)]; exact a, by rw [si_ne _ _ (by omega)]; exact b, fun x f hx hf => by rw [si_ne _ _ (by omega)]; exact c x f hx hf⟩
def bF7 (kk c x : Nat) (a3 a4 a5 : Int32) : Nat → Int32 := fun f => if f = 0 then nI kk else if f = 1 then nI c else if f = 2 then nI x else if f = 3 then a3 else if f = 4 then a4 else if f = 5 then a5 else -9
theorem bF7_NB {kk c x : Nat} (a3 a4 a5 : Int32) (hk : kk ≤ 5) (hc : c ≤ 5) (hx : x + lnk kk ≤ 9) : NB (bF7 kk c x a3 a4 a5) kk c x := ⟨rfl, rfl, rfl, hk, hc, hx⟩
theorem FU_ap {V : Wv} {n : Nat} {B : Nat → Int32} (hn : n < 14) (F : FU V n) : FU (apS V n B) (n + 1) := by
  obtain ⟨a, b, c, d, e⟩ := F
  refine ⟨fun i hi => ?_, b, c, d, e⟩
  show bt (V.1 2 ||| (1 : Int32) <<< (nI n &&& 31)) i = _
  rw [b_or, a i hi, b_one (by omega) hi]
  by_cases q : i < n
  · rw [decide_eq_true q, decide_eq_true (show i < n + 1 by omega)]; rfl
  · rw [decide_eq_false q]
    by_cases q2 : i = n
    · rw [decide_eq_true q2, decide_eq_true (show i < n + 1 by omega)]; rfl
    · rw [decide_eq_false q2, decide_eq_false (show ¬ i < n + 1 by omega)]; rfl
theorem X1_addm {h : Hp} {V : Wv} {n kk c x wd m1 m2 : Nat} {a5 : Int32} (D : RD h V n) (hn : n < 14) (hk : kk ≤ 5) (hc : c ≤ 5) (hw : V.1 0 = nI wd) (hwd : wd ≤ 9) (hx : x + lnk kk ≤ wd) (h1 : m1 < 6) (h2 : m2 < 6) (m5 : kk = 3 → ∃ p, p < 6 ∧ a5 = nI p) (m5' : kk ≠ 3 → a5 = -9) (tk : anyB (tkB (apB V n (bF7 kk c x (nI m1) (nI m2) a5)) (V.1 2) n) n = false) :
    ∃ h', f_X1_readMarks_b72 (nI kk) (nI c) (nI x) (nI m1) (nI m2) a5 h = some (1, h') ∧ RD h' (apS V n (bF7 kk c x (nI m1) (nI m2) a5)) (n + 1) ∧ Fc h h' ∧ ∀ j, h'.1 9 0 j = h.1 9 0 j := by
  obtain ⟨C, W, F, b5, wd', w1, w2, w3⟩ := D
  have N := bF7_NB (nI m1) (nI m2) a5 hk hc (show x + lnk kk ≤ 9 by omega)
  generalize hB : bF7 kk c x (nI m1) (nI m2) a5 = B at *
  obtain ⟨k1, q, a1, a2, aq, ao, a8, a7, af, al⟩ := X4_add (CB_of W C) hn N
  generalize hk2 : si (si (si k1 17 (14 * 0 + n) 4 (nI m1)) 17 (14 * 0 + n) 5 (nI m2)) 17 (14 * 0 + n) 6 a5 = k2
  have f2 : ∀ g i j, ¬ (g = 17 ∧ i = 14 * 0 + n ∧ 4 ≤ j ∧ j ≤ 6) → k2.1 g i j = k1.1 g i j := fun g i j z => by
    rw [← hk2, si_ne _ _ (by omega), si_ne _ _ (by omega), si_ne _ _ (by omega)]
  have fa : ∀ g i j, ¬ (g = 13 ∧ i = 0) → ¬ (g = 11 ∧ i = 0 ∧ (j = 7 ∨ j = 8)) → ¬ (g = 17 ∧ i = 14 * 0 + n) → k2.1 g i j = h.1 g i j := fun g i j z1 z2 z3 => by rw [f2 g i j (by omega), af g i j z1 z2 (by omega)]
  have C2 : CB k2 0 (apB V n B) (n + 1) := CB_g a2 (f2 _ _ _ (by omega)) (fun b j _ hj => f2 _ _ _ (by omega)) (fun i _ => f2 _ _ _ (by omega))
  have W2 : WF (apS V n B) (n + 1) 0 := WF_ap W hn N hw hwd hx (by rw [← hB]; exact ⟨m1, h1, rfl⟩) (by rw [← hB]; exact ⟨m2, h2, rfl⟩) (fun z => by rw [← hB]; exact m5 z) (fun z => by rw [← hB]; exact m5' z) (by rw [← hB]; rfl) tk
  refine ⟨k2, ?_, ⟨CR_ap C C2 (ap_BR (BR_of W) N) (fun j z => fa _ _ _ (by omega) (by omega) (by omega)) (by rw [f2 _ _ _ (by omega), a8]) ?_ ?_ ?_ ?_ (fun b j z => fa _ _ _ (by omega) (by omega) (by omega)) (fun i => fa _ _ _ (by omega) (by omega) (by omega)), W2, FU_ap hn F, by rw [fa _ _ _ (by omega) (by omega) (by omega)]; exact b5, wd', w1, w2, w3⟩, ⟨fun g i j z1 z2 z3 => fa g i j (by omega) (by omega) (by omega), ?_⟩, fun j => fa _ _ _ (by omega) (by omega) (by omega)⟩
  · unfold f_X1_readMarks_b72 f_X0_setMarks
    rw [a1, bnd_some, a2.2.1, show nI (n + 1) - 1 = nI n from nI_subI (b := 1) (by omega), if_pos (inb_t hn (by decide)), nI_clamp (by omega), bnd_some, hk2]
  · rw [← hk2, si_ne _ _ (by omega), si_ne _ _ (by omega), si_at, ← hB]; rfl
  · rw [← hk2, si_ne _ _ (by omega), si_at, ← hB]; rfl
  · rw [← hk2, si_at, ← hB]; rfl
  · rw [f2 _ _ _ (by omega), a7, ← hB]; rfl
  · rw [← hk2]; exact al
theorem X6_over_g {h : Hp} {a b ka kb xa xb : Nat} (ha : a < 28) (hb : b < 28) (a0 : h.1 27 0 (7 * a + 0) = nI ka) (a2 : h.1 27 0 (7 * a + 2) = nI xa) (b0 : h.1 27 0 (7 * b + 0) = nI kb) (b2 : h.1 27 0 (7 * b + 2) = nI xb) (h1 : ka ≤ 5) (h2 : kb ≤ 5) (h3 : xa ≤ 9) (h4 : xb ≤ 9) : f_X6_over (nI a) (nI b) h = some (bi (decide (xa < xb + lnk kb) && decide (xb < xa + lnk ka)), h) := by
  have l1 := lnk_le ka
  have l2 := lnk_le kb
  have o0 : f_X6_of (nI a) 0 h = some (nI ka, h) := by rw [show f_X6_of (nI a) 0 h = _ from X6_of (f := 0) h ha (by decide), a0]
  have o2 : f_X6_of (nI a) 2 h = some (nI xa, h) := by rw [show f_X6_of (nI a) 2 h = _ from X6_of (f := 2) h ha (by decide), a2]
  have p0 : f_X6_of (nI b) 0 h = some (nI kb, h) := by rw [show f_X6_of (nI b) 0 h = _ from X6_of (f := 0) h hb (by decide), b0]
  have p2 : f_X6_of (nI b) 2 h = some (nI xb, h) := by rw [show f_X6_of (nI b) 2 h = _ from X6_of (f := 2) h hb (by decide), b2]
  have wa : f_X6_widthOf (nI ka) h = some (nI (lnk ka), h) := X6_widthOf h (by omega)
  have wb : f_X6_widthOf (nI kb) h = some (nI (lnk kb), h) := X6_widthOf h (by omega)
  unfold f_X6_over
  rw [o2, bnd_some, p2, bnd_some, p0, bnd_some, wb, bnd_some, nI_add]
  by_cases q : xa < xb + lnk kb
  · rw [if_neg (nI_ge q (by omega)), o0, bnd_some, wa, bnd_some, nI_add, decide_eq_true q, Bool.true_and]
    by_cases q2 : xb < xa + lnk ka
    · rw [if_neg (nI_ge q2 (by omega)), decide_eq_true q2]; rfl
    · rw [if_pos (nI_le (by omega) (by omega)), decide_eq_false q2]; rfl
  · rw [if_pos (nI_le (by omega) (by omega)), decide_eq_false q]; rfl
