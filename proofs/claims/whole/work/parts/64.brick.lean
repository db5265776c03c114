/-! one brick of a text, on both sides at once -/
def OUT (t L : Nat) (X : Nat → Int32) (V : Wv) (n p0 : Nat) (h0 : Hp) (r : Option (Int32 × Hp)) (K : Hp → Prop) (mr : Hp → Option (Int32 × Hp)) : Prop :=
  (∃ h' q, r = some (0, h') ∧ h'.1 9 0 3 = nI q ∧ q ≤ L ∧ Fc h0 h' ∧ ∀ k, K k → ∃ k', mr k = some (0, k') ∧ k'.1 20 0 18 = nI q ∧ Fk k k') ∨
  (∃ h' q B, r = some (1, h') ∧ p0 ≤ q ∧ SS t L X h' q ∧ RD h' (apS V n B) (n + 1) ∧ Fc h0 h' ∧ ∀ k, K k → ∃ k', mr k = some (1, k') ∧ HS t L X k' q ∧ MD k' (apS V n B) (n + 1) ∧ Fk k k')
theorem OUT_step {t L : Nat} {X : Nat → Int32} {V : Wv} {n p0 p1 : Nat} {h0 h1 : Hp} {r : Option (Int32 × Hp)} {K K1 : Hp → Prop} {mr mr1 : Hp → Option (Int32 × Hp)} (o : OUT t L X V n p1 h1 r K1 mr1) (hp : p0 ≤ p1) (f : Fc h0 h1) (km : ∀ k, K k → ∃ k1, mr k = mr1 k1 ∧ K1 k1 ∧ Fk k k1) : OUT t L X V n p0 h0 r K mr := by
  rcases o with ⟨h', q, a1, a2, a3, a4, a5⟩ | ⟨h', q, B, a1, a2, a3, a4, a5, a6⟩
  · refine Or.inl ⟨h', q, a1, a2, a3, Fc.tr f a4, fun k hk => ?_⟩
    obtain ⟨k1, b1, b2, b3⟩ := km k hk
    obtain ⟨k', c1, c2, c3⟩ := a5 k1 b2
    exact ⟨k', b1.trans c1, c2, Fk.tr b3 c3⟩
  · refine Or.inr ⟨h', q, B, a1, by omega, a3, a4, Fc.tr f a5, fun k hk => ?_⟩
    obtain ⟨k1, b1, b2, b3⟩ := km k hk
    obtain ⟨k', c1, c2, c3, c4⟩ := a6 k1 b2
    exact ⟨k', b1.trans c1, c2, c3, Fk.tr b3 c4⟩
theorem X6_b204 {t kk a i f : Nat} (hk : kk ≤ 5) (hi : i ≤ 3) (k : Hp) : f_X6_readsBrick_b204 (f + 1) (nI t) (nI kk) (nI a) (nI i) k = if (if kk = 3 then 3 else 2) ≤ i then some (1, si k 20 0 20 (k.1 20 0 20 + 1)) else bnd (f_X6_readsMark (nI t) (nI a) (nI i) k) (fun v2 h3 => if ¬ v2 = 0 then f_X6_readsBrick_b204 f (nI t) (nI kk) (nI a) (nI (i + 1)) h3 else some (0, h3)) := by
  show f_X6_readsBrick_b204_body _ _ _ _ _ _ = _
  unfold f_X6_readsBrick_b204_body f_X6_readsBrick_b216
  rw [nI_1]
  by_cases q : kk = 3
  · rw [if_neg (fun z => z (by rw [q]; rfl)), if_pos q]
    by_cases q2 : 3 ≤ i
    · rw [if_pos (show (3 : Int32) ≤ nI i from nI_le (a := 3) q2 (by omega)), if_pos q2]
    · rw [if_neg (show ¬ (3 : Int32) ≤ nI i from nI_ge (b := 3) (by omega) (by decide)), if_neg q2]
  · rw [if_pos (ne3 (by omega) q), if_neg q]
    by_cases q2 : 2 ≤ i
    · rw [if_pos (show (2 : Int32) ≤ nI i from nI_le (a := 2) q2 (by omega)), if_pos q2]
    · rw [if_neg (show ¬ (2 : Int32) ≤ nI i from nI_ge (b := 2) (by omega) (by decide)), if_neg q2]
theorem MD_end {k : Hp} {V : Wv} {n : Nat} {B : Nat → Int32} (D : MD k V n) (s : ∀ f, f < 7 → k.1 27 0 (7 * (14 + n) + f) = B f) : MD (si k 20 0 20 (nI (n + 1))) (apS V n B) (n + 1) := by
  obtain ⟨a, b, c⟩ := D
  refine ⟨by rw [si_j _ (by decide)]; exact a, si_at _ _ _ _ _, fun x f hx hf => ?_⟩
  show _ = (apB V n B).2.1 x f
  rw [si_g _ (by decide)]
  by_cases q : x = n
  · rw [q, ap_n]; exact s f hf
  · rw [ap_lt _ q]; exact c x f (by omega) hf
theorem mk_step {t L : Nat} {X : Nat → Int32} {V : Wv} {n i m p : Nat} {k : Hp} (H : HS t L X k p) (D : MD k V n) (hp : p + 1 ≤ L) : HS t L X (si (si k 27 0 (7 * (14 + n) + (3 + i)) (nI m)) 20 0 18 (nI (p + 1))) (p + 1) ∧ MD (si (si k 27 0 (7 * (14 + n) + (3 + i)) (nI m)) 20 0 18 (nI (p + 1))) V n ∧ Fk k (si (si k 27 0 (7 * (14 + n) + (3 + i)) (nI m)) 20 0 18 (nI (p + 1))) ∧ (si (si k 27 0 (7 * (14 + n) + (3 + i)) (nI m)) 20 0 18 (nI (p + 1))).1 27 0 (7 * (14 + n) + (3 + i)) = nI m ∧ ∀ f, f ≠ 3 + i → (si (si k 27 0 (7 * (14 + n) + (3 + i)) (nI m)) 20 0 18 (nI (p + 1))).1 27 0 (7 * (14 + n) + f) = k.1 27 0 (7 * (14 + n) + f) := by
  refine ⟨HS_nx (HS_b H) hp, MD_si (MD_si D (by omega) (by omega)) (by omega) (by omega), Fk.tr (Fk_b (by omega)) (Fk_s (by omega)), ?_, fun f hf => ?_⟩
  · rw [si_g _ (by decide), si_at]
  · rw [si_g _ (by decide), si_j _ (by omega)]
/-- slots of the brick that is being read -/
def KA (t L : Nat) (X : Nat → Int32) (V : Wv) (n p kk c x : Nat) (k : Hp) : Prop := HS t L X k p ∧ MD k V n ∧ k.1 27 0 (7 * (14 + n) + 0) = nI kk ∧ k.1 27 0 (7 * (14 + n) + 1) = nI c ∧ k.1 27 0 (7 * (14 + n) + 2) = nI x ∧ k.1 27 0 (7 * (14 + n) + 5) = -9 ∧ k.1 27 0 (7 * (14 + n) + 6) = -9
theorem st_marks {t L : Nat} {X : Nat → Int32} {h : Hp} {V : Wv} {n p kk c x wd : Nat} (ht : t < 4) (hL : L ≤ 100) (S : SS t L X h p) (D : RD h V n) (hn : n < 14) (hk : kk ≤ 5) (hc : c ≤ 5) (hw : V.1 0 = nI wd) (hwd : wd ≤ 9) (hx : x + lnk kk ≤ wd) (tk : ∀ B, NB B kk c x → anyB (tkB (apB V n B) (V.1 2) n) n = false) :
    OUT t L X V n p h (f_X1_readMarks (nI kk) (nI c) (nI x) h) (KA t L X V n p kk c x) (fun k => f_X6_readsBrick_b204 200 (nI t) (nI kk) (nI (14 + n)) 0 k) := by
  have ha : 14 + n < 28 := by omega
  have m9 : ∀ m, m < 6 → ¬ nI m = (-9 : Int32) := fun m hm => nI_m9 (by omega)
  have nm0 : ¬ (if kk = 3 then 3 else 2) ≤ 0 := by split <;> omega
  have nm1 : ¬ (if kk = 3 then 3 else 2) ≤ 1 := by split <;> omega
  have b0 : ∀ k, f_X6_readsBrick_b204 200 (nI t) (nI kk) (nI (14 + n)) 0 k = bnd (f_X6_readsMark (nI t) (nI (14 + n)) (nI 0) k) (fun v2 h3 => if ¬ v2 = 0 then f_X6_readsBrick_b204 199 (nI t) (nI kk) (nI (14 + n)) (nI 1) h3 else some (0, h3)) := fun k => by
    rw [show f_X6_readsBrick_b204 200 (nI t) (nI kk) (nI (14 + n)) 0 k = _ from X6_b204 (i := 0) hk (by omega) k, if_neg nm0]
  have b1 : ∀ k, f_X6_readsBrick_b204 199 (nI t) (nI kk) (nI (14 + n)) (nI 1) k = bnd (f_X6_readsMark (nI t) (nI (14 + n)) (nI 1) k) (fun v2 h3 => if ¬ v2 = 0 then f_X6_readsBrick_b204 198 (nI t) (nI kk) (nI (14 + n)) (nI 2) h3 else some (0, h3)) := fun k => by
    rw [X6_b204 (f := 198) (i := 1) hk (by omega) k, if_neg nm1]
  have fl : ∀ {k k' : Hp} {i : Nat}, i ≤ 2 → (∀ g i' j, ¬ (g = 20 ∧ i' = 0 ∧ j = 18) → ¬ (g = 27 ∧ i' = 0 ∧ j = 7 * (14 + n) + (3 + i)) → k'.1 g i' j = k.1 g i' j) → k'.2 = k.2 → Fk k k' := fun hi f1 f2 => ⟨fun g i' j z1 z2 => f1 g i' j (by omega) (by omega), f2⟩
  unfold f_X1_readMarks
  rcases dg_cases (L := L) (X := X) (p := p) (lo := 65) (cnt := 6) (by omega) (by omega) with ⟨m1, hm1, pL, ec, em⟩ | ⟨bc, bm, -⟩
  · have S1 := SS_nx S (show p + 1 ≤ L by omega)
    have D1 : RD (si h 9 0 3 (nI (p + 1))) V n := RD_9 D
    rw [X1_person_y ht hL S hm1 ec (m9 m1 hm1) (m9 m1 hm1), bnd_some, if_pos (m9 m1 hm1)]
    -- the model behind the first mark
    have K1 : ∀ k, KA t L X V n p kk c x k → ∃ k1, f_X6_readsBrick_b204 200 (nI t) (nI kk) (nI (14 + n)) 0 k = f_X6_readsBrick_b204 199 (nI t) (nI kk) (nI (14 + n)) (nI 1) k1 ∧ (KA t L X V n (p + 1) kk c x k1 ∧ k1.1 27 0 (7 * (14 + n) + (3 + 0)) = nI m1) ∧ Fk k k1 := fun k K => by
      obtain ⟨H, M, s0, s1, s2, s5, s6⟩ := K
      obtain ⟨q1, q2, q3, q4, q5⟩ := mk_step (i := 0) (m := m1) H M (show p + 1 ≤ L by omega)
      refine ⟨_, ?_, ⟨⟨q1, q2, (q5 0 (by omega)).trans s0, (q5 1 (by omega)).trans s1, (q5 2 (by omega)).trans s2, (q5 5 (by omega)).trans s5, (q5 6 (by omega)).trans s6⟩, q4⟩, q3⟩
      rw [b0, X6_mark_y ht hL H ha (by omega) hm1 em (fun j hj => by omega), bnd_some, if_pos (by decide)]
    refine OUT_step (p1 := p + 1) (h1 := si h 9 0 3 (nI (p + 1))) (K1 := fun k => KA t L X V n (p + 1) kk c x k ∧ k.1 27 0 (7 * (14 + n) + (3 + 0)) = nI m1) (mr1 := fun k => f_X6_readsBrick_b204 199 (nI t) (nI kk) (nI (14 + n)) (nI 1) k) ?_ (by omega) Fc_si K1
    generalize si h 9 0 3 (nI (p + 1)) = h1 at S1 D1
    have f2 : ((sgc L X (p + 1) - nI 65 < 0 ∨ nI 6 ≤ sgc L X (p + 1) - nI 65) ∨ ∃ m, m < 6 ∧ sgc L X (p + 1) = nI (65 + m) ∧ (nI m = nI m1 ∨ nI m = -9)) → ((sgm L X (p + 1) - nI 65 < 0 ∨ nI 6 ≤ sgm L X (p + 1) - nI 65) ∨ ∃ m, m < 6 ∧ sgm L X (p + 1) = nI (65 + m) ∧ nI m1 = nI m) → OUT t L X V n (p + 1) h1 (bnd (f_X1_readPerson (nI m1) (-9 : Int32) h1) (fun v5 h6 => if ¬ v5 = (-9 : Int32) then (if ¬ nI kk = (3 : Int32) then (f_X1_readMarks_b56 (nI kk) (nI c) (nI x) (nI m1) (v5) ((-9 : Int32)) h6) else (bnd (f_X1_readPerson (nI m1) v5 h6) (fun v10 h11 => f_X1_readMarks_b56 (nI kk) (nI c) (nI x) (nI m1) (v5) (v10) h11))) else (some ((0 : Int32), h6)))) (fun k => KA t L X V n (p + 1) kk c x k ∧ k.1 27 0 (7 * (14 + n) + (3 + 0)) = nI m1) (fun k => f_X6_readsBrick_b204 199 (nI t) (nI kk) (nI (14 + n)) (nI 1) k) := fun z1 z2 => by
      rw [X1_person_n ht hL S1 z1, bnd_some, if_neg (fun z => z rfl)]
      refine Or.inl ⟨h1, p + 1, rfl, S1.2.1, S1.2.2.2.2, Fc.rf, fun k K => ?_⟩
      obtain ⟨⟨H, M, s0, s1, s2, s5, s6⟩, s3⟩ := K
      obtain ⟨k', r1, r2, r3, r4⟩ := X6_mark_n (i := 1) ht hL H ha (by omega) (z2.imp id (fun ⟨m, y1, y2, y3⟩ => ⟨m, y1, y2, 0, by omega, s3.trans y3⟩))
      exact ⟨k', by dsimp only; rw [b1, r1, bnd_some, if_neg (fun z => z rfl)], r2, fl (by omega) r3 r4⟩
    rcases dg_cases (L := L) (X := X) (p := p + 1) (lo := 65) (cnt := 6) (by omega) (by omega) with ⟨m2, hm2, pL2, ec2, em2⟩ | ⟨bc, bm, -⟩
    · by_cases e12 : m2 = m1
      · exact f2 (Or.inr ⟨m2, hm2, ec2, Or.inl (by rw [e12])⟩) (Or.inr ⟨m2, hm2, em2, by rw [e12]⟩)
      · have n21 : ¬ nI m2 = nI m1 := fun z => e12 ((nI_eq (by omega) (by omega)).mp z)
        have S2 := SS_nx S1 (show p + 1 + 1 ≤ L by omega)
        have D2 : RD (si h1 9 0 3 (nI (p + 1 + 1))) V n := RD_9 D1
        rw [X1_person_y ht hL S1 hm2 ec2 n21 (m9 m2 hm2), bnd_some, if_pos (m9 m2 hm2)]
        have K2 : ∀ k, (KA t L X V n (p + 1) kk c x k ∧ k.1 27 0 (7 * (14 + n) + (3 + 0)) = nI m1) → ∃ k1, f_X6_readsBrick_b204 199 (nI t) (nI kk) (nI (14 + n)) (nI 1) k = f_X6_readsBrick_b204 198 (nI t) (nI kk) (nI (14 + n)) (nI 2) k1 ∧ (KA t L X V n (p + 1 + 1) kk c x k1 ∧ k1.1 27 0 (7 * (14 + n) + (3 + 0)) = nI m1 ∧ k1.1 27 0 (7 * (14 + n) + (3 + 1)) = nI m2) ∧ Fk k k1 := fun k K => by
          obtain ⟨⟨H, M, s0, s1, s2, s5, s6⟩, s3⟩ := K
          obtain ⟨q1, q2, q3, q4, q5⟩ := mk_step (i := 1) (m := m2) H M (show p + 1 + 1 ≤ L by omega)
          refine ⟨_, ?_, ⟨⟨q1, q2, (q5 0 (by omega)).trans s0, (q5 1 (by omega)).trans s1, (q5 2 (by omega)).trans s2, (q5 5 (by omega)).trans s5, (q5 6 (by omega)).trans s6⟩, (q5 (3 + 0) (by omega)).trans s3, q4⟩, q3⟩
          rw [b1, X6_mark_y ht hL H ha (by omega) hm2 em2 (fun j hj z => ?_), bnd_some, if_pos (by decide)]
          rw [show j = 0 by omega, s3] at z
          exact n21 z.symm
        refine OUT_step (p1 := p + 1 + 1) (h1 := si h1 9 0 3 (nI (p + 1 + 1))) (K1 := fun k => KA t L X V n (p + 1 + 1) kk c x k ∧ k.1 27 0 (7 * (14 + n) + (3 + 0)) = nI m1 ∧ k.1 27 0 (7 * (14 + n) + (3 + 1)) = nI m2) (mr1 := fun k => f_X6_readsBrick_b204 198 (nI t) (nI kk) (nI (14 + n)) (nI 2) k) ?_ (by omega) Fc_si K2
        generalize si h1 9 0 3 (nI (p + 1 + 1)) = h2 at S2 D2
        by_cases k3 : kk = 3
        · have b2 : ∀ k, f_X6_readsBrick_b204 198 (nI t) (nI kk) (nI (14 + n)) (nI 2) k = bnd (f_X6_readsMark (nI t) (nI (14 + n)) (nI 2) k) (fun v2 h3 => if ¬ v2 = 0 then f_X6_readsBrick_b204 197 (nI t) (nI kk) (nI (14 + n)) (nI 3) h3 else some (0, h3)) := fun k => by
            rw [X6_b204 (f := 197) (i := 2) hk (by omega) k, if_pos k3, if_neg (by omega)]
          rw [if_neg (fun z => z (by rw [k3]; rfl))]
          have f3 : ((sgc L X (p + 1 + 1) - nI 65 < 0 ∨ nI 6 ≤ sgc L X (p + 1 + 1) - nI 65) ∨ ∃ m, m < 6 ∧ sgc L X (p + 1 + 1) = nI (65 + m) ∧ (nI m = nI m1 ∨ nI m = nI m2)) → ((sgm L X (p + 1 + 1) - nI 65 < 0 ∨ nI 6 ≤ sgm L X (p + 1 + 1) - nI 65) ∨ ∃ m, m < 6 ∧ sgm L X (p + 1 + 1) = nI (65 + m) ∧ (nI m1 = nI m ∨ nI m2 = nI m)) → OUT t L X V n (p + 1 + 1) h2 (bnd (f_X1_readPerson (nI m1) (nI m2) h2) (fun v10 h11 => f_X1_readMarks_b56 (nI kk) (nI c) (nI x) (nI m1) (nI m2) (v10) h11)) (fun k => KA t L X V n (p + 1 + 1) kk c x k ∧ k.1 27 0 (7 * (14 + n) + (3 + 0)) = nI m1 ∧ k.1 27 0 (7 * (14 + n) + (3 + 1)) = nI m2) (fun k => f_X6_readsBrick_b204 198 (nI t) (nI kk) (nI (14 + n)) (nI 2) k) := fun z1 z2 => by
            rw [X1_person_n ht hL S2 z1, bnd_some]
            unfold f_X1_readMarks_b56
            rw [if_neg (fun z => z (by rw [k3]; rfl)), if_neg (fun z => z rfl)]
            refine Or.inl ⟨h2, p + 1 + 1, rfl, S2.2.1, S2.2.2.2.2, Fc.rf, fun k K => ?_⟩
            obtain ⟨⟨H, M, s0, s1, s2, s5, s6⟩, s3, s4⟩ := K
            obtain ⟨k', r1, r2, r3, r4⟩ := X6_mark_n (i := 2) ht hL H ha (by omega) (z2.imp id (fun ⟨m, y1, y2, y3⟩ => ⟨m, y1, y2, by
              rcases y3 with y3 | y3
              · exact ⟨0, by omega, s3.trans y3⟩
              · exact ⟨1, by omega, s4.trans y3⟩⟩))
            exact ⟨k', by dsimp only; rw [b2, r1, bnd_some, if_neg (fun z => z rfl)], r2, fl (by omega) r3 r4⟩
          rcases dg_cases (L := L) (X := X) (p := p + 1 + 1) (lo := 65) (cnt := 6) (by omega) (by omega) with ⟨m3, hm3, pL3, ec3, em3⟩ | ⟨bc, bm, -⟩
          · by_cases e13 : m3 = m1
            · exact f3 (Or.inr ⟨m3, hm3, ec3, Or.inl (by rw [e13])⟩) (Or.inr ⟨m3, hm3, em3, Or.inl (by rw [e13])⟩)
            by_cases e23 : m3 = m2
            · exact f3 (Or.inr ⟨m3, hm3, ec3, Or.inr (by rw [e23])⟩) (Or.inr ⟨m3, hm3, em3, Or.inr (by rw [e23])⟩)
            have n31 : ¬ nI m3 = nI m1 := fun z => e13 ((nI_eq (by omega) (by omega)).mp z)
            have n32 : ¬ nI m3 = nI m2 := fun z => e23 ((nI_eq (by omega) (by omega)).mp z)
            have S3 := SS_nx S2 (show p + 1 + 1 + 1 ≤ L by omega)
            have D3 : RD (si h2 9 0 3 (nI (p + 1 + 1 + 1))) V n := RD_9 D2
            rw [X1_person_y ht hL S2 hm3 ec3 n31 n32, bnd_some]
            unfold f_X1_readMarks_b56
            rw [if_neg (fun z => z (by rw [k3]; rfl)), if_pos (m9 m3 hm3)]
            obtain ⟨h', r1, r2, r3, r4⟩ := X1_addm (m1 := m1) (m2 := m2) (a5 := nI m3) D3 hn hk hc hw hwd hx hm1 hm2 (fun _ => ⟨m3, hm3, rfl⟩) (fun z => absurd k3 z) (tk _ (bF7_NB _ _ _ hk hc (by omega)))
            refine Or.inr ⟨h', p + 1 + 1 + 1, _, r1, by omega, SS_fc S3 r3 r4, r2, Fc.tr Fc_si r3, fun k K => ?_⟩
            obtain ⟨⟨H, M, s0, s1, s2, s5, s6⟩, s3, s4⟩ := K
            obtain ⟨q1, q2, q3, q4, q5⟩ := mk_step (i := 2) (m := m3) H M (show p + 1 + 1 + 1 ≤ L by omega)
            refine ⟨_, ?_, HS_o q1 (j := 20) (v := nI (n + 1)) (by omega), MD_end q2 (fun f hf => ?_), Fk.tr q3 (Fk_s (by omega))⟩
            · dsimp only
              rw [b2, X6_mark_y ht hL H ha (by omega) hm3 em3 (fun j hj z => ?_), bnd_some, if_pos (by decide), X6_b204 (f := 196) (i := 3) hk (by omega), if_pos k3, if_pos (by omega), q2.2.1, nI_1]
              rcases (show j = 0 ∨ j = 1 by omega) with rfl | rfl
              · rw [s3] at z; exact n31 z.symm
              · rw [s4] at z; exact n32 z.symm
            · rcases (show f = 0 ∨ f = 1 ∨ f = 2 ∨ f = 3 ∨ f = 4 ∨ f = 5 ∨ f = 6 by omega) with rfl | rfl | rfl | rfl | rfl | rfl | rfl
              · exact (q5 0 (by omega)).trans s0
              · exact (q5 1 (by omega)).trans s1
              · exact (q5 2 (by omega)).trans s2
              · exact (q5 3 (by omega)).trans s3
              · exact (q5 4 (by omega)).trans s4
              · exact q4
              · exact (q5 6 (by omega)).trans s6
          · exact f3 (Or.inl bc) (Or.inl bm)
        · rw [if_pos (ne3 (by omega) k3)]
          unfold f_X1_readMarks_b56
          rw [if_pos (ne3 (by omega) k3)]
          obtain ⟨h', r1, r2, r3, r4⟩ := X1_addm (m1 := m1) (m2 := m2) (a5 := -9) D2 hn hk hc hw hwd hx hm1 hm2 (fun z => absurd z k3) (fun _ => rfl) (tk _ (bF7_NB _ _ _ hk hc (by omega)))
          refine Or.inr ⟨h', p + 1 + 1, _, r1, by omega, SS_fc S2 r3 r4, r2, r3, fun k K => ?_⟩
          obtain ⟨⟨H, M, s0, s1, s2, s5, s6⟩, s3, s4⟩ := K
          refine ⟨_, ?_, HS_o H (j := 20) (v := nI (n + 1)) (by omega), MD_end M (fun f hf => ?_), Fk_s (by omega)⟩
          · dsimp only
            rw [X6_b204 (f := 197) (i := 2) hk (by omega), if_neg k3, if_pos (by omega), M.2.1, nI_1]
          · rcases (show f = 0 ∨ f = 1 ∨ f = 2 ∨ f = 3 ∨ f = 4 ∨ f = 5 ∨ f = 6 by omega) with rfl | rfl | rfl | rfl | rfl | rfl | rfl
            · exact s0
            · exact s1
            · exact s2
            · exact s3
            · exact s4
            · exact s5
            · exact s6
    · exact f2 (Or.inl bc) (Or.inl bm)
  · rw [X1_person_n ht hL S (Or.inl bc), bnd_some, if_neg (fun z => z rfl)]
    refine Or.inl ⟨h, p, rfl, S.2.1, S.2.2.2.2, Fc.rf, fun k K => ?_⟩
    obtain ⟨H, M, s0, s1, s2, s5, s6⟩ := K
    obtain ⟨k', r1, r2, r3, r4⟩ := X6_mark_n (i := 0) ht hL H ha (by omega) (Or.inl bm)
    exact ⟨k', by dsimp only; rw [b0, r1, bnd_some, if_neg (fun z => z rfl)], r2, fl (by omega) r3 r4⟩
/-! the model's look for a brick that is in the way -/
def rst (t kk n : Nat) (k : Hp) : Option (Int32 × Hp) := bnd (f_X6_write (nI (14 + n)) (5 : Int32) (-9 : Int32) (si k 20 0 18 ((k.1 20 0 18) + (1 : Int32)))) (fun v2 h3 => bnd (f_X6_write (nI (14 + n)) (6 : Int32) (-9 : Int32) h3) (fun v5 h6 => f_X6_readsBrick_b204 200 (nI t) (nI kk) (nI (14 + n)) ((0 : Int32)) h6))
theorem X6_b134 {t : Nat} {k : Hp} {V : Wv} {n kk c x : Nat} {B : Nat → Int32} (R : BR V n) (F : FU V n) (hn : n < 14) (N : NB B kk c x) (M : MD k V n) (s0 : k.1 27 0 (7 * (14 + n) + 0) = nI kk) (s1 : k.1 27 0 (7 * (14 + n) + 1) = nI c) (s2 : k.1 27 0 (7 * (14 + n) + 2) = nI x) : ∀ (d j fuel : Nat), j + d = n → d < fuel → (∀ i, i < j → tkB (apB V n B) (V.1 2) n i = false) → f_X6_readsBrick_b134 fuel (nI t) (nI kk) (nI (14 + n)) (nI (14 + j)) k = if anyB (tkB (apB V n B) (V.1 2) n) n = true then some (0, k) else rst t kk n k := by
  obtain ⟨n0, n1, n2, n3, n4, n5⟩ := N
  have ll := lnk_le kk
  intro d
  induction d with
  | zero =>
    intro j fuel hj hq hz
    obtain ⟨f, rfl⟩ : ∃ f, fuel = f + 1 := ⟨fuel - 1, by omega⟩
    have : j = n := by omega
    subst this
    show f_X6_readsBrick_b134_body _ _ _ _ _ _ = _
    unfold f_X6_readsBrick_b134_body
    rw [if_pos (nI_le (by omega) (by omega)), anyB_none hz, if_neg (by decide)]
    rfl
  | succ d ih =>
    intro j fuel hj hq hz
    obtain ⟨f, rfl⟩ : ∃ f, fuel = f + 1 := ⟨fuel - 1, by omega⟩
    have hjn : j < n := by omega
    obtain ⟨r0, r1, r2, r3, r4, r5⟩ := R j hjn
    have l2 := ln_ge V j
    have o1 : f_X6_of (nI (14 + j)) 1 k = some (nI (co V j), k) := by rw [show f_X6_of (nI (14 + j)) 1 k = _ from X6_of (f := 1) k (by omega) (by decide), M.2.2 j 1 hjn (by decide), r1]
    have o2 : f_X6_of (nI (14 + n)) 1 k = some (nI c, k) := by rw [show f_X6_of (nI (14 + n)) 1 k = _ from X6_of (f := 1) k (by omega) (by decide), s1]
    have ov := X6_over_g (h := k) (a := 14 + j) (b := 14 + n) (ka := kd V j) (kb := kk) (xa := hf V j) (xb := x) (by omega) (by omega) ((M.2.2 j 0 hjn (by decide)).trans r0) ((M.2.2 j 2 hjn (by decide)).trans r2) s0 s2 r3 n3 (by omega) (by omega)
    have q : j ≠ n := by omega
    have et : tkB (apB V n B) (V.1 2) n j = (decide (co V j = c) && (decide (hf V j < x + lnk kk) && decide (x < hf V j + lnk (kd V j)))) := by
      unfold tkB ovB
      rw [decide_eq_false q, F.1 j (by omega), decide_eq_true hjn, ap_co q, ap_con n1 n4, ap_hf q, ap_hfn n2 (by omega), ap_ln q, ap_lnn n0 n3]
      rfl
    have no : tkB (apB V n B) (V.1 2) n j = false → f_X6_readsBrick_b134 f (nI t) (nI kk) (nI (14 + n)) (nI (14 + (j + 1))) k = if anyB (tkB (apB V n B) (V.1 2) n) n = true then some (0, k) else rst t kk n k := fun z => ih (j + 1) f (by omega) (by omega) (fun i hi => by
      by_cases y : i = j
      · rw [y]; exact z
      · exact hz i (by omega))
    show f_X6_readsBrick_b134_body _ _ _ _ _ _ = _
    unfold f_X6_readsBrick_b134_body f_X6_readsBrick_b168
    rw [if_neg (nI_ge (by omega) (by omega)), o1, bnd_some, o2, bnd_some, ov, bnd_some, nI_1]
    by_cases z : co V j = c
    · rw [if_neg (fun y => y (by rw [z]))]
      rw [decide_eq_true z, Bool.true_and] at et
      rw [← et]
      cases hb : tkB (apB V n B) (V.1 2) n j
      · rw [bi_f, if_pos rfl]; exact no hb
      · rw [bi_t, if_neg (by decide), anyB_t hjn hb, if_pos rfl]
    · rw [if_pos (fun y => z ((nI_eq (by omega) (by omega)).mp y))]
      rw [decide_eq_false z, Bool.false_and] at et
      exact no et
/-! the stages of a brick -/
def crC (v4 c : Int32) (h : Hp) : Option (Int32 × Hp) := bnd (f_X1_sign h) (fun v14 h15 => if (v14 - (48 : Int32)) < 0 then (some ((0 : Int32), h15)) else (if (9 : Int32) ≤ (v14 - (48 : Int32)) then (some ((0 : Int32), h15)) else (bnd (f_X4_hasRoom 0 v4 c (v14 - (48 : Int32)) h15) (fun v19 h20 => if ¬ v19 = 0 then (bnd (f_X1_readMarks v4 c (v14 - (48 : Int32)) (si h20 9 0 3 ((h20.1 9 0 3) + (1 : Int32)))) (fun v23 h24 => if v23 = 0 ∨ v23 = 1 then some (v23, h24) else none)) else (some ((0 : Int32), h20))))))
def crB (v4 : Int32) (h : Hp) : Option (Int32 × Hp) := bnd (f_X1_sign h) (fun v9 h10 => if (v9 - (48 : Int32)) < 0 then (some ((0 : Int32), h10)) else (if (v9 - (48 : Int32)) < (6 : Int32) then crC v4 (v9 - (48 : Int32)) (si h10 9 0 3 ((h10.1 9 0 3) + (1 : Int32))) else (some ((0 : Int32), h10))))
theorem crA (h : Hp) : f_X1_readBrick h = bnd (f_X1_sign h) (fun v1 h2 => bnd (f_X1_kindOf v1 h2) (fun v4 h5 => if v4 < 0 then (some ((0 : Int32), h5)) else (if (h5.1 11 0 7) < (14 : Int32) then crB v4 (si h5 9 0 3 ((h5.1 9 0 3) + (1 : Int32))) else (some ((0 : Int32), h5))))) := rfl
def mrC (a1 v4 bb : Int32) (h : Hp) : Option (Int32 × Hp) := bnd (f_X6_here a1 h) (fun v25 h26 => bnd (f_X6_widthOf v4 h26) (fun v28 h29 => bnd (f_X6_in (v25 - (48 : Int32)) (0 : Int32) ((h26.1 20 0 19) - v28) h29) (fun v31 h32 => if ¬ v31 = 0 then (bnd (f_X6_write bb (2 : Int32) (v25 - (48 : Int32)) h32) (fun v35 h36 => f_X6_readsBrick_b134 200 (a1) (v4) bb ((14 : Int32)) h36)) else (some ((0 : Int32), h32)))))
def mrB (a1 v4 bb : Int32) (h10 : Hp) : Option (Int32 × Hp) := bnd (f_X6_here a1 h10) (fun v12 h13 => bnd (f_X6_in v12 (48 : Int32) (53 : Int32) h13) (fun v15 h16 => if ¬ v15 = 0 then (bnd (f_X6_here a1 h16) (fun v19 h20 => bnd (f_X6_write bb (1 : Int32) (v19 - (48 : Int32)) h20) (fun v22 h23 => mrC a1 v4 bb (si h23 20 0 18 ((h23.1 20 0 18) + (1 : Int32)))))) else (some ((0 : Int32), h16))))
theorem mrA (a1 : Int32) (h : Hp) : f_X6_readsBrick a1 h = bnd (f_X6_here a1 h) (fun v1 h2 => bnd (f_X6_kindOf v1 h2) (fun v4 h5 => if v4 = (-9 : Int32) then (some ((0 : Int32), h5)) else (if ¬ (h5.1 20 0 20) = (14 : Int32) then (bnd (f_X6_write ((14 : Int32) + ((si h5 20 0 18 ((h5.1 20 0 18) + (1 : Int32))).1 20 0 20)) (0 : Int32) v4 (si h5 20 0 18 ((h5.1 20 0 18) + (1 : Int32)))) (fun v9 h10 => mrB a1 v4 ((14 : Int32) + ((si h5 20 0 18 ((h5.1 20 0 18) + (1 : Int32))).1 20 0 20)) h10)) else (some ((0 : Int32), h5))))) := rfl
theorem d48 {m : Nat} : nI (48 + m) - 48 = nI m := by rw [show (48 : Int32) = nI 48 from rfl, nI_subI (by omega), Nat.add_sub_cancel_left]
theorem wd_hi {wd kk : Nat} (h1 : 2 ≤ wd) (h2 : wd ≤ 9) : nI wd - nI (lnk kk) < nI 9 ∧ (∀ x, x < 9 → (¬ nI wd - nI (lnk kk) < nI x ↔ x + lnk kk ≤ wd)) := by
  have ll := lnk_le kk
  by_cases q : lnk kk ≤ wd
  · rw [nI_subI q]
    refine ⟨nI_lt (by omega) (by omega), fun x hx => ⟨fun z => ?_, fun z => nI_nlt (by omega) (by omega)⟩⟩
    rcases Nat.lt_or_ge (wd - lnk kk) x with y | y
    · exact absurd (nI_lt y (by omega)) z
    · omega
  · have e1 : wd = 2 := by omega
    have e2 : lnk kk = 3 := by omega
    rw [e1, e2]
    refine ⟨by decide, fun x hx => ⟨fun z => ?_, fun z => by omega⟩⟩
    exact absurd (Int32.lt_of_lt_of_le (show nI 2 - nI 3 < 0 by decide) (nI_pos' (by omega))) z
theorem st_C {t L : Nat} {X : Nat → Int32} {h : Hp} {V : Wv} {n p kk c : Nat} (ht : t < 4) (hL : L ≤ 100) (S : SS t L X h p) (D : RD h V n) (hn : n < 14) (hk : kk ≤ 5) (hc : c ≤ 5) :
    OUT t L X V n p h (crC (nI kk) (nI c) h) (fun k => HS t L X k p ∧ MD k V n ∧ k.1 27 0 (7 * (14 + n) + 0) = nI kk ∧ k.1 27 0 (7 * (14 + n) + 1) = nI c) (mrC (nI t) (nI kk) (nI (14 + n))) := by
  obtain ⟨wd, w1, w2, w3⟩ := D.2.2.2.2
  have ll := lnk_le kk
  have R := BR_of D.2.1
  obtain ⟨hi9, hix⟩ := wd_hi (kk := kk) w1 w2
  have mw0 : ∀ k, HS t L X k p → MD k V n → mrC (nI t) (nI kk) (nI (14 + n)) k = bnd (f_X6_in (sgm L X p - 48) 0 (nI wd - nI (lnk kk)) k) (fun v31 h32 => if ¬ v31 = 0 then (bnd (f_X6_write (nI (14 + n)) (2 : Int32) (sgm L X p - 48) h32) (fun v35 h36 => f_X6_readsBrick_b134 200 (nI t) (nI kk) (nI (14 + n)) ((14 : Int32)) h36)) else (some ((0 : Int32), h32))) := fun k H M => by
    unfold mrC
    rw [X6_here ht hL H, bnd_some, show f_X6_widthOf (nI kk) k = some (nI (lnk kk), k) from X6_widthOf k (by omega), bnd_some, M.1, w3]
  have cl : ∀ r, crC (nI kk) (nI c) h = r ↔ (if (sgc L X p - (48 : Int32)) < 0 then (some ((0 : Int32), h)) else (if (9 : Int32) ≤ (sgc L X p - (48 : Int32)) then (some ((0 : Int32), h)) else (bnd (f_X4_hasRoom 0 (nI kk) (nI c) (sgc L X p - (48 : Int32)) h) (fun v19 h20 => if ¬ v19 = 0 then (bnd (f_X1_readMarks (nI kk) (nI c) (sgc L X p - (48 : Int32)) (si h20 9 0 3 ((h20.1 9 0 3) + (1 : Int32)))) (fun v23 h24 => if v23 = 0 ∨ v23 = 1 then some (v23, h24) else none)) else (some ((0 : Int32), h20)))))) = r := fun r => by
    unfold crC
    rw [X1_sign ht hL S, bnd_some]
  have cl' := (cl _).mpr rfl
  rw [cl']
  have flt : ∀ k, HS t L X k p → Fk k k := fun k _ => Fk.rf
  rcases dg_cases (L := L) (X := X) (p := p) (lo := 48) (cnt := 9) (by omega) (by omega) with ⟨x, hx, pL, ec, em⟩ | ⟨bc, bm, -⟩
  · rw [ec, d48, if_neg (nI_pos (by omega)), if_neg (show ¬ (9 : Int32) ≤ nI x from nI_ge (b := 9) hx (by decide))]
    have room := X4_hasRoom (CB_of D.2.1 D.1) R (B := bF7 kk c x 0 0 0) (kk := kk) (c := c) (x := x) rfl rfl rfl hk hc (by omega) w2 (D.1.1.1.trans w3)
    rw [room, bnd_some, D.1.1.2.2.1]
    by_cases xw : x + lnk kk ≤ wd
    · rw [decide_eq_true xw, Bool.true_and]
      have N0 := bF7_NB (kk := kk) (c := c) (x := x) 0 0 0 hk hc (by omega)
      have mw1 : ∀ k, HS t L X k p → MD k V n → k.1 27 0 (7 * (14 + n) + 0) = nI kk → k.1 27 0 (7 * (14 + n) + 1) = nI c → mrC (nI t) (nI kk) (nI (14 + n)) k = if anyB (tkB (apB V n (bF7 kk c x 0 0 0)) (V.1 2) n) n = true then some (0, si k 27 0 (7 * (14 + n) + 2) (nI x)) else rst t kk n (si k 27 0 (7 * (14 + n) + 2) (nI x)) := fun k H M s0 s1 => by
        rw [mw0 k H M, em, d48, X6_in_y k (nI_pos (by omega)) ((hix x hx).mpr xw), bnd_some, if_pos (by decide), show f_X6_write (nI (14 + n)) 2 (nI x) k = _ from X6_write (f := 2) (nI x) k (by omega) (by decide), bnd_some]
        exact X6_b134 R D.2.2.1 hn N0 (MD_si M (by omega) (by omega)) (by rw [si_j _ (by omega)]; exact s0) (by rw [si_j _ (by omega)]; exact s1) (si_at _ _ _ _ _) n 0 200 (by omega) (by omega) (fun i hi => by omega)
      cases ta : anyB (tkB (apB V n (bF7 kk c x 0 0 0)) (V.1 2) n) n
      · have S1 := SS_nx S (show p + 1 ≤ L by omega)
        have D1 : RD (si h 9 0 3 (nI (p + 1))) V n := RD_9 D
        rw [Bool.not_false, bi_t, if_pos (by decide), S.2.1, nI_1]
        have o := st_marks ht hL S1 D1 hn hk hc w3 w2 xw (fun B NBB => by rw [tk_ap _ N0 NBB]; exact ta)
        have o2 := OUT_step (p0 := p) (h0 := h) (K := fun k => HS t L X k p ∧ MD k V n ∧ k.1 27 0 (7 * (14 + n) + 0) = nI kk ∧ k.1 27 0 (7 * (14 + n) + 1) = nI c) (mr := mrC (nI t) (nI kk) (nI (14 + n))) o (by omega) Fc_si (fun k ⟨H, M, s0, s1⟩ => ?_)
        · rcases o2 with ⟨h', q, a1, a2, a3, a4, a5⟩ | ⟨h', q, B, a1, a2, a3, a4, a5, a6⟩
          · exact Or.inl ⟨h', q, by rw [a1, bnd_some, if_pos (Or.inl rfl)], a2, a3, a4, a5⟩
          · exact Or.inr ⟨h', q, B, by rw [a1, bnd_some, if_pos (Or.inr rfl)], a2, a3, a4, a5, a6⟩
        · generalize hk1 : si k 27 0 (7 * (14 + n) + 2) (nI x) = k1
          have H1 : HS t L X k1 p := by rw [← hk1]; exact HS_b H
          have M1 : MD k1 V n := by rw [← hk1]; exact MD_si M (by omega) (by omega)
          have F1 : Fk k k1 := by rw [← hk1]; exact Fk_b (by omega)
          generalize hk2 : si k1 20 0 18 (nI (p + 1)) = k2
          have H2 : HS t L X k2 (p + 1) := by rw [← hk2]; exact HS_nx H1 (by omega)
          have M2 : MD k2 V n := by rw [← hk2]; exact MD_si M1 (by omega) (by omega)
          have F2 : Fk k1 k2 := by rw [← hk2]; exact Fk_s (by omega)
          have e2 : ∀ f, k2.1 27 0 f = k1.1 27 0 f := fun f => by rw [← hk2, si_g _ (by decide)]
          generalize hk3 : si k2 27 0 (7 * (14 + n) + 5) (-9) = k3
          have F3 : Fk k2 k3 := by rw [← hk3]; exact Fk_b (by omega)
          have H3 : HS t L X k3 (p + 1) := by rw [← hk3]; exact HS_b H2
          have M3 : MD k3 V n := by rw [← hk3]; exact MD_si M2 (by omega) (by omega)
          refine ⟨si k3 27 0 (7 * (14 + n) + 6) (-9), ?_, ⟨HS_b H3, MD_si M3 (by omega) (by omega), ?_, ?_, ?_, ?_, si_at _ _ _ _ _⟩, Fk.tr F1 (Fk.tr F2 (Fk.tr F3 (Fk_b (by omega))))⟩
          · rw [mw1 k H M s0 s1, ta, if_neg (by decide), hk1]
            unfold rst
            rw [H1.1, nI_1, hk2, show f_X6_write (nI (14 + n)) 5 (-9) k2 = _ from X6_write (f := 5) (-9) k2 (by omega) (by decide), bnd_some, hk3, show f_X6_write (nI (14 + n)) 6 (-9) k3 = _ from X6_write (f := 6) (-9) k3 (by omega) (by decide), bnd_some]
          · rw [si_j _ (by omega), ← hk3, si_j _ (by omega), e2, ← hk1, si_j _ (by omega)]; exact s0
          · rw [si_j _ (by omega), ← hk3, si_j _ (by omega), e2, ← hk1, si_j _ (by omega)]; exact s1
          · rw [si_j _ (by omega), ← hk3, si_j _ (by omega), e2, ← hk1, si_at]
          · rw [si_j _ (by omega), ← hk3, si_at]
      · rw [Bool.not_true, bi_f, if_neg (fun z => z rfl)]
        refine Or.inl ⟨h, p, rfl, S.2.1, S.2.2.2.2, Fc.rf, fun k ⟨H, M, s0, s1⟩ => ⟨_, ?_, ?_, Fk_b (j := 7 * (14 + n) + 2) (v := nI x) (by omega)⟩⟩
        · rw [mw1 k H M s0 s1, ta, if_pos rfl]
        · rw [si_g _ (by decide)]; exact H.1
    · rw [decide_eq_false xw, Bool.false_and, bi_f, if_neg (fun z => z rfl)]
      refine Or.inl ⟨h, p, rfl, S.2.1, S.2.2.2.2, Fc.rf, fun k ⟨H, M, s0, s1⟩ => ⟨k, ?_, H.1, Fk.rf⟩⟩
      rw [mw0 k H M, em, d48, X6_in_n k (Or.inr (Classical.byContradiction fun z => xw ((hix x hx).mp z))), bnd_some, if_neg (fun z => z rfl)]
  · have e : (if (sgc L X p - (48 : Int32)) < 0 then (some ((0 : Int32), h)) else (if (9 : Int32) ≤ (sgc L X p - (48 : Int32)) then (some ((0 : Int32), h)) else (bnd (f_X4_hasRoom 0 (nI kk) (nI c) (sgc L X p - (48 : Int32)) h) (fun v19 h20 => if ¬ v19 = 0 then (bnd (f_X1_readMarks (nI kk) (nI c) (sgc L X p - (48 : Int32)) (si h20 9 0 3 ((h20.1 9 0 3) + (1 : Int32)))) (fun v23 h24 => if v23 = 0 ∨ v23 = 1 then some (v23, h24) else none)) else (some ((0 : Int32), h20)))))) = some (0, h) := by
      by_cases q : (sgc L X p - (48 : Int32)) < 0
      · rw [if_pos q]
      · rw [if_neg q, if_pos (show (9 : Int32) ≤ sgc L X p - 48 from bc.resolve_left q)]
    rw [e]
    refine Or.inl ⟨h, p, rfl, S.2.1, S.2.2.2.2, Fc.rf, fun k ⟨H, M, s0, s1⟩ => ⟨k, ?_, H.1, Fk.rf⟩⟩
    rw [mw0 k H M, show f_X6_in (sgm L X p - 48) 0 (nI wd - nI (lnk kk)) k = some (0, k) from X6_in_n k (bm.imp id (fun z => Int32.lt_of_lt_of_le hi9 z)), bnd_some, if_neg (fun z => z rfl)]
theorem st_B {t L : Nat} {X : Nat → Int32} {h : Hp} {V : Wv} {n p kk : Nat} (ht : t < 4) (hL : L ≤ 100) (S : SS t L X h p) (D : RD h V n) (hn : n < 14) (hk : kk ≤ 5) :
    OUT t L X V n p h (crB (nI kk) h) (fun k => HS t L X k p ∧ MD k V n ∧ k.1 27 0 (7 * (14 + n) + 0) = nI kk) (mrB (nI t) (nI kk) (nI (14 + n))) := by
  unfold crB
  rw [X1_sign ht hL S, bnd_some]
  rcases dg_cases (L := L) (X := X) (p := p) (lo := 48) (cnt := 6) (by omega) (by omega) with ⟨c, hc, pL, ec, em⟩ | ⟨bc, -, bm⟩
  · have S1 := SS_nx S (show p + 1 ≤ L by omega)
    have D1 : RD (si h 9 0 3 (nI (p + 1))) V n := RD_9 D
    rw [ec, d48, if_neg (nI_pos (by omega)), if_pos (show nI c < (6 : Int32) from nI_lt (b := 6) hc (by decide)), S.2.1, nI_1]
    refine OUT_step (st_C ht hL S1 D1 hn hk (show c ≤ 5 by omega)) (by omega) Fc_si (fun k ⟨H, M, s0⟩ => ?_)
    have H1 : HS t L X (si k 27 0 (7 * (14 + n) + 1) (nI c)) p := HS_b H
    refine ⟨si (si k 27 0 (7 * (14 + n) + 1) (nI c)) 20 0 18 (nI (p + 1)), ?_, ⟨HS_nx H1 (by omega), MD_si (MD_si M (by omega) (by omega)) (by omega) (by omega), ?_, ?_⟩, Fk.tr (Fk_b (by omega)) (Fk_s (by omega))⟩
    · unfold mrB
      rw [X6_here ht hL H, bnd_some, em, show f_X6_in (nI (48 + c)) 48 53 k = some (1, k) from X6_in_y k (nI_nlt (b := 48) (by omega) (by omega)) (nI_nlt (a := 53) (by omega) (by decide)), bnd_some, if_pos (by decide), X6_here ht hL H, bnd_some, em, d48, show f_X6_write (nI (14 + n)) 1 (nI c) k = _ from X6_write (f := 1) (nI c) k (by omega) (by decide), bnd_some, H1.1, nI_1]
    · rw [si_g _ (by decide), si_j _ (by omega)]; exact s0
    · rw [si_g _ (by decide), si_at]
  · have e : (if (sgc L X p - (48 : Int32)) < 0 then (some ((0 : Int32), h)) else (if (sgc L X p - (48 : Int32)) < (6 : Int32) then crC (nI kk) (sgc L X p - (48 : Int32)) (si h 9 0 3 ((h.1 9 0 3) + (1 : Int32))) else (some ((0 : Int32), h)))) = some (0, h) := by
      by_cases q : (sgc L X p - (48 : Int32)) < 0
      · rw [if_pos q]
      · rw [if_neg q, if_neg (Int32.not_lt.mpr (show (6 : Int32) ≤ sgc L X p - 48 from bc.resolve_left q))]
    rw [e]
    refine Or.inl ⟨h, p, rfl, S.2.1, S.2.2.2.2, Fc.rf, fun k ⟨H, M, s0⟩ => ⟨k, ?_, H.1, Fk.rf⟩⟩
    unfold mrB
    rw [X6_here ht hL H, bnd_some, show f_X6_in (sgm L X p) 48 53 k = some (0, k) from X6_in_n k bm, bnd_some, if_neg (fun z => z rfl)]
/-- one brick: both fail at the same place, or both read it -/
theorem st_A {t L : Nat} {X : Nat → Int32} {h : Hp} {V : Wv} {n p : Nat} (ht : t < 4) (hL : L ≤ 100) (S : SS t L X h p) (D : RD h V n) :
    (∃ h' q, f_X1_readBrick h = some (0, h') ∧ h'.1 9 0 3 = nI q ∧ q ≤ L ∧ Fc h h' ∧ ∀ k, HS t L X k p → MD k V n → ∃ k', f_X6_readsBrick (nI t) k = some (0, k') ∧ k'.1 20 0 18 = nI q ∧ Fk k k') ∨
    (∃ h' q B, f_X1_readBrick h = some (1, h') ∧ p < q ∧ SS t L X h' q ∧ RD h' (apS V n B) (n + 1) ∧ Fc h h' ∧ ∀ k, HS t L X k p → MD k V n → ∃ k', f_X6_readsBrick (nI t) k = some (1, k') ∧ HS t L X k' q ∧ MD k' (apS V n B) (n + 1) ∧ Fk k k') := by
  have hn14 := WF_n D.2.1
  rw [crA, X1_sign ht hL S, bnd_some]
  rcases kd_cases (L := L) (X := X) p with ⟨kk, hk, pL, ec, em⟩ | ⟨ec, em⟩
  · rw [ec, bnd_some, if_neg (nI_pos (by omega)), show h.1 11 0 7 = nI n from D.1.1.2.1.trans D.2.1.2.1]
    by_cases hn : n < 14
    · have S1 := SS_nx S (show p + 1 ≤ L by omega)
      have D1 : RD (si h 9 0 3 (nI (p + 1))) V n := RD_9 D
      rw [if_pos (show nI n < (14 : Int32) from nI_lt (b := 14) hn (by decide)), S.2.1, nI_1]
      have mo : ∀ k, HS t L X k p → MD k V n → ∃ k1, f_X6_readsBrick (nI t) k = mrB (nI t) (nI kk) (nI (14 + n)) k1 ∧ (HS t L X k1 (p + 1) ∧ MD k1 V n ∧ k1.1 27 0 (7 * (14 + n) + 0) = nI kk) ∧ Fk k k1 := fun k H M => by
        have e20 : (si k 20 0 18 (nI (p + 1))).1 20 0 20 = nI n := by rw [si_j _ (by decide)]; exact M.2.1
        refine ⟨si (si k 20 0 18 (nI (p + 1))) 27 0 (7 * (14 + n) + 0) (nI kk), ?_, ⟨HS_b (HS_nx H (by omega)), MD_si (MD_si M (by omega) (by omega)) (by omega) (by omega), si_at _ _ _ _ _⟩, Fk.tr (Fk_s (by omega)) (Fk_b (by omega))⟩
        rw [mrA, X6_here ht hL H, bnd_some, em, bnd_some, if_neg (nI_m9 (by omega)), M.2.1, if_pos (show ¬ nI n = (14 : Int32) from fun z => by have := (nI_eq (b := 14) (by omega) (by decide)).mp z; omega), H.1, nI_1, e20, show (14 : Int32) + nI n = nI (14 + n) from by rw [show (14 : Int32) = nI 14 from rfl, nI_add], show f_X6_write (nI (14 + n)) 0 (nI kk) (si k 20 0 18 (nI (p + 1))) = _ from X6_write (f := 0) (nI kk) _ (by omega) (by decide), bnd_some]
      rcases st_B ht hL S1 D1 hn hk with ⟨h', q, a1, a2, a3, a4, a5⟩ | ⟨h', q, B, a1, a2, a3, a4, a5, a6⟩
      · refine Or.inl ⟨h', q, a1, a2, a3, Fc.tr Fc_si a4, fun k H M => ?_⟩
        obtain ⟨k1, b1, b2, b3⟩ := mo k H M
        obtain ⟨k', c1, c2, c3⟩ := a5 k1 b2
        exact ⟨k', b1.trans c1, c2, Fk.tr b3 c3⟩
      · refine Or.inr ⟨h', q, B, a1, by omega, a3, a4, Fc.tr Fc_si a5, fun k H M => ?_⟩
        obtain ⟨k1, b1, b2, b3⟩ := mo k H M
        obtain ⟨k', c1, c2, c3, c4⟩ := a6 k1 b2
        exact ⟨k', b1.trans c1, c2, c3, Fk.tr b3 c4⟩
    · rw [if_neg (show ¬ nI n < (14 : Int32) from nI_nlt (b := 14) (by omega) (by omega))]
      refine Or.inl ⟨h, p, rfl, S.2.1, S.2.2.2.2, Fc.rf, fun k H M => ⟨k, ?_, H.1, Fk.rf⟩⟩
      rw [mrA, X6_here ht hL H, bnd_some, em, bnd_some, if_neg (nI_m9 (by omega)), M.2.1, show n = 14 by omega, if_neg (fun z => z rfl)]
  · rw [ec, bnd_some, if_pos (by decide)]
    refine Or.inl ⟨h, p, rfl, S.2.1, S.2.2.2.2, Fc.rf, fun k H M => ⟨k, ?_, H.1, Fk.rf⟩⟩
    rw [mrA, X6_here ht hL H, bnd_some, em, bnd_some, if_pos rfl]
