/-! the whole text -/
section RD2
variable {t L : Nat} {X : Nat → Int32}
theorem X1_skip (ht : t < 4) (hL : L ≤ 100) : ∀ (d p fuel : Nat) (h : Hp), SS t L X h p → p + d = L → d < fuel → ∃ h' p', f_X1_skipBlanks_b0 fuel h = some ((), h') ∧ p ≤ p' ∧ SS t L X h' p' ∧ (∀ j, p ≤ j → j < p' → X j = 32) ∧ (p' < L → ¬ X p' = 32) ∧ Fc h h' ∧ (∀ V n, RD h V n → RD h' V n) ∧ (∀ j, h'.1 11 0 j = h.1 11 0 j) := by
  intro d
  induction d with
  | zero =>
    intro p fuel h S hd hq
    obtain ⟨f, rfl⟩ : ∃ f, fuel = f + 1 := ⟨fuel - 1, by omega⟩
    refine ⟨h, p, ?_, Nat.le_refl p, S, fun j h1 h2 => by omega, fun z => by omega, Fc.rf, fun _ _ D => D, fun _ => rfl⟩
    show f_X1_skipBlanks_b0_body _ _ = _
    unfold f_X1_skipBlanks_b0_body
    rw [S.1, S.2.1, if_pos (nI_le (by omega) (by omega))]
  | succ d ih =>
    intro p fuel h S hd hq
    obtain ⟨f, rfl⟩ : ∃ f, fuel = f + 1 := ⟨fuel - 1, by omega⟩
    have es : sgc L X p = X p := if_pos (by omega)
    by_cases z : X p = 32
    · obtain ⟨h', p', a1, a2, a3, a4, a5, a6, a7, a8⟩ := ih (p + 1) f _ (SS_nx S (show p + 1 ≤ L by omega)) (by omega) (by omega)
      refine ⟨h', p', ?_, by omega, a3, fun j h1 h2 => ?_, a5, Fc.tr Fc_si a6, fun V n D => a7 V n (RD_9 D), fun j => by rw [a8, si_g _ (by decide)]⟩
      · show f_X1_skipBlanks_b0_body _ _ = _
        unfold f_X1_skipBlanks_b0_body
        rw [S.1, S.2.1, if_neg (nI_ge (by omega) (by omega)), X1_sign ht hL S, bnd_some, es, if_neg (fun y => y z), S.2.1, nI_1]
        exact a1
      · by_cases y : j = p
        · rw [y]; exact z
        · exact a4 j (by omega) h2
    · refine ⟨h, p, ?_, Nat.le_refl p, S, fun j h1 h2 => by omega, fun _ => z, Fc.rf, fun _ _ D => D, fun _ => rfl⟩
      show f_X1_skipBlanks_b0_body _ _ = _
      unfold f_X1_skipBlanks_b0_body
      rw [S.1, S.2.1, if_neg (nI_ge (by omega) (by omega)), X1_sign ht hL S, bnd_some, es, if_pos z]
/-- the model over blanks -/
theorem X6_skip (ht : t < 4) (hL : L ≤ 100) {p' : Nat} (hp' : p' ≤ L) : ∀ (d p fuel : Nat) (k : Hp), HS t L X k p → p + d = p' → (∀ j, p ≤ j → j < p' → X j = 32) → ∃ k', f_X6_goesOn_b15 (fuel + d) (nI t) k = f_X6_goesOn_b15 fuel (nI t) k' ∧ HS t L X k' p' ∧ Fk k k' ∧ (∀ V n, MD k V n → MD k' V n) ∧ k'.1 20 0 19 = k.1 20 0 19 ∧ k'.1 20 0 20 = k.1 20 0 20 := by
  intro d
  induction d with
  | zero =>
    intro p fuel k H hd hb
    exact ⟨k, rfl, by rw [show p' = p by omega]; exact H, Fk.rf, fun _ _ D => D, rfl, rfl⟩
  | succ d ih =>
    intro p fuel k H hd hb
    have es : sgm L X p = X p := if_pos (by omega)
    have z := hb p (by omega) (by omega)
    obtain ⟨k', a1, a2, a3, a4, a5, a6⟩ := ih (p + 1) fuel _ (HS_nx H (show p + 1 ≤ L by omega)) (by omega) (fun j h1 h2 => hb j (by omega) h2)
    refine ⟨k', ?_, a2, Fk.tr (Fk_s (by omega)) a3, fun V n D => a4 V n (MD_si D (by omega) (by omega)), by rw [a5, si_j _ (by decide)], by rw [a6, si_j _ (by decide)]⟩
    show f_X6_goesOn_b15_body (f_X6_goesOn_b15 (fuel + d)) _ _ = _
    unfold f_X6_goesOn_b15_body
    rw [if_pos (inb_t ht (by decide)), nI_clamp (by omega), H.2.1, H.1, if_neg (nI_ge (by omega) (by omega)), X6_here ht hL H, bnd_some, es, if_neg (fun y => y z), H.1, nI_1]
    exact a1
/-- what reading bricks comes to, on both sides -/
def FIN (t L : Nat) (X : Nat → Int32) (h0 : Hp) (r : Option (Int32 × Hp)) (mr : Nat → Hp → Option (Int32 × Hp)) (F : Nat) (K : Hp → Prop) : Prop :=
  (∃ h' q, r = some (nI q, h') ∧ q ≤ L ∧ Fc h0 h' ∧ ∀ k fuel, K k → F < fuel → ∃ k', mr fuel k = some (nI q, k') ∧ Fk k k') ∨
  (∃ h' V n, r = some (-9, h') ∧ RD h' V n ∧ Fc h0 h' ∧ ∀ k fuel, K k → F < fuel → ∃ k', mr fuel k = some (-9, k') ∧ MD k' V n ∧ Fk k k')
theorem rd_bricks (ht : t < 4) (hL : L ≤ 100) : ∀ (d n fuel : Nat) (V : Wv) (p : Nat) (h : Hp), n + d = 15 → d < fuel → SS t L X h p → RD h V n → FIN t L X h (f_X1_read_b40 fuel (nI n) h) (fun fuel k => f_X6_goesOn_b15 fuel (nI t) k) (L - p) (fun k => HS t L X k p ∧ MD k V n) := by
  intro d
  induction d with
  | zero =>
    intro n fuel V p h hd hq S D
    exact absurd (WF_n D.2.1) (by omega)
  | succ d ih =>
    intro n fuel V p h hd hq S D
    obtain ⟨f, rfl⟩ : ∃ f, fuel = f + 1 := ⟨fuel - 1, by omega⟩
    have hn := WF_n D.2.1
    obtain ⟨wd, w1, w2, w3⟩ := D.2.2.2.2
    have wn : ¬ V.1 0 = 0 := by rw [w3]; exact nI_ne0 (by omega) (by omega)
    obtain ⟨h1, p1, a1, a2, a3, a4, a5, a6, a7, -⟩ := X1_skip ht hL (L - p) p 200 h S (by have := S.2.2.2.2; omega) (by omega)
    have D1 := a7 V n D
    have pl := a3.2.2.2.2
    have ex : f_X1_read_b40 (f + 1) (nI n) h = f_X1_read_b40_body (f_X1_read_b40 f) (nI n) h := rfl
    rw [ex]
    unfold f_X1_read_b40_body f_X1_skipBlanks
    rw [if_neg (show ¬ (14 : Int32) < nI n from nI_nlt (a := 14) hn (by decide)), a1, bnd_some, a3.1, a3.2.1]
    -- the model over the same blanks
    have mo : ∀ k fuel, (HS t L X k p ∧ MD k V n) → L - p < fuel → ∃ k1 f1, f_X6_goesOn_b15 fuel (nI t) k = f_X6_goesOn_b15 (f1 + 1) (nI t) k1 ∧ L - p1 ≤ f1 ∧ HS t L X k1 p1 ∧ MD k1 V n ∧ Fk k k1 := fun k fuel ⟨H, M⟩ hf => by
      obtain ⟨k1, b1, b2, b3, b4, -, -⟩ := X6_skip ht hL pl (p1 - p) p (fuel - (p1 - p)) k H (by omega) a4
      refine ⟨k1, fuel - (p1 - p) - 1, ?_, by omega, b2, b4 V n M, b3⟩
      rw [show fuel - (p1 - p) - 1 + 1 = fuel - (p1 - p) by omega, ← b1, show fuel - (p1 - p) + (p1 - p) = fuel by omega]
    by_cases e : p1 < L
    · rw [if_pos (nI_lt e (by omega))]
      have md : ∀ k1 f1, HS t L X k1 p1 → MD k1 V n → f_X6_goesOn_b15 (f1 + 1) (nI t) k1 = bnd (f_X6_readsBrick (nI t) k1) (fun v10 h11 => if ¬ v10 = 0 then f_X6_goesOn_b15 f1 (nI t) h11 else some ((h11.1 20 0 18), h11)) := fun k1 f1 H M => by
        show f_X6_goesOn_b15_body (f_X6_goesOn_b15 f1) _ _ = _
        unfold f_X6_goesOn_b15_body
        have es : sgm L X p1 = X p1 := if_pos e
        rw [if_pos (inb_t ht (by decide)), nI_clamp (by omega), H.2.1, H.1, if_neg (nI_ge e (by omega)), X6_here ht hL H, bnd_some, es, if_pos (a5 e), M.1, if_pos wn]
      rcases st_A ht hL a3 D1 with ⟨h', q, c1, c2, c3, c4, c5⟩ | ⟨h', q, B, c1, c2, c3, c4, c5, c6⟩
      · rw [c1, bnd_some, if_neg (fun z => z rfl), c2]
        refine Or.inl ⟨h', q, rfl, c3, Fc.tr a6 c4, fun k fuel K hf => ?_⟩
        obtain ⟨k1, f1, b1, b2, b3, b4, b5⟩ := mo k fuel K hf
        obtain ⟨k', g1, g2, g3⟩ := c5 k1 b3 b4
        refine ⟨k', ?_, Fk.tr b5 g3⟩
        dsimp only
        rw [b1, md k1 f1 b3 b4, g1, bnd_some, if_neg (fun z => z rfl), g2]
      · rw [c1, bnd_some, if_pos (by decide), nI_1]
        have step : ∀ k fuel, (HS t L X k p ∧ MD k V n) → L - p < fuel → ∃ k2 f2, f_X6_goesOn_b15 fuel (nI t) k = f_X6_goesOn_b15 f2 (nI t) k2 ∧ L - q < f2 ∧ (HS t L X k2 q ∧ MD k2 (apS V n B) (n + 1)) ∧ Fk k k2 := fun k fuel K hf => by
          obtain ⟨k1, f1, b1, b2, b3, b4, b5⟩ := mo k fuel K hf
          obtain ⟨k2, g1, g2, g3, g4⟩ := c6 k1 b3 b4
          refine ⟨k2, f1, ?_, by omega, ⟨g2, g3⟩, Fk.tr b5 g4⟩
          rw [b1, md k1 f1 b3 b4, g1, bnd_some, if_pos (by decide)]
        rcases ih (n + 1) f (apS V n B) q h' (by omega) (by omega) c3 c4 with ⟨h'', q', e1, e2, e3, e4⟩ | ⟨h'', V', n', e1, e2, e3, e4⟩
        · refine Or.inl ⟨h'', q', e1, e2, Fc.tr a6 (Fc.tr c5 e3), fun k fuel K hf => ?_⟩
          obtain ⟨k2, f2, b1, b2, b3, b4⟩ := step k fuel K hf
          obtain ⟨k', g1, g2⟩ := e4 k2 f2 b3 b2
          exact ⟨k', b1.trans g1, Fk.tr b4 g2⟩
        · refine Or.inr ⟨h'', V', n', e1, e2, Fc.tr a6 (Fc.tr c5 e3), fun k fuel K hf => ?_⟩
          obtain ⟨k2, f2, b1, b2, b3, b4⟩ := step k fuel K hf
          obtain ⟨k', g1, g2, g3⟩ := e4 k2 f2 b3 b2
          exact ⟨k', b1.trans g1, g2, Fk.tr b4 g3⟩
    · rw [if_neg (nI_nlt (by omega) (by omega))]
      refine Or.inr ⟨h1, V, n, rfl, D1, a6, fun k fuel K hf => ?_⟩
      obtain ⟨k1, f1, b1, b2, b3, b4, b5⟩ := mo k fuel K hf
      refine ⟨k1, ?_, b4, b5⟩
      dsimp only
      rw [b1]
      show f_X6_goesOn_b15_body (f_X6_goesOn_b15 f1) _ _ = _
      unfold f_X6_goesOn_b15_body
      rw [if_pos (inb_t ht (by decide)), nI_clamp (by omega), b3.2.1, b3.1, if_pos (nI_le (by omega) (by omega)), b4.1, if_pos wn]
def Vw (wd : Nat) : Wv := (fun i => if i = 0 then nI wd else 0, (fun _ _ => 0, fun _ => 0))
theorem Vw_WF {wd : Nat} (h : wd ≤ 9) : WF (Vw wd) 0 0 := by
  refine ⟨by omega, rfl, rfl, ⟨wd, h, rfl, fun _ => rfl, fun b hb => by omega⟩, fun b hb => by omega, fun b hb => by omega, fun b hb => by omega, fun i _ => b_0 i, fun i z => ?_, fun i z => ?_, fun i _ => b_0 i, ?_, ⟨0, by omega, rfl⟩, fun a b ha => by omega, fun i hi => by omega, fun i j hi => by omega, ?_⟩
  · have : bt 0 i = true := z
    rw [b_0] at this; cases this
  · have : bt 0 i = true := z
    rw [b_0] at this; cases this
  · show pcn 0 14 ≤ 4
    decide
  · show 0 + pcn 0 14 ≤ 0
    decide
theorem Vw_FU (wd : Nat) : FU (Vw wd) 0 := ⟨fun i _ => by show bt 0 i = _; rw [b_0, decide_eq_false (Nat.not_lt_zero i)], rfl, rfl, rfl, rfl⟩
theorem rd_all (ht : t < 4) (hL : L ≤ 100) {h : Hp} (hX : ∀ j, j < L → h.1 7 t j = X j) : FIN t L X (stx h t) (f_X1_read t (nI L) h) (fun fuel k => f_X6_goesOn_b15 fuel (nI t) k) L (fun k => HS t L X k 0 ∧ k.1 20 0 19 = 0 ∧ k.1 20 0 20 = 0) := by
  unfold f_X1_read f_X4_clear
  rw [if_pos (Or.inl rfl), bnd_some]
  generalize hh1 : si (si (si (si (si (si (si (si (si (si (si (stx h t) 9 0 2 (nI L)) 9 0 3 0) 11 0 5 0) 11 0 6 0) 11 0 7 0) 11 0 8 0) 11 0 9 0) 11 0 10 0) 11 0 11 0) 11 0 12 0) 11 0 13 0 = h1
  have F1 : Fc (stx h t) h1 := ⟨fun g i j z1 z2 z3 => by
    rw [← hh1, si_ne _ _ (by omega), si_ne _ _ (by omega), si_ne _ _ (by omega), si_ne _ _ (by omega), si_ne _ _ (by omega), si_ne _ _ (by omega), si_ne _ _ (by omega), si_ne _ _ (by omega), si_ne _ _ (by omega), si_ne _ _ (by omega), si_ne _ _ (by omega)], by rw [← hh1]; rfl⟩
  have z11 : ∀ j, 5 ≤ j → j ≤ 13 → h1.1 11 0 j = 0 := fun j j1 j2 => by
    rw [← hh1]
    rcases (show j = 5 ∨ j = 6 ∨ j = 7 ∨ j = 8 ∨ j = 9 ∨ j = 10 ∨ j = 11 ∨ j = 12 ∨ j = 13 by omega) with rfl | rfl | rfl | rfl | rfl | rfl | rfl | rfl | rfl <;> rfl
  have S1 : SS t L X h1 0 := by
    refine ⟨by rw [← hh1]; rfl, by rw [← hh1]; rfl, by rw [← hh1]; rfl, fun j hj => ?_, by omega⟩
    rw [F1.1 _ _ _ (by omega) (by omega) (by omega)]
    exact hX j hj
  obtain ⟨h2, p2, a1, a2, a3, a4, a5, a6, -, a8⟩ := X1_skip ht hL L 0 200 h1 S1 (by omega) (by omega)
  have pl := a3.2.2.2.2
  unfold f_X1_skipBlanks
  rw [a1, bnd_some]
  have mo : ∀ k fuel, (HS t L X k 0 ∧ k.1 20 0 19 = 0 ∧ k.1 20 0 20 = 0) → L < fuel → ∃ k1 f1, f_X6_goesOn_b15 fuel (nI t) k = f_X6_goesOn_b15 (f1 + 1) (nI t) k1 ∧ L - p2 ≤ f1 ∧ HS t L X k1 p2 ∧ k1.1 20 0 19 = 0 ∧ k1.1 20 0 20 = 0 ∧ Fk k k1 := fun k fuel ⟨H, M1, M2⟩ hf => by
    obtain ⟨k1, b1, b2, b3, -, b5, b6⟩ := X6_skip ht hL pl p2 0 (fuel - p2) k H (by omega) a4
    refine ⟨k1, fuel - p2 - 1, ?_, by omega, b2, b5.trans M1, b6.trans M2, b3⟩
    rw [show fuel - p2 - 1 + 1 = fuel - p2 by omega, ← b1, show fuel - p2 + p2 = fuel by omega]
  unfold f_X1_readWidth
  rw [X1_sign ht hL a3, bnd_some]
  by_cases e : p2 < L
  · have ec : sgc L X p2 = X p2 := if_pos e
    have em : sgm L X p2 = X p2 := if_pos e
    have md : ∀ k1 f1, HS t L X k1 p2 → k1.1 20 0 19 = 0 → f_X6_goesOn_b15 (f1 + 1) (nI t) k1 = bnd (f_X6_readsWide (nI t) k1) (fun v14 h15 => if ¬ v14 = 0 then f_X6_goesOn_b15 f1 (nI t) h15 else some ((h15.1 20 0 18), h15)) := fun k1 f1 H M => by
      show f_X6_goesOn_b15_body (f_X6_goesOn_b15 f1) _ _ = _
      unfold f_X6_goesOn_b15_body
      rw [if_pos (inb_t ht (by decide)), nI_clamp (by omega), H.2.1, H.1, if_neg (nI_ge e (by omega)), X6_here ht hL H, bnd_some, em, if_pos (a5 e), M, if_neg (fun z => z rfl)]
    rw [ec]
    by_cases ew : X p2 = 119
    · rw [if_pos ew, a3.2.1, nI_1]
      have S3 := SS_nx a3 (show p2 + 1 ≤ L by omega)
      rw [X1_sign ht hL S3, bnd_some]
      have mw0 : ∀ k1, HS t L X k1 p2 → f_X6_readsWide (nI t) k1 = bnd (f_X6_in (sgm L X (p2 + 1)) 50 57 (si k1 20 0 18 (nI (p2 + 1)))) (fun v8 h9 => if ¬ v8 = 0 then (bnd (f_X6_here (nI t) h9) (fun v12 h13 => some ((1 : Int32), (si (si h13 20 0 19 (v12 - (48 : Int32))) 20 0 18 (((si h13 20 0 19 (v12 - (48 : Int32))).1 20 0 18) + (1 : Int32)))))) else (some ((0 : Int32), h9))) := fun k1 H => by
        unfold f_X6_readsWide
        rw [X6_here ht hL H, bnd_some, em, if_pos ew, H.1, nI_1, X6_here ht hL (HS_nx H (show p2 + 1 ≤ L by omega)), bnd_some]
      rcases dg_cases (L := L) (X := X) (p := p2 + 1) (lo := 50) (cnt := 8) (by omega) (by omega) with ⟨d, hd, pL, ec2, em2⟩ | ⟨bc, -, bm⟩
      · have ed : nI (50 + d) - 48 = nI (d + 2) := by rw [show (48 : Int32) = nI 48 from rfl, nI_subI (by omega), show 50 + d - 48 = d + 2 by omega]
        rw [ec2, ed, if_neg (show ¬ nI (d + 2) < (2 : Int32) from nI_nlt (b := 2) (by omega) (by omega)), if_pos (show nI (d + 2) ≤ (9 : Int32) from nI_le (b := 9) (by omega) (by decide)), if_pos (Or.inr rfl), bnd_some, if_pos (by decide)]
        have e3 : (si (si (si h2 9 0 3 (nI (p2 + 1))) 11 0 6 (nI (d + 2))) 11 0 5 1).1 9 0 3 = nI (p2 + 1) := by rw [si_g _ (by decide), si_g _ (by decide), si_at]
        rw [e3, nI_1]
        generalize hh4 : si (si (si (si h2 9 0 3 (nI (p2 + 1))) 11 0 6 (nI (d + 2))) 11 0 5 1) 9 0 3 (nI (p2 + 1 + 1)) = h4
        have F4 : Fc h2 h4 := ⟨fun g i j z1 z2 z3 => by rw [← hh4, si_ne _ _ (by omega), si_ne _ _ (by omega), si_ne _ _ (by omega), si_ne _ _ (by omega)], by rw [← hh4]; rfl⟩
        have o4 : ∀ j, 7 ≤ j → j ≤ 13 → h4.1 11 0 j = 0 := fun j j1 j2 => by
          rw [← hh4, si_ne _ _ (by omega), si_ne _ _ (by omega), si_ne _ _ (by omega), si_ne _ _ (by omega), a8]
          exact z11 j (by omega) j2
        have S4 : SS t L X h4 (p2 + 1 + 1) := by
          refine ⟨?_, ?_, by rw [F4.2]; exact a3.2.2.1, fun j hj => by rw [F4.1 _ _ _ (by omega) (by omega) (by omega)]; exact a3.2.2.2.1 j hj, by omega⟩
          · rw [← hh4, si_j _ (by decide), si_g _ (by decide), si_g _ (by decide), si_j _ (by decide)]; exact a3.1
          · rw [← hh4, si_at]
        have D4 : RD h4 (Vw (d + 2)) 0 := by
          refine ⟨⟨⟨?_, o4 7 (by omega) (by omega), o4 8 (by omega) (by omega), o4 9 (by omega) (by omega), o4 10 (by omega) (by omega), o4 11 (by omega) (by omega), o4 12 (by omega) (by omega), o4 13 (by omega) (by omega)⟩, fun b hb => by omega, fun i hi => by omega, fun _ => 0, fun i hi => by omega, fun b hb => by omega, fun i j _ hj => by omega⟩, Vw_WF (by omega), Vw_FU _, ?_, d + 2, by omega, by omega, rfl⟩
          · rw [← hh4, si_ne _ _ (by omega), si_ne _ _ (by omega), si_at]; rfl
          · rw [← hh4, si_ne _ _ (by omega), si_at]
        have mw1 : ∀ k fuel, (HS t L X k 0 ∧ k.1 20 0 19 = 0 ∧ k.1 20 0 20 = 0) → L < fuel → ∃ k2 f2, f_X6_goesOn_b15 fuel (nI t) k = f_X6_goesOn_b15 f2 (nI t) k2 ∧ L - (p2 + 1 + 1) < f2 ∧ (HS t L X k2 (p2 + 1 + 1) ∧ MD k2 (Vw (d + 2)) 0) ∧ Fk k k2 := fun k fuel K hf => by
          obtain ⟨k1, f1, b1, b2, b3, b4, b5, b6⟩ := mo k fuel K hf
          have H2 := HS_nx b3 (show p2 + 1 ≤ L by omega)
          have H3 : HS t L X (si (si k1 20 0 18 (nI (p2 + 1))) 20 0 19 (nI (d + 2))) (p2 + 1) := HS_o H2 (by omega)
          refine ⟨si (si (si k1 20 0 18 (nI (p2 + 1))) 20 0 19 (nI (d + 2))) 20 0 18 (nI (p2 + 1 + 1)), f1, ?_, by omega, ⟨HS_nx H3 (by omega), ?_, ?_, fun b f hb => by omega⟩, Fk.tr b6 (Fk.tr (Fk_s (by omega)) (Fk.tr (Fk_s (by omega)) (Fk_s (by omega))))⟩
          · rw [b1, md k1 f1 b3 b4, mw0 k1 b3, em2, show f_X6_in (nI (50 + d)) 50 57 (si k1 20 0 18 (nI (p2 + 1))) = some (1, _) from X6_in_y _ (nI_nlt (b := 50) (by omega) (by omega)) (nI_nlt (a := 57) (by omega) (by decide)), bnd_some, if_pos (by decide), X6_here ht hL H2, bnd_some, em2, ed, H3.1, nI_1, bnd_some, if_pos (by decide)]
          · rw [si_j _ (by decide), si_at]; rfl
          · rw [si_j _ (by decide), si_j _ (by decide), si_j _ (by decide)]; exact b5
        rcases rd_bricks ht hL 15 0 200 (Vw (d + 2)) (p2 + 1 + 1) h4 (by omega) (by omega) S4 D4 with ⟨h'', q', e1, e2, e4, e5⟩ | ⟨h'', V', n', e1, e2, e4, e5⟩
        · refine Or.inl ⟨h'', q', e1, e2, Fc.tr F1 (Fc.tr a6 (Fc.tr F4 e4)), fun k fuel K hf => ?_⟩
          obtain ⟨k2, f2, b1, b2, b3, b4⟩ := mw1 k fuel K hf
          obtain ⟨k', g1, g2⟩ := e5 k2 f2 b3 b2
          exact ⟨k', b1.trans g1, Fk.tr b4 g2⟩
        · refine Or.inr ⟨h'', V', n', e1, e2, Fc.tr F1 (Fc.tr a6 (Fc.tr F4 e4)), fun k fuel K hf => ?_⟩
          obtain ⟨k2, f2, b1, b2, b3, b4⟩ := mw1 k fuel K hf
          obtain ⟨k', g1, g2, g3⟩ := e5 k2 f2 b3 b2
          exact ⟨k', b1.trans g1, g2, Fk.tr b4 g3⟩
      · have ef : (if (sgc L X (p2 + 1) - (48 : Int32)) < (2 : Int32) then (some ((0 : Int32), (si h2 9 0 3 (nI (p2 + 1))))) else (if (sgc L X (p2 + 1) - (48 : Int32)) ≤ (9 : Int32) then (if (1 : Int32) = 0 ∨ (1 : Int32) = 1 then (some ((1 : Int32), (si (si (si (si h2 9 0 3 (nI (p2 + 1))) 11 0 6 (sgc L X (p2 + 1) - (48 : Int32))) 11 0 5 (1 : Int32)) 9 0 3 (((si (si (si h2 9 0 3 (nI (p2 + 1))) 11 0 6 (sgc L X (p2 + 1) - (48 : Int32))) 11 0 5 (1 : Int32)).1 9 0 3) + (1 : Int32))))) else none) else (some ((0 : Int32), (si h2 9 0 3 (nI (p2 + 1))))))) = some (0, si h2 9 0 3 (nI (p2 + 1))) := by
          by_cases q1 : (sgc L X (p2 + 1) - (48 : Int32)) < (2 : Int32)
          · rw [if_pos q1]
          · rw [if_neg q1]
            by_cases q2 : (sgc L X (p2 + 1) - (48 : Int32)) ≤ (9 : Int32)
            · exfalso
              obtain ⟨j, hj, ej⟩ := nI_of2 (M := 9) (n := 9) (by decide) (fun z => q1 (Int32.lt_of_lt_of_le z (show (0 : Int32) ≤ 2 by decide))) q2
              have j2 : 2 ≤ j := by
                rcases Nat.lt_or_ge j 2 with y | y
                · exact absurd (by rw [ej]; exact nI_lt (b := 2) y (by decide)) q1
                · exact y
              have ex : sgc L X (p2 + 1) = nI (48 + j) := by
                have : sgc L X (p2 + 1) = sgc L X (p2 + 1) - 48 + 48 := (Int32.sub_add_cancel _ _).symm
                rw [this, ej, show (48 : Int32) = nI 48 from rfl, nI_add, Nat.add_comm]
              rw [ex, nI_subI (by omega)] at bc
              rcases bc with z | z
              · exact nI_pos (by omega) z
              · exact nI_ge (by omega) (by omega) z
            · rw [if_neg q2]
        rw [ef, bnd_some, if_neg (fun z => z rfl), S3.2.1]
        refine Or.inl ⟨_, p2 + 1, rfl, by omega, Fc.tr F1 (Fc.tr a6 Fc_si), fun k fuel K hf => ?_⟩
        obtain ⟨k1, f1, b1, b2, b3, b4, b5, b6⟩ := mo k fuel K hf
        refine ⟨si k1 20 0 18 (nI (p2 + 1)), ?_, Fk.tr b6 (Fk_s (by omega))⟩
        dsimp only
        rw [b1, md k1 f1 b3 b4, mw0 k1 b3, show f_X6_in (sgm L X (p2 + 1)) 50 57 (si k1 20 0 18 (nI (p2 + 1))) = some (0, _) from X6_in_n _ bm, bnd_some, if_neg (fun z => z rfl), bnd_some, if_neg (fun z => z rfl), si_at]
    · rw [if_neg ew, bnd_some, if_neg (fun z => z rfl), a3.2.1]
      refine Or.inl ⟨h2, p2, rfl, pl, Fc.tr F1 a6, fun k fuel K hf => ?_⟩
      obtain ⟨k1, f1, b1, b2, b3, b4, b5, b6⟩ := mo k fuel K hf
      refine ⟨k1, ?_, b6⟩
      dsimp only
      rw [b1, md k1 f1 b3 b4]
      unfold f_X6_readsWide
      rw [X6_here ht hL b3, bnd_some, em, if_neg ew, bnd_some, if_neg (fun z => z rfl), b3.1]
  · have ec : sgc L X p2 = 1000 := if_neg e
    rw [ec, if_neg (by decide), bnd_some, if_neg (fun z => z rfl), a3.2.1]
    refine Or.inl ⟨h2, p2, rfl, pl, Fc.tr F1 a6, fun k fuel K hf => ?_⟩
    obtain ⟨k1, f1, b1, b2, b3, b4, b5, b6⟩ := mo k fuel K hf
    refine ⟨k1, ?_, b6⟩
    dsimp only
    rw [b1]
    show f_X6_goesOn_b15_body (f_X6_goesOn_b15 f1) _ _ = _
    unfold f_X6_goesOn_b15_body
    rw [if_pos (inb_t ht (by decide)), nI_clamp (by omega), b3.2.1, b3.1, if_pos (nI_le (by omega) (by omega)), b4, if_neg (fun z => z rfl), if_pos (inb_t ht (by decide)), show p2 = L by omega]
end RD2
theorem Fcore {h h' k' : Hp} {t : Nat} (a : Fc (stx h t) h') (b : Fk h' k') : (∀ g i j, core g i j → k'.1 g i j = h.1 g i j) ∧ k'.2.1 = h.2.1 ∧ (∀ g i j, (g = 0 ∨ g = 19 ∨ g = 21 ∨ (g = 20 ∧ j < 18)) → k'.1 g i j = h.1 g i j) := by
  refine ⟨fun g i j q => ?_, ?_, fun g i j q => ?_⟩
  · rw [b.1 g i j (by unfold core at q; omega) (by unfold core at q; omega), a.1 g i j (by unfold core at q; omega) (by unfold core at q; omega) (by unfold core at q; omega)]; rfl
  · rw [b.2, a.2]; rfl
  · rw [b.1 g i j (by omega) (by omega), a.1 g i j (by omega) (by omega) (by omega)]; rfl
theorem Inv_fc {h h' k' : Hp} {t : Nat} (hI : Inv h) (a : Fc (stx h t) h') (b : Fk h' k') : Inv k' := by
  obtain ⟨c1, c2, c3⟩ := Fcore a b
  refine Inv_of c1 ?_ hI
  obtain ⟨x1, x2, x3, x4, x5⟩ := hI.1
  refine ⟨?_, ?_, fun f hf => ?_, by rw [c2]; exact x4, by rw [c2]; exact x5⟩
  · rw [c3 _ _ _ (by omega), c3 _ _ _ (by omega)]; exact x1
  · rw [c3 _ _ _ (by omega), c3 _ _ _ (by omega)]; exact x2
  · rw [c3 _ _ _ (by omega), c3 _ _ _ (by omega)]; exact x3 f hf
/-- the model's reading, from its start -/
theorem X6_goes {h k : Hp} {t L : Nat} {X : Nat → Int32} (hL : L ≤ 100) (F : Fc (stx h t) k) (s : h.1 25 0 t = nI L) (x : ∀ j, j < L → h.1 26 0 (100 * t + j) = X j) : ∃ k0, f_X6_goesOn (nI t) k = f_X6_goesOn_b15 200 (nI t) k0 ∧ (HS t L X k0 0 ∧ k0.1 20 0 19 = 0 ∧ k0.1 20 0 20 = 0) ∧ Fk k k0 := by
  refine ⟨si (si (si k 20 0 18 0) 20 0 19 0) 20 0 20 0, rfl, ⟨⟨rfl, ?_, fun j hj => ?_, by omega⟩, rfl, rfl⟩, Fk.tr (Fk_s (by omega)) (Fk.tr (Fk_s (by omega)) (Fk_s (by omega)))⟩
  · rw [si_g _ (by decide), si_g _ (by decide), si_g _ (by decide), F.1 _ _ _ (by omega) (by omega) (by omega)]; exact s
  · rw [si_g _ (by decide), si_g _ (by decide), si_g _ (by decide), F.1 _ _ _ (by omega) (by omega) (by omega)]; exact x j hj
theorem st_fault (a1 : Int32) (h : Hp) (hI : Inv h) : ∃ (r : Int32) (h1 h2 : Hp), f_X5_fault a1 h = some (r, h1) ∧ f_X6_fault a1 h1 = some (r, h2) ∧ Inv h2 := by
  rcases rng 4 (by decide) a1 with q | ⟨t, ht, rfl⟩
  · refine ⟨-1, h, h, ?_, ?_, hI⟩
    · unfold f_X5_fault; rw [X5_isText_n h q, bnd_some, if_neg (fun z => z rfl)]
    · unfold f_X6_fault; rw [X6_askedText_n h q, bnd_some, if_neg n1]
  rcases hI.2.2.1 t ht with ⟨s1, s2⟩ | ⟨L, hL, s1, s2, s3⟩
  · refine ⟨-3, rfC h 1, mtC (rfC h 1) 1, ?_, ?_, rm_Inv hI⟩
    · unfold f_X5_fault; rw [X5_isText_y h ht, bnd_some, if_pos (by decide), if_pos (inb_t ht (by decide)), nI_clamp (by omega), s1, if_neg n1, X5_ref1, bnd_some]
    · unfold f_X6_fault; rw [X6_askedText_m _ ht (by rw [rfC_g _ _ (by decide) (by decide)]; exact s2), bnd_some, if_neg n3]
  have cl : f_X5_fault (nI t) h = f_X1_read t (nI L) h := by
    unfold f_X5_fault
    rw [X5_isText_y h ht, bnd_some, if_pos (by decide), if_pos (inb_t ht (by decide)), nI_clamp (by omega), s1, if_pos (nI_pos' (by omega)), if_pos (inb_t ht (by decide)), if_pos (inb_t ht (by decide))]
    cases f_X1_read t (nI L) h <;> rfl
  have mo : ∀ k, Fc (stx h t) k → f_X6_fault (nI t) k = f_X6_goesOn (nI t) k := fun k F => by
    unfold f_X6_fault
    rw [X6_askedText_y k ht hL (by rw [F.1 _ _ _ (by omega) (by omega) (by omega)]; exact s2), bnd_some, if_pos (by decide)]
    cases f_X6_goesOn (nI t) k <;> rfl
  rcases rd_all (X := fun j => h.1 7 t j) ht hL (h := h) (fun j _ => rfl) with ⟨h', q, e1, e2, e3, e4⟩ | ⟨h', V, n, e1, e2, e3, e4⟩
  · obtain ⟨k0, g1, g2, g3⟩ := X6_goes (X := fun j => h.1 7 t j) hL e3 s2 (fun j hj => (s3 j hj).symm)
    obtain ⟨k', c1, c2⟩ := e4 k0 200 g2 (by omega)
    exact ⟨nI q, h', k', cl.trans e1, (mo h' e3).trans (g1.trans c1), Inv_fc hI e3 (Fk.tr g3 c2)⟩
  · obtain ⟨k0, g1, g2, g3⟩ := X6_goes (X := fun j => h.1 7 t j) hL e3 s2 (fun j hj => (s3 j hj).symm)
    obtain ⟨k', c1, -, c2⟩ := e4 k0 200 g2 (by omega)
    exact ⟨-9, h', k', cl.trans e1, (mo h' e3).trans (g1.trans c1), Inv_fc hI e3 (Fk.tr g3 c2)⟩
