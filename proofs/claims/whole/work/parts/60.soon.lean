/-! soon -/
theorem fld_add {α : Type} (F : Nat → α → α) (e : Nat) : ∀ (d k : Nat) (a : α), fld F k (d + e) a = fld F (k + d) e (fld F k d a)
  | 0, k, a => by rw [Nat.zero_add]; rfl
  | d + 1, k, a => by
    rw [show d + 1 + e = (d + e) + 1 by omega, fld_s, fld_add F e d (k + 1), fld_s, show k + 1 + d = k + (d + 1) by omega]
theorem fld_id {α : Type} {F : Nat → α → α} : ∀ (d k : Nat) (a : α), (∀ c a, k ≤ c → c < k + d → F c a = a) → fld F k d a = a
  | 0, _, _, _ => rfl
  | d + 1, k, a, e => by
    rw [fld_s, e k a (by omega) (by omega)]
    exact fld_id d (k + 1) a (fun c a h1 h2 => e c a (by omega) (by omega))
/-- a place where a new brick can be drawn soon -/
def sn (V : Wv) (n wd c x : Nat) : Bool := may V n wd c x && decide ((S1 V n c x &&& (St V n ^^^ (-1))) &&& ((1 : Int32) <<< (nI n &&& 31) ^^^ (-1)) = 0)
def stp (V : Wv) (n wd c : Nat) : Nat → Int32 × Int32 → Int32 × Int32 := fun x s => if (decide (n < 14) && sn V n wd c x) = true then (if s.2 = 0 then nI (10 * c + x) else s.1, s.2 + 1) else s
def Fr (n : Nat) (h h' : Hp) : Prop := (∀ g i j, ¬ ((g = 15 ∨ g = 16 ∨ g = 13) ∧ i = 1) → ¬ (g = 11 ∧ i = 1 ∧ (j = 7 ∨ j = 8)) → ¬ (g = 17 ∧ i = 14 + n ∧ i < 28) → h'.1 g i j = h.1 g i j) ∧ h'.2 = h.2
theorem Fr.tr {n : Nat} {h h' h'' : Hp} (a : Fr n h h') (b : Fr n h' h'') : Fr n h h'' := ⟨fun g i j z1 z2 z3 => (b.1 g i j z1 z2 z3).trans (a.1 g i j z1 z2 z3), b.2.trans a.2⟩
theorem Fr.rf {n : Nat} {h : Hp} : Fr n h h := ⟨fun _ _ _ _ _ _ => rfl, rfl⟩
def Fm (n : Nat) (h h' : Hp) : Prop := (∀ g i j, ¬ (g = 27 ∧ i = 0 ∧ 7 * n ≤ j ∧ j < 7 * n + 3) → h'.1 g i j = h.1 g i j) ∧ h'.2 = h.2
theorem Fm.tr {n : Nat} {h h' h'' : Hp} (a : Fm n h h') (b : Fm n h' h'') : Fm n h h'' := ⟨fun g i j z => (b.1 g i j z).trans (a.1 g i j z), b.2.trans a.2⟩
theorem Fm.rf {n : Nat} {h : Hp} : Fm n h h := ⟨fun _ _ _ _ => rfl, rfl⟩
theorem X4_isSoon {h : Hp} {V : Wv} {n dn c x wd : Nat} (W : CW h V n dn) (hc : c ≤ 5) (hx : x ≤ 8) (hwd : wd ≤ 9) (e0 : V.1 0 = nI wd) : ∃ h', f_X4_isSoonDrawn 1 (nI c) (nI x) h = some (bi (decide (n < 14) && sn V n wd c x), h') ∧ CW h' V n dn ∧ Fr n h h' := by
  have hn := WF_n W.1
  by_cases h14 : n < 14
  · obtain ⟨h1, s1, s2, s3, s4, s5⟩ := X4_settle W h14 hc hx hwd e0 0 1
    unfold f_X4_isSoonDrawn
    rw [s1, bnd_some, decide_eq_true h14, Bool.true_and]
    unfold sn
    cases hm : may V n wd c x
    · rw [bi_f, if_neg (fun z => z rfl)]
      exact ⟨h1, rfl, s4 hm, fun g i j z1 z2 z3 => s3 g i j z1 z2 (by omega), s2⟩
    · obtain ⟨C1, c8, ⟨q, hq, ord⟩, b4, b5, b6, b7⟩ := s5 hm
      have hm' := hm
      unfold may rmy at hm'
      rw [Bool.and_eq_true, Bool.and_eq_true, decide_eq_true_iff, Bool.not_eq_true'] at hm'
      obtain ⟨⟨x2, tk⟩, -⟩ := hm'
      have R := BR_of W.1
      have R' := ap_BR R (B0_NB hc (show x + 2 ≤ 9 by omega))
      have en : nI (n + 1) - 1 = nI n := nI_subI (b := 1) (by omega)
      have D := Dj_ap h14 (WF_D W.1) (WF_in W.1) tk
      have i9 : h1.1 11 1 9 = V.1 3 := by rw [s3 _ _ _ (by omega) (by omega) (by omega), CW_c9 W]
      have i10 : h1.1 11 1 10 = V.1 4 := by rw [s3 _ _ _ (by omega) (by omega) (by omega), CW_c10 W]
      obtain ⟨h2, t1, t2, -⟩ := X4_standing C1 (V.1 2 ||| (1 : Int32) <<< (nI n &&& 31)) (V.1 3) D
      rw [i10] at t1
      have t1' : f_X4_standing 1 (V.1 2 ||| (1 : Int32) <<< (nI n &&& 31)) (V.1 3) h1 = some (S1 V n c x, h2) := t1
      have C2 := CB_sw t2 C1
      have ib := in_back (x := V.1 2) (n := n) (by omega) (WF_in W.1 n (Nat.le_refl n))
      obtain ⟨h3, u1, u2, -⟩ := X4_standing C2 (V.1 2) (V.1 3) (Dj_sub D (fun k hk z => by rw [b_or, z]; rfl))
      rw [t2.g (by decide) (by decide), i10, lv_ext h14 R R' (WF_in W.1 n (Nat.le_refl n))] at u1
      have u1' : f_X4_standing 1 (V.1 2) (V.1 3) h2 = some (St V n, h3) := u1
      have fl : f_X4_fallsOf 1 ((1 : Int32) <<< (nI n &&& 31)) h1 = some ((S1 V n c x &&& (St V n ^^^ (-1))) &&& ((1 : Int32) <<< (nI n &&& 31) ^^^ (-1)), h3) := by
        unfold f_X4_fallsOf f_X4_standingNow
        rw [c8, i9, t1', bnd_some, bnd_some, t2.g (by decide) (by decide), t2.g (by decide) (by decide), c8, i9, ib, u1', bnd_some]
        rw [Int32.and_assoc, Int32.and_assoc, Int32.and_comm ((1 : Int32) <<< (nI n &&& 31) ^^^ (-1))]
      rw [bi_t, if_pos (by decide), C1.2.1, en, fl, bnd_some]
      have f3 : ∀ g i j, ¬ ((g = 15 ∨ g = 16) ∧ i = 1) → h3.1 g i j = h1.1 g i j := fun g i j z => (u2.1 g i j z).trans (t2.1 g i j z)
      obtain ⟨-, -, -, od, o1, -, -⟩ := CW_C W
      obtain ⟨h4, r1, r2, r3, r4, r5, r6⟩ := X4_removeLast (h := h3) (w := 1) (n := n) (q := q) (o := fun i => h.1 13 1 i) h14 ((f3 _ _ _ (by omega)).trans C1.2.1) (fun i hi z => by
        rw [(o1 i hi).1] at z
        have := (nI_eq (by have := (o1 i hi).2; omega) (by omega)).mp z
        have := (o1 i hi).2
        omega) hq (fun i hi => by rw [f3 _ _ _ (by omega)]; exact ord i hi)
      have f4 : ∀ g i j, ¬ ((g = 15 ∨ g = 16 ∨ g = 13) ∧ i = 1) → ¬ (g = 11 ∧ i = 1 ∧ (j = 7 ∨ j = 8)) → ¬ (g = 17 ∧ i = 14 + n) → h4.1 g i j = h.1 g i j := fun g i j z1 z2 z3 => by
        rw [r5 g i j (by omega) z2, f3 g i j (by omega), s3 g i j z1 z2 z3]
      have l4 : h4.2 = h.2 := by rw [r6, u2.2, t2.2, s2]
      have W4 : CW h4 V n dn := by
        refine CW_g2 W (fun j j1 j2 => ?_) (fun b j hb => f4 _ _ _ (by omega) (by omega) (by omega)) (fun i => f4 _ _ _ (by omega) (by omega) (by omega)) (fun i hi => r2 i hi)
        by_cases z7 : j = 7
        · rw [z7, r4, CW_c7 W]
        · by_cases z8 : j = 8
          · rw [z8, r3, f3 _ _ _ (by omega), c8, ib, CW_c8 W]
          · exact f4 _ _ _ (by omega) (by omega) (by omega)
      refine ⟨h4, ?_, W4, fun g i j z1 z2 z3 => f4 g i j z1 z2 (by omega), l4⟩
      unfold f_X4_isSoonDrawn_b33
      rw [r1, bnd_some, bnd_some, Bool.true_and]
      by_cases z : (S1 V n c x &&& (St V n ^^^ (-1))) &&& ((1 : Int32) <<< (nI n &&& 31) ^^^ (-1)) = 0
      · rw [if_neg (fun y => y z), if_pos (Or.inr rfl), decide_eq_true z]; rfl
      · rw [if_pos z, if_pos (Or.inl rfl), decide_eq_false z]; rfl
  · refine ⟨h, ?_, W, Fr.rf⟩
    unfold f_X4_isSoonDrawn f_X4_settle
    rw [CW_c7 W, if_pos (show (14 : Int32) ≤ nI n from nI_le (a := 14) (by omega) (by omega)), bnd_some, if_neg (fun z => z rfl), decide_eq_false h14]
    rfl
theorem n10 (c x : Nat) : (10 : Int32) * nI c + nI x = nI (10 * c + x) := by rw [show (10 : Int32) = nI 10 from rfl, nI_mul, nI_add]
theorem X5_soon_in {V : Wv} {n dn c wd : Nat} (hc : c ≤ 5) (hwd : wd ≤ 9) (e0 : V.1 0 = nI wd) (kt : Int32 → Int32 → Int32 → Hp → Option (Int32 × Hp)) : ∀ (d x fuel : Nat) (s : Int32 × Int32) (h : Hp), CW h V n dn → x + d = 9 → d < fuel → ∃ h', f_X5_soon_b29 kt fuel s.1 s.2 (nI c) (nI x) h = kt (fld (stp V n wd c) x d s).1 (fld (stp V n wd c) x d s).2 (nI (c + 1)) h' ∧ CW h' V n dn ∧ Fr n h h' := by
  intro d
  induction d with
  | zero =>
    intro x fuel s h W hx hq
    obtain ⟨f, rfl⟩ : ∃ f, fuel = f + 1 := ⟨fuel - 1, by omega⟩
    refine ⟨h, ?_, W, Fr.rf⟩
    show f_X5_soon_b29_body _ _ _ _ _ _ _ = _
    unfold f_X5_soon_b29_body
    rw [show x = 9 by omega, if_pos (by decide), nI_1]
    rfl
  | succ d ih =>
    intro x fuel s h W hx hq
    obtain ⟨f, rfl⟩ : ∃ f, fuel = f + 1 := ⟨fuel - 1, by omega⟩
    obtain ⟨h1, a1, a2, a3⟩ := X4_isSoon (x := x) W hc (by omega) hwd e0
    obtain ⟨h', b1, b2, b3⟩ := ih (x + 1) f (stp V n wd c x s) h1 a2 (by omega) (by omega)
    refine ⟨h', ?_, b2, Fr.tr a3 b3⟩
    show f_X5_soon_b29_body _ _ _ _ _ _ _ = _
    unfold f_X5_soon_b29_body f_X5_soon_b64 f_X5_soon_b68
    rw [if_neg (show ¬ (9 : Int32) ≤ nI x from nI_ge (b := 9) (by omega) (by decide)), a1, bnd_some, fld_s, ← b1, nI_1, n10]
    unfold stp
    cases decide (n < 14) && sn V n wd c x
    · rw [bi_f, if_pos rfl, if_neg (by decide)]
    · rw [bi_t, if_neg (by decide), if_pos rfl]
      by_cases z : s.2 = 0
      · rw [if_neg (fun y => y z), if_pos z]
      · rw [if_pos z, if_neg z]
def stc (V : Wv) (n wd : Nat) : Nat → Int32 × Int32 → Int32 × Int32 := fun c s => fld (stp V n wd c) 0 9 s
theorem X5_soon_out {V : Wv} {n dn wd : Nat} (hwd : wd ≤ 9) (e0 : V.1 0 = nI wd) : ∀ (d c fuel : Nat) (s : Int32 × Int32) (h : Hp), CW h V n dn → c + d = 6 → d < fuel → ∃ h', f_X5_soon_b20 fuel s.1 s.2 (nI c) h = (if (fld (stc V n wd) c d s).2 ≤ 0 then some ((fld (stc V n wd) c d s).1, h') else some ((fld (stc V n wd) c d s).1, si h' 0 0 7 (fld (stc V n wd) c d s).2)) ∧ CW h' V n dn ∧ Fr n h h' := by
  intro d
  induction d with
  | zero =>
    intro c fuel s h W hx hq
    obtain ⟨f, rfl⟩ : ∃ f, fuel = f + 1 := ⟨fuel - 1, by omega⟩
    refine ⟨h, ?_, W, Fr.rf⟩
    show f_X5_soon_b20_body _ _ _ _ _ = _
    unfold f_X5_soon_b20_body
    rw [show c = 6 by omega, if_pos (by decide)]
    rfl
  | succ d ih =>
    intro c fuel s h W hx hq
    obtain ⟨f, rfl⟩ : ∃ f, fuel = f + 1 := ⟨fuel - 1, by omega⟩
    obtain ⟨h1, a1, a2, a3⟩ := X5_soon_in (c := c) (by omega) hwd e0 (f_X5_soon_b20 f) 9 0 200 s h W (by omega) (by omega)
    obtain ⟨h', b1, b2, b3⟩ := ih (c + 1) f (fld (stp V n wd c) 0 9 s) h1 a2 (by omega) (by omega)
    refine ⟨h', ?_, b2, Fr.tr a3 b3⟩
    show f_X5_soon_b20_body _ _ _ _ _ = _
    unfold f_X5_soon_b20_body
    rw [if_neg (show ¬ (6 : Int32) ≤ nI c from nI_ge (b := 6) (by omega) (by decide)), fld_s]
    exact a1.trans b1
theorem MW_m10 {h : Hp} {V : Wv} {n dn : Nat} (W : MW h V n dn) : h.1 20 0 10 = V.1 0 := W.2.1.1
theorem X6_soon_in {V : Wv} {n dn c wd : Nat} (hn : n < 14) (hc : c ≤ 5) (hwd : wd ≤ 9) (e0 : V.1 0 = nI wd) (kt : Int32 → Int32 → Int32 → Hp → Option (Int32 × Hp)) : ∀ (d x fuel : Nat) (s : Int32 × Int32) (h : Hp), MW h V n dn → x + d = wd → d < fuel → ∃ h', f_X6_soon_b35 kt fuel s.1 s.2 (nI c) (nI x) h = kt (fld (stp V n wd c) x d s).1 (fld (stp V n wd c) x d s).2 (nI (c + 1)) h' ∧ MW h' V n dn ∧ Fm n h h' := by
  intro d
  induction d with
  | zero =>
    intro x fuel s h W hx hq
    obtain ⟨f, rfl⟩ : ∃ f, fuel = f + 1 := ⟨fuel - 1, by omega⟩
    refine ⟨h, ?_, W, Fm.rf⟩
    show f_X6_soon_b35_body _ _ _ _ _ _ _ = _
    unfold f_X6_soon_b35_body
    rw [MW_m10 W, e0, if_pos (nI_le (by omega) (by omega)), nI_1]
    rfl
  | succ d ih =>
    intro x fuel s h W hx hq
    obtain ⟨f, rfl⟩ : ∃ f, fuel = f + 1 := ⟨fuel - 1, by omega⟩
    obtain ⟨h1, a1, a2, a3, a4⟩ := X6_mayLie (x := x) W hn hc (by omega) hwd e0
    have W1 : MW h1 V n dn := MW_g2 W (fun j z => a2 _ _ _ (by omega)) (fun j z => a2 _ _ _ (by omega)) (fun j => a2 _ _ _ (by omega))
    have ex : ∀ h, f_X6_soon_b35 kt (f + 1) s.1 s.2 (nI c) (nI x) h = f_X6_soon_b35_body kt (f_X6_soon_b35 kt f) s.1 s.2 (nI c) (nI x) h := fun _ => rfl
    rw [ex]
    unfold f_X6_soon_b35_body
    rw [MW_m10 W, e0, if_neg (nI_ge (by omega) (by omega)), a1, bnd_some, fld_s]
    cases hm : may V n wd c x
    · have es : stp V n wd c x s = s := by unfold stp sn; rw [hm]; simp
      rw [bi_f, if_pos rfl, es]
      unfold f_X6_soon_b169
      rw [nI_1]
      obtain ⟨h', b1, b2, b3⟩ := ih (x + 1) f s h1 W1 (by omega) (by omega)
      exact ⟨h', b1, b2, Fm.tr ⟨a2, a3⟩ b3⟩
    · have hm' := hm
      unfold may rmy at hm'
      rw [Bool.and_eq_true, Bool.and_eq_true, decide_eq_true_iff, Bool.not_eq_true'] at hm'
      obtain ⟨⟨x2, tk⟩, -⟩ := hm'
      have R := BR_of W.1
      have N := B0_NB hc (show x + 2 ≤ 9 by omega)
      have es : nI (n + 1) - 1 = nI n := nI_subI (b := 1) (by omega)
      rw [bi_t, if_neg (by decide), X6_stand W1, bnd_some, StO_0, MW_m11 W1, nI_1]
      generalize hk : si h1 20 0 11 (nI (n + 1)) = k
      have fk : ∀ g i j, ¬ (g = 20 ∧ i = 0 ∧ j = 11) → k.1 g i j = h1.1 g i j := fun g i j z => by rw [← hk, si_ne _ _ z]
      have n11 : k.1 20 0 11 = nI (n + 1) := by rw [← hk, si_at]
      have n13 : k.1 20 0 13 = V.1 2 := by rw [fk _ _ _ (by omega)]; exact MW_m13 W1
      have n14 : k.1 20 0 14 = V.1 3 := by rw [fk _ _ _ (by omega)]; exact MW_m14 W1
      have n15 : k.1 20 0 15 = V.1 4 := by rw [fk _ _ _ (by omega)]; exact MW_m15 W1
      have MK3 : MK k (apB V n (B0 c x)) (n + 1) := MK_ap hn R N (fun b f hb hf => by rw [fk _ _ _ (by omega)]; exact W1.2.2.1 b f hb (by omega)) (fun f hf => by rw [fk _ _ _ (by omega)]; exact a4 x2 f hf)
      have M4 : MB k (apB V n (B0 c x)) (n + 1) := ⟨MK3.1, n11, MK3.2.1, MK3.2.2⟩
      rw [n11, es, n13, n14, n15, X6_standing M4, bnd_some, n11, es, si_at]
      generalize hk2 : si k 20 0 11 (nI n) = k2
      have f2 : ∀ g i j, k2.1 g i j = h1.1 g i j := fun g i j => by
        by_cases y : g = 20 ∧ i = 0 ∧ j = 11
        · obtain ⟨rfl, rfl, rfl⟩ := y
          rw [← hk2, si_at]; exact (MW_m11 W1).symm
        · rw [← hk2, si_ne _ _ y, fk _ _ _ y]
      have W2 : MW k2 V n dn := MW_g W1 (fun g j _ => f2 g 0 j)
      obtain ⟨h', b1, b2, b3⟩ := ih (x + 1) f (stp V n wd c x s) k2 W2 (by omega) (by omega)
      refine ⟨h', ?_, b2, Fm.tr ⟨fun g i j z => (f2 g i j).trans (a2 g i j z), ?_⟩ b3⟩
      · rw [← b1]
        show (if ¬ ((S1 V n c x &&& (St V n ^^^ (-1))) &&& ((1 : Int32) <<< (nI n &&& 31) ^^^ (-1))) = 0 then _ else _) = _
        unfold f_X6_soon_b133 f_X6_soon_b154 f_X6_soon_b155 f_X6_soon_b167 f_X6_soon_b169
        rw [nI_1, n10, if_pos rfl, if_pos rfl, if_neg (show ¬ (1 : Int32) = 0 by decide), if_neg (show ¬ (1 : Int32) = 0 by decide), if_neg (show ¬ (1 : Int32) = 0 by decide), Int32.add_zero]
        unfold stp sn
        rw [hm, decide_eq_true hn, Bool.true_and, Bool.true_and]
        by_cases z : (S1 V n c x &&& (St V n ^^^ (-1))) &&& ((1 : Int32) <<< (nI n &&& 31) ^^^ (-1)) = 0
        · rw [if_neg (fun y => y z), decide_eq_true z, if_pos rfl]
          by_cases y : s.2 = 0
          · rw [if_neg (fun t => t y), if_pos y]
          · rw [if_pos y, if_neg y]
        · rw [if_pos z, decide_eq_false z, if_neg (by decide)]
      · rw [← hk2, ← hk]; exact a3
theorem stc_wd {V : Wv} {n wd c : Nat} (hwd : wd ≤ 9) (s : Int32 × Int32) : stc V n wd c s = fld (stp V n wd c) 0 wd s := by
  unfold stc
  rw [show 9 = wd + (9 - wd) by omega, fld_add]
  refine fld_id _ _ _ (fun x a h1 h2 => ?_)
  unfold stp sn may rmy
  rw [decide_eq_false (by omega : ¬ x + 2 ≤ wd)]
  simp
theorem X6_soon_out {V : Wv} {n dn wd : Nat} (hn : n < 14) (hwd : wd ≤ 9) (e0 : V.1 0 = nI wd) : ∀ (d c fuel : Nat) (s : Int32 × Int32) (h : Hp), MW h V n dn → c + d = 6 → d < fuel → ∃ h', f_X6_soon_b17 fuel s.1 s.2 (nI c) h = f_X6_soon_b181 (fld (stc V n wd) c d s).1 (fld (stc V n wd) c d s).2 h' ∧ MW h' V n dn ∧ Fm n h h' := by
  intro d
  induction d with
  | zero =>
    intro c fuel s h W hx hq
    obtain ⟨f, rfl⟩ : ∃ f, fuel = f + 1 := ⟨fuel - 1, by omega⟩
    refine ⟨h, ?_, W, Fm.rf⟩
    show f_X6_soon_b17_body _ _ _ _ _ = _
    unfold f_X6_soon_b17_body
    rw [show c = 6 by omega, if_pos (by decide)]
    rfl
  | succ d ih =>
    intro c fuel s h W hx hq
    obtain ⟨f, rfl⟩ : ∃ f, fuel = f + 1 := ⟨fuel - 1, by omega⟩
    obtain ⟨h1, a1, a2, a3⟩ := X6_soon_in (c := c) hn (by omega) hwd e0 (f_X6_soon_b17 f) wd 0 200 s h W (by omega) (by omega)
    rw [← stc_wd hwd] at a1
    obtain ⟨h', b1, b2, b3⟩ := ih (c + 1) f (stc V n wd c s) h1 a2 (by omega) (by omega)
    refine ⟨h', ?_, b2, Fm.tr a3 b3⟩
    show f_X6_soon_b17_body _ _ _ _ _ = _
    unfold f_X6_soon_b17_body
    rw [if_neg (show ¬ (6 : Int32) ≤ nI c from nI_ge (b := 6) (by omega) (by decide)), MW_m11 W, if_neg (show ¬ (14 : Int32) ≤ nI n from nI_ge (b := 14) hn (by decide)), fld_s]
    exact a1.trans b1
def SOK (s : Int32 × Int32) (m : Nat) : Prop := s = (-9, 0) ∨ ∃ a b, s = (nI a, nI b) ∧ a < 100 ∧ 1 ≤ b ∧ b ≤ m
theorem SOK_stp {V : Wv} {n wd c x m : Nat} {s : Int32 × Int32} (hc : c ≤ 5) (hx : x ≤ 8) (hm : m ≤ 100) (S : SOK s m) : SOK (stp V n wd c x s) (m + 1) := by
  unfold stp
  split
  · rcases S with rfl | ⟨a, b, rfl, h1, h2, h3⟩
    · exact Or.inr ⟨10 * c + x, 1, rfl, by omega, by omega, by omega⟩
    · refine Or.inr ⟨a, b + 1, ?_, h1, by omega, by omega⟩
      show (if nI b = 0 then _ else nI a, nI b + 1) = _
      rw [if_neg (nI_ne0 (by omega) (by omega)), nI_1]
  · rcases S with rfl | ⟨a, b, rfl, h1, h2, h3⟩
    · exact Or.inl rfl
    · exact Or.inr ⟨a, b, rfl, h1, h2, by omega⟩
theorem SOK_in {V : Wv} {n wd c : Nat} (hc : c ≤ 5) : ∀ (d x m : Nat) (s : Int32 × Int32), x + d ≤ 9 → m + d ≤ 100 → SOK s m → SOK (fld (stp V n wd c) x d s) (m + d)
  | 0, _, _, _, _, _, S => S
  | d + 1, x, m, s, h1, h2, S => by
    rw [fld_s, show m + (d + 1) = (m + 1) + d by omega]
    exact SOK_in hc d (x + 1) (m + 1) _ (by omega) (by omega) (SOK_stp hc (by omega) (by omega) S)
theorem SOK_out {V : Wv} {n wd : Nat} : ∀ (d c m : Nat) (s : Int32 × Int32), c + d ≤ 6 → m + 9 * d ≤ 60 → SOK s m → SOK (fld (stc V n wd) c d s) (m + 9 * d)
  | 0, _, _, _, _, _, S => S
  | d + 1, c, m, s, h1, h2, S => by
    rw [fld_s, show m + 9 * (d + 1) = (m + 9) + 9 * d by omega]
    exact SOK_out d (c + 1) (m + 9) _ (by omega) (by omega) (SOK_in (by omega) 9 0 m s (by omega) (by omega) S)
theorem stc_14 {V : Wv} {n wd : Nat} (hn : ¬ n < 14) (s : Int32 × Int32) : fld (stc V n wd) 0 6 s = s := by
  refine fld_id _ _ _ (fun c a h1 h2 => ?_)
  unfold stc
  refine fld_id _ _ _ (fun x a h1 h2 => ?_)
  unfold stp
  rw [decide_eq_false hn, Bool.false_and, if_neg (by decide)]
theorem st_soon (h : Hp) (hI : Inv h) : ∃ (r : Int32) (h1 h2 : Hp), f_X5_soon h = some (r, h1) ∧ f_X6_soon h1 = some (r, h2) ∧ Inv h2 := by
  obtain ⟨V, n, dn, W⟩ := Inv_W hI
  have hn := IW_n W
  by_cases w0 : V.1 0 = 0
  · refine ⟨-4, h, h, ?_, ?_, hI⟩
    · unfold f_X5_soon; rw [W.2.2.2.1, if_pos w0, if_neg (fun z => z rfl)]
    · unfold f_X6_soon; rw [MW_m10 (mw W), if_neg (fun z => z w0)]
  obtain ⟨wd, hwd, e0⟩ := WF_wd W.1
  obtain ⟨h1, a1, a2, a3⟩ := X5_soon_out hwd e0 6 0 200 (-9, 0) h (cw W) (by omega) (by omega)
  have S := SOK_out (V := V) (n := n) (wd := wd) 6 0 0 (-9, 0) (by omega) (by omega) (Or.inl rfl)
  generalize hs : fld (stc V n wd) 0 6 (-9, 0) = s at a1 S
  have cl : f_X5_soon h = if s.2 ≤ 0 then some (s.1, h1) else some (s.1, si h1 0 0 7 s.2) := by
    unfold f_X5_soon
    rw [W.2.2.2.1, if_neg w0, if_pos (by decide)]
    exact a1
  have mo : ∀ k, MW k V n dn → ∃ h', f_X6_soon k = f_X6_soon_b181 s.1 s.2 h' ∧ MW h' V n dn ∧ Fm n k h' := fun k M => by
    unfold f_X6_soon
    rw [MW_m10 M, if_pos w0]
    by_cases h14 : n < 14
    · obtain ⟨h', b1, b2, b3⟩ := X6_soon_out h14 hwd e0 6 0 200 (-9, 0) k M (by omega) (by omega)
      rw [hs] at b1
      exact ⟨h', b1, b2, b3⟩
    · refine ⟨k, ?_, M, Fm.rf⟩
      rw [stc_14 h14] at hs
      rw [← hs]
      show f_X6_soon_b17_body _ _ _ _ _ = _
      unfold f_X6_soon_b17_body
      rw [if_neg (by decide), MW_m11 M, if_pos (show (14 : Int32) ≤ nI n from nI_le (a := 14) (by omega) (by omega))]
  have M1 : MW h1 V n dn := MW_g (mw W) (fun g j z => a3.1 _ _ _ (by omega) (by omega) (by omega))
  rcases S with rfl | ⟨a, b, rfl, g1, g2, g3⟩
  · obtain ⟨k, b1, b2, b3⟩ := mo h1 M1
    have fr : ∀ g i j, ¬ ((g = 15 ∨ g = 16 ∨ g = 13) ∧ i = 1) → ¬ (g = 11 ∧ i = 1 ∧ (j = 7 ∨ j = 8)) → ¬ (g = 17 ∧ i = 14 + n ∧ i < 28) → ¬ (g = 27 ∧ i = 0 ∧ 7 * n ≤ j ∧ j < 7 * n + 3) → k.1 g i j = h.1 g i j := fun g i j z1 z2 z3 z4 => (b3.1 g i j z4).trans (a3.1 g i j z1 z2 z3)
    refine ⟨-9, h1, k, ?_, ?_, Inv_w hI (IW_new W (CW_g a2 (fun g i j z => b3.1 _ _ _ (by omega))) b2 rfl (fr _ _ _ (by omega) (by omega) (by omega) (by omega)) (fun g i j z => fr _ _ _ (by omega) (by omega) (by omega) (by omega))) (by rw [b3.2, a3.2]) (fun g i j z => fr _ _ _ (by omega) (by omega) (by omega) (by omega))⟩
    · rw [cl]; rfl
    · rw [b1]; rfl
  · have M2 : MW (si h1 0 0 7 (nI b)) V n dn := MW_si M1 (by decide)
    obtain ⟨k, b1, b2, b3⟩ := mo _ M2
    have fr : ∀ g i j, ¬ ((g = 15 ∨ g = 16 ∨ g = 13) ∧ i = 1) → ¬ (g = 11 ∧ i = 1 ∧ (j = 7 ∨ j = 8)) → ¬ (g = 17 ∧ i = 14 + n ∧ i < 28) → ¬ (g = 27 ∧ i = 0 ∧ 7 * n ≤ j ∧ j < 7 * n + 3) → ¬ (g = 0 ∧ i = 0 ∧ j = 7) → k.1 g i j = h.1 g i j := fun g i j z1 z2 z3 z4 z5 => by rw [b3.1 g i j z4, si_ne _ _ z5, a3.1 g i j z1 z2 z3]
    have fk : ∀ g i j, ¬ ((g = 15 ∨ g = 16 ∨ g = 13) ∧ i = 1) → ¬ (g = 11 ∧ i = 1 ∧ (j = 7 ∨ j = 8)) → ¬ (g = 17 ∧ i = 14 + n ∧ i < 28) → ¬ (g = 27 ∧ i = 0 ∧ 7 * n ≤ j ∧ j < 7 * n + 3) → ¬ (g = 0 ∧ i = 0 ∧ j = 7) → ¬ (g = 20 ∧ i = 0 ∧ j = 2) → (si k 20 0 2 (nI b)).1 g i j = h.1 g i j := fun g i j z1 z2 z3 z4 z5 z6 => by rw [si_ne _ _ z6, fr g i j z1 z2 z3 z4 z5]
    have k7 : (si k 20 0 2 (nI b)).1 0 0 7 = nI b := by rw [si_ne _ _ (by omega), b3.1 _ _ _ (by omega), si_at]
    have CK : CW (si k 20 0 2 (nI b)) V n dn := CW_g a2 (fun g i j z => by rw [si_ne _ _ (by omega), b3.1 _ _ _ (by omega), si_ne _ _ (by omega)])
    have MKK : MW (si k 20 0 2 (nI b)) V n dn := MW_g2 b2 (fun j z => si_ne _ _ (by omega)) (fun j z => si_ne _ _ (by omega)) (fun j => si_ne _ _ (by omega))
    refine ⟨nI a, si h1 0 0 7 (nI b), si k 20 0 2 (nI b), ?_, ?_, Inv_w (ask_Inv (x := nI b) hI) (IW_new W CK MKK rfl (fk _ _ _ (by omega) (by omega) (by omega) (by omega) (by omega) (by omega)) (fun g i j z => fk _ _ _ (by omega) (by omega) (by omega) (by omega) (by omega) (by omega))) ?_ (fun g i j z => ?_)⟩
    · rw [cl, if_neg (show ¬ nI b ≤ (0 : Int32) from nI_ge (b := b) (a := 0) (by omega) (by omega))]
    · rw [b1]
      unfold f_X6_soon_b181
      rw [if_pos (nI_m9 (by omega))]
      rfl
    · show k.2.1 = h.2.1
      rw [b3.2]
      show h1.2.1 = h.2.1
      rw [a3.2]
    · unfold ask2
      by_cases y1 : g = 20 ∧ i = 0 ∧ j = 2
      · obtain ⟨rfl, rfl, rfl⟩ := y1
        rw [si_at, si_at]
      · by_cases y2 : g = 0 ∧ i = 0 ∧ j = 7
        · obtain ⟨rfl, rfl, rfl⟩ := y2
          rw [k7, si_ne _ _ (by omega), si_at]
        · rw [si_ne _ _ y1, si_ne _ _ y1, si_ne _ _ y2, fr _ _ _ (by omega) (by omega) (by omega) (by omega) y2]
