/-! set -/
def apS (V : Wv) (n : Nat) (B : Nat → Int32) : Wv := (fun i => if i = 1 then nI (n + 1) else if i = 2 then V.1 2 ||| (1 : Int32) <<< (nI n &&& 31) else V.1 i, (apB V n B).2)
theorem oc_ap {V : Wv} {n : Nat} {B : Nat → Int32} {kk c x : Nat} (R : BR V n) (N : NB B kk c x) (X : Int32) {k : Nat} (hk : k < n) : ocB V (nI c) (nI (mskN kk x)) X k = tkB (apB V n B) X n k := by
  obtain ⟨n0, n1, n2, n3, n4, n5⟩ := N
  have ll := lnk_le kk
  obtain ⟨r0, r1, r2, r3, r4, r5⟩ := R k hk
  have l2 := ln_ge V k
  have q : k ≠ n := by omega
  have m := msk_ov (k := kd V k) (x := hf V k) (k' := kk) (x' := x) r3 (by omega) n3 (by omega)
  unfold ocB tkB ovB
  rw [r1, decide_eq_false q, ap_co q, ap_con n1 n4, ap_hf q, ap_hfn n2 (by omega), ap_ln q, ap_lnn n0 n3]
  have e1 : decide (nI (co V k) = nI c) = decide (co V k = c) := by
    by_cases z : co V k = c
    · rw [decide_eq_true z, decide_eq_true (by rw [z])]
    · rw [decide_eq_false z, decide_eq_false (fun y => z ((nI_eq (by omega) (by omega)).mp y))]
  have e2 : decide (nI (mskN (kd V k) (hf V k)) &&& nI (mskN kk x) = 0) = !(decide (hf V k < x + lnk kk) && decide (x < hf V k + ln V k)) := by
    by_cases z : nI (mskN (kd V k) (hf V k)) &&& nI (mskN kk x) = 0
    · rw [decide_eq_true z]
      have := m.mp z
      by_cases z1 : hf V k < x + lnk kk
      · rw [decide_eq_true z1, decide_eq_false (fun z2 : x < hf V k + ln V k => this ⟨z1, z2⟩)]; rfl
      · rw [decide_eq_false z1]; rfl
    · rw [decide_eq_false z]
      have := Classical.not_not.mp (fun y => z (m.mpr y))
      rw [decide_eq_true (show hf V k < x + lnk kk from this.1), decide_eq_true (show x < hf V k + ln V k from this.2)]; rfl
  rw [e1, e2, Bool.not_not]
  rfl
theorem X0_lengthOf {kk : Nat} (h : Hp) (hk : kk ≤ 5) : f_X0_lengthOf (nI kk) h = some (nI (lnk kk), h) := by
  unfold f_X0_lengthOf lnk
  by_cases q : 4 ≤ kk
  · rw [if_neg (show ¬ nI kk < (4 : Int32) from nI_nlt (b := 4) q (by omega)), if_pos q]; rfl
  · rw [if_pos (show nI kk < (4 : Int32) from nI_lt (b := 4) (by omega) (by decide)), if_neg q]; rfl
theorem X4_hasRoom {h : Hp} {w n : Nat} {V : Wv} (C : CB h w V n) (R : BR V n) {B : Nat → Int32} {kk c x wd : Nat} (b0 : B 0 = nI kk) (b1 : B 1 = nI c) (b2 : B 2 = nI x) (hk : kk ≤ 5) (hc : c ≤ 5) (hx : x ≤ 9) (hwd : wd ≤ 9) (e6 : h.1 11 w 6 = nI wd) : f_X4_hasRoom w (nI kk) (nI c) (nI x) h = some (bi (decide (x + lnk kk ≤ wd) && !anyB (tkB (apB V n B) (h.1 11 w 8) n) n), h) := by
  have ll := lnk_le kk
  have hn := C.1
  unfold f_X4_hasRoom f_X4_hasRoom_b18
  rw [X0_lengthOf h hk, bnd_some, e6, nI_add]
  by_cases q : x + lnk kk ≤ wd
  · have ov : f_X4_over w (nI c) (nI (mskN kk x)) (h.1 11 w 8) h = some (mkb (ocB V (nI c) (nI (mskN kk x)) (h.1 11 w 8)) n, h) := X4_over_loop hn C.2.1 (fun k hk => ⟨(C.2.2.1 k hk).2.1.trans (R k hk).2.1.symm, (C.2.2.1 k hk).2.2.2.1⟩) _ _ _ n 0 200 (by omega) (by omega)
    rw [if_neg (nI_nlt q (by omega)), if_neg (by decide), X0_maskOf, bnd_some, mkF_tab kk (by omega) x (by omega), decide_eq_true q, ov, bnd_some]
    have e : anyB (ocB V (nI c) (nI (mskN kk x)) (h.1 11 w 8)) n = anyB (tkB (apB V n B) (h.1 11 w 8) n) n := anyB_congr (fun k hk' => oc_ap R ⟨b0, b1, b2, hk, hc, by omega⟩ _ hk')
    cases ht : anyB (tkB (apB V n B) (h.1 11 w 8) n) n
    · rw [if_neg (fun z => z ((mkb_0 (by omega)).mpr (e.trans ht)))]; rfl
    · rw [if_pos (fun z => by have := (mkb_0 (by omega)).mp z; rw [e, ht] at this; cases this)]; rfl
  · rw [if_pos (nI_lt (by omega) (by omega)), if_pos rfl, decide_eq_false q]; rfl
theorem CB_g {h h' : Hp} {w n : Nat} {V : Wv} (C : CB h w V n) (e7 : h'.1 11 w 7 = h.1 11 w 7) (e17 : ∀ b j, b < n → j < 4 → h'.1 17 (14 * w + b) j = h.1 17 (14 * w + b) j) (e13 : ∀ i, i < n → h'.1 13 w i = h.1 13 w i) : CB h' w V n := by
  obtain ⟨C1, C2, C3, od, o1, o2, o3⟩ := C
  refine ⟨C1, e7.trans C2, fun b hb => ?_, od, fun i hi => by rw [e13 i hi]; exact o1 i hi, o2, o3⟩
  rw [e17 b 0 hb (by omega), e17 b 1 hb (by omega), e17 b 2 hb (by omega), e17 b 3 hb (by omega)]
  exact C3 b hb
theorem CW_g2 {h h' : Hp} {V : Wv} {n dn : Nat} (W : CW h V n dn) (e11 : ∀ j, 6 ≤ j → j ≤ 13 → h'.1 11 1 j = h.1 11 1 j) (e17 : ∀ b j, b < n → h'.1 17 (14 * 1 + b) j = h.1 17 (14 * 1 + b) j) (e14 : ∀ i, h'.1 14 1 i = h.1 14 1 i) (e13 : ∀ i, i < n → h'.1 13 1 i = h.1 13 1 i) : CW h' V n dn := by
  obtain ⟨a, b, c, od, o1, o2, o3⟩ := W.2
  refine ⟨W.1, ?_, fun x hx => ?_, fun i hi => ?_, od, fun i hi => ?_, o2, o3⟩
  · rw [e11 6 (by omega) (by omega), e11 7 (by omega) (by omega), e11 8 (by omega) (by omega), e11 9 (by omega) (by omega), e11 10 (by omega) (by omega), e11 11 (by omega) (by omega), e11 12 (by omega) (by omega), e11 13 (by omega) (by omega)]
    exact a
  · have e : ∀ j, h'.1 17 (14 * 1 + x) j = h.1 17 (14 * 1 + x) j := fun j => e17 x j hx
    rw [e, e, e, e, e, e, e, e]
    exact b x hx
  · rw [e14 i]; exact c i hi
  · rw [e13 i hi]; exact o1 i hi
theorem MW_g2 {h h' : Hp} {V : Wv} {n dn : Nat} (W : MW h V n dn) (e20 : ∀ j, (j = 10 ∨ j = 11 ∨ j = 13 ∨ j = 14 ∨ j = 15 ∨ j = 16 ∨ j = 17 ∨ j = 22) → h'.1 20 0 j = h.1 20 0 j) (e27 : ∀ j, j < 7 * n → h'.1 27 0 j = h.1 27 0 j) (e28 : ∀ j, h'.1 28 0 j = h.1 28 0 j) : MW h' V n dn := by
  obtain ⟨a, b, c⟩ := W.2
  refine ⟨W.1, ?_, fun x f hx hf => ?_, fun i hi => ?_⟩
  · rw [e20 10 (by omega), e20 11 (by omega), e20 13 (by omega), e20 14 (by omega), e20 15 (by omega), e20 16 (by omega), e20 17 (by omega), e20 22 (by omega)]
    exact a
  · rw [e27 _ (by omega)]; exact b x f hx hf
  · rw [e28]; exact c i hi
theorem in_back {x : Int32} {n : Nat} (hn : n < 32) (z : bt x n = false) : (x ||| (1 : Int32) <<< (nI n &&& 31)) &&& ((1 : Int32) <<< (nI n &&& 31) ^^^ (-1)) = x := by
  apply b_ext
  intro i hi
  rw [b_and, b_or, b_not _ hi, b_one hn hi]
  by_cases q : i = n
  · rw [q, z, decide_eq_true rfl]; rfl
  · rw [decide_eq_false q]; cases bt x i <;> rfl
theorem Dj_ap {V : Wv} {n : Nat} {B : Nat → Int32} {X : Int32} (hn : n < 14) (D : Dj V n (bt X)) (sX : sub X n) (tk : anyB (tkB (apB V n B) X n) n = false) : Dj (apB V n B) (n + 1) (bt (X ||| (1 : Int32) <<< (nI n &&& 31))) := by
  have D1 : Dj (apB V n B) (n + 1) (bt X) := by
    intro a b ha hb q z1 z2 z3
    have a1 : a ≠ n := fun y => by rw [y, sX n (Nat.le_refl n)] at z1; cases z1
    have b1 : b ≠ n := fun y => by rw [y, sX n (Nat.le_refl n)] at z2; cases z2
    have := D a b (by omega) (by omega) q z1 z2 (by rw [ap_co a1, ap_co b1] at z3; exact z3)
    unfold ovl at this ⊢
    rw [ap_hf a1, ap_hf b1, ap_ln a1, ap_ln b1]
    exact this
  have tk2 : anyB (tkB (apB V n B) X n) (n + 1) = false := by
    show (anyB (tkB (apB V n B) X n) n || tkB (apB V n B) X n n) = false
    rw [tk]
    unfold tkB
    rw [decide_eq_true (rfl : n = n)]
    rfl
  exact Dj_sub (Dj_add D1 tk2) (fun k hk z => by
    rw [b_or, b_one (by omega) (by omega)] at z
    exact z)
def B0 (c x : Nat) : Nat → Int32 := fun f => if f = 1 then nI c else if f = 2 then nI x else 0
theorem B0_NB {c x : Nat} (hc : c ≤ 5) (hx : x + 2 ≤ 9) : NB (B0 c x) 0 c x := ⟨rfl, rfl, rfl, by omega, hc, by show x + 2 ≤ 9; exact hx⟩
/-- whether a new brick of kind 0 may lie there -/
def rmy (V : Wv) (n wd c x : Nat) : Bool := decide (x + 2 ≤ wd) && !anyB (tkB (apB V n (B0 c x)) (V.1 2) n) n
def S1 (V : Wv) (n c x : Nat) : Int32 := lvS (apB V n (B0 c x)) (n + 1) (V.1 2 ||| (1 : Int32) <<< (nI n &&& 31)) (V.1 3 ||| V.1 4) 12
def may (V : Wv) (n wd c x : Nat) : Bool := rmy V n wd c x && bt (S1 V n c x) n
theorem X4_settle {h : Hp} {V : Wv} {n dn c x wd : Nat} (W : CW h V n dn) (hn : n < 14) (hc : c ≤ 5) (hx : x ≤ 8) (hwd : wd ≤ 9) (e0 : V.1 0 = nI wd) (a3 a4 : Int32) :
    ∃ h', f_X4_settle 1 (nI c) (nI x) a3 a4 h = some (bi (may V n wd c x), h') ∧ h'.2 = h.2 ∧ (∀ g i j, ¬ ((g = 15 ∨ g = 16 ∨ g = 13) ∧ i = 1) → ¬ (g = 11 ∧ i = 1 ∧ (j = 7 ∨ j = 8)) → ¬ (g = 17 ∧ i = 14 + n) → h'.1 g i j = h.1 g i j) ∧
      (may V n wd c x = false → CW h' V n dn) ∧ (may V n wd c x = true → CB h' 1 (apB V n (B0 c x)) (n + 1) ∧ h'.1 11 1 8 = V.1 2 ||| (1 : Int32) <<< (nI n &&& 31) ∧ (∃ q, q ≤ n ∧ ∀ i, i ≤ n → h'.1 13 1 i = if i < q then h.1 13 1 i else if i = q then nI n else h.1 13 1 (i - 1)) ∧ h'.1 17 (14 * 1 + n) 4 = a3 ∧ h'.1 17 (14 * 1 + n) 5 = a4 ∧ h'.1 17 (14 * 1 + n) 6 = -9 ∧ h'.1 17 (14 * 1 + n) 7 = -9) := by
  have R := BR_of W.1
  have room : f_X4_hasRoom 1 0 (nI c) (nI x) h = some (bi (rmy V n wd c x), h) := by
    have := X4_hasRoom (CW_C W) R (B := B0 c x) (kk := 0) (c := c) (x := x) rfl rfl rfl (by omega) hc (by omega) hwd (W.2.1.1.trans e0)
    rw [CW_c8 W] at this
    exact this
  unfold f_X4_settle
  rw [CW_c7 W, if_neg (show ¬ (14 : Int32) ≤ nI n from nI_ge (b := 14) hn (by decide)), room, bnd_some]
  unfold may
  cases hr : rmy V n wd c x
  · refine ⟨h, ?_, rfl, fun _ _ _ _ _ _ => rfl, fun _ => W, fun z => by cases z⟩
    rw [bi_f, if_neg (fun z => z rfl)]
    rfl
  · unfold rmy at hr
    rw [Bool.and_eq_true, decide_eq_true_iff, Bool.not_eq_true'] at hr
    obtain ⟨hr1, hr2⟩ := hr
    obtain ⟨h1, q, a1, a2, aq, ao, a8, a7, af, al⟩ := X4_add (CW_C W) hn (B0_NB hc (show x + 2 ≤ 9 by omega))
    rw [bi_t, if_pos (by decide), show f_X4_add 1 0 (nI c) (nI x) h = _ from a1, bnd_some, a2.2.1, show nI (n + 1) - 1 = nI n from nI_subI (b := 1) (by omega), if_pos (inb_t hn (by decide)), nI_clamp (by omega)]
    unfold f_X0_setMarks
    rw [bnd_some]
    generalize hh2 : si (si (si h1 17 (14 * 1 + n) 4 a3) 17 (14 * 1 + n) 5 a4) 17 (14 * 1 + n) 6 (-9) = h2
    have f2 : ∀ g i j, ¬ (g = 17 ∧ i = 14 + n ∧ 4 ≤ j ∧ j ≤ 6) → h2.1 g i j = h1.1 g i j := fun g i j z => by
      rw [← hh2, si_ne _ _ (by omega), si_ne _ _ (by omega), si_ne _ _ (by omega)]
    have C2 : CB h2 1 (apB V n (B0 c x)) (n + 1) := CB_g a2 (f2 _ _ _ (by omega)) (fun b j _ hj => f2 _ _ _ (by omega)) (fun i _ => f2 _ _ _ (by omega))
    have i8 : h2.1 11 1 8 = V.1 2 ||| (1 : Int32) <<< (nI n &&& 31) := by rw [f2 _ _ _ (by omega), a8, CW_c8 W]
    have i9 : h2.1 11 1 9 = V.1 3 := by rw [f2 _ _ _ (by omega), af _ _ _ (by omega) (by omega) (by omega), CW_c9 W]
    have i10 : h2.1 11 1 10 = V.1 4 := by rw [f2 _ _ _ (by omega), af _ _ _ (by omega) (by omega) (by omega), CW_c10 W]
    obtain ⟨h3, s1, s2, -⟩ := X4_standing C2 (V.1 2 ||| (1 : Int32) <<< (nI n &&& 31)) (V.1 3) (Dj_ap hn (WF_D W.1) (WF_in W.1) hr2)
    rw [i10] at s1
    have s1' : f_X4_standing 1 (V.1 2 ||| (1 : Int32) <<< (nI n &&& 31)) (V.1 3) h2 = some (S1 V n c x, h3) := s1
    unfold f_X4_standingNow
    rw [i8, i9, s1', bnd_some, bnd_some, shr1 _ (by omega), Bool.true_and]
    have f3 : ∀ g i j, ¬ ((g = 15 ∨ g = 16) ∧ i = 1) → ¬ (g = 17 ∧ i = 14 + n ∧ 4 ≤ j ∧ j ≤ 6) → h3.1 g i j = h1.1 g i j := fun g i j z1 z2 => by rw [s2.1 g i j z1, f2 g i j z2]
    have ord : ∀ i, i ≤ n → h3.1 13 1 i = if i < q then h.1 13 1 i else if i = q then nI n else h.1 13 1 (i - 1) := fun i hi => by rw [f3 _ _ _ (by omega) (by omega)]; exact ao i hi
    unfold f_X4_settle_b69
    cases hs : bt (S1 V n c x) n
    · rw [bi_f, if_pos (by decide), if_neg (fun z => z rfl)]
      obtain ⟨-, -, -, od, o1, -, -⟩ := CW_C W
      obtain ⟨h4, r1, r2, r3, r4, r5, r6⟩ := X4_removeLast (h := h3) (w := 1) (n := n) (q := q) (o := fun i => h.1 13 1 i) hn ((f3 _ _ _ (by omega) (by omega)).trans a2.2.1) (fun i hi z => by
        rw [(o1 i hi).1] at z
        have := (nI_eq (by have := (o1 i hi).2; omega) (by omega)).mp z
        have := (o1 i hi).2
        omega) aq ord
      have f4 : ∀ g i j, ¬ ((g = 15 ∨ g = 16 ∨ g = 13) ∧ i = 1) → ¬ (g = 11 ∧ i = 1 ∧ (j = 7 ∨ j = 8)) → ¬ (g = 17 ∧ i = 14 + n) → h4.1 g i j = h.1 g i j := fun g i j z1 z2 z3 => by
        rw [r5 g i j (by omega) z2, f3 g i j (by omega) (by omega), af g i j (by omega) z2 (by omega)]
      refine ⟨h4, ?_, ?_, f4, fun _ => ?_, fun z => by cases z⟩
      · rw [r1, bnd_some, if_pos (Or.inl rfl)]
      · rw [r6, s2.2, ← hh2]; exact al
      · refine CW_g2 W (fun j j1 j2 => ?_) (fun b j hb => f4 _ _ _ (by omega) (by omega) (by omega)) (fun i => f4 _ _ _ (by omega) (by omega) (by omega)) (fun i hi => r2 i hi)
        by_cases z7 : j = 7
        · rw [z7, r4, CW_c7 W]
        · by_cases z8 : j = 8
          · rw [z8, r3, f3 _ _ _ (by omega) (by omega), a8, CW_c8 W, in_back (by omega) (WF_in W.1 n (Nat.le_refl n))]
          · exact f4 _ _ _ (by omega) (by omega) (by omega)
    · rw [bi_t, if_neg (fun z => z rfl), if_pos (by decide), if_pos (Or.inr rfl)]
      refine ⟨h3, rfl, ?_, fun g i j z1 z2 z3 => ?_, (fun z => by cases z), fun _ => ⟨CB_sw s2 C2, ?_, ⟨q, aq, ord⟩, ?_, ?_, ?_, ?_⟩⟩
      · rw [s2.2, ← hh2]; exact al
      · rw [f3 g i j (by omega) (by omega), af g i j (by omega) z2 (by omega)]
      · rw [s2.1 _ _ _ (by omega), i8]
      · rw [s2.1 _ _ _ (by omega), ← hh2, si_ne _ _ (by omega), si_ne _ _ (by omega), si_at]
      · rw [s2.1 _ _ _ (by omega), ← hh2, si_ne _ _ (by omega), si_at]
      · rw [s2.1 _ _ _ (by omega), ← hh2, si_at]
      · rw [f3 _ _ _ (by omega) (by omega)]; exact a7
theorem MK_ap {h : Hp} {V : Wv} {n : Nat} {B : Nat → Int32} {k c x : Nat} (hn : n < 14) (R : BR V n) (N : NB B k c x) (e : ∀ b f, b < n → f < 3 → h.1 27 0 (7 * b + f) = V.2.1 b f) (en : ∀ f, f < 3 → h.1 27 0 (7 * n + f) = B f) : MK h (apB V n B) (n + 1) := by
  refine ⟨by omega, fun b f hb hf => ?_, fun b hb => ?_⟩
  · by_cases q : b = n
    · rw [q, ap_n]; exact en f hf
    · rw [ap_lt _ q]; exact e b f (by omega) hf
  · obtain ⟨r0, r1, r2, r3, r4, r5⟩ := ap_BR R N b hb
    exact ⟨r0, r1, r2, r3, r4, by omega⟩
theorem X6_mayLie {h : Hp} {V : Wv} {n dn c x wd : Nat} (W : MW h V n dn) (hn : n < 14) (hc : c ≤ 5) (hx : x ≤ 8) (hwd : wd ≤ 9) (e0 : V.1 0 = nI wd) :
    ∃ h', f_X6_mayLie (nI c) (nI x) h = some (bi (may V n wd c x), h') ∧ (∀ g i j, ¬ (g = 27 ∧ i = 0 ∧ 7 * n ≤ j ∧ j < 7 * n + 3) → h'.1 g i j = h.1 g i j) ∧ h'.2 = h.2 ∧ (x + 2 ≤ wd → ∀ f, f < 3 → h'.1 27 0 (7 * n + f) = B0 c x f) := by
  have R := BR_of W.1
  unfold f_X6_mayLie
  rw [show h.1 20 0 10 = nI wd from W.2.1.1.trans e0, show nI x + 2 = nI (x + 2) from by rw [show (2 : Int32) = nI 2 from rfl, nI_add]]
  unfold may rmy
  by_cases q : x + 2 ≤ wd
  · have N := B0_NB hc (show x + 2 ≤ 9 by omega)
    rw [if_pos (nI_le q (by omega)), MW_m11 W, show f_X6_write (nI n) 0 0 h = _ from X6_write (f := 0) 0 h (by omega) (by decide), bnd_some]
    generalize hk1 : si h 27 0 (7 * n + 0) 0 = k1
    have m1 : k1.1 20 0 11 = nI n := by rw [← hk1, si_g _ (by decide)]; exact MW_m11 W
    rw [m1, show f_X6_write (nI n) 1 (nI c) k1 = _ from X6_write (f := 1) (nI c) k1 (by omega) (by decide), bnd_some]
    generalize hk2 : si k1 27 0 (7 * n + 1) (nI c) = k2
    have m2 : k2.1 20 0 11 = nI n := by rw [← hk2, si_g _ (by decide)]; exact m1
    rw [m2, show f_X6_write (nI n) 2 (nI x) k2 = _ from X6_write (f := 2) (nI x) k2 (by omega) (by decide), bnd_some]
    generalize hk3 : si k2 27 0 (7 * n + 2) (nI x) = k3
    have f3 : ∀ g i j, ¬ (g = 27 ∧ i = 0 ∧ 7 * n ≤ j ∧ j < 7 * n + 3) → k3.1 g i j = h.1 g i j := fun g i j z => by
      rw [← hk3, si_ne _ _ (by omega), ← hk2, si_ne _ _ (by omega), ← hk1, si_ne _ _ (by omega)]
    have v3 : ∀ f, f < 3 → k3.1 27 0 (7 * n + f) = B0 c x f := fun f hf => by
      rcases (show f = 0 ∨ f = 1 ∨ f = 2 by omega) with rfl | rfl | rfl
      · rw [← hk3, si_ne _ _ (by omega), ← hk2, si_ne _ _ (by omega), ← hk1, si_at]; rfl
      · rw [← hk3, si_ne _ _ (by omega), ← hk2, si_at]; rfl
      · rw [← hk3, si_at]; rfl
    have l3 : k3.2 = h.2 := by rw [← hk3, ← hk2, ← hk1]; rfl
    have MK3 : MK k3 (apB V n (B0 c x)) (n + 1) := MK_ap hn R N (fun b f hb hf => by rw [f3 _ _ _ (by omega)]; exact W.2.2.1 b f hb (by omega)) v3
    have m11 : k3.1 20 0 11 = nI n := by rw [f3 _ _ _ (by omega)]; exact MW_m11 W
    have m13 : k3.1 20 0 13 = V.1 2 := by rw [f3 _ _ _ (by omega)]; exact MW_m13 W
    have m14 : k3.1 20 0 14 = V.1 3 := by rw [f3 _ _ _ (by omega)]; exact MW_m14 W
    have m15 : k3.1 20 0 15 = V.1 4 := by rw [f3 _ _ _ (by omega)]; exact MW_m15 W
    rw [m11, X6_isTaken MK3 (Nat.le_succ n) (Nat.lt_succ_self n) m11 (V.1 2) m13, bnd_some, decide_eq_true q, Bool.true_and]
    unfold f_X6_mayLie_b58 f_X6_mayLie_b115 f_X6_mayLie_b116
    rw [m11, nI_1]
    generalize hk4 : si k3 20 0 11 (nI (n + 1)) = k4
    have f4 : ∀ g i j, ¬ (g = 20 ∧ i = 0 ∧ j = 11) → k4.1 g i j = k3.1 g i j := fun g i j z => by rw [← hk4, si_ne _ _ z]
    have n11 : k4.1 20 0 11 = nI (n + 1) := by rw [← hk4, si_at]
    have n13 : k4.1 20 0 13 = V.1 2 := by rw [f4 _ _ _ (by omega)]; exact m13
    have n14 : k4.1 20 0 14 = V.1 3 := by rw [f4 _ _ _ (by omega)]; exact m14
    have n15 : k4.1 20 0 15 = V.1 4 := by rw [f4 _ _ _ (by omega)]; exact m15
    have es : nI (n + 1) - 1 = nI n := nI_subI (b := 1) (by omega)
    have M4 : MB k4 (apB V n (B0 c x)) (n + 1) := ⟨MK3.1, n11, fun b f hb hf => by rw [f4 _ _ _ (by omega)]; exact MK3.2.1 b f hb hf, MK3.2.2⟩
    have fin : ∀ g i j, ¬ (g = 27 ∧ i = 0 ∧ 7 * n ≤ j ∧ j < 7 * n + 3) → (si k4 20 0 11 (nI n)).1 g i j = h.1 g i j := fun g i j z => by
      by_cases y : g = 20 ∧ i = 0 ∧ j = 11
      · obtain ⟨rfl, rfl, rfl⟩ := y
        rw [si_at]; exact (MW_m11 W).symm
      · rw [si_ne _ _ y, f4 _ _ _ y, f3 _ _ _ z]
    have fv : x + 2 ≤ wd → ∀ f, f < 3 → (si k4 20 0 11 (nI n)).1 27 0 (7 * n + f) = B0 c x f := fun _ f hf => by
      rw [si_g _ (by decide), f4 _ _ _ (by omega)]; exact v3 f hf
    have fl : (si k4 20 0 11 (nI n)).2 = h.2 := by rw [← l3, ← hk4]; rfl
    cases ht : anyB (tkB (apB V n (B0 c x)) (V.1 2) n) n
    · rw [bi_f, if_neg (fun z => z rfl), if_neg (by decide), n11, n13, n14, n15, es, X6_standing M4, bnd_some, n11, es, X6_has _ _ (by omega), bnd_some]
      refine ⟨si k4 20 0 11 (nI n), ?_, fin, fl, fv⟩
      show (if bi (bt (S1 V n c x) n) = 0 then _ else _) = some (bi (bt (S1 V n c x) n), _)
      cases bt (S1 V n c x) n
      · rw [bi_f, if_pos rfl, if_pos (Or.inl rfl), n11, es]
      · rw [bi_t, if_neg (by decide), if_pos (Or.inr rfl), n11, es]
    · rw [bi_t, if_pos (by decide), if_pos rfl, if_pos (Or.inl rfl), n11, es]
      exact ⟨si k4 20 0 11 (nI n), rfl, fin, fl, fv⟩
  · rw [if_neg (nI_ge (by omega) (by omega)), decide_eq_false q]
    exact ⟨h, rfl, fun _ _ _ _ => rfl, rfl, fun z => absurd z q⟩
theorem WF_ap {V : Wv} {n dn : Nat} {B : Nat → Int32} {kk c x wd : Nat} (W : WF V n dn) (hn : n < 14) (N : NB B kk c x) (e0 : V.1 0 = nI wd) (hwd : wd ≤ 9) (hx : x + lnk kk ≤ wd)
    (m3 : ∃ p, p < 6 ∧ B 3 = nI p) (m4 : ∃ p, p < 6 ∧ B 4 = nI p) (m5 : kk = 3 → ∃ p, p < 6 ∧ B 5 = nI p) (m5' : kk ≠ 3 → B 5 = -9) (m6 : B 6 = -9) (tk : anyB (tkB (apB V n B) (V.1 2) n) n = false) : WF (apS V n B) (n + 1) dn := by
  have R' := ap_BR (BR_of W) N
  have ll := lnk_le kk
  obtain ⟨n0, n1, n2, n3, n4, n5⟩ := N
  obtain ⟨h1, h2, h3, ⟨wd', w1, w2, w3, w4⟩, h5, h6, h7, r1, r2, r3, r4, r5, r6, r7, r8, r9, r10⟩ := W
  have ew : wd' = wd := (nI_eq (by omega) (by omega)).mp (w2.symm.trans e0)
  subst ew
  generalize hin : V.1 2 ||| (1 : Int32) <<< (nI n &&& 31) = i'
  have ine : ∀ i, i ≠ n → bt i' i = bt (V.1 2) i := fun i q => by
    rcases Nat.lt_or_ge i 32 with y | y
    · rw [← hin, b_or, b_one (by omega) y, decide_eq_false q, Bool.or_false]
    · rw [b_big y, b_big y]
  have ib : bt i' n = true := by rw [← hin, b_or, b_one (by omega) (by omega), decide_eq_true rfl, Bool.or_true]
  have inle : ∀ i, bt (V.1 2) i = true → bt i' i = true := fun i z => by
    by_cases q : i = n
    · rw [q]; exact ib
    · rw [ine i q]; exact z
  have e2 : (apS V n B).1 2 = i' := hin
  have pin : pcn i' 14 = pcn (V.1 2) 14 + 1 := mkn_up (b := n) hn ine (r1 n (Nat.le_refl n)) ib
  refine ⟨by omega, rfl, h3, ⟨wd', w1, w2, fun z => by omega, fun b hb => ?_⟩, fun b hb => ⟨(R' b hb).1, (R' b hb).2.1, (R' b hb).2.2.1, (R' b hb).2.2.2.1, (R' b hb).2.2.2.2.1⟩, fun b hb => ?_, fun b hb => ?_, ?_, ?_, ?_, r4, r5, r6, ?_, fun i hi => ?_, r9, ?_⟩
  · show hf (apB V n B) b + ln (apB V n B) b ≤ wd'
    by_cases q : b = n
    · rw [q, ap_hfn n2 (by omega), ap_lnn n0 n3]; exact hx
    · rw [ap_hf q, ap_ln q]; exact w4 b (by omega)
  · show (∃ p, p < 6 ∧ (apB V n B).2.1 b 3 = nI p) ∧ (∃ p, p < 6 ∧ (apB V n B).2.1 b 4 = nI p) ∧ (kd (apB V n B) b = 3 → ∃ p, p < 6 ∧ (apB V n B).2.1 b 5 = nI p) ∧ (kd (apB V n B) b ≠ 3 → (apB V n B).2.1 b 5 = -9)
    by_cases q : b = n
    · rw [q, ap_n, ap_n, ap_n, ap_kdn n0 n3]; exact ⟨m3, m4, m5, m5'⟩
    · rw [ap_lt _ q, ap_lt _ q, ap_lt _ q, ap_kd q]; exact h6 b (by omega)
  · show (apB V n B).2.1 b 6 = -9 ∨ ∃ k, k < n + 1 ∧ (apB V n B).2.1 b 6 = nI k
    by_cases q : b = n
    · rw [q, ap_n]; exact Or.inl m6
    · rw [ap_lt _ q]
      exact (h7 b (by omega)).imp id (fun ⟨k, k1, k2⟩ => ⟨k, by omega, k2⟩)
  · rw [e2]
    intro i hi
    rw [ine i (by omega)]
    exact r1 i (by omega)
  · rw [e2]; exact fun i z => inle i (r2 i z)
  · rw [e2]; exact fun i z => inle i (r3 i z)
  · have := Dj_ap hn r7 r1 tk
    rw [hin] at this
    rw [e2]
    exact this
  · rw [e2]
    obtain ⟨b, b1, b2, b3⟩ := r8 i hi
    exact ⟨b, by omega, b2, by rw [ine b (by omega)]; exact b3⟩
  · rw [e2]; omega
theorem CR_ap {h h' : Hp} {w : Nat} {V : Wv} {n dn : Nat} {B : Nat → Int32} (C : CR h w V n dn) (C' : CB h' w (apB V n B) (n + 1)) (br : BR (apB V n B) (n + 1)) (s : ∀ j, (j = 6 ∨ (9 ≤ j ∧ j ≤ 13)) → h'.1 11 w j = h.1 11 w j) (s8 : h'.1 11 w 8 = h.1 11 w 8 ||| (1 : Int32) <<< (nI n &&& 31))
    (b4 : h'.1 17 (14 * w + n) 4 = B 3) (b5 : h'.1 17 (14 * w + n) 5 = B 4) (b6 : h'.1 17 (14 * w + n) 6 = B 5) (b7 : h'.1 17 (14 * w + n) 7 = B 6) (fb : ∀ b j, b < n → h'.1 17 (14 * w + b) j = h.1 17 (14 * w + b) j) (fd : ∀ i, h'.1 14 w i = h.1 14 w i) : CR h' w (apS V n B) (n + 1) dn := by
  obtain ⟨⟨a1, a2, a3, a4, a5, a6, a7, a8⟩, c2, c3, -⟩ := C
  refine ⟨⟨?_, C'.2.1, ?_, ?_, ?_, ?_, ?_, ?_⟩, fun b hb => ?_, fun i hi => ?_, C'.2.2.2⟩
  · rw [s 6 (by omega), a1]; rfl
  · rw [s8, a3]; rfl
  · rw [s 9 (by omega), a4]; rfl
  · rw [s 10 (by omega), a5]; rfl
  · rw [s 11 (by omega), a6]; rfl
  · rw [s 12 (by omega), a7]; rfl
  · rw [s 13 (by omega), a8]; rfl
  · obtain ⟨k0, k1, k2, k3, -⟩ := C'.2.2.1 b hb
    obtain ⟨r0, r1, r2, -⟩ := br b hb
    refine ⟨k0.trans r0.symm, k1.trans r1.symm, k2.trans r2.symm, k3, ?_⟩
    show h'.1 17 (14 * w + b) 4 = (apB V n B).2.1 b 3 ∧ h'.1 17 (14 * w + b) 5 = (apB V n B).2.1 b 4 ∧ h'.1 17 (14 * w + b) 6 = (apB V n B).2.1 b 5 ∧ h'.1 17 (14 * w + b) 7 = (apB V n B).2.1 b 6
    by_cases q : b = n
    · rw [q, ap_n, ap_n, ap_n, ap_n]; exact ⟨b4, b5, b6, b7⟩
    · rw [ap_lt _ q, ap_lt _ q, ap_lt _ q, ap_lt _ q, fb b _ (by omega), fb b _ (by omega), fb b _ (by omega), fb b _ (by omega)]
      exact (c2 b (by omega)).2.2.2.2
  · rw [fd]; exact c3 i hi
theorem CB_ap {h : Hp} {w n : Nat} {V : Wv} {B B' : Nat → Int32} {k c x : Nat} (C : CB h w (apB V n B) (n + 1)) (N : NB B k c x) (N' : NB B' k c x) : CB h w (apB V n B') (n + 1) := by
  have ll := lnk_le k
  have ek : ∀ b, kd (apB V n B') b = kd (apB V n B) b := fun b => by
    by_cases q : b = n
    · rw [q, ap_kdn N'.1 N'.2.2.2.1, ap_kdn N.1 N.2.2.2.1]
    · rw [ap_kd q, ap_kd q]
  have ec : ∀ b, co (apB V n B') b = co (apB V n B) b := fun b => by
    by_cases q : b = n
    · rw [q, ap_con N'.2.1 N'.2.2.2.2.1, ap_con N.2.1 N.2.2.2.2.1]
    · rw [ap_co q, ap_co q]
  have eh : ∀ b, hf (apB V n B') b = hf (apB V n B) b := fun b => by
    by_cases q : b = n
    · rw [q, ap_hfn N'.2.2.1 (by have := N'.2.2.2.2.2; omega), ap_hfn N.2.2.1 (by have := N.2.2.2.2.2; omega)]
    · rw [ap_hf q, ap_hf q]
  have el : ∀ b, ln (apB V n B') b = ln (apB V n B) b := fun b => by unfold ln; rw [ek]
  have er : ∀ b, rk (apB V n B') b = rk (apB V n B) b := fun b => by unfold rk; rw [ek, ec]
  unfold CB
  simp only [ek, ec, eh, el, er]
  exact C
theorem tk_ap {V : Wv} {n : Nat} {B B' : Nat → Int32} {k c x : Nat} (X : Int32) (N : NB B k c x) (N' : NB B' k c x) : anyB (tkB (apB V n B') X n) n = anyB (tkB (apB V n B) X n) n := by
  have ll := lnk_le k
  refine anyB_congr (fun b hb => ?_)
  have q : b ≠ n := by omega
  unfold tkB ovB
  rw [ap_co q, ap_co q, ap_hf q, ap_hf q, ap_ln q, ap_ln q, ap_con N'.2.1 N'.2.2.2.2.1, ap_con N.2.1 N.2.2.2.2.1, ap_hfn N'.2.2.1 (by have := N'.2.2.2.2.2; omega), ap_hfn N.2.2.1 (by have := N.2.2.2.2.2; omega), ap_lnn N'.1 N'.2.2.2.1, ap_lnn N.1 N.2.2.2.1]
/-- the fields of a new brick of kind 0 -/
def nbF (c x : Nat) (a3 a4 : Int32) : Nat → Int32 := fun f => if f = 0 then 0 else if f = 1 then nI c else if f = 2 then nI x else if f = 3 then a3 else if f = 4 then a4 else -9
theorem nbF_NB {c x : Nat} (a3 a4 : Int32) (hc : c ≤ 5) (hx : x + 2 ≤ 9) : NB (nbF c x a3 a4) 0 c x := ⟨rfl, rfl, rfl, by omega, hc, by show x + 2 ≤ 9; exact hx⟩
theorem WF_wd {V : Wv} {n dn : Nat} (W : WF V n dn) : ∃ wd, wd ≤ 9 ∧ V.1 0 = nI wd := by
  obtain ⟨wd, w1, w2, -⟩ := W.2.2.2.1
  exact ⟨wd, w1, w2⟩
theorem st_set (a1 a2 a3 a4 : Int32) (h : Hp) (hI : Inv h) : ∃ (r : Int32) (h1 h2 : Hp), f_X5_set a1 a2 a3 a4 h = some (r, h1) ∧ f_X6_set a1 a2 a3 a4 h1 = some (r, h2) ∧ Inv h2 := by
  obtain ⟨V, n, dn, W⟩ := Inv_W hI
  have hn := IW_n W
  rcases rng 6 (by decide) a1 with q | ⟨c, hc, rfl⟩
  · refine ⟨-1, h, h, ?_, ?_, hI⟩
    · unfold f_X5_set
      by_cases q1 : a1 < 0
      · rw [if_pos q1]
      · rw [if_neg q1, if_pos (show (6 : Int32) ≤ a1 from q.resolve_left q1)]
    · unfold f_X6_set
      rw [show f_X6_in a1 0 5 h = _ from X6_rng_n (N := 5) h (by decide) q, bnd_some, if_pos rfl]
  have c1 : ∀ y z : Option (Int32 × Hp), (if nI c < 0 then y else if (6 : Int32) ≤ nI c then y else z) = z := fun y z => by rw [if_neg (nI_pos (by omega)), if_neg (show ¬ (6 : Int32) ≤ nI c from nI_ge (b := 6) hc (by decide))]
  have i1 : ∀ h, f_X6_in (nI c) 0 5 h = some (1, h) := fun h => X6_rng_y (N := 5) h hc (by decide)
  rcases rng 9 (by decide) a2 with q | ⟨x, hx, rfl⟩
  · refine ⟨-1, h, h, ?_, ?_, hI⟩
    · unfold f_X5_set
      rw [c1]
      by_cases q1 : a2 < 0
      · rw [if_pos q1]
      · rw [if_neg q1, if_neg (fun z : a2 < (9 : Int32) => absurd (Int32.lt_of_lt_of_le z (q.resolve_left q1)) (Int32.lt_irrefl))]
    · unfold f_X6_set
      rw [i1, bnd_some, if_neg (by decide), show f_X6_in a2 0 8 h = _ from X6_rng_n (N := 8) h (by decide) q, bnd_some, if_pos rfl]
  have i2 : ∀ h, f_X6_in (nI x) 0 8 h = some (1, h) := fun h => X6_rng_y (N := 8) h hx (by decide)
  have c2 : ∀ y z : Option (Int32 × Hp), (if nI x < 0 then y else if nI x < (9 : Int32) then z else y) = z := fun y z => by rw [if_neg (nI_pos (by omega)), if_pos (show nI x < (9 : Int32) from nI_lt (b := 9) hx (by decide))]
  rcases rng 6 (by decide) a3 with q | ⟨p, hp, rfl⟩
  · refine ⟨-1, h, h, ?_, ?_, hI⟩
    · unfold f_X5_set; rw [c1, c2, X5_isPerson_n h q, bnd_some, if_pos rfl]
    · unfold f_X6_set; rw [i1, bnd_some, if_neg (by decide), i2, bnd_some, if_neg (by decide), X6_isOne_n h q, bnd_some, if_pos rfl]
  rcases rng 6 (by decide) a4 with q | ⟨p', hp', rfl⟩
  · refine ⟨-1, h, h, ?_, ?_, hI⟩
    · unfold f_X5_set; rw [c1, c2, X5_isPerson_y h hp, bnd_some, if_neg (by decide), X5_isPerson_n h q, bnd_some, if_pos rfl]
    · unfold f_X6_set; rw [i1, bnd_some, if_neg (by decide), i2, bnd_some, if_neg (by decide), X6_isOne_y h hp, bnd_some, if_neg (by decide), X6_isOne_n h q, bnd_some, if_pos rfl]
  by_cases pq : nI p = nI p'
  · refine ⟨-1, h, h, ?_, ?_, hI⟩
    · unfold f_X5_set; rw [c1, c2, X5_isPerson_y h hp, bnd_some, if_neg (by decide), X5_isPerson_y h hp', bnd_some, if_neg (by decide), if_neg (fun z => z pq)]
    · unfold f_X6_set; rw [i1, bnd_some, if_neg (by decide), i2, bnd_some, if_neg (by decide), X6_isOne_y h hp, bnd_some, if_neg (by decide), X6_isOne_y h hp', bnd_some, if_neg (by decide), if_neg (fun z => z pq)]
  have cl : f_X5_set (nI c) (nI x) (nI p) (nI p') h = (if (h.1 11 1 7) < (14 : Int32) then (if (h.1 11 1 5) = 0 then (some ((-4 : Int32), h)) else (bnd (f_X4_settle 1 (nI c) (nI x) (nI p) (nI p') h) (fun v16 h17 => if ¬ v16 = 0 then (some (((h17.1 11 1 7) - (1 : Int32)), h17)) else (some ((-4 : Int32), h17))))) else (some ((-2 : Int32), h))) := by
    unfold f_X5_set; rw [c1, c2, X5_isPerson_y h hp, bnd_some, if_neg (by decide), X5_isPerson_y h hp', bnd_some, if_neg (by decide), if_pos pq]
  rw [cl, CW_c7 (cw W)]
  by_cases n14 : n = 14
  · refine ⟨-2, h, h, ?_, ?_, hI⟩
    · rw [n14, if_neg (by decide)]
    · unfold f_X6_set; rw [i1, bnd_some, if_neg (by decide), i2, bnd_some, if_neg (by decide), X6_isOne_y h hp, bnd_some, if_neg (by decide), X6_isOne_y h hp', bnd_some, if_neg (by decide), if_pos pq, MW_m11 (mw W), n14, if_neg (fun z => z rfl)]
  have hn' : n < 14 := by omega
  rw [if_pos (show nI n < (14 : Int32) from nI_lt (b := 14) hn' (by decide)), W.2.2.2.1]
  have mo : ∀ k : Hp, k.1 20 0 11 = nI n → f_X6_set (nI c) (nI x) (nI p) (nI p') k = (if (k.1 20 0 10) = 0 then (some ((-4 : Int32), k)) else (bnd (f_X6_mayLie (nI c) (nI x) k) (fun v20 h21 => if ¬ v20 = 0 then (bnd (f_X6_write (h21.1 20 0 11) (3 : Int32) (nI p) h21) (fun v24 h25 => bnd (f_X6_write (h25.1 20 0 11) (4 : Int32) (nI p') h25) (fun v27 h28 => bnd (f_X6_write (h28.1 20 0 11) (5 : Int32) (-9 : Int32) h28) (fun v30 h31 => bnd (f_X6_write (h31.1 20 0 11) (6 : Int32) (-9 : Int32) h31) (fun v33 h34 => some ((((si (si h34 20 0 13 ((h34.1 20 0 13) ||| ((1 : Int32) <<< ((h34.1 20 0 11) &&& 31)))) 20 0 11 (((si h34 20 0 13 ((h34.1 20 0 13) ||| ((1 : Int32) <<< ((h34.1 20 0 11) &&& 31)))).1 20 0 11) + (1 : Int32))).1 20 0 11) - (1 : Int32)), (si (si h34 20 0 13 ((h34.1 20 0 13) ||| ((1 : Int32) <<< ((h34.1 20 0 11) &&& 31)))) 20 0 11 (((si h34 20 0 13 ((h34.1 20 0 13) ||| ((1 : Int32) <<< ((h34.1 20 0 11) &&& 31)))).1 20 0 11) + (1 : Int32))))))))) else (some ((-4 : Int32), h21))))) := fun k e => by
    unfold f_X6_set
    rw [i1, bnd_some, if_neg (by decide), i2, bnd_some, if_neg (by decide), X6_isOne_y k hp, bnd_some, if_neg (by decide), X6_isOne_y k hp', bnd_some, if_neg (by decide), if_pos pq, e, if_pos (show ¬ nI n = (14 : Int32) from fun z => n14 ((nI_eq (b := 14) (by omega) (by decide)).mp z))]
  by_cases w0 : V.1 0 = 0
  · refine ⟨-4, h, h, ?_, ?_, hI⟩
    · rw [if_pos w0, if_pos rfl]
    · rw [mo h (MW_m11 (mw W)), show h.1 20 0 10 = V.1 0 from W.2.2.1.1.1, if_pos w0]
  rw [if_neg w0, if_neg (by decide)]
  obtain ⟨wd, hwd, e0⟩ := WF_wd W.1
  obtain ⟨h1, s1, s2, s3, s4, s5⟩ := X4_settle (cw W) hn' (show c ≤ 5 by omega) (show x ≤ 8 by omega) hwd e0 (nI p) (nI p')
  rw [s1, bnd_some]
  have M1 : MW h1 V n dn := MW_g (mw W) (fun g j z => s3 _ _ _ (by omega) (by omega) (by omega))
  obtain ⟨k1, t1, t2, t3, t4⟩ := X6_mayLie M1 hn' (show c ≤ 5 by omega) (show x ≤ 8 by omega) hwd e0
  have mo1 := mo h1 (MW_m11 M1)
  rw [show h1.1 20 0 10 = V.1 0 from M1.2.1.1, if_neg w0, t1, bnd_some] at mo1
  have M2 : MW k1 V n dn := MW_g2 M1 (fun j z => t2 _ _ _ (by omega)) (fun j z => t2 _ _ _ (by omega)) (fun j => t2 _ _ _ (by omega))
  have fr : ∀ g i j, ¬ ((g = 15 ∨ g = 16 ∨ g = 13) ∧ i = 1) → ¬ (g = 11 ∧ i = 1 ∧ (j = 7 ∨ j = 8)) → ¬ (g = 17 ∧ i = 14 + n) → ¬ (g = 27 ∧ i = 0 ∧ 7 * n ≤ j ∧ j < 7 * n + 3) → k1.1 g i j = h.1 g i j := fun g i j z1 z2 z3 z4 => (t2 g i j z4).trans (s3 g i j z1 z2 z3)
  cases hm : may V n wd c x
  · rw [hm, bi_f, if_neg (fun z => z rfl)] at mo1
    rw [bi_f, if_neg (fun z => z rfl)]
    have C2 : CW k1 V n dn := CW_g (s4 hm) (fun g i j z => t2 _ _ _ (by omega))
    refine ⟨-4, h1, k1, rfl, mo1, Inv_w hI (IW_new W C2 M2 rfl (fr _ _ _ (by omega) (by omega) (by omega) (by omega)) (fun g i j z => fr _ _ _ (by omega) (by omega) (by omega) (by omega))) ?_ (fun g i j z => fr _ _ _ (by omega) (by omega) (by omega) (by omega))⟩
    rw [t3, s2]
  · obtain ⟨C1, c8, -, b4, b5, b6, b7⟩ := s5 hm
    have hm' := hm
    unfold may rmy at hm'
    rw [Bool.and_eq_true, Bool.and_eq_true, decide_eq_true_iff, Bool.not_eq_true'] at hm'
    obtain ⟨⟨x2, tk⟩, -⟩ := hm'
    have N := nbF_NB (nI p) (nI p') (show c ≤ 5 by omega) (show x + 2 ≤ 9 by omega)
    have N0 := B0_NB (show c ≤ 5 by omega) (show x + 2 ≤ 9 by omega)
    have R := ap_BR (BR_of W.1) N
    have w2 : WF (apS V n (nbF c x (nI p) (nI p'))) (n + 1) dn := WF_ap W.1 hn' N e0 hwd x2 ⟨p, hp, rfl⟩ ⟨p', hp', rfl⟩ (fun z => by omega) (fun _ => rfl) rfl (by rw [tk_ap _ N0 N]; exact tk)
    have C2 : CR h1 1 (apS V n (nbF c x (nI p) (nI p'))) (n + 1) dn := CR_ap W.2.1 (CB_ap C1 N0 N) R (fun j z => s3 _ _ _ (by omega) (by omega) (by omega)) (by rw [c8, CW_c8 (cw W)]) b4 b5 b6 b7 (fun b j z => s3 _ _ _ (by omega) (by omega) (by omega)) (fun i => s3 _ _ _ (by omega) (by omega) (by omega))
    have en : nI (n + 1) - 1 = nI n := nI_subI (b := 1) (by omega)
    rw [bi_t, if_pos (by decide), C1.2.1, en]
    rw [hm, bi_t, if_pos (by decide), MW_m11 M2, show f_X6_write (nI n) 3 (nI p) k1 = _ from X6_write (f := 3) (nI p) k1 (by omega) (by decide), bnd_some] at mo1
    generalize hk2 : si k1 27 0 (7 * n + 3) (nI p) = k2 at mo1
    have m2 : k2.1 20 0 11 = nI n := by rw [← hk2, si_g _ (by decide)]; exact MW_m11 M2
    rw [m2, show f_X6_write (nI n) 4 (nI p') k2 = _ from X6_write (f := 4) (nI p') k2 (by omega) (by decide), bnd_some] at mo1
    generalize hk3 : si k2 27 0 (7 * n + 4) (nI p') = k3 at mo1
    have m3 : k3.1 20 0 11 = nI n := by rw [← hk3, si_g _ (by decide)]; exact m2
    rw [m3, show f_X6_write (nI n) 5 (-9) k3 = _ from X6_write (f := 5) (-9) k3 (by omega) (by decide), bnd_some] at mo1
    generalize hk4 : si k3 27 0 (7 * n + 5) (-9) = k4 at mo1
    have m4 : k4.1 20 0 11 = nI n := by rw [← hk4, si_g _ (by decide)]; exact m3
    rw [m4, show f_X6_write (nI n) 6 (-9) k4 = _ from X6_write (f := 6) (-9) k4 (by omega) (by decide), bnd_some] at mo1
    generalize hk5 : si k4 27 0 (7 * n + 6) (-9) = k5 at mo1
    have f5 : ∀ g i j, ¬ (g = 27 ∧ i = 0 ∧ 7 * n + 3 ≤ j ∧ j < 7 * n + 7) → k5.1 g i j = k1.1 g i j := fun g i j z => by
      rw [← hk5, si_ne _ _ (by omega), ← hk4, si_ne _ _ (by omega), ← hk3, si_ne _ _ (by omega), ← hk2, si_ne _ _ (by omega)]
    have v5 : ∀ f, f < 7 → k5.1 27 0 (7 * n + f) = nbF c x (nI p) (nI p') f := fun f hf => by
      rcases (show f < 3 ∨ f = 3 ∨ f = 4 ∨ f = 5 ∨ f = 6 by omega) with z | rfl | rfl | rfl | rfl
      · rw [f5 _ _ _ (by omega), t4 x2 f z]
        rcases (show f = 0 ∨ f = 1 ∨ f = 2 by omega) with rfl | rfl | rfl <;> rfl
      · rw [← hk5, si_ne _ _ (by omega), ← hk4, si_ne _ _ (by omega), ← hk3, si_ne _ _ (by omega), ← hk2, si_at]; rfl
      · rw [← hk5, si_ne _ _ (by omega), ← hk4, si_ne _ _ (by omega), ← hk3, si_at]; rfl
      · rw [← hk5, si_ne _ _ (by omega), ← hk4, si_at]; rfl
      · rw [← hk5, si_at]; rfl
    have m5 : k5.1 20 0 11 = nI n := by rw [f5 _ _ _ (by omega)]; exact MW_m11 M2
    have m13 : k5.1 20 0 13 = V.1 2 := by rw [f5 _ _ _ (by omega)]; exact MW_m13 M2
    have e11 : ∀ v, (si k5 20 0 13 v).1 20 0 11 = nI n := fun v => by rw [si_j _ (by decide)]; exact m5
    rw [m5, m13, e11, nI_1] at mo1
    generalize hk6 : si (si k5 20 0 13 (V.1 2 ||| (1 : Int32) <<< (nI n &&& 31))) 20 0 11 (nI (n + 1)) = k6 at mo1
    have f6 : ∀ g i j, ¬ (g = 20 ∧ i = 0 ∧ (j = 11 ∨ j = 13)) → k6.1 g i j = k5.1 g i j := fun g i j z => by rw [← hk6, si_ne _ _ (by omega), si_ne _ _ (by omega)]
    have g11 : k6.1 20 0 11 = nI (n + 1) := by rw [← hk6, si_at]
    have g13 : k6.1 20 0 13 = V.1 2 ||| (1 : Int32) <<< (nI n &&& 31) := by rw [← hk6, si_j _ (by decide), si_at]
    have M6 : MR k6 (apS V n (nbF c x (nI p) (nI p'))) (n + 1) dn := by
      obtain ⟨⟨z1, z2, z3, z4, z5, z6, z7, z8⟩, y1, y2⟩ := M2.2
      refine ⟨⟨?_, g11, g13, ?_, ?_, ?_, ?_, ?_⟩, fun b f hb hf => ?_, fun i hi => ?_⟩
      · rw [f6 _ _ _ (by omega), f5 _ _ _ (by omega), z1]; rfl
      · rw [f6 _ _ _ (by omega), f5 _ _ _ (by omega), z4]; rfl
      · rw [f6 _ _ _ (by omega), f5 _ _ _ (by omega), z5]; rfl
      · rw [f6 _ _ _ (by omega), f5 _ _ _ (by omega), z6]; rfl
      · rw [f6 _ _ _ (by omega), f5 _ _ _ (by omega), z7]; rfl
      · rw [f6 _ _ _ (by omega), f5 _ _ _ (by omega), z8]; rfl
      · show _ = (apB V n (nbF c x (nI p) (nI p'))).2.1 b f
        rw [f6 _ _ _ (by omega)]
        by_cases q : b = n
        · rw [q, ap_n]; exact v5 f hf
        · rw [ap_lt _ q, f5 _ _ _ (by omega)]; exact y1 b f (by omega) hf
      · rw [f6 _ _ _ (by omega), f5 _ _ _ (by omega)]; exact y2 i hi
    have fK : ∀ g i j, ¬ (g = 20 ∧ i = 0 ∧ (j = 11 ∨ j = 13)) → g ≠ 27 → k6.1 g i j = h1.1 g i j := fun g i j z1 z2 => by rw [f6 g i j z1, f5 g i j (by omega), t2 g i j (by omega)]
    have C6 : CW k6 (apS V n (nbF c x (nI p) (nI p'))) (n + 1) dn := CW_g ⟨w2, C2⟩ (fun g i j z => fK g i j (by omega) (by omega))
    refine ⟨nI n, h1, k6, rfl, ?_, Inv_w hI (IW_new W C6 ⟨w2, M6⟩ rfl ?_ (fun g i j z => ?_)) ?_ (fun g i j z => ?_)⟩
    · rw [mo1, g11, en]
    · rw [fK _ _ _ (by omega) (by omega)]; exact s3 _ _ _ (by omega) (by omega) (by omega)
    · rw [fK _ _ _ (by omega) (by omega)]; exact s3 _ _ _ (by omega) (by omega) (by omega)
    · rw [← hk6, ← hk5, ← hk4, ← hk3, ← hk2]
      show k1.2.1 = _
      rw [t3, s2]
    · rw [fK _ _ _ (by omega) (by omega)]; exact s3 _ _ _ (by omega) (by omega) (by omega)
