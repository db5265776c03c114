/-! what stands, as one fixed point -/
def FP (V : Wv) (n : Nat) (th pr s : Nat → Bool) : Prop := ∀ b, b < n → s b = (th b && (pr b || hoB V n s b))
theorem rs_congr {V : Wv} {n b i : Nat} {s s' : Nat → Bool} (h : ∀ k, k < n → rk V k < rk V b → s k = s' k) : rsB V n s b i = rsB V n s' b i := by
  unfold rsB
  congr 1
  apply anyB_congr
  intro k hk
  unfold brB
  by_cases q : co V k + 1 = co V b
  · rw [h k hk (by unfold rk; split <;> split <;> omega)]
  · rw [decide_eq_false q]
    simp
theorem ho_congr {V : Wv} {n b : Nat} {s s' : Nat → Bool} (h : ∀ k, k < n → rk V k < rk V b → s k = s' k) : hoB V n s b = hoB V n s' b := by
  unfold hoB
  rw [rs_congr (i := 0) h, rs_congr (i := 1) h, rs_congr (i := 2) h]
  by_cases q5 : kd V b = 5
  · have e1 : anyB (lfB V s b) n = anyB (lfB V s' b) n := by
      apply anyB_congr
      intro k hk
      unfold lfB tcB
      by_cases c5 : kd V k = 5
      · rw [decide_eq_true c5]; simp
      · by_cases cc : co V k = co V b
        · rw [h k hk (by unfold rk; rw [if_pos q5, if_neg c5]; omega)]
        · rw [decide_eq_false cc]; simp
    have e2 : anyB (rtB V s b) n = anyB (rtB V s' b) n := by
      apply anyB_congr
      intro k hk
      unfold rtB tcB
      by_cases c5 : kd V k = 5
      · rw [decide_eq_true c5]; simp
      · by_cases cc : co V b = co V k
        · rw [h k hk (by unfold rk; rw [if_pos q5, if_neg c5]; omega)]
        · rw [decide_eq_false cc]; simp
    rw [e1, e2]
  · rw [decide_eq_false q5, Bool.false_and, Bool.false_and]
theorem FP_uniq {V : Wv} {n : Nat} {th pr s s' : Nat → Bool} (h : FP V n th pr s) (h' : FP V n th pr s') : ∀ b, b < n → s b = s' b := by
  have key : ∀ m b, b < n → rk V b < m → s b = s' b := by
    intro m
    induction m with
    | zero => intro b _ hm; omega
    | succ m ih =>
      intro b hb hm
      rw [h b hb, h' b hb, ho_congr (fun k hk hr => ih k hk (by omega))]
  exact fun b hb => key _ b hb (Nat.lt_succ_self _)
theorem lv_sub0 (V : Wv) {n : Nat} (th pr : Int32) (hn : n ≤ 14) : ∀ l i, n ≤ i → i < 32 → bt (lvS V n th pr l) i = false
  | 0, i, _, _ => b_0 i
  | l + 1, i, h1, h2 => by
    unfold lvS
    rw [b_or, lv_sub0 V th pr hn l i h1 h2, b_mkb _ n i (by omega) h2, decide_eq_false (by omega)]
    rfl
theorem lvS_sub (V : Wv) {n : Nat} (th pr : Int32) (hn : n ≤ 14) (l : Nat) : sub (lvS V n th pr l) n := by
  intro i hi
  rcases Nat.lt_or_ge i 32 with q | q
  · exact lv_sub0 V th pr hn l i hi q
  · exact b_big q
theorem lv_inv (V : Wv) {n : Nat} (th pr : Int32) (hn : n ≤ 14) : ∀ l b, b < n → bt (lvS V n th pr l) b = (decide (rk V b < l) && (bt th b && (bt pr b || hoB V n (bt (lvS V n th pr l)) b)))
  | 0, b, _ => by
    show bt 0 b = _
    rw [b_0, decide_eq_false (by omega)]
    rfl
  | l + 1, b, hb => by
    have ih := lv_inv V th pr hn l
    have eb : ∀ k, k < n → bt (lvS V n th pr (l + 1)) k = (bt (lvS V n th pr l) k || dueB V n th pr (lvS V n th pr l) l k) := fun k hk => by
      show bt (lvS V n th pr l ||| mkb (dueB V n th pr (lvS V n th pr l) l) n) k = _
      rw [b_or, b_mkb _ n k (by omega) (by omega), decide_eq_true hk, Bool.true_and]
    have e0 : rk V b < l + 1 → hoB V n (bt (lvS V n th pr (l + 1))) b = hoB V n (bt (lvS V n th pr l)) b := fun hr => by
      apply ho_congr
      intro k hk hr2
      rw [eb k hk]
      unfold dueB
      rw [decide_eq_false (by omega : ¬ rk V k = l)]
      simp
    rw [eb b hb, ih b hb]
    unfold dueB
    by_cases q : rk V b < l
    · rw [decide_eq_true q, decide_eq_true (by omega : rk V b < l + 1), decide_eq_false (by omega : ¬ rk V b = l), e0 (by omega)]
      simp
    · by_cases q2 : rk V b = l
      · rw [decide_eq_false q, decide_eq_true (by omega : rk V b < l + 1), decide_eq_true q2, e0 (by omega)]
        simp
      · rw [decide_eq_false q, decide_eq_false (by omega : ¬ rk V b < l + 1), decide_eq_false q2]
        simp
theorem lv_FP (V : Wv) {n : Nat} (th pr : Int32) (hn : n ≤ 14) (hc : ∀ b, b < n → co V b ≤ 5) : FP V n (bt th) (bt pr) (bt (lvS V n th pr 12)) := by
  intro b hb
  have h := lv_inv V th pr hn 12 b hb
  have hr : rk V b < 12 := by
    have := hc b hb
    unfold rk
    split <;> omega
  rw [decide_eq_true hr, Bool.true_and] at h
  exact h
theorem lv_in (V : Wv) {n : Nat} (th pr : Int32) (hn : n ≤ 14) (hc : ∀ b, b < n → co V b ≤ 5) {b : Nat} (hb : b < n) (h : bt (lvS V n th pr 12) b = true) : bt th b = true := by
  rw [lv_FP V th pr hn hc b hb, Bool.and_eq_true] at h
  exact h.1
/-! the class's wall -/
def CB (h : Hp) (w : Nat) (V : Wv) (n : Nat) : Prop := n ≤ 14 ∧ h.1 11 w 7 = nI n ∧
  (∀ b, b < n → h.1 17 (14 * w + b) 0 = nI (kd V b) ∧ h.1 17 (14 * w + b) 1 = nI (co V b) ∧ h.1 17 (14 * w + b) 2 = nI (hf V b) ∧ h.1 17 (14 * w + b) 3 = nI (mskN (kd V b) (hf V b)) ∧ kd V b ≤ 5 ∧ co V b ≤ 5 ∧ hf V b + ln V b ≤ 9) ∧
  ∃ od : Nat → Nat, (∀ i, i < n → h.1 13 w i = nI (od i) ∧ od i < n) ∧ (∀ b, b < n → ∃ i, i < n ∧ od i = b) ∧ ∀ i j, i < j → j < n → rk V (od i) ≤ rk V (od j)
theorem CB_of {h : Hp} {w n dn : Nat} {V : Wv} (hW : WF V n dn) (hC : CR h w V n dn) : CB h w V n := by
  obtain ⟨h1, h2, -, ⟨wd, w1, -, -, w2⟩, h3, -⟩ := hW
  obtain ⟨⟨-, c1, -⟩, c2, -, c3⟩ := hC
  refine ⟨h1, c1.trans h2, fun b hb => ?_, c3⟩
  obtain ⟨a1, a2, a3, a4, -⟩ := c2 b hb
  obtain ⟨b1, b2, b3, b4, b5⟩ := h3 b hb
  exact ⟨a1.trans b1, a2.trans b2, a3.trans b3, a4, b4, b5, by have := w2 b hb; omega⟩
/-- the same but for the scratch of wall w -/
def Sw (w : Nat) (h h' : Hp) : Prop := (∀ g i j, ¬ ((g = 15 ∨ g = 16) ∧ i = w) → h'.1 g i j = h.1 g i j) ∧ h'.2 = h.2
theorem Sw.rfl' {w : Nat} {h : Hp} : Sw w h h := ⟨fun _ _ _ _ => rfl, rfl⟩
theorem Sw.tr {w : Nat} {h h' h'' : Hp} (a : Sw w h h') (b : Sw w h' h'') : Sw w h h'' := ⟨fun g i j q => (b.1 g i j q).trans (a.1 g i j q), b.2.trans a.2⟩
theorem Sw.g {w : Nat} {h h' : Hp} (a : Sw w h h') {g i j : Nat} (q : g ≠ 15) (q2 : g ≠ 16) : h'.1 g i j = h.1 g i j := a.1 g i j (fun z => z.1.elim q q2)
theorem CB_sw {h h' : Hp} {w n : Nat} {V : Wv} (a : Sw w h h') (H : CB h w V n) : CB h' w V n := by
  unfold CB
  simp only [a.g (g := 11) (by decide) (by decide), a.g (g := 17) (by decide) (by decide), a.g (g := 13) (by decide) (by decide)]
  exact H
theorem msk_bit : ∀ k, k < 6 → ∀ x, x < 10 → ∀ j, j < 32 → bt (nI (mskN k x)) j = decide (x < j ∧ j ≤ x + (if 4 ≤ k then 3 else 2)) := by decide +kernel
theorem mid_bit : ∀ x, x < 10 → ∀ j, j < 32 → bt ((2 : Int32) <<< (nI (x + 1) &&& 31)) j = decide (j = x + 2) := by decide +kernel
theorem and_all (x m : Int32) : x &&& m = m ↔ ∀ j, j < 32 → bt m j = true → bt x j = true := by
  constructor
  · intro e j hj hm
    rw [← e, b_and, Bool.and_eq_true] at hm
    exact hm.1
  · intro e
    apply b_ext
    intro j hj
    rw [b_and]
    cases hm : bt m j
    · rw [Bool.and_false]
    · rw [e j hj hm]; rfl
theorem and_none (x m : Int32) : x &&& m = 0 ↔ ∀ j, j < 32 → bt m j = true → bt x j = false := by
  constructor
  · intro e j hj hm
    have h1 := congrArg (fun z => bt z j) e
    simp only [b_and, b_0, hm, Bool.and_true] at h1
    exact h1
  · intro e
    apply b_ext
    intro j hj
    rw [b_and, b_0]
    cases hm : bt m j
    · rw [Bool.and_false]
    · rw [e j hj hm]; rfl
/-- halves of a course that are covered by a set; a half x is the bit x + 1 -/
def cvB (V : Wv) (s : Nat → Bool) (c j k : Nat) : Bool := (s k && decide (co V k = c)) && decide (hf V k < j ∧ j ≤ hf V k + ln V k)
def cnB (V : Wv) (s : Nat → Bool) (c j k : Nat) : Bool := cvB V s c j k && !decide (kd V k = 5)
/-- bearing and holding tell the halves of a set -/
def Rep (h : Hp) (w : Nat) (V : Wv) (n : Nat) (s : Nat → Bool) : Prop := ∀ c, c < 6 → ∀ j, j < 32 → bt (h.1 15 w c) j = anyB (cvB V s c j) n ∧ bt (h.1 16 w c) j = anyB (cnB V s c j) n
def Dj (V : Wv) (n : Nat) (th : Nat → Bool) : Prop := ∀ a b, a < n → b < n → a ≠ b → th a = true → th b = true → co V a = co V b → ¬ ovl V a b
section CLS
variable {h : Hp} {V : Wv} {n w : Nat}
theorem X4_beneath (C : CB h w V n) {s : Nat → Bool} (R : Rep h w V n s) {b : Nat} (hb : b < n) : ∃ v, f_X4_beneath w (nI (co V b)) h = some (v, h) ∧ ∀ i, i < 3 → bt v (hf V b + i + 1) = rsB V n s b i := by
  obtain ⟨-, -, -, -, -, c5, c6⟩ := C.2.2.1 b hb
  unfold f_X4_beneath
  by_cases q : co V b = 0
  · refine ⟨-1, by rw [q, if_neg (by decide)], fun i hi => ?_⟩
    have := ln_le V b
    rw [b_m1 _ (by omega)]
    unfold rsB
    rw [decide_eq_true q, Bool.true_or]
  · refine ⟨h.1 15 w (co V b - 1), ?_, fun i hi => ?_⟩
    · rw [if_pos (show (0 : Int32) < nI (co V b) from nI_lt (a := 0) (by omega) (by omega)), show nI (co V b) - 1 = nI (co V b - 1) from nI_subI (b := 1) (by omega), if_pos (inb_t (by omega) (by decide)), nI_clamp (by omega)]
    · have := ln_le V b
      rw [(R (co V b - 1) (by omega) _ (by omega)).1]
      unfold rsB
      rw [decide_eq_false q, Bool.false_or]
      apply anyB_congr
      intro k hk
      unfold cvB brB
      by_cases q1 : co V k = co V b - 1
      · rw [decide_eq_true q1, decide_eq_true (by omega : co V k + 1 = co V b)]
        by_cases q2 : hf V k ≤ hf V b + i
        · by_cases q3 : hf V b + i < hf V k + ln V k
          · rw [decide_eq_true q2, decide_eq_true q3, decide_eq_true (by omega)]; simp
          · rw [decide_eq_false q3, decide_eq_false (by omega)]; simp
        · rw [decide_eq_false q2, decide_eq_false (by omega)]; simp
      · rw [decide_eq_false q1, decide_eq_false (by omega : ¬ co V k + 1 = co V b)]; simp
theorem X0_holds (C : CB h w V n) {s th : Nat → Bool} (R : Rep h w V n s) (D : Dj V n th) (hs : ∀ k, k < n → s k = true → th k = true) {b : Nat} (hb : b < n) (ht : th b = true) {v : Int32} (hv : ∀ i, i < 3 → bt v (hf V b + i + 1) = rsB V n s b i) : f_X0_holds (14 * w + b) v (h.1 16 w (co V b)) h = some (bi (hoB V n s b), h) := by
  obtain ⟨c0, c1, c2, c3, c4, c5, c6⟩ := C.2.2.1 b hb
  have l3 := ln_le V b
  have hx : hf V b < 10 := by omega
  have v0 := hv 0 (by omega)
  have v1 := hv 1 (by omega)
  have v2 := hv 2 (by omega)
  unfold f_X0_holds f_X0_middle f_X0_sides
  rw [bnd_some, bnd_some, c0, c2, c3]
  have mb : ∀ j, j < 32 → bt (nI (mskN (kd V b) (hf V b))) j = decide (hf V b < j ∧ j ≤ hf V b + ln V b) := fun j hj => msk_bit (kd V b) (by omega) (hf V b) hx j hj
  have eb : ∀ j, j < 32 → bt (nI (mskN (kd V b) (hf V b)) &&& ((2 : Int32) <<< ((nI (hf V b) + 1) &&& 31) ^^^ (-1))) j = (decide (hf V b < j ∧ j ≤ hf V b + ln V b) && !decide (j = hf V b + 2)) := fun j hj => by
    rw [b_and, mb j hj, b_not _ hj, nI_1, mid_bit _ hx j hj]
  have lnv : ln V b = if 4 ≤ kd V b then 3 else 2 := rfl
  have ends : 4 ≤ kd V b → (v &&& (nI (mskN (kd V b) (hf V b)) &&& ((2 : Int32) <<< ((nI (hf V b) + 1) &&& 31) ^^^ (-1))) = nI (mskN (kd V b) (hf V b)) &&& ((2 : Int32) <<< ((nI (hf V b) + 1) &&& 31) ^^^ (-1)) ↔ (rsB V n s b 0 && rsB V n s b 2) = true) := by
    intro q
    rw [if_pos q] at lnv
    rw [and_all, Bool.and_eq_true]
    constructor
    · intro e
      refine ⟨?_, ?_⟩
      · rw [← v0]
        exact e _ (by omega) (by rw [eb _ (by omega), decide_eq_true (by omega), decide_eq_false (by omega)]; rfl)
      · rw [← v2]
        exact e _ (by omega) (by rw [eb _ (by omega), decide_eq_true (by omega), decide_eq_false (by omega)]; rfl)
    · intro e j hj hm
      rw [eb j hj, Bool.and_eq_true, decide_eq_true_iff, Bool.not_eq_true', decide_eq_false_iff_not] at hm
      rcases (show j = hf V b + 0 + 1 ∨ j = hf V b + 2 + 1 by omega) with rfl | rfl
      · rw [v0]; exact e.1
      · rw [v2]; exact e.2
  unfold hoB
  by_cases q1 : kd V b = 1
  · rw [q1, if_pos (show nI 1 = (1 : Int32) from rfl), if_neg (show ¬ 4 ≤ 1 by decide), if_pos rfl]
    have e : v &&& nI (mskN (kd V b) (hf V b)) = nI (mskN (kd V b) (hf V b)) ↔ (rsB V n s b 0 && rsB V n s b 1) = true := by
      rw [if_neg (show ¬ 4 ≤ kd V b by omega)] at lnv
      rw [and_all, Bool.and_eq_true]
      constructor
      · intro e
        refine ⟨?_, ?_⟩
        · rw [← v0]; exact e _ (by omega) (by rw [mb _ (by omega), decide_eq_true (by omega)])
        · rw [← v1]; exact e _ (by omega) (by rw [mb _ (by omega), decide_eq_true (by omega)])
      · intro e j hj hm
        rw [mb j hj, decide_eq_true_iff] at hm
        rcases (show j = hf V b + 0 + 1 ∨ j = hf V b + 1 + 1 by omega) with rfl | rfl
        · rw [v0]; exact e.1
        · rw [v1]; exact e.2
    rw [q1] at e
    cases hr : rsB V n s b 0 && rsB V n s b 1
    · rw [if_pos (fun z => by have := e.mp z; rw [hr] at this; cases this)]; rfl
    · rw [if_neg (fun z => z (e.mpr hr))]; rfl
  rw [if_neg (ne1 (by omega) q1)]
  by_cases q4 : kd V b = 4
  · have e := ends (by omega)
    rw [if_pos (show nI (kd V b) = (4 : Int32) by rw [q4]; rfl), if_pos (show 4 ≤ kd V b by omega), decide_eq_false (by omega : ¬ kd V b = 5), Bool.false_and, Bool.or_false]
    cases hr : rsB V n s b 0 && rsB V n s b 2
    · rw [if_pos (fun z => by have := e.mp z; rw [hr] at this; cases this)]; rfl
    · rw [if_neg (fun z => z (e.mpr hr))]; rfl
  rw [if_neg (show ¬ nI (kd V b) = (4 : Int32) from fun z => q4 ((nI_eq (b := 4) (by omega) (by decide)).mp z))]
  by_cases q5 : kd V b = 5
  · have e := ends (by omega)
    rw [if_pos (show 4 ≤ kd V b by omega)] at lnv
    rw [if_pos (show nI (kd V b) = (5 : Int32) by rw [q5]; rfl), if_pos (show 4 ≤ kd V b by omega), decide_eq_true q5, Bool.true_and]
    cases hr : rsB V n s b 0 && rsB V n s b 2
    · rw [if_neg (fun z => by have := e.mp z; rw [hr] at this; cases this), Bool.false_or]
      have hl : bt (h.1 16 w (co V b)) (hf V b) = anyB (lfB V s b) n := by
        rw [(R (co V b) (by omega) _ (by omega)).2]
        apply anyB_congr
        intro k hk
        unfold cnB cvB lfB tcB
        cases hsk : s k
        · simp
        by_cases k5 : kd V k = 5
        · rw [decide_eq_true k5]; simp
        by_cases kc : co V k = co V b
        · have d := D k b hk hb (fun z => k5 (z ▸ q5)) (hs k hk hsk) ht kc
          unfold ovl at d
          rw [decide_eq_false k5, decide_eq_true kc]
          by_cases z : hf V k + ln V k = hf V b
          · have := ln_le V k
            rw [decide_eq_true z, decide_eq_true (by have : 0 < ln V k := by unfold ln; split <;> omega
                                                     omega)]
            rfl
          · rw [decide_eq_false z, decide_eq_false (by omega)]; rfl
        · rw [decide_eq_false kc]; simp
      have hrr : bt (h.1 16 w (co V b)) (hf V b + 4) = anyB (rtB V s b) n := by
        rw [(R (co V b) (by omega) _ (by omega)).2]
        apply anyB_congr
        intro k hk
        unfold cnB cvB rtB tcB
        cases hsk : s k
        · simp
        by_cases k5 : kd V k = 5
        · rw [decide_eq_true k5]; simp
        by_cases kc : co V k = co V b
        · have d := D k b hk hb (fun z => k5 (z ▸ q5)) (hs k hk hsk) ht kc
          unfold ovl at d
          have kl : 0 < ln V k := by unfold ln; split <;> omega
          rw [decide_eq_false k5, decide_eq_true kc, decide_eq_true (kc.symm)]
          by_cases z : hf V b + ln V b = hf V k
          · rw [decide_eq_true z, decide_eq_true (by omega)]; rfl
          · rw [decide_eq_false z, decide_eq_false (by omega)]; rfl
        · rw [decide_eq_false kc, decide_eq_false (show ¬ co V b = co V k from fun z => kc z.symm)]; simp
      have e2 : h.1 16 w (co V b) &&& ((1 : Int32) <<< (nI (hf V b) &&& 31) ||| (1 : Int32) <<< ((nI (hf V b) + 4) &&& 31)) = ((1 : Int32) <<< (nI (hf V b) &&& 31) ||| (1 : Int32) <<< ((nI (hf V b) + 4) &&& 31)) ↔ (anyB (lfB V s b) n && anyB (rtB V s b) n) = true := by
        rw [show nI (hf V b) + 4 = nI (hf V b + 4) from nI_add _ 4, and_all, Bool.and_eq_true, ← hl, ← hrr]
        constructor
        · intro z
          exact ⟨z _ (by omega) (by rw [b_or, b_one (by omega) (by omega), decide_eq_true rfl, Bool.true_or]), z _ (by omega) (by rw [b_or, b_one (k := hf V b + 4) (by omega) (by omega), decide_eq_true rfl, Bool.or_true])⟩
        · intro z j hj hm
          rw [b_or, b_one (by omega) hj, b_one (by omega) hj, Bool.or_eq_true, decide_eq_true_iff, decide_eq_true_iff] at hm
          rcases hm with rfl | rfl
          · exact z.1
          · exact z.2
      cases hr2 : anyB (lfB V s b) n && anyB (rtB V s b) n
      · rw [if_pos (fun z => by have := e2.mp z; rw [hr2] at this; cases this)]; rfl
      · rw [if_neg (fun z => z (e2.mpr hr2))]; rfl
    · rw [if_pos (e.mpr hr)]; rfl
  · rw [if_neg (ne5 (by omega) q5), if_neg (show ¬ 4 ≤ kd V b by omega), if_neg q1]
    rw [if_neg (show ¬ 4 ≤ kd V b by omega)] at lnv
    have e : v &&& nI (mskN (kd V b) (hf V b)) = 0 ↔ (rsB V n s b 0 || rsB V n s b 1) = false := by
      rw [and_none, Bool.or_eq_false_iff]
      constructor
      · intro e
        refine ⟨?_, ?_⟩
        · rw [← v0]; exact e _ (by omega) (by rw [mb _ (by omega), decide_eq_true (by omega)])
        · rw [← v1]; exact e _ (by omega) (by rw [mb _ (by omega), decide_eq_true (by omega)])
      · intro e j hj hm
        rw [mb j hj, decide_eq_true_iff] at hm
        rcases (show j = hf V b + 0 + 1 ∨ j = hf V b + 1 + 1 by omega) with rfl | rfl
        · rw [v0]; exact e.1
        · rw [v1]; exact e.2
    cases hr : rsB V n s b 0 || rsB V n s b 1
    · rw [if_pos (e.mpr hr)]; rfl
    · rw [if_neg (fun z => by have := e.mp z; rw [hr] at this; cases this)]; rfl
end CLS
