/-! one brick more: the class's add and removeLast, for any of its walls -/
def apB (V : Wv) (n : Nat) (B : Nat → Int32) : Wv := (V.1, (fun b f => if b = n then B f else V.2.1 b f, V.2.2))
def NB (B : Nat → Int32) (k c x : Nat) : Prop := B 0 = nI k ∧ B 1 = nI c ∧ B 2 = nI x ∧ k ≤ 5 ∧ c ≤ 5 ∧ x + lnk k ≤ 9
def BR (V : Wv) (n : Nat) : Prop := ∀ b, b < n → V.2.1 b 0 = nI (kd V b) ∧ V.2.1 b 1 = nI (co V b) ∧ V.2.1 b 2 = nI (hf V b) ∧ kd V b ≤ 5 ∧ co V b ≤ 5 ∧ hf V b + ln V b ≤ 9
theorem BR_of {V : Wv} {n dn : Nat} (W : WF V n dn) : BR V n := fun b hb => by
  obtain ⟨a0, a1, a2, a3, a4⟩ := WF_br W b hb
  exact ⟨a0, a1, a2, a3, a4, WF_hf W b hb⟩
theorem lnk_le (k : Nat) : 2 ≤ lnk k ∧ lnk k ≤ 3 := by unfold lnk; split <;> omega
section AP
variable {V : Wv} {n : Nat} {B : Nat → Int32}
theorem ap_lt {b : Nat} (f : Nat) (q : b ≠ n) : (apB V n B).2.1 b f = V.2.1 b f := if_neg q
theorem ap_n (f : Nat) : (apB V n B).2.1 n f = B f := if_pos rfl
theorem ap_kd {b : Nat} (q : b ≠ n) : kd (apB V n B) b = kd V b := by unfold kd; rw [ap_lt _ q]
theorem ap_co {b : Nat} (q : b ≠ n) : co (apB V n B) b = co V b := by unfold co; rw [ap_lt _ q]
theorem ap_hf {b : Nat} (q : b ≠ n) : hf (apB V n B) b = hf V b := by unfold hf; rw [ap_lt _ q]
theorem ap_ln {b : Nat} (q : b ≠ n) : ln (apB V n B) b = ln V b := by unfold ln; rw [ap_kd q]
theorem ap_rk {b : Nat} (q : b ≠ n) : rk (apB V n B) b = rk V b := by unfold rk; rw [ap_kd q, ap_co q]
theorem ap_kdn {k : Nat} (e : B 0 = nI k) (hk : k ≤ 5) : kd (apB V n B) n = k := by unfold kd; rw [ap_n, e, nI_clamp (by omega)]
theorem ap_con {k : Nat} (e : B 1 = nI k) (hk : k ≤ 5) : co (apB V n B) n = k := by unfold co; rw [ap_n, e, nI_clamp (by omega)]
theorem ap_hfn {k : Nat} (e : B 2 = nI k) (hk : k ≤ 9) : hf (apB V n B) n = k := by unfold hf; rw [ap_n, e, nI_clamp (by omega)]
theorem ap_lnn {k : Nat} (e : B 0 = nI k) (hk : k ≤ 5) : ln (apB V n B) n = lnk k := by unfold ln lnk; rw [ap_kdn e hk]
theorem ap_rkn {k c : Nat} (e : B 0 = nI k) (hk : k ≤ 5) (e1 : B 1 = nI c) (hc : c ≤ 5) : rk (apB V n B) n = 2 * c + (if k = 5 then 1 else 0) := by unfold rk; rw [ap_kdn e hk, ap_con e1 hc]
theorem ap_BR {k c x : Nat} (R : BR V n) (N : NB B k c x) : BR (apB V n B) (n + 1) := fun b hb => by
  obtain ⟨n0, n1, n2, n3, n4, n5⟩ := N
  have := lnk_le k
  by_cases q : b = n
  · subst q
    rw [ap_n, ap_n, ap_n, ap_kdn n0 n3, ap_con n1 n4, ap_hfn n2 (by omega), ap_lnn n0 n3]
    exact ⟨n0, n1, n2, n3, n4, n5⟩
  · rw [ap_lt _ q, ap_lt _ q, ap_lt _ q, ap_kd q, ap_co q, ap_hf q, ap_ln q]
    exact R b (by omega)
end AP
theorem X0_rank_g {h : Hp} {p k c : Nat} (e0 : h.1 17 p 0 = nI k) (e1 : h.1 17 p 1 = nI c) (hk : k ≤ 5) : f_X0_rank p h = some (nI (2 * c + if k = 5 then 1 else 0), h) := by
  unfold f_X0_rank
  rw [e0, e1]
  have e : ∀ x : Nat, (2 : Int32) * nI c + nI x = nI (2 * c + x) := fun x => by rw [show (2 : Int32) = nI 2 from rfl, nI_mul, nI_add]
  by_cases z : k = 5
  · rw [if_neg (fun y => y (by rw [z]; rfl)), if_pos z]
    exact congrArg (fun x => some (x, h)) (e 1)
  · rw [if_pos (ne5 (by omega) z), if_neg z]
    exact congrArg (fun x => some (x, h)) (e 0)
theorem X4_add_end {w n p : Nat} (hn : n < 14) (hp : p ≤ n) (h : Hp) : f_X4_add_b90 w (nI n) (nI p) h = some ((), si (si (si h 13 w p (nI n)) 11 w 8 (h.1 11 w 8 ||| (1 : Int32) <<< (nI n &&& 31))) 11 w 7 (h.1 11 w 7 + 1)) := by
  have e1 : (si h 13 w p (nI n)).1 11 w 8 = h.1 11 w 8 := si_g h (by decide)
  have e2 : ∀ v, (si (si h 13 w p (nI n)) 11 w 8 v).1 11 w 7 = h.1 11 w 7 := fun v => by rw [si_j _ (by decide), si_g _ (by decide)]
  unfold f_X4_add_b90
  rw [if_pos (inb_t (by omega) (by decide)), nI_clamp (by omega), e1, e2]
theorem X4_add_loop {w n : Nat} {R o : Nat → Nat} (hn : n < 14) (ho : ∀ i, i < n → o i < n) (hR : ∀ b, b ≤ n → R b ≤ 11) : ∀ (p fuel : Nat) (h : Hp), p ≤ n → p < fuel →
    (∀ b, b ≤ n → ∃ k c, h.1 17 (14 * w + b) 0 = nI k ∧ h.1 17 (14 * w + b) 1 = nI c ∧ k ≤ 5 ∧ R b = 2 * c + (if k = 5 then 1 else 0)) →
    (∀ i, i < p → h.1 13 w i = nI (o i)) → (∀ i, p < i → i ≤ n → h.1 13 w i = nI (o (i - 1))) → (∀ i, p ≤ i → i < n → R n < R (o i)) →
    ∃ h' q, q ≤ p ∧ f_X4_add_b33 fuel w (nI n) (nI p) h = some ((), h') ∧ (∀ i, i ≤ n → h'.1 13 w i = nI (if i < q then o i else if i = q then n else o (i - 1))) ∧ (0 < q → R (o (q - 1)) ≤ R n) ∧ (∀ i, q ≤ i → i < n → R n < R (o i)) ∧
      h'.1 11 w 8 = h.1 11 w 8 ||| (1 : Int32) <<< (nI n &&& 31) ∧ h'.1 11 w 7 = h.1 11 w 7 + 1 ∧ (∀ g i j, ¬ (g = 13 ∧ i = w) → ¬ (g = 11 ∧ i = w ∧ (j = 7 ∨ j = 8)) → h'.1 g i j = h.1 g i j) ∧ h'.2 = h.2 := by
  have fin : ∀ (p : Nat) (h : Hp), p ≤ n → (∀ i, i < p → h.1 13 w i = nI (o i)) → (∀ i, p < i → i ≤ n → h.1 13 w i = nI (o (i - 1))) → ∃ h', f_X4_add_b90 w (nI n) (nI p) h = some ((), h') ∧ (∀ i, i ≤ n → h'.1 13 w i = nI (if i < p then o i else if i = p then n else o (i - 1))) ∧
      h'.1 11 w 8 = h.1 11 w 8 ||| (1 : Int32) <<< (nI n &&& 31) ∧ h'.1 11 w 7 = h.1 11 w 7 + 1 ∧ (∀ g i j, ¬ (g = 13 ∧ i = w) → ¬ (g = 11 ∧ i = w ∧ (j = 7 ∨ j = 8)) → h'.1 g i j = h.1 g i j) ∧ h'.2 = h.2 := by
    intro p h hp i1 i2
    refine ⟨_, X4_add_end hn hp h, fun i hi => ?_, ?_, ?_, fun g i j q1 q2 => ?_, rfl⟩
    · rw [si_g _ (by decide), si_g _ (by decide)]
      by_cases q : i = p
      · rw [q, si_at, if_neg (by omega), if_pos rfl]
      · rw [si_j _ q, if_neg q]
        by_cases q3 : i < p
        · rw [if_pos q3]; exact i1 i q3
        · rw [if_neg q3]; exact i2 i (by omega) hi
    · rw [si_j _ (by decide), si_at]
    · rw [si_at]
    · rw [si_ne _ _ (by omega), si_ne _ _ (by omega), si_ne _ _ (by omega)]
  intro p
  induction p with
  | zero =>
    intro fuel h hp hq rr i1 i2 i3
    obtain ⟨f, rfl⟩ : ∃ f, fuel = f + 1 := ⟨fuel - 1, by omega⟩
    obtain ⟨h', e1, e2, e3, e4, e5, e6⟩ := fin 0 h hp i1 i2
    refine ⟨h', 0, Nat.le_refl 0, ?_, e2, fun z => by omega, i3, e3, e4, e5, e6⟩
    show f_X4_add_b33_body _ _ _ _ _ = _
    unfold f_X4_add_b33_body
    rw [if_pos (by decide)]
    exact e1
  | succ p ih =>
    intro fuel h hp hq rr i1 i2 i3
    obtain ⟨f, rfl⟩ : ∃ f, fuel = f + 1 := ⟨fuel - 1, by omega⟩
    have op := ho p (by omega)
    obtain ⟨k, c, k1, k2, k3, k4⟩ := rr (o p) (by omega)
    obtain ⟨k', c', k1', k2', k3', k4'⟩ := rr n (Nat.le_refl n)
    have r1 := hR (o p) (by omega)
    have r2 := hR n (Nat.le_refl n)
    have ex : ∀ x, f_X4_add_b33 (f + 1) w (nI n) (nI (p + 1)) x = f_X4_add_b33_body (f_X4_add_b33 f) w (nI n) (nI (p + 1)) x := fun _ => rfl
    have go : f_X4_add_b33 (f + 1) w (nI n) (nI (p + 1)) h = if R (o p) ≤ R n then f_X4_add_b90 w (nI n) (nI (p + 1)) h else f_X4_add_b33 f w (nI n) (nI p) (si h 13 w (p + 1) (nI (o p))) := by
      rw [ex]
      unfold f_X4_add_b33_body
      rw [if_neg (show ¬ nI (p + 1) ≤ (0 : Int32) from nI_ge (b := p + 1) (a := 0) (by omega) (by omega)), show nI (p + 1) - 1 = nI p from nI_subI (b := 1) (by omega), if_pos (inb_t (by omega) (by decide)), nI_clamp (by omega), i1 p (by omega), if_pos (inb_t (by omega) (by decide)), nI_clamp (by omega), X0_rank_g k1 k2 k3, bnd_some, ← k4, if_pos (inb_t (by omega) (by decide)), nI_clamp (by omega), X0_rank_g k1' k2' k3', bnd_some, ← k4']
      by_cases q : R (o p) ≤ R n
      · rw [if_pos (nI_le q (by omega)), if_pos q]
      · rw [if_neg (nI_ge (by omega) (by omega)), if_neg q, if_pos (inb_t (by omega) (by decide)), if_pos (inb_t (by omega) (by decide)), i1 p (by omega), nI_clamp (by omega), nI_m1, show nI (p + 1) - 1 = nI p from nI_subI (b := 1) (by omega)]
    rw [go]
    by_cases q : R (o p) ≤ R n
    · rw [if_pos q]
      obtain ⟨h', e1, e2, e3, e4, e5, e6⟩ := fin (p + 1) h hp i1 i2
      exact ⟨h', p + 1, Nat.le_refl _, e1, e2, fun _ => q, i3, e3, e4, e5, e6⟩
    · rw [if_neg q]
      obtain ⟨h', t, t1, e1, e2, e3, e4, e5, e6, e7, e8⟩ := ih f (si h 13 w (p + 1) (nI (o p))) (by omega) (by omega) (fun b hb => by rw [si_g _ (by decide), si_g _ (by decide)]; exact rr b hb) (fun i hi => by rw [si_j _ (by omega)]; exact i1 i (by omega)) (fun i h1 h2 => by
        by_cases y : i = p + 1
        · subst y; rw [si_at]; rfl
        · rw [si_j _ y]; exact i2 i (by omega) h2) (fun i h1 h2 => by
        by_cases y : i = p
        · subst y; omega
        · exact i3 i (by omega) h2)
      refine ⟨h', t, by omega, e1, e2, e3, e4, ?_, ?_, fun g i j q1 q2 => ?_, e8⟩
      · rw [e5, si_g _ (by decide)]
      · rw [e6, si_g _ (by decide)]
      · rw [e7 g i j q1 q2, si_ne _ _ (by omega)]
theorem X4_add {h : Hp} {w n : Nat} {V : Wv} (C : CB h w V n) (hn : n < 14) {B : Nat → Int32} {k c x : Nat} (N : NB B k c x) : ∃ h' q, f_X4_add w (nI k) (nI c) (nI x) h = some ((), h') ∧ CB h' w (apB V n B) (n + 1) ∧ q ≤ n ∧ (∀ i, i ≤ n → h'.1 13 w i = if i < q then h.1 13 w i else if i = q then nI n else h.1 13 w (i - 1)) ∧
    h'.1 11 w 8 = h.1 11 w 8 ||| (1 : Int32) <<< (nI n &&& 31) ∧ h'.1 17 (14 * w + n) 7 = -9 ∧ (∀ g i j, ¬ (g = 13 ∧ i = w) → ¬ (g = 11 ∧ i = w ∧ (j = 7 ∨ j = 8)) → ¬ (g = 17 ∧ i = 14 * w + n ∧ (j < 4 ∨ j = 7)) → h'.1 g i j = h.1 g i j) ∧ h'.2 = h.2 := by
  obtain ⟨n0, n1, n2, n3, n4, n5⟩ := N
  have ll := lnk_le k
  obtain ⟨h1, a0, a1, a2, a3, a4, a5, a6, a7⟩ := X0_lieAt (14 * w + n) (nI k) (nI c) (nI x) h
  obtain ⟨C1, C2, C3, od, o1, o2, o3⟩ := C
  have rkl : ∀ b, b ≤ n → rk (apB V n B) b ≤ 11 := fun b hb => by
    by_cases q : b = n
    · rw [q, ap_rkn n0 n3 n1 n4]; split <;> omega
    · rw [ap_rk q]; have := (C3 b (by omega)).2.2.2.2.2.1; unfold rk; split <;> omega
  obtain ⟨h', q, t1, e1, e2, e3, e4, e5, e6, e7, e8⟩ := X4_add_loop (w := w) (R := rk (apB V n B)) (o := od) hn (fun i hi => (o1 i hi).2) rkl n 200 h1 (Nat.le_refl n) (by omega) (fun b hb => by
      by_cases q : b = n
      · exact ⟨k, c, by rw [q]; exact a1, by rw [q]; exact a2, n3, by rw [q, ap_rkn n0 n3 n1 n4]⟩
      · obtain ⟨b0, b1, -, -, b4, -⟩ := C3 b (by omega)
        exact ⟨kd V b, co V b, by rw [a6 _ _ _ (by omega)]; exact b0, by rw [a6 _ _ _ (by omega)]; exact b1, b4, by rw [ap_rk q]; rfl⟩)
    (fun i hi => by rw [a6 _ _ _ (by omega)]; exact (o1 i hi).1) (fun i h1 h2 => by omega) (fun i h1 h2 => by omega)
  have eb : ∀ g i j, ¬ (g = 13 ∧ i = w) → ¬ (g = 11 ∧ i = w ∧ (j = 7 ∨ j = 8)) → ¬ (g = 17 ∧ i = 14 * w + n ∧ (j < 4 ∨ j = 7)) → h'.1 g i j = h.1 g i j := fun g i j q1 q2 q3 => (e7 g i j q1 q2).trans (a6 g i j q3)
  refine ⟨h', q, ?_, ⟨by omega, ?_, fun b hb => ?_, fun i => if i < q then od i else if i = q then n else od (i - 1), fun i hi => ⟨e2 i (by omega), ?_⟩, fun b hb => ?_, fun i j hij hj => ?_⟩, t1, fun i hi => ?_, ?_, ?_, eb, e8.trans a7⟩
  · unfold f_X4_add
    rw [C2, if_pos (show nI n < (14 : Int32) from nI_lt (b := 14) hn (by decide)), if_pos (inb_t hn (by decide)), nI_clamp (by omega), a0, bnd_some]
    exact e1
  · rw [e6, a6 _ _ _ (by omega), C2, nI_1]
  · by_cases z : b = n
    · subst z
      rw [e7 _ _ _ (by omega) (by omega), e7 _ _ _ (by omega) (by omega), e7 _ _ _ (by omega) (by omega), e7 _ _ _ (by omega) (by omega), a1, a2, a3, a4, ap_kdn n0 n3, ap_con n1 n4, ap_hfn n2 (by omega), ap_lnn n0 n3]
      exact ⟨rfl, rfl, rfl, mkF_tab k (by omega) x (by omega), n3, n4, n5⟩
    · have e : ∀ j, h'.1 17 (14 * w + b) j = h.1 17 (14 * w + b) j := fun j => eb _ _ _ (by omega) (by omega) (by omega)
      rw [e, e, e, e, ap_kd z, ap_co z, ap_hf z, ap_ln z]
      exact C3 b (by omega)
  · dsimp only
    split
    · have := (o1 i (by omega)).2; omega
    · split
      · omega
      · have := (o1 (i - 1) (by omega)).2; omega
  · by_cases z : b = n
    · exact ⟨q, by omega, by dsimp only; rw [if_neg (by omega), if_pos rfl, z]⟩
    · obtain ⟨i, i1, i2⟩ := o2 b (by omega)
      by_cases y : i < q
      · exact ⟨i, by omega, by dsimp only; rw [if_pos y]; exact i2⟩
      · exact ⟨i + 1, by omega, by dsimp only; rw [if_neg (by omega), if_neg (by omega)]; exact i2⟩
  · have oo : ∀ a b, a ≤ b → b < n → rk V (od a) ≤ rk V (od b) := fun a b h1 h2 => by
      by_cases y : a = b
      · rw [y]; exact Nat.le_refl _
      · exact o3 a b (by omega) h2
    have on : ∀ a, a < n → od a ≠ n := fun a ha => by have := (o1 a ha).2; omega
    have ro : ∀ a, a < n → rk (apB V n B) (od a) = rk V (od a) := fun a ha => ap_rk (on a ha)
    dsimp only
    by_cases y1 : i < q
    · rw [if_pos y1, ro i (by omega)]
      by_cases y2 : j < q
      · rw [if_pos y2, ro j (by omega)]; exact oo i j (by omega) (by omega)
      · rw [if_neg y2]
        by_cases y3 : j = q
        · rw [if_pos y3]
          have := e3 (by omega)
          rw [ro (q - 1) (by omega)] at this
          exact Nat.le_trans (oo i (q - 1) (by omega) (by omega)) this
        · rw [if_neg y3, ro (j - 1) (by omega)]; exact oo i (j - 1) (by omega) (by omega)
    · rw [if_neg y1, if_neg (show ¬ j < q by omega), if_neg (show ¬ j = q by omega)]
      by_cases y3 : i = q
      · rw [if_pos y3]
        exact Nat.le_of_lt (e4 (j - 1) (by omega) (by omega))
      · rw [if_neg y3, ro (i - 1) (by omega), ro (j - 1) (by omega)]; exact oo (i - 1) (j - 1) (by omega) (by omega)
  · rw [e2 i hi]
    by_cases y1 : i < q
    · rw [if_pos y1, if_pos y1]; exact (o1 i (by omega)).1.symm
    · rw [if_neg y1, if_neg y1]
      by_cases y3 : i = q
      · rw [if_pos y3, if_pos y3]
      · rw [if_neg y3, if_neg y3]; exact (o1 (i - 1) (by omega)).1.symm
  · rw [e5, a6 _ _ _ (by omega)]
  · rw [e7 _ _ _ (by omega) (by omega)]; exact a5
theorem X4_rem_loop {w n q : Nat} (hn : n < 14) {o : Nat → Int32} (ho : ∀ i, i < n → o i ≠ nI n) (hq : q ≤ n) : ∀ (d i fuel : Nat) (h : Hp), h.1 11 w 7 = nI (n + 1) → i + d = n + 1 → d < fuel → (∀ j, j < (if i ≤ q then i else i - 1) → h.1 13 w j = o j) → (∀ j, i ≤ j → j ≤ n → h.1 13 w j = if j < q then o j else if j = q then nI n else o (j - 1)) →
    ∃ h', f_X4_removeLast_b19 fuel w (nI n) (nI (if i ≤ q then i else i - 1)) (nI i) h = some ((), h') ∧ (∀ i, i < n → h'.1 13 w i = o i) ∧ h'.1 11 w 8 = h.1 11 w 8 &&& ((1 : Int32) <<< (nI n &&& 31) ^^^ (-1)) ∧ h'.1 11 w 7 = nI n ∧ (∀ g i j, ¬ (g = 13 ∧ i = w) → ¬ (g = 11 ∧ i = w ∧ (j = 7 ∨ j = 8)) → h'.1 g i j = h.1 g i j) ∧ h'.2 = h.2 := by
  intro d
  induction d with
  | zero =>
    intro i fuel h c7 hi hf i1 i2
    obtain ⟨f, rfl⟩ : ∃ f, fuel = f + 1 := ⟨fuel - 1, by omega⟩
    have e7 : ∀ v, (si h 11 w 8 v).1 11 w 7 = nI (n + 1) := fun v => by rw [si_j _ (by decide)]; exact c7
    rw [if_neg (by omega)] at i1
    refine ⟨si (si h 11 w 8 (h.1 11 w 8 &&& ((1 : Int32) <<< (nI n &&& 31) ^^^ (-1)))) 11 w 7 (nI n), ?_, fun j hj => ?_, ?_, si_at _ _ _ _ _, fun g i j q1 q2 => ?_, rfl⟩
    · show f_X4_removeLast_b19_body _ _ _ _ _ _ = _
      unfold f_X4_removeLast_b19_body
      rw [c7, if_pos (nI_le (by omega) (by omega)), e7, show nI (n + 1) - 1 = nI n from nI_subI (b := 1) (by omega)]
    · rw [si_g _ (by decide), si_g _ (by decide)]; exact i1 j (by omega)
    · rw [si_j _ (by decide), si_at]
    · rw [si_ne _ _ (by omega), si_ne _ _ (by omega)]
  | succ d ih =>
    intro i fuel h c7 hi hf i1 i2
    obtain ⟨f, rfl⟩ : ∃ f, fuel = f + 1 := ⟨fuel - 1, by omega⟩
    have ex : ∀ a x, f_X4_removeLast_b19 (f + 1) w (nI n) a (nI i) x = f_X4_removeLast_b19_body (f_X4_removeLast_b19 f) w (nI n) a (nI i) x := fun _ _ => rfl
    rw [ex]
    unfold f_X4_removeLast_b19_body f_X4_removeLast_b52
    rw [c7, if_neg (nI_ge (by omega) (by omega)), if_pos (inb_t (by omega) (by decide)), nI_clamp (by omega), i2 i (Nat.le_refl i) (by omega), nI_1]
    by_cases y1 : i < q
    · rw [if_pos y1, if_neg (ho i (by omega)), if_pos (inb_t (by omega) (by decide)), if_pos (show i ≤ q by omega), if_pos (inb_t (by omega) (by decide)), nI_clamp (by omega), nI_1]
      rw [if_pos (show i ≤ q by omega)] at i1
      have := ih (i + 1) f (si h 13 w i (o i)) (by rw [si_g _ (by decide)]; exact c7) (by omega) (by omega) (fun j hj => by
        rw [if_pos (show i + 1 ≤ q by omega)] at hj
        by_cases z : j = i
        · rw [z, si_at]
        · rw [si_j _ z]; exact i1 j (by omega)) (fun j h1 h2 => by rw [si_j _ (by omega)]; exact i2 j (by omega) h2)
      rw [if_pos (show i + 1 ≤ q by omega)] at this
      obtain ⟨h', e1, e2, e3, e4, e5, e6⟩ := this
      exact ⟨h', e1, e2, by rw [e3, si_g _ (by decide)], e4, fun g a b q1 q2 => by rw [e5 g a b q1 q2, si_ne _ _ (by omega)], e6⟩
    · rw [if_neg y1]
      by_cases y2 : i = q
      · rw [if_pos y2, if_pos rfl, if_pos (show i ≤ q by omega)]
        rw [if_pos (show i ≤ q by omega)] at i1
        have := ih (i + 1) f h c7 (by omega) (by omega) (fun j hj => by
          rw [if_neg (show ¬ i + 1 ≤ q by omega)] at hj
          exact i1 j (by omega)) (fun j h1 h2 => i2 j (by omega) h2)
        rw [if_neg (show ¬ i + 1 ≤ q by omega)] at this
        exact this
      · rw [if_neg y2, if_neg (ho (i - 1) (by omega)), if_pos (inb_t (by omega) (by decide)), if_neg (show ¬ i ≤ q by omega), if_pos (inb_t (by omega) (by decide)), nI_clamp (by omega), nI_1, show i - 1 + 1 = i by omega]
        rw [if_neg (show ¬ i ≤ q by omega)] at i1
        have := ih (i + 1) f (si h 13 w (i - 1) (o (i - 1))) (by rw [si_g _ (by decide)]; exact c7) (by omega) (by omega) (fun j hj => by
          rw [if_neg (show ¬ i + 1 ≤ q by omega)] at hj
          by_cases z : j = i - 1
          · rw [z, si_at]
          · rw [si_j _ z]; exact i1 j (by omega)) (fun j h1 h2 => by rw [si_j _ (by omega)]; exact i2 j (by omega) h2)
        rw [if_neg (show ¬ i + 1 ≤ q by omega), show i + 1 - 1 = i by omega] at this
        obtain ⟨h', e1, e2, e3, e4, e5, e6⟩ := this
        exact ⟨h', e1, e2, by rw [e3, si_g _ (by decide)], e4, fun g a b q1 q2 => by rw [e5 g a b q1 q2, si_ne _ _ (by omega)], e6⟩
theorem X4_removeLast {h : Hp} {w n q : Nat} (hn : n < 14) (c7 : h.1 11 w 7 = nI (n + 1)) {o : Nat → Int32} (ho : ∀ i, i < n → o i ≠ nI n) (hq : q ≤ n) (e : ∀ i, i ≤ n → h.1 13 w i = if i < q then o i else if i = q then nI n else o (i - 1)) :
    ∃ h', f_X4_removeLast w h = some ((), h') ∧ (∀ i, i < n → h'.1 13 w i = o i) ∧ h'.1 11 w 8 = h.1 11 w 8 &&& ((1 : Int32) <<< (nI n &&& 31) ^^^ (-1)) ∧ h'.1 11 w 7 = nI n ∧ (∀ g i j, ¬ (g = 13 ∧ i = w) → ¬ (g = 11 ∧ i = w ∧ (j = 7 ∨ j = 8)) → h'.1 g i j = h.1 g i j) ∧ h'.2 = h.2 := by
  unfold f_X4_removeLast
  rw [c7, if_pos (show (0 : Int32) < nI (n + 1) from nI_lt (a := 0) (by omega) (by omega)), show nI (n + 1) - 1 = nI n from nI_subI (b := 1) (by omega)]
  have := X4_rem_loop hn ho hq (n + 1) 0 200 h c7 (by omega) (by omega) (fun j hj => by rw [if_pos (Nat.zero_le q)] at hj; omega) (fun j _ h2 => e j h2)
  rw [if_pos (Nat.zero_le q)] at this
  exact this
/-! what stands does not ask after one that isn't in -/
theorem anyB_ext {p p' : Nat → Bool} {n : Nat} (e : ∀ k, k < n → p' k = p k) (z : p' n = false) : anyB p' (n + 1) = anyB p n := by
  show (anyB p' n || p' n) = _
  rw [z, Bool.or_false]
  exact anyB_congr e
theorem ho_ext {V : Wv} {n b : Nat} {B : Nat → Int32} {s : Nat → Bool} (hb : b < n) (z : s n = false) : hoB (apB V n B) (n + 1) s b = hoB V n s b := by
  have q : b ≠ n := by omega
  have rs : ∀ i, rsB (apB V n B) (n + 1) s b i = rsB V n s b i := fun i => by
    unfold rsB
    have e : anyB (brB (apB V n B) s b i) (n + 1) = anyB (brB V s b i) n := anyB_ext (fun k hk => by
      have q2 : k ≠ n := by omega
      unfold brB
      rw [ap_co q2, ap_co q, ap_hf q2, ap_hf q, ap_ln q2]) (by unfold brB; rw [z]; rfl)
    rw [ap_co q, e]
  have e1 : anyB (lfB (apB V n B) s b) (n + 1) = anyB (lfB V s b) n := anyB_ext (fun k hk => by
    have q2 : k ≠ n := by omega
    unfold lfB tcB
    rw [ap_kd q2, ap_co q2, ap_co q, ap_hf q2, ap_hf q, ap_ln q2]) (by unfold lfB; rw [z]; rfl)
  have e2 : anyB (rtB (apB V n B) s b) (n + 1) = anyB (rtB V s b) n := anyB_ext (fun k hk => by
    have q2 : k ≠ n := by omega
    unfold rtB tcB
    rw [ap_kd q2, ap_co q2, ap_co q, ap_hf q2, ap_hf q, ap_ln q]) (by unfold rtB; rw [z]; rfl)
  unfold hoB
  rw [ap_kd q, rs, rs, rs, e1, e2]
theorem lv_ext {V : Wv} {n : Nat} {B : Nat → Int32} {th pr : Int32} (hn : n < 14) (R : BR V n) (R' : BR (apB V n B) (n + 1)) (z : bt th n = false) : lvS (apB V n B) (n + 1) th pr 12 = lvS V n th pr 12 := by
  have c1 : ∀ b, b < n → co V b ≤ 5 := fun b hb => (R b hb).2.2.2.2.1
  have c2 : ∀ b, b < n + 1 → co (apB V n B) b ≤ 5 := fun b hb => (R' b hb).2.2.2.2.1
  have f2 := lv_FP (apB V n B) th pr (show n + 1 ≤ 14 by omega) c2
  have zn : bt (lvS (apB V n B) (n + 1) th pr 12) n = false := by rw [f2 n (by omega), z]; rfl
  have key := FP_uniq (V := V) (n := n) (th := bt th) (pr := bt pr) (s := bt (lvS (apB V n B) (n + 1) th pr 12)) (s' := bt (lvS V n th pr 12)) (fun b hb => by rw [← ho_ext hb zn]; exact f2 b (by omega)) (lv_FP V th pr (by omega) c1)
  apply b_ext
  intro i hi
  by_cases q : i < n
  · exact key i q
  · rw [lvS_sub V th pr (by omega) 12 i (by omega)]
    by_cases q2 : i = n
    · rw [q2]; exact zn
    · exact lvS_sub _ th pr (by omega) 12 i (by omega)
