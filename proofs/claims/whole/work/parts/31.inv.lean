/-! the invariant, by layers -/
def InvA (h : Hp) : Prop := h.1 0 0 6 = h.1 20 0 0 ∧ h.1 0 0 7 = h.1 20 0 2 ∧ (∀ f, f < 6 → h.1 19 0 f = h.1 21 0 f) ∧ h.2.1 0 0 8 = h.2.1 20 0 3 ∧ h.2.1 0 0 9 = h.2.1 20 0 4
def RowOk (h : Hp) (r : Nat) : Prop := (h.1 4 0 r = -1 ∧ h.1 22 0 r = -9) ∨ ∃ n, n ≤ 40 ∧ h.1 4 0 r = nI n ∧ h.1 22 0 r = nI n ∧ ∀ j, j < n → h.1 3 r j = h.1 23 0 (40 * r + j)
def InvR (h : Hp) : Prop := ∀ r, r < 6 → RowOk h r
def TextOk (h : Hp) (t : Nat) : Prop := (h.1 8 0 t = -1 ∧ h.1 25 0 t = -9) ∨ ∃ n, n ≤ 100 ∧ h.1 8 0 t = nI n ∧ h.1 25 0 t = nI n ∧ ∀ j, j < n → h.1 7 t j = h.1 26 0 (100 * t + j)
def InvT (h : Hp) : Prop := ∀ t, t < 4 → TextOk h t
theorem InvR_of {h h' : Hp} (e : ∀ g i j, (g = 3 ∨ g = 4 ∨ g = 22 ∨ g = 23) → h'.1 g i j = h.1 g i j) (H : InvR h) : InvR h' := by
  intro r hr
  rcases H r hr with ⟨a, b⟩ | ⟨n, hn, a, b, c⟩
  · exact Or.inl ⟨(e 4 0 r (by simp)).trans a, (e 22 0 r (by simp)).trans b⟩
  · exact Or.inr ⟨n, hn, (e 4 0 r (by simp)).trans a, (e 22 0 r (by simp)).trans b, fun j hj => (e 3 r j (by simp)).trans ((c j hj).trans (e 23 0 _ (by simp)).symm)⟩
theorem InvT_of {h h' : Hp} (e : ∀ g i j, (g = 7 ∨ g = 8 ∨ g = 25 ∨ g = 26) → h'.1 g i j = h.1 g i j) (H : InvT h) : InvT h' := by
  intro r hr
  rcases H r hr with ⟨a, b⟩ | ⟨n, hn, a, b, c⟩
  · exact Or.inl ⟨(e 8 0 r (by simp)).trans a, (e 25 0 r (by simp)).trans b⟩
  · exact Or.inr ⟨n, hn, (e 8 0 r (by simp)).trans a, (e 25 0 r (by simp)).trans b, fun j hj => (e 7 r j (by simp)).trans ((c j hj).trans (e 26 0 _ (by simp)).symm)⟩
/-! walls: a value of a wall: scalars (0 width, 1 size, 2 in, 3 wedges, 4 vines, 5 yes, 6 year, 7 drawn), bricks (0 kind, 1 course, 2 half, 3 4 5 marks, 6 hangs), drawn -/
abbrev Wv : Type := (Nat → Int32) × ((Nat → Nat → Int32) × (Nat → Int32))
def kd (V : Wv) (b : Nat) : Nat := (V.2.1 b 0).toNatClampNeg
def co (V : Wv) (b : Nat) : Nat := (V.2.1 b 1).toNatClampNeg
def hf (V : Wv) (b : Nat) : Nat := (V.2.1 b 2).toNatClampNeg
def ln (V : Wv) (b : Nat) : Nat := if 4 ≤ kd V b then 3 else 2
def rk (V : Wv) (b : Nat) : Nat := 2 * co V b + (if kd V b = 5 then 1 else 0)
/-- two bricks share a half -/
def ovl (V : Wv) (a b : Nat) : Prop := hf V a < hf V b + ln V b ∧ hf V b < hf V a + ln V a
/-- a set of numbers below n -/
def sub (x : Int32) (n : Nat) : Prop := ∀ i, n ≤ i → bt x i = false
def mkn (p : Nat → Bool) : Nat → Nat
  | 0 => 0
  | n + 1 => mkn p n + if p n then 1 else 0
/-- how many of the first n are in a set -/
def pcn (x : Int32) (n : Nat) : Nat := mkn (bt x) n
def WF (V : Wv) (n dn : Nat) : Prop :=
  n ≤ 14 ∧ V.1 1 = nI n ∧ V.1 7 = nI dn ∧
  (∃ wd, wd ≤ 9 ∧ V.1 0 = nI wd ∧ (wd = 0 → n = 0) ∧ ∀ b, b < n → hf V b + ln V b ≤ wd) ∧
  (∀ b, b < n → V.2.1 b 0 = nI (kd V b) ∧ V.2.1 b 1 = nI (co V b) ∧ V.2.1 b 2 = nI (hf V b) ∧ kd V b ≤ 5 ∧ co V b ≤ 5) ∧
  (∀ b, b < n → (∃ p, p < 6 ∧ V.2.1 b 3 = nI p) ∧ (∃ p, p < 6 ∧ V.2.1 b 4 = nI p) ∧ (kd V b = 3 → ∃ p, p < 6 ∧ V.2.1 b 5 = nI p) ∧ (kd V b ≠ 3 → V.2.1 b 5 = -9)) ∧
  (∀ b, b < n → V.2.1 b 6 = -9 ∨ ∃ k, k < n ∧ V.2.1 b 6 = nI k) ∧
  sub (V.1 2) n ∧ (∀ i, bt (V.1 3) i = true → bt (V.1 2) i = true) ∧ (∀ i, bt (V.1 4) i = true → bt (V.1 2) i = true) ∧ sub (V.1 5) 6 ∧
  pcn (V.1 3) 14 ≤ 4 ∧ (∃ y, y ≤ 1000 ∧ V.1 6 = nI y) ∧
  (∀ a b, a < n → b < n → a ≠ b → bt (V.1 2) a = true → bt (V.1 2) b = true → co V a = co V b → ¬ ovl V a b) ∧
  (∀ i, i < dn → ∃ b, b < n ∧ V.2.2 i = nI b ∧ bt (V.1 2) b = false) ∧ (∀ i j, i < dn → j < dn → V.2.2 i = V.2.2 j → i = j) ∧ dn + pcn (V.1 2) 14 ≤ n
/-- the halves of a brick as bits from 1 on -/
def mskN (k hf : Nat) : Nat := (if 4 ≤ k then 7 else 3) * 2 ^ (hf + 1)
def CR (h : Hp) (w : Nat) (V : Wv) (n dn : Nat) : Prop :=
  (h.1 11 w 6 = V.1 0 ∧ h.1 11 w 7 = V.1 1 ∧ h.1 11 w 8 = V.1 2 ∧ h.1 11 w 9 = V.1 3 ∧ h.1 11 w 10 = V.1 4 ∧ h.1 11 w 11 = V.1 5 ∧ h.1 11 w 12 = V.1 6 ∧ h.1 11 w 13 = V.1 7) ∧
  (∀ b, b < n → h.1 17 (14 * w + b) 0 = V.2.1 b 0 ∧ h.1 17 (14 * w + b) 1 = V.2.1 b 1 ∧ h.1 17 (14 * w + b) 2 = V.2.1 b 2 ∧ h.1 17 (14 * w + b) 3 = nI (mskN (kd V b) (hf V b)) ∧ h.1 17 (14 * w + b) 4 = V.2.1 b 3 ∧ h.1 17 (14 * w + b) 5 = V.2.1 b 4 ∧ h.1 17 (14 * w + b) 6 = V.2.1 b 5 ∧ h.1 17 (14 * w + b) 7 = V.2.1 b 6) ∧
  (∀ i, i < dn → h.1 14 w i = V.2.2 i) ∧
  ∃ od : Nat → Nat, (∀ i, i < n → h.1 13 w i = nI (od i) ∧ od i < n) ∧ (∀ b, b < n → ∃ i, i < n ∧ od i = b) ∧ ∀ i j, i < j → j < n → rk V (od i) ≤ rk V (od j)
def MR (h : Hp) (V : Wv) (n dn : Nat) : Prop :=
  (h.1 20 0 10 = V.1 0 ∧ h.1 20 0 11 = V.1 1 ∧ h.1 20 0 13 = V.1 2 ∧ h.1 20 0 14 = V.1 3 ∧ h.1 20 0 15 = V.1 4 ∧ h.1 20 0 16 = V.1 5 ∧ h.1 20 0 17 = V.1 6 ∧ h.1 20 0 22 = V.1 7) ∧
  (∀ b f, b < n → f < 7 → h.1 27 0 (7 * b + f) = V.2.1 b f) ∧ ∀ i, i < dn → h.1 28 0 i = V.2.2 i
def KR (h : Hp) (k : Nat) (V : Wv) (n dn : Nat) : Prop :=
  (h.1 29 0 (120 * k) = V.1 2 ∧ h.1 29 0 (120 * k + 1) = V.1 1 ∧ h.1 29 0 (120 * k + 2) = V.1 3 ∧ h.1 29 0 (120 * k + 3) = V.1 4 ∧ h.1 29 0 (120 * k + 4) = V.1 5 ∧ h.1 29 0 (120 * k + 5) = V.1 6 ∧ h.1 29 0 (120 * k + 6) = V.1 7) ∧
  (∀ b f, b < n → f < 7 → h.1 29 0 (120 * k + 21 + (7 * b + f)) = V.2.1 b f) ∧ ∀ i, i < dn → h.1 29 0 (120 * k + 7 + i) = V.2.2 i
def Kept (h : Hp) (V : Wv) (k : Nat) : Prop := (h.1 11 (2 + k) 5 = 0 ∧ h.1 29 0 (120 * k) = -9) ∨ (h.1 11 (2 + k) 5 = 1 ∧ ¬ V.1 0 = 0 ∧ ∃ U n dn, WF U n dn ∧ U.1 0 = V.1 0 ∧ CR h (2 + k) U n dn ∧ KR h k U n dn)
def InvW (h : Hp) : Prop := ∃ V n dn, WF V n dn ∧ CR h 1 V n dn ∧ MR h V n dn ∧ h.1 11 1 5 = (if V.1 0 = 0 then 0 else 1) ∧ ∀ k, k < 3 → Kept h V k
def Inv (h : Hp) : Prop := InvA h ∧ InvR h ∧ InvT h ∧ InvW h
/-- what the layers R, T, W speak of -/
def core (g i j : Nat) : Prop := g = 3 ∨ g = 4 ∨ g = 7 ∨ g = 8 ∨ g = 22 ∨ g = 23 ∨ g = 25 ∨ g = 26 ∨ g = 28 ∨ g = 29 ∨ ((g = 11 ∨ g = 13 ∨ g = 14) ∧ 1 ≤ i) ∨ (g = 17 ∧ 14 ≤ i) ∨ (g = 27 ∧ j < 98) ∨ (g = 20 ∧ (j = 10 ∨ j = 11 ∨ j = 13 ∨ j = 14 ∨ j = 15 ∨ j = 16 ∨ j = 17 ∨ j = 22))
def wcore (g i j : Nat) : Prop := g = 28 ∨ g = 29 ∨ ((g = 11 ∨ g = 13 ∨ g = 14) ∧ 1 ≤ i) ∨ (g = 17 ∧ 14 ≤ i) ∨ (g = 27 ∧ j < 98) ∨ (g = 20 ∧ (j = 10 ∨ j = 11 ∨ j = 13 ∨ j = 14 ∨ j = 15 ∨ j = 16 ∨ j = 17 ∨ j = 22))
theorem CR_of {h h' : Hp} {w n dn : Nat} {V : Wv} (hw : 1 ≤ w) (e : ∀ g i j, wcore g i j → h'.1 g i j = h.1 g i j) (H : CR h w V n dn) : CR h' w V n dn := by
  have e11 : ∀ j, h'.1 11 w j = h.1 11 w j := fun j => e 11 w j (by unfold wcore; omega)
  have e13 : ∀ j, h'.1 13 w j = h.1 13 w j := fun j => e 13 w j (by unfold wcore; omega)
  have e14 : ∀ j, h'.1 14 w j = h.1 14 w j := fun j => e 14 w j (by unfold wcore; omega)
  have e17 : ∀ b j, h'.1 17 (14 * w + b) j = h.1 17 (14 * w + b) j := fun b j => e 17 _ j (by unfold wcore; omega)
  unfold CR
  simp only [e11, e13, e14, e17]
  exact H
theorem MR_of {h h' : Hp} {n dn : Nat} {V : Wv} (hn : n ≤ 14) (e : ∀ g i j, wcore g i j → h'.1 g i j = h.1 g i j) (H : MR h V n dn) : MR h' V n dn := by
  obtain ⟨⟨a1, a2, a3, a4, a5, a6, a7, a8⟩, b, c⟩ := H
  refine ⟨⟨?_, ?_, ?_, ?_, ?_, ?_, ?_, ?_⟩, fun x f hx hf => ?_, fun i hi => ?_⟩
  · rw [e 20 0 10 (by unfold wcore; omega)]; exact a1
  · rw [e 20 0 11 (by unfold wcore; omega)]; exact a2
  · rw [e 20 0 13 (by unfold wcore; omega)]; exact a3
  · rw [e 20 0 14 (by unfold wcore; omega)]; exact a4
  · rw [e 20 0 15 (by unfold wcore; omega)]; exact a5
  · rw [e 20 0 16 (by unfold wcore; omega)]; exact a6
  · rw [e 20 0 17 (by unfold wcore; omega)]; exact a7
  · rw [e 20 0 22 (by unfold wcore; omega)]; exact a8
  · rw [e 27 0 _ (by unfold wcore; omega)]; exact b x f hx hf
  · rw [e 28 0 _ (by unfold wcore; omega)]; exact c i hi
theorem Kept_of {h h' : Hp} {V : Wv} {k : Nat} (e : ∀ g i j, wcore g i j → h'.1 g i j = h.1 g i j) (H : Kept h V k) : Kept h' V k := by
  have e29 : ∀ j, h'.1 29 0 j = h.1 29 0 j := fun j => e 29 0 j (by unfold wcore; omega)
  unfold Kept
  rw [e29, e 11 (2 + k) 5 (by unfold wcore; omega)]
  rcases H with H | ⟨H1, H0, U, n, dn, H2, H3, H4, H5⟩
  · exact Or.inl H
  · refine Or.inr ⟨H1, H0, U, n, dn, H2, H3, CR_of (by omega) e H4, ?_⟩
    unfold KR
    simp only [e29]
    exact H5
theorem InvW_of {h h' : Hp} (e : ∀ g i j, wcore g i j → h'.1 g i j = h.1 g i j) (H : InvW h) : InvW h' := by
  obtain ⟨V, n, dn, H1, H2, H3, H4, H5⟩ := H
  refine ⟨V, n, dn, H1, CR_of (Nat.le_refl 1) e H2, MR_of H1.1 e H3, ?_, fun k hk => Kept_of e (H5 k hk)⟩
  rw [e 11 1 5 (by unfold wcore; omega)]
  exact H4
theorem Inv_of {h h' : Hp} (e : ∀ g i j, core g i j → h'.1 g i j = h.1 g i j) (ha : InvA h') (H : Inv h) : Inv h' := by
  refine ⟨ha, InvR_of (fun g i j q => e g i j (by unfold core; omega)) H.2.1, InvT_of (fun g i j q => e g i j (by unfold core; omega)) H.2.2.1, InvW_of (fun g i j q => e g i j (by unfold core; unfold wcore at q; omega)) H.2.2.2⟩
