theorem X5_isRow_n {a : Int32} (h : Hp) (q : a < 0 ∨ nI 6 ≤ a) : f_X5_isRow a h = some (0, h) := by
  unfold f_X5_isRow
  by_cases q1 : a < 0
  · rw [if_pos q1]
  · rw [if_neg q1, if_pos (show (6 : Int32) ≤ a from q.resolve_left q1)]
theorem X5_isRow_y {k : Nat} (h : Hp) (hk : k < 6) : f_X5_isRow (nI k) h = some (1, h) := by
  unfold f_X5_isRow
  rw [if_neg (nI_pos (by omega)), if_neg (show ¬ (6 : Int32) ≤ nI k from nI_ge hk (by decide))]
theorem X5_isText_n {a : Int32} (h : Hp) (q : a < 0 ∨ nI 4 ≤ a) : f_X5_isText a h = some (0, h) := by
  unfold f_X5_isText
  by_cases q1 : a < 0
  · rw [if_pos q1]
  · rw [if_neg q1, if_pos (show (4 : Int32) ≤ a from q.resolve_left q1)]
theorem X5_isText_y {k : Nat} (h : Hp) (hk : k < 4) : f_X5_isText (nI k) h = some (1, h) := by
  unfold f_X5_isText
  rw [if_neg (nI_pos (by omega)), if_neg (show ¬ (4 : Int32) ≤ nI k from nI_ge hk (by decide))]
theorem X6_in_y {a lo hi : Int32} (h : Hp) (h1 : ¬ a < lo) (h2 : ¬ hi < a) : f_X6_in a lo hi h = some (1, h) := by
  unfold f_X6_in
  rw [if_neg h1, if_neg h2]
theorem X6_in_n {a lo hi : Int32} (h : Hp) (q : a < lo ∨ hi < a) : f_X6_in a lo hi h = some (0, h) := by
  unfold f_X6_in
  by_cases q1 : a < lo
  · rw [if_pos q1]
  · rw [if_neg q1, if_pos (q.resolve_left q1)]
theorem X6_rng_y {k N : Nat} (h : Hp) (hk : k < N + 1) (hN : N + 1 < 2 ^ 31) : f_X6_in (nI k) 0 (nI N) h = some (1, h) := X6_in_y h (nI_pos (by omega)) (nI_nlt (by omega) (by omega))
theorem X6_rng_n {a : Int32} {N : Nat} (h : Hp) (hN : N + 1 < 2 ^ 31) (q : a < 0 ∨ nI (N + 1) ≤ a) : f_X6_in a 0 (nI N) h = some (0, h) :=
  X6_in_n h (q.imp id (fun z => Int32.lt_of_lt_of_le (nI_lt (Nat.lt_succ_self N) hN) z))
theorem X6_isRow_n {a : Int32} (h : Hp) (q : a < 0 ∨ nI 6 ≤ a) : f_X6_isRow a h = some (0, h) := by
  unfold f_X6_isRow
  rw [show f_X6_in a 0 5 h = some (0, h) from X6_rng_n (N := 5) h (by decide) q, bnd_some]
  rfl
theorem X6_isRow_y {k : Nat} (h : Hp) (hk : k < 6) : f_X6_isRow (nI k) h = some (1, h) := by
  unfold f_X6_isRow
  rw [show f_X6_in (nI k) 0 5 h = some (1, h) from X6_rng_y (N := 5) h hk (by decide), bnd_some]
  rfl
theorem X6_isText_n {a : Int32} (h : Hp) (q : a < 0 ∨ nI 4 ≤ a) : f_X6_isText a h = some (0, h) := by
  unfold f_X6_isText
  rw [show f_X6_in a 0 3 h = some (0, h) from X6_rng_n (N := 3) h (by decide) q, bnd_some]
  rfl
theorem X6_isText_y {k : Nat} (h : Hp) (hk : k < 4) : f_X6_isText (nI k) h = some (1, h) := by
  unfold f_X6_isText
  rw [show f_X6_in (nI k) 0 3 h = some (1, h) from X6_rng_y (N := 3) h hk (by decide), bnd_some]
  rfl
def rfC (h : Hp) (f : Nat) : Hp := si (si h 0 0 6 (nI f)) 19 0 f (h.1 19 0 f + 1)
def mtC (h : Hp) (f : Nat) : Hp := si (si h 20 0 0 (nI f)) 21 0 f (h.1 21 0 f + 1)
theorem X5_refuse {f : Nat} (h : Hp) (hf : f < 6) : f_X5_refuse (nI f) h = some (-3, rfC h f) := by
  unfold f_X5_refuse
  rw [if_pos (inb_t hf (by decide)), if_pos (inb_t hf (by decide)), nI_clamp (by omega), si_g h (by decide)]
  rfl
theorem X6_meet {f : Nat} (h : Hp) (hf : f < 6) : f_X6_meet (nI f) h = some (-3, mtC h f) := by
  unfold f_X6_meet
  rw [if_pos (inb_t hf (by decide)), if_pos (inb_t hf (by decide)), nI_clamp (by omega), si_g h (by decide)]
  rfl
theorem rm_Inv {h : Hp} {f : Nat} (hI : Inv h) : Inv (mtC (rfC h f) f) := by
  refine Inv_of (h := h) (fun g i j q => ?_) ?_ hI
  · unfold mtC rfC
    rw [si_ne _ _ (by unfold core at q; omega), si_ne _ _ (by unfold core at q; omega), si_ne _ _ (by unfold core at q; omega), si_ne _ _ (by unfold core at q; omega)]
  · obtain ⟨a, b, c, d, e⟩ := hI.1
    refine ⟨?_, ?_, fun k hk => ?_, d, e⟩
    · simp [mtC, rfC, si]
    · simpa [mtC, rfC, si] using b
    · by_cases q : k = f
      · subst q
        simp [mtC, rfC, si, c k hk]
      · simp [mtC, rfC, si, q, c k hk]
/-- an asked number on both sides -/
def ask2 (h : Hp) (x : Int32) : Hp := si (si h 0 0 7 x) 20 0 2 x
theorem ask_Inv {h : Hp} {x : Int32} (hI : Inv h) : Inv (ask2 h x) := by
  refine Inv_of (h := h) (fun g i j q => ?_) ?_ hI
  · unfold ask2
    rw [si_ne _ _ (by unfold core at q; omega), si_ne _ _ (by unfold core at q; omega)]
  · obtain ⟨a, b, c, d, e⟩ := hI.1
    refine ⟨?_, ?_, fun k hk => ?_, d, e⟩
    · simpa [ask2, si] using a
    · simp [ask2, si]
    · simpa [ask2, si] using c k hk
theorem X2_begin_loop {r n : Nat} (hr : r < 6) (hn : n ≤ 40) : ∀ (d k fuel : Nat) (h : Hp), k + d = n → d < fuel → f_X2_begin_b9 fuel (nI r) (nI n) (nI k) h = some ((), fil h 3 r k n 0) := by
  intro d
  induction d with
  | zero =>
    intro k fuel h hk hf
    obtain ⟨f, rfl⟩ : ∃ f, fuel = f + 1 := ⟨fuel - 1, by omega⟩
    show f_X2_begin_b9_body _ _ _ _ _ = _
    unfold f_X2_begin_b9_body
    rw [if_pos (nI_le (by omega) (by omega)), fil_nil h (by omega)]
  | succ d ih =>
    intro k fuel h hk hf
    obtain ⟨f, rfl⟩ : ∃ f, fuel = f + 1 := ⟨fuel - 1, by omega⟩
    show f_X2_begin_b9_body _ _ _ _ _ = _
    unfold f_X2_begin_b9_body
    rw [if_neg (nI_ge (by omega) (by omega)), if_pos (inb_t hr (by decide)), if_pos (inb_t (by omega) (by decide)), nI_1, nI_clamp (by omega), nI_clamp (by omega), ih (k + 1) f _ (by omega) (by omega), fil_si h (by omega)]
theorem X2_begin {r n : Nat} (h : Hp) (hr : r < 6) (hn : n ≤ 40) : f_X2_begin (nI r) (nI n) h = some ((), fil (si h 4 0 r (nI n)) 3 r 0 n 0) := by
  unfold f_X2_begin
  rw [if_pos (inb_t hr (by decide)), nI_clamp (by omega)]
  exact X2_begin_loop hr hn n 0 200 _ (by omega) (by omega)
theorem X6_setRow {r j : Nat} (h : Hp) (v : Int32) (hr : r < 6) (hj : j < 40) : f_X6_setRow (nI r) (nI j) v h = some ((), si h 23 0 (40 * r + j) v) := by
  unfold f_X6_setRow
  rw [show (40 : Int32) * nI r + nI j = nI (40 * r + j) from by rw [show (40 : Int32) = nI 40 from rfl, nI_mul, nI_add], if_pos (inb_t (by omega) (by decide)), nI_clamp (by omega)]
theorem X6_rowAt {r j : Nat} (h : Hp) (hr : r < 6) (hj : j < 40) : f_X6_rowAt (nI r) (nI j) h = some (h.1 23 0 (40 * r + j), h) := by
  unfold f_X6_rowAt
  rw [show (40 : Int32) * nI r + nI j = nI (40 * r + j) from by rw [show (40 : Int32) = nI 40 from rfl, nI_mul, nI_add], if_pos (inb_t (by omega) (by decide)), nI_clamp (by omega)]
theorem X6_row_loop {r : Nat} (a : Int32) (hr : r < 6) : ∀ (d k fuel : Nat) (h : Hp), k + d = 40 → d < fuel → f_X6_row_b34 fuel (nI r) a (nI k) h = some (a, fil h 23 0 (40 * r + k) (40 * r + 40) 0) := by
  intro d
  induction d with
  | zero =>
    intro k fuel h hk hf
    obtain ⟨f, rfl⟩ : ∃ f, fuel = f + 1 := ⟨fuel - 1, by omega⟩
    show f_X6_row_b34_body _ _ _ _ _ = _
    unfold f_X6_row_b34_body
    rw [if_pos (show (40 : Int32) ≤ nI k from nI_le (a := 40) (by omega) (by omega)), fil_nil h (by omega)]
  | succ d ih =>
    intro k fuel h hk hf
    obtain ⟨f, rfl⟩ : ∃ f, fuel = f + 1 := ⟨fuel - 1, by omega⟩
    show f_X6_row_b34_body _ _ _ _ _ = _
    unfold f_X6_row_b34_body
    rw [if_neg (show ¬ (40 : Int32) ≤ nI k from nI_ge (b := 40) (by omega) (by decide)), X6_setRow h 0 hr (by omega), bnd_some, nI_1, ih (k + 1) f _ (by omega) (by omega), show 40 * r + (k + 1) = 40 * r + k + 1 by omega, fil_si h (by omega)]
theorem X6_row_y {r n : Nat} (h : Hp) (hr : r < 6) (hn : n ≤ 40) : f_X6_row (nI r) (nI n) h = some (nI n, fil (si h 22 0 r (nI n)) 23 0 (40 * r) (40 * r + 40) 0) := by
  unfold f_X6_row
  rw [X6_isRow_y h hr, bnd_some, if_neg (by decide), if_pos (show nI n ≤ (40 : Int32) from nI_le (b := 40) hn (by decide)), if_pos (nI_pos' (by omega)), if_pos (inb_t hr (by decide)), nI_clamp (by omega)]
  exact X6_row_loop (nI n) hr 40 0 200 _ (by omega) (by omega)
/-- a row made anew on both sides -/
theorem row_Inv {h : Hp} {r n : Nat} (hI : Inv h) (hr : r < 6) (hn : n ≤ 40) : Inv (fil (si (fil (si h 4 0 r (nI n)) 3 r 0 n 0) 22 0 r (nI n)) 23 0 (40 * r) (40 * r + 40) 0) := by
  obtain ⟨⟨a, b, c, d, e⟩, R, T, W⟩ := hI
  refine ⟨⟨?_, ?_, fun k hk => ?_, d, e⟩, fun k hk => ?_, InvT_of (fun g i j q => ?_) T, InvW_of (fun g i j q => ?_) W⟩
  · simpa [fil, si] using a
  · simpa [fil, si] using b
  · simpa [fil, si] using c k hk
  · by_cases q : k = r
    · subst q
      refine Or.inr ⟨n, hn, by simp [fil, si], by simp [fil, si], fun j hj => ?_⟩
      have h1 : j < 40 := by omega
      simp [fil, si, hj, h1]
    · have e1 : ∀ j, j < 40 → ¬ (40 * r ≤ 40 * k + j ∧ 40 * k + j < 40 * r + 40) := fun j hj => by omega
      rcases R k hk with ⟨x, y⟩ | ⟨m, hm, x, y, z⟩
      · exact Or.inl ⟨by simpa [fil, si, q] using x, by simpa [fil, si, q] using y⟩
      · refine Or.inr ⟨m, hm, by simpa [fil, si, q] using x, by simpa [fil, si, q] using y, fun j hj => ?_⟩
        have h2 := e1 j (by omega)
        simpa [fil, si, q, h2] using z j hj
  · rw [fil_ne _ (by omega), si_ne _ _ (by omega), fil_ne _ (by omega), si_ne _ _ (by omega)]
  · rw [fil_ne _ (by unfold wcore at q; omega), si_ne _ _ (by unfold wcore at q; omega), fil_ne _ (by unfold wcore at q; omega), si_ne _ _ (by unfold wcore at q; omega)]
theorem st_row (a1 a2 : Int32) (h : Hp) (hI : Inv h) : ∃ (r : Int32) (h1 h2 : Hp), f_X5_row a1 a2 h = some (r, h1) ∧ f_X6_row a1 a2 h1 = some (r, h2) ∧ Inv h2 := by
  rcases rng 6 (by decide) a1 with q | ⟨r, hr, rfl⟩
  · refine ⟨-1, h, h, ?_, ?_, hI⟩
    · unfold f_X5_row
      rw [X5_isRow_n h q, bnd_some, if_pos rfl]
    · unfold f_X6_row
      rw [X6_isRow_n h q, bnd_some, if_pos rfl]
  · by_cases q1 : a2 ≤ 40
    · by_cases q2 : 0 ≤ a2
      · obtain ⟨n, hn, rfl⟩ := nI_of2 (M := 40) (n := 40) (by decide) (Int32.not_lt.mpr q2) q1
        refine ⟨nI n, _, _, ?_, X6_row_y _ hr hn, row_Inv hI hr hn⟩
        unfold f_X5_row
        rw [X5_isRow_y h hr, bnd_some, if_neg (by decide), if_pos q1, if_pos q2, X2_begin h hr hn, bnd_some]
      · refine ⟨-3, rfC h 5, mtC (rfC h 5) 5, ?_, ?_, rm_Inv hI⟩
        · unfold f_X5_row
          rw [X5_isRow_y h hr, bnd_some, if_neg (by decide), if_pos q1, if_neg q2, show f_X5_refuse 5 h = _ from X5_refuse (f := 5) h (by decide), bnd_some]
        · unfold f_X6_row
          rw [X6_isRow_y _ hr, bnd_some, if_neg (by decide), if_pos q1, if_neg q2, show f_X6_meet 5 _ = _ from X6_meet (f := 5) _ (by decide), bnd_some]
    · refine ⟨-1, h, h, ?_, ?_, hI⟩
      · unfold f_X5_row
        rw [X5_isRow_y h hr, bnd_some, if_neg (by decide), if_neg q1]
      · unfold f_X6_row
        rw [X6_isRow_y h hr, bnd_some, if_neg (by decide), if_neg q1]
