theorem rfC_g (h : Hp) (f : Nat) {g i j : Nat} (h1 : g ≠ 0) (h2 : g ≠ 19) : (rfC h f).1 g i j = h.1 g i j := by
  unfold rfC
  rw [si_g _ h2, si_g _ h1]
theorem n9 : ¬ (0 : Int32) ≤ -9 := by decide
theorem n1 : ¬ (0 : Int32) ≤ -1 := by decide
theorem n3 : ¬ (0 : Int32) ≤ -3 := by decide
theorem X6_askedRow_n {a : Int32} (h : Hp) (q : a < 0 ∨ nI 6 ≤ a) : f_X6_askedRow a h = some (-1, h) := by
  unfold f_X6_askedRow
  rw [X6_isRow_n h q, bnd_some, if_neg (fun z => z rfl)]
theorem X6_askedRow_m {r : Nat} (h : Hp) (hr : r < 6) (s : h.1 22 0 r = -9) : f_X6_askedRow (nI r) h = some (-3, mtC h 1) := by
  unfold f_X6_askedRow
  rw [X6_isRow_y h hr, bnd_some, if_pos (by decide), if_pos (inb_t hr (by decide)), nI_clamp (by omega), s, if_neg n9, show f_X6_meet 1 h = _ from X6_meet (f := 1) h (by decide), bnd_some]
theorem X6_askedRow_y {r n : Nat} (h : Hp) (hr : r < 6) (hn : n ≤ 40) (s : h.1 22 0 r = nI n) : f_X6_askedRow (nI r) h = some (0, h) := by
  unfold f_X6_askedRow
  rw [X6_isRow_y h hr, bnd_some, if_pos (by decide), if_pos (inb_t hr (by decide)), nI_clamp (by omega), s, if_pos (nI_pos' (by omega))]
theorem X6_askedText_n {a : Int32} (h : Hp) (q : a < 0 ∨ nI 4 ≤ a) : f_X6_askedText a h = some (-1, h) := by
  unfold f_X6_askedText
  rw [X6_isText_n h q, bnd_some, if_neg (fun z => z rfl)]
theorem X6_askedText_m {r : Nat} (h : Hp) (hr : r < 4) (s : h.1 25 0 r = -9) : f_X6_askedText (nI r) h = some (-3, mtC h 1) := by
  unfold f_X6_askedText
  rw [X6_isText_y h hr, bnd_some, if_pos (by decide), if_pos (inb_t hr (by decide)), nI_clamp (by omega), s, if_neg n9, show f_X6_meet 1 h = _ from X6_meet (f := 1) h (by decide), bnd_some]
theorem X6_askedText_y {r n : Nat} (h : Hp) (hr : r < 4) (hn : n ≤ 100) (s : h.1 25 0 r = nI n) : f_X6_askedText (nI r) h = some (0, h) := by
  unfold f_X6_askedText
  rw [X6_isText_y h hr, bnd_some, if_pos (by decide), if_pos (inb_t hr (by decide)), nI_clamp (by omega), s, if_pos (nI_pos' (by omega))]
/-- within 0 .. n - 1, as the model asks -/
theorem X6_idx_y {j n : Nat} (h : Hp) (hj : j < n) (hn : n ≤ 400) : f_X6_in (nI j) 0 (nI n - 1) h = some (1, h) := by
  rw [show nI n - 1 = nI (n - 1) from nI_subI (b := 1) (by omega)]
  exact X6_in_y h (nI_pos (by omega)) (nI_nlt (by omega) (by omega))
theorem X6_idx_n {a : Int32} {n : Nat} (h : Hp) (hn : n ≤ 400) (q : a < 0 ∨ nI n ≤ a) : f_X6_in a 0 (nI n - 1) h = some (0, h) := by
  refine X6_in_n h ?_
  rcases q with q | q
  · exact Or.inl q
  · refine Or.inr (Int32.lt_of_lt_of_le ?_ q)
    rcases Nat.eq_zero_or_pos n with e | e
    · subst e
      decide
    · rw [show nI n - 1 = nI (n - 1) from nI_subI (b := 1) e]
      exact nI_lt (by omega) (by omega)
theorem X5_at_miss {r : Nat} (a2 : Int32) (h : Hp) (hr : r < 6) (s : h.1 4 0 r = -1) : f_X5_at (nI r) a2 h = some (-3, rfC h 1) := by
  unfold f_X5_at
  rw [X5_isRow_y h hr, bnd_some, if_pos (by decide), if_pos (inb_t hr (by decide)), nI_clamp (by omega), s, if_neg n1, show f_X5_refuse 1 h = _ from X5_refuse (f := 1) h (by decide), bnd_some]
theorem X5_at_out {r n : Nat} {a2 : Int32} (h : Hp) (hr : r < 6) (hn : n ≤ 40) (s : h.1 4 0 r = nI n) (q : a2 < 0 ∨ nI n ≤ a2) : f_X5_at (nI r) a2 h = some (-3, rfC h 2) := by
  unfold f_X5_at f_X5_at_b44
  rw [X5_isRow_y h hr, bnd_some, if_pos (by decide), if_pos (inb_t hr (by decide)), nI_clamp (by omega), s, if_pos (nI_pos' (by omega)), show f_X5_refuse 2 h = _ from X5_refuse (f := 2) h (by decide), bnd_some]
  by_cases q1 : a2 < 0
  · rw [if_pos q1]
  · rw [if_neg q1, if_pos (inb_t hr (by decide)), if_neg (Int32.not_lt.mpr (q.resolve_left q1))]
theorem X5_at_in {r n j : Nat} (h : Hp) (hr : r < 6) (hn : n ≤ 40) (s : h.1 4 0 r = nI n) (hj : j < n) : f_X5_at (nI r) (nI j) h = some (1, si h 0 0 7 (h.1 3 r j)) := by
  unfold f_X5_at
  rw [X5_isRow_y h hr, bnd_some, if_pos (by decide), if_pos (inb_t hr (by decide)), nI_clamp (by omega), s, if_pos (nI_pos' (by omega)), if_neg (nI_pos (by omega)), if_pos (inb_t hr (by decide)), if_pos (nI_lt hj (by omega)), if_pos (inb_t hr (by decide)), if_pos (inb_t (by omega) (by decide)), nI_clamp (by omega)]
theorem X6_at_miss {r : Nat} (a2 : Int32) (h : Hp) (hr : r < 6) (s : h.1 22 0 r = -9) : f_X6_at (nI r) a2 h = some (-3, mtC h 1) := by
  unfold f_X6_at
  rw [X6_askedRow_m h hr s, bnd_some, if_neg n3]
theorem X6_at_out {r n : Nat} {a2 : Int32} (h : Hp) (hr : r < 6) (hn : n ≤ 40) (s : h.1 22 0 r = nI n) (q : a2 < 0 ∨ nI n ≤ a2) : f_X6_at (nI r) a2 h = some (-3, mtC h 2) := by
  unfold f_X6_at
  rw [X6_askedRow_y h hr hn s, bnd_some, if_pos (by decide), if_pos (inb_t hr (by decide)), nI_clamp (by omega), s, X6_idx_n h (by omega) q, bnd_some, if_pos rfl, show f_X6_meet 2 h = _ from X6_meet (f := 2) h (by decide), bnd_some]
theorem X6_at_in {r n j : Nat} (h : Hp) (hr : r < 6) (hn : n ≤ 40) (s : h.1 22 0 r = nI n) (hj : j < n) : f_X6_at (nI r) (nI j) h = some (1, si h 20 0 2 (h.1 23 0 (40 * r + j))) := by
  unfold f_X6_at
  rw [X6_askedRow_y h hr hn s, bnd_some, if_pos (by decide), if_pos (inb_t hr (by decide)), nI_clamp (by omega), s, X6_idx_y h hj (by omega), bnd_some, if_neg (by decide), X6_rowAt h hr (by omega), bnd_some]
  rfl
theorem X6_at_bad {a1 : Int32} (a2 : Int32) (h : Hp) (q : a1 < 0 ∨ nI 6 ≤ a1) : f_X6_at a1 a2 h = some (-1, h) := by
  unfold f_X6_at
  rw [X6_askedRow_n h q, bnd_some, if_neg n1]
theorem st_at (a1 a2 : Int32) (h : Hp) (hI : Inv h) : ∃ (r : Int32) (h1 h2 : Hp), f_X5_at a1 a2 h = some (r, h1) ∧ f_X6_at a1 a2 h1 = some (r, h2) ∧ Inv h2 := by
  rcases rng 6 (by decide) a1 with q | ⟨r, hr, rfl⟩
  · refine ⟨-1, h, h, ?_, X6_at_bad a2 h q, hI⟩
    unfold f_X5_at
    rw [X5_isRow_n h q, bnd_some, if_neg (fun z => z rfl)]
  · rcases hI.2.1 r hr with ⟨s1, s2⟩ | ⟨n, hn, s1, s2, s3⟩
    · exact ⟨-3, _, _, X5_at_miss a2 h hr s1, X6_at_miss a2 _ hr (by rw [rfC_g h 1 (by decide) (by decide)]; exact s2), rm_Inv hI⟩
    · rcases rng n (by omega) a2 with q | ⟨j, hj, rfl⟩
      · exact ⟨-3, _, _, X5_at_out h hr hn s1 q, X6_at_out _ hr hn (by rw [rfC_g h 2 (by decide) (by decide)]; exact s2) q, rm_Inv hI⟩
      · refine ⟨1, _, _, X5_at_in h hr hn s1 hj, X6_at_in _ hr hn (by rw [si_g h (by decide)]; exact s2) hj, ?_⟩
        rw [si_g h (by decide), ← s3 j hj]
        exact ask_Inv hI
theorem lay_Inv {h : Hp} {r n j : Nat} (v x : Int32) (hI : Inv h) (hr : r < 6) (hn : n ≤ 40) (s1 : h.1 4 0 r = nI n) (hj : j < n) : Inv (si (si (si (si h 0 0 7 x) 3 r j v) 20 0 2 x) 23 0 (40 * r + j) v) := by
  obtain ⟨⟨a, b, c, d, e⟩, R, T, W⟩ := hI
  refine ⟨⟨?_, ?_, fun k hk => ?_, d, e⟩, fun k hk => ?_, InvT_of (fun g i j q => ?_) T, InvW_of (fun g i j q => ?_) W⟩
  · simpa [si] using a
  · simp [si]
  · simpa [si] using c k hk
  · rcases R k hk with ⟨y, z⟩ | ⟨m, hm, y, z, u⟩
    · exact Or.inl ⟨by simpa [si] using y, by simpa [si] using z⟩
    · refine Or.inr ⟨m, hm, by simpa [si] using y, by simpa [si] using z, fun i hi => ?_⟩
      by_cases q : k = r ∧ i = j
      · obtain ⟨q1, q2⟩ := q
        subst q1
        subst q2
        simp [si]
      · have hL : (si (si (si (si h 0 0 7 x) 3 r j v) 20 0 2 x) 23 0 (40 * r + j) v).1 3 k i = h.1 3 k i := by
          rw [si_g _ (by decide), si_g _ (by decide), si_ne _ _ (by omega), si_g _ (by decide)]
        have hR : (si (si (si (si h 0 0 7 x) 3 r j v) 20 0 2 x) 23 0 (40 * r + j) v).1 23 0 (40 * k + i) = h.1 23 0 (40 * k + i) := by
          rw [si_ne _ _ (by have h1 := hm; omega), si_g _ (by decide), si_g _ (by decide), si_g _ (by decide)]
        rw [hL, hR]
        exact u i hi
  · rw [si_ne _ _ (by omega), si_ne _ _ (by omega), si_ne _ _ (by omega), si_ne _ _ (by omega)]
  · rw [si_ne _ _ (by unfold wcore at q; omega), si_ne _ _ (by unfold wcore at q; omega), si_ne _ _ (by unfold wcore at q; omega), si_ne _ _ (by unfold wcore at q; omega)]
theorem st_lay (a1 a2 a3 : Int32) (h : Hp) (hI : Inv h) : ∃ (r : Int32) (h1 h2 : Hp), f_X5_lay a1 a2 a3 h = some (r, h1) ∧ f_X6_lay a1 a2 a3 h1 = some (r, h2) ∧ Inv h2 := by
  rcases rng 6 (by decide) a1 with q | ⟨r, hr, rfl⟩
  · refine ⟨-1, h, h, ?_, ?_, hI⟩
    · unfold f_X5_lay
      rw [X5_isRow_n h q, bnd_some, if_neg (fun z => z rfl)]
    · unfold f_X6_lay
      rw [X6_at_bad a2 h q, bnd_some, if_neg n1]
  · rcases hI.2.1 r hr with ⟨s1, s2⟩ | ⟨n, hn, s1, s2, s3⟩
    · refine ⟨-3, rfC h 1, mtC (rfC h 1) 1, ?_, ?_, rm_Inv hI⟩
      · unfold f_X5_lay
        rw [X5_isRow_y h hr, bnd_some, if_pos (by decide), if_pos (inb_t hr (by decide)), nI_clamp (by omega), s1, if_neg n1, show f_X5_refuse 1 h = _ from X5_refuse (f := 1) h (by decide), bnd_some]
      · unfold f_X6_lay
        rw [X6_at_miss a2 _ hr (by rw [rfC_g h 1 (by decide) (by decide)]; exact s2), bnd_some, if_neg n3]
    · rcases rng n (by omega) a2 with q | ⟨j, hj, rfl⟩
      · refine ⟨-3, rfC h 2, mtC (rfC h 2) 2, ?_, ?_, rm_Inv hI⟩
        · unfold f_X5_lay f_X5_lay_b44
          rw [X5_isRow_y h hr, bnd_some, if_pos (by decide), if_pos (inb_t hr (by decide)), nI_clamp (by omega), s1, if_pos (nI_pos' (by omega)), show f_X5_refuse 2 h = _ from X5_refuse (f := 2) h (by decide), bnd_some]
          by_cases q1 : a2 < 0
          · rw [if_pos q1]
          · rw [if_neg q1, if_pos (inb_t hr (by decide)), if_neg (Int32.not_lt.mpr (q.resolve_left q1))]
        · unfold f_X6_lay
          rw [X6_at_out _ hr hn (by rw [rfC_g h 2 (by decide) (by decide)]; exact s2) q, bnd_some, if_neg n3]
      · refine ⟨1, si (si h 0 0 7 (h.1 3 r j)) 3 r j a3, _, ?_, ?_, lay_Inv a3 (h.1 3 r j) hI hr hn s1 hj⟩
        · unfold f_X5_lay
          rw [X5_isRow_y h hr, bnd_some, if_pos (by decide), if_pos (inb_t hr (by decide)), nI_clamp (by omega), s1, if_pos (nI_pos' (by omega)), if_neg (nI_pos (by omega)), if_pos (inb_t hr (by decide)), if_pos (nI_lt hj (by omega)), if_pos (inb_t hr (by decide)), if_pos (inb_t (by omega) (by decide)), if_pos (inb_t hr (by decide)), if_pos (inb_t (by omega) (by decide)), nI_clamp (by omega)]
        · unfold f_X6_lay
          rw [X6_at_in _ hr hn (by rw [si_g _ (by decide), si_g _ (by decide)]; exact s2) hj, bnd_some, if_pos (by decide), X6_setRow _ a3 hr (by omega), bnd_some, si_g (si h 0 0 7 (h.1 3 r j)) (by decide), si_g h (by decide), ← s3 j hj]
theorem tear_Inv {h : Hp} {r : Nat} (hI : Inv h) (hr : r < 6) : Inv (si (si h 4 0 r (-1)) 22 0 r (-9)) := by
  obtain ⟨⟨a, b, c, d, e⟩, R, T, W⟩ := hI
  refine ⟨⟨?_, ?_, fun k hk => ?_, d, e⟩, fun k hk => ?_, InvT_of (fun g i j q => ?_) T, InvW_of (fun g i j q => ?_) W⟩
  · simpa [si] using a
  · simpa [si] using b
  · simpa [si] using c k hk
  · by_cases q : k = r
    · subst q
      exact Or.inl ⟨by simp [si], by simp [si]⟩
    · rcases R k hk with ⟨y, z⟩ | ⟨m, hm, y, z, u⟩
      · exact Or.inl ⟨by simpa [si, q] using y, by simpa [si, q] using z⟩
      · exact Or.inr ⟨m, hm, by simpa [si, q] using y, by simpa [si, q] using z, fun i hi => by simpa [si] using u i hi⟩
  · rw [si_ne _ _ (by omega), si_ne _ _ (by omega)]
  · rw [si_ne _ _ (by unfold wcore at q; omega), si_ne _ _ (by unfold wcore at q; omega)]
theorem st_tear (a1 : Int32) (h : Hp) (hI : Inv h) : ∃ (r : Int32) (h1 h2 : Hp), f_X5_tear a1 h = some (r, h1) ∧ f_X6_tear a1 h1 = some (r, h2) ∧ Inv h2 := by
  rcases rng 6 (by decide) a1 with q | ⟨r, hr, rfl⟩
  · refine ⟨-1, h, h, ?_, ?_, hI⟩
    · unfold f_X5_tear
      rw [X5_isRow_n h q, bnd_some, if_neg (fun z => z rfl)]
    · unfold f_X6_tear
      rw [X6_askedRow_n h q, bnd_some, if_neg n1]
  · rcases hI.2.1 r hr with ⟨s1, s2⟩ | ⟨n, hn, s1, s2, s3⟩
    · refine ⟨-3, rfC h 1, mtC (rfC h 1) 1, ?_, ?_, rm_Inv hI⟩
      · unfold f_X5_tear
        rw [X5_isRow_y h hr, bnd_some, if_pos (by decide), if_pos (inb_t hr (by decide)), nI_clamp (by omega), s1, if_neg n1, show f_X5_refuse 1 h = _ from X5_refuse (f := 1) h (by decide), bnd_some]
      · unfold f_X6_tear
        rw [X6_askedRow_m _ hr (by rw [rfC_g h 1 (by decide) (by decide)]; exact s2), bnd_some, if_neg n3]
    · refine ⟨1, si h 4 0 r (-1), _, ?_, ?_, tear_Inv hI hr⟩
      · unfold f_X5_tear
        rw [X5_isRow_y h hr, bnd_some, if_pos (by decide), if_pos (inb_t hr (by decide)), nI_clamp (by omega), s1, if_pos (nI_pos' (by omega)), if_pos (inb_t hr (by decide))]
      · unfold f_X6_tear
        rw [X6_askedRow_y _ hr hn (by rw [si_g h (by decide)]; exact s2), bnd_some, if_pos (by decide), if_pos (inb_t hr (by decide)), nI_clamp (by omega)]
/-! texts -/
theorem X3_begin_loop {r n : Nat} (hr : r < 4) (hn : n ≤ 100) : ∀ (d k fuel : Nat) (h : Hp), k + d = n → d < fuel → f_X3_begin_b9 fuel (nI r) (nI n) (nI k) h = some ((), fil h 7 r k n 32) := by
  intro d
  induction d with
  | zero =>
    intro k fuel h hk hf
    obtain ⟨f, rfl⟩ : ∃ f, fuel = f + 1 := ⟨fuel - 1, by omega⟩
    show f_X3_begin_b9_body _ _ _ _ _ = _
    unfold f_X3_begin_b9_body
    rw [if_pos (nI_le (by omega) (by omega)), fil_nil h (by omega)]
  | succ d ih =>
    intro k fuel h hk hf
    obtain ⟨f, rfl⟩ : ∃ f, fuel = f + 1 := ⟨fuel - 1, by omega⟩
    show f_X3_begin_b9_body _ _ _ _ _ = _
    unfold f_X3_begin_b9_body
    rw [if_neg (nI_ge (by omega) (by omega)), if_pos (inb_t hr (by decide)), if_pos (inb_t (by omega) (by decide)), nI_1, nI_clamp (by omega), nI_clamp (by omega), show Int8.toInt32 (Int32.toInt8 (32 : Int32)) = 32 from by decide, ih (k + 1) f _ (by omega) (by omega), fil_si h (by omega)]
theorem X3_begin {r n : Nat} (h : Hp) (hr : r < 4) (hn : n ≤ 100) : f_X3_begin (nI r) (nI n) h = some ((), fil (si h 8 0 r (nI n)) 7 r 0 n 32) := by
  unfold f_X3_begin
  rw [if_pos (inb_t hr (by decide)), nI_clamp (by omega)]
  exact X3_begin_loop hr hn n 0 200 _ (by omega) (by omega)
theorem n100 (r k : Nat) : (100 : Int32) * nI r + nI k = nI (100 * r + k) := by rw [show (100 : Int32) = nI 100 from rfl, nI_mul, nI_add]
theorem X6_text_loop {r : Nat} (a : Int32) (hr : r < 4) : ∀ (d k fuel : Nat) (h : Hp), k + d = 100 → d < fuel → f_X6_text_b34 fuel (nI r) a (nI k) h = some (a, fil h 26 0 (100 * r + k) (100 * r + 100) 32) := by
  intro d
  induction d with
  | zero =>
    intro k fuel h hk hf
    obtain ⟨f, rfl⟩ : ∃ f, fuel = f + 1 := ⟨fuel - 1, by omega⟩
    show f_X6_text_b34_body _ _ _ _ _ = _
    unfold f_X6_text_b34_body
    rw [if_pos (show (100 : Int32) ≤ nI k from nI_le (a := 100) (by omega) (by omega)), fil_nil h (by omega)]
  | succ d ih =>
    intro k fuel h hk hf
    obtain ⟨f, rfl⟩ : ∃ f, fuel = f + 1 := ⟨fuel - 1, by omega⟩
    show f_X6_text_b34_body _ _ _ _ _ = _
    unfold f_X6_text_b34_body
    rw [if_neg (show ¬ (100 : Int32) ≤ nI k from nI_ge (b := 100) (by omega) (by decide)), n100, if_pos (inb_t (by omega) (by decide)), nI_clamp (by omega), nI_1, ih (k + 1) f _ (by omega) (by omega), show 100 * r + (k + 1) = 100 * r + k + 1 by omega, fil_si h (by omega)]
theorem X6_text_y {r n : Nat} (h : Hp) (hr : r < 4) (hn : n ≤ 100) : f_X6_text (nI r) (nI n) h = some (nI n, fil (si h 25 0 r (nI n)) 26 0 (100 * r) (100 * r + 100) 32) := by
  unfold f_X6_text
  rw [X6_isText_y h hr, bnd_some, if_neg (by decide), if_pos (show nI n ≤ (100 : Int32) from nI_le (b := 100) hn (by decide)), if_pos (nI_pos' (by omega)), if_pos (inb_t hr (by decide)), nI_clamp (by omega)]
  exact X6_text_loop (nI n) hr 100 0 200 _ (by omega) (by omega)
theorem text_Inv {h : Hp} {r n : Nat} (hI : Inv h) (hr : r < 4) (hn : n ≤ 100) : Inv (fil (si (fil (si h 8 0 r (nI n)) 7 r 0 n 32) 25 0 r (nI n)) 26 0 (100 * r) (100 * r + 100) 32) := by
  obtain ⟨⟨a, b, c, d, e⟩, R, T, W⟩ := hI
  refine ⟨⟨?_, ?_, fun k hk => ?_, d, e⟩, InvR_of (fun g i j q => ?_) R, fun k hk => ?_, InvW_of (fun g i j q => ?_) W⟩
  · simpa [fil, si] using a
  · simpa [fil, si] using b
  · simpa [fil, si] using c k hk
  · rw [fil_ne _ (by omega), si_ne _ _ (by omega), fil_ne _ (by omega), si_ne _ _ (by omega)]
  · by_cases q : k = r
    · subst q
      refine Or.inr ⟨n, hn, by simp [fil, si], by simp [fil, si], fun j hj => ?_⟩
      have h1 : j < 100 := by omega
      simp [fil, si, hj, h1]
    · have e1 : ∀ j, j < 100 → ¬ (100 * r ≤ 100 * k + j ∧ 100 * k + j < 100 * r + 100) := fun j hj => by omega
      rcases T k hk with ⟨x, y⟩ | ⟨m, hm, x, y, z⟩
      · exact Or.inl ⟨by simpa [fil, si, q] using x, by simpa [fil, si, q] using y⟩
      · refine Or.inr ⟨m, hm, by simpa [fil, si, q] using x, by simpa [fil, si, q] using y, fun j hj => ?_⟩
        have h2 := e1 j (by omega)
        simpa [fil, si, q, h2] using z j hj
  · rw [fil_ne _ (by unfold wcore at q; omega), si_ne _ _ (by unfold wcore at q; omega), fil_ne _ (by unfold wcore at q; omega), si_ne _ _ (by unfold wcore at q; omega)]
theorem st_text (a1 a2 : Int32) (h : Hp) (hI : Inv h) : ∃ (r : Int32) (h1 h2 : Hp), f_X5_text a1 a2 h = some (r, h1) ∧ f_X6_text a1 a2 h1 = some (r, h2) ∧ Inv h2 := by
  rcases rng 4 (by decide) a1 with q | ⟨r, hr, rfl⟩
  · refine ⟨-1, h, h, ?_, ?_, hI⟩
    · unfold f_X5_text
      rw [X5_isText_n h q, bnd_some, if_pos rfl]
    · unfold f_X6_text
      rw [X6_isText_n h q, bnd_some, if_pos rfl]
  · by_cases q1 : a2 ≤ 100
    · by_cases q2 : 0 ≤ a2
      · obtain ⟨n, hn, rfl⟩ := nI_of2 (M := 100) (n := 100) (by decide) (Int32.not_lt.mpr q2) q1
        refine ⟨nI n, _, _, ?_, X6_text_y _ hr hn, text_Inv hI hr hn⟩
        unfold f_X5_text
        rw [X5_isText_y h hr, bnd_some, if_neg (by decide), if_pos q1, if_pos q2, X3_begin h hr hn, bnd_some]
      · refine ⟨-3, rfC h 5, mtC (rfC h 5) 5, ?_, ?_, rm_Inv hI⟩
        · unfold f_X5_text
          rw [X5_isText_y h hr, bnd_some, if_neg (by decide), if_pos q1, if_neg q2, show f_X5_refuse 5 h = _ from X5_refuse (f := 5) h (by decide), bnd_some]
        · unfold f_X6_text
          rw [X6_isText_y _ hr, bnd_some, if_neg (by decide), if_pos q1, if_neg q2, show f_X6_meet 5 _ = _ from X6_meet (f := 5) _ (by decide), bnd_some]
    · refine ⟨-1, h, h, ?_, ?_, hI⟩
      · unfold f_X5_text
        rw [X5_isText_y h hr, bnd_some, if_neg (by decide), if_neg q1]
      · unfold f_X6_text
        rw [X6_isText_y h hr, bnd_some, if_neg (by decide), if_neg q1]
theorem byte2 (x : Int32) : Int8.toInt32 (Int32.toInt8 (Int8.toInt32 (Int32.toInt8 x))) = Int8.toInt32 (Int32.toInt8 x) := by
  first | rw [Int8.toInt8_toInt32] | simp
theorem put_Inv {h : Hp} {r n j : Nat} (v : Int32) (hI : Inv h) (hr : r < 4) (hn : n ≤ 100) (s1 : h.1 8 0 r = nI n) (hj : j < n) : Inv (si (si h 7 r j v) 26 0 (100 * r + j) v) := by
  obtain ⟨⟨a, b, c, d, e⟩, R, T, W⟩ := hI
  refine ⟨⟨?_, ?_, fun k hk => ?_, d, e⟩, InvR_of (fun g i j q => ?_) R, fun k hk => ?_, InvW_of (fun g i j q => ?_) W⟩
  · simpa [si] using a
  · simpa [si] using b
  · simpa [si] using c k hk
  · rw [si_ne _ _ (by omega), si_ne _ _ (by omega)]
  · rcases T k hk with ⟨y, z⟩ | ⟨m, hm, y, z, u⟩
    · exact Or.inl ⟨by simpa [si] using y, by simpa [si] using z⟩
    · refine Or.inr ⟨m, hm, by simpa [si] using y, by simpa [si] using z, fun i hi => ?_⟩
      by_cases q : k = r ∧ i = j
      · obtain ⟨q1, q2⟩ := q
        subst q1
        subst q2
        simp [si]
      · have hL : (si (si h 7 r j v) 26 0 (100 * r + j) v).1 7 k i = h.1 7 k i := by
          rw [si_g _ (by decide), si_ne _ _ (by omega)]
        have hR : (si (si h 7 r j v) 26 0 (100 * r + j) v).1 26 0 (100 * k + i) = h.1 26 0 (100 * k + i) := by
          rw [si_ne _ _ (by have h1 := hm; omega), si_g _ (by decide)]
        rw [hL, hR]
        exact u i hi
  · rw [si_ne _ _ (by unfold wcore at q; omega), si_ne _ _ (by unfold wcore at q; omega)]
theorem st_put (a1 a2 a3 : Int32) (h : Hp) (hI : Inv h) : ∃ (r : Int32) (h1 h2 : Hp), f_X5_put a1 a2 a3 h = some (r, h1) ∧ f_X6_put a1 a2 a3 h1 = some (r, h2) ∧ Inv h2 := by
  rcases rng 4 (by decide) a1 with q | ⟨r, hr, rfl⟩
  · refine ⟨-1, h, h, ?_, ?_, hI⟩
    · unfold f_X5_put
      rw [X5_isText_n h q, bnd_some, if_neg (fun z => z rfl)]
    · unfold f_X6_put
      rw [X6_askedText_n h q, bnd_some, if_neg n1]
  · rcases hI.2.2.1 r hr with ⟨s1, s2⟩ | ⟨n, hn, s1, s2, s3⟩
    · refine ⟨-3, rfC h 1, mtC (rfC h 1) 1, ?_, ?_, rm_Inv hI⟩
      · unfold f_X5_put
        rw [X5_isText_y h hr, bnd_some, if_pos (by decide), if_pos (inb_t hr (by decide)), nI_clamp (by omega), s1, if_neg n1, show f_X5_refuse 1 h = _ from X5_refuse (f := 1) h (by decide), bnd_some]
      · unfold f_X6_put
        rw [X6_askedText_m _ hr (by rw [rfC_g h 1 (by decide) (by decide)]; exact s2), bnd_some, if_neg n3]
    · rcases rng n (by omega) a2 with q | ⟨j, hj, rfl⟩
      · refine ⟨-3, rfC h 2, mtC (rfC h 2) 2, ?_, ?_, rm_Inv hI⟩
        · unfold f_X5_put f_X5_put_b44
          rw [X5_isText_y h hr, bnd_some, if_pos (by decide), if_pos (inb_t hr (by decide)), nI_clamp (by omega), s1, if_pos (nI_pos' (by omega)), show f_X5_refuse 2 h = _ from X5_refuse (f := 2) h (by decide), bnd_some]
          by_cases q1 : a2 < 0
          · rw [if_pos q1]
          · rw [if_neg q1, if_pos (inb_t hr (by decide)), if_neg (Int32.not_lt.mpr (q.resolve_left q1))]
        · unfold f_X6_put
          rw [X6_askedText_y _ hr hn (by rw [rfC_g h 2 (by decide) (by decide)]; exact s2), bnd_some, if_pos (by decide), if_pos (inb_t hr (by decide)), nI_clamp (by omega), rfC_g h 2 (by decide) (by decide), s2, X6_idx_n _ (by omega) q, bnd_some, if_neg (fun z => z rfl), show f_X6_meet 2 _ = _ from X6_meet (f := 2) _ (by decide), bnd_some]
      · refine ⟨h.1 7 r j + 1000, si h 7 r j (Int8.toInt32 (Int32.toInt8 a3)), _, ?_, ?_, put_Inv (Int8.toInt32 (Int32.toInt8 a3)) hI hr hn s1 hj⟩
        · unfold f_X5_put
          rw [X5_isText_y h hr, bnd_some, if_pos (by decide), if_pos (inb_t hr (by decide)), nI_clamp (by omega), s1, if_pos (nI_pos' (by omega)), if_neg (nI_pos (by omega)), if_pos (inb_t hr (by decide)), if_pos (nI_lt hj (by omega)), if_pos (inb_t hr (by decide)), if_pos (inb_t (by omega) (by decide)), if_pos (inb_t hr (by decide)), if_pos (inb_t (by omega) (by decide)), nI_clamp (by omega), byte2]
        · unfold f_X6_put
          rw [X6_askedText_y _ hr hn (by rw [si_g h (by decide)]; exact s2), bnd_some, if_pos (by decide), if_pos (inb_t hr (by decide)), nI_clamp (by omega), si_g h (by decide), s2, X6_idx_y _ hj (by omega), bnd_some, if_pos (by decide), n100, if_pos (inb_t (by omega) (by decide)), if_pos (inb_t (by omega) (by decide)), nI_clamp (by omega), si_g h (by decide), ← s3 j hj]
