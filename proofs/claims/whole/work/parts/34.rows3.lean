theorem fb_rng (x : Int32) : -2147483648 ≤ x.toInt ∧ x.toInt < 2147483648 := by
  have h1 := Int32.le_toInt x
  have h2 := Int32.toInt_lt x
  omega
theorem fb_bmod {z : Int} (h1 : -2147483648 ≤ z) (h2 : z < 2147483648) : z.bmod (2 ^ 32) = z := by
  rw [Int.bmod_eq_of_le (by omega) (by omega)]
theorem fb_addI {x y : Int32} (h1 : -2147483648 ≤ x.toInt + y.toInt) (h2 : x.toInt + y.toInt < 2147483648) : (x + y).toInt = x.toInt + y.toInt := by
  rw [Int32.toInt_add, fb_bmod h1 h2]
theorem fb_subI {x y : Int32} (h1 : -2147483648 ≤ x.toInt - y.toInt) (h2 : x.toInt - y.toInt < 2147483648) : (x - y).toInt = x.toInt - y.toInt := by
  rw [Int32.toInt_sub, fb_bmod h1 h2]
def fif (h : Hp) (g i lo hi : Nat) (F : Nat → Int32) : Hp := (fun a b c => if a = g ∧ b = i ∧ lo ≤ c ∧ c < hi then F c else h.1 a b c, h.2)
theorem fif_nil (h : Hp) {g i lo hi : Nat} {F : Nat → Int32} (q : hi ≤ lo) : fif h g i lo hi F = h := by
  unfold fif
  refine Prod.ext (funext fun a => funext fun b => funext fun c => ?_) rfl
  exact if_neg (by omega)
theorem fif_si (h : Hp) {g i lo hi : Nat} {F : Nat → Int32} {v : Int32} (q : lo < hi) (hv : v = F lo) : fif (si h g i lo v) g i (lo + 1) hi F = fif h g i lo hi F := by
  subst hv
  unfold fif si
  refine Prod.ext (funext fun a => funext fun b => funext fun c => ?_) rfl
  dsimp only
  by_cases h1 : a = g ∧ b = i ∧ lo ≤ c ∧ c < hi
  · rw [if_pos h1]
    by_cases h2 : lo + 1 ≤ c
    · rw [if_pos ⟨h1.1, h1.2.1, h2, h1.2.2.2⟩]
    · rw [if_neg (fun z => h2 z.2.2.1), if_pos ⟨h1.1, h1.2.1, by omega⟩, show c = lo by omega]
  · rw [if_neg h1, if_neg (fun z => h1 ⟨z.1, z.2.1, by omega, z.2.2.2⟩), if_neg (fun z => h1 ⟨z.1, z.2.1, by omega, by omega⟩)]
theorem fif_at (h : Hp) {g i lo hi c : Nat} {F : Nat → Int32} (h1 : lo ≤ c) (h2 : c < hi) : (fif h g i lo hi F).1 g i c = F c := if_pos ⟨rfl, rfl, h1, h2⟩
theorem fif_ne (h : Hp) {g i lo hi a b c : Nat} {F : Nat → Int32} (q : ¬ (a = g ∧ b = i ∧ lo ≤ c ∧ c < hi)) : (fif h g i lo hi F).1 a b c = h.1 a b c := if_neg q
theorem cp_iff {n i m : Nat} (hn : n ≤ 40) (hi : i < 2 ^ 31) (hm : m < 2 ^ 31) : (nI n - nI i < nI m) ↔ n < i + m := by
  rw [Int32.lt_iff_toInt_lt, fb_subI (by rw [nI_toInt (by omega), nI_toInt hi]; omega) (by rw [nI_toInt (by omega), nI_toInt hi]; omega), nI_toInt (by omega), nI_toInt hi, nI_toInt hm]
  omega
theorem cl_iff {n i m : Nat} (hn : n ≤ 40) (hi : i < 2 ^ 31) (hm : m < 2 ^ 31) : (0 < lg_cmp (Int32.toInt64 (nI i) + Int32.toInt64 (nI m)) (Int32.toInt64 (nI n))) ↔ n < i + m := by
  rw [lg_cmp_gt, nI_l hi, nI_l hm, nI_l (by omega), lN_add, pk_lLT (by omega) (by omega)]
theorem cl_iff2 {n i m : Nat} (hn : n ≤ 40) (hi : i < 2 ^ 31) (hm : m < 2 ^ 31) : (lg_cmp (Int32.toInt64 (nI i) + Int32.toInt64 (nI m)) (Int32.toInt64 (nI n)) ≤ 0) ↔ i + m ≤ n := by
  rw [lg_cmp_le, nI_l hi, nI_l hm, nI_l (by omega), lN_add, pk_lLE (by omega) (by omega)]
theorem X2_hasPlaces_n {r n m : Nat} {a : Int32} (h : Hp) (hr : r < 6) (hn : n ≤ 40) (hm : m < 2 ^ 31) (s : h.1 4 0 r = nI n) (q : a < 0 ∨ ∃ i, i < 2 ^ 31 ∧ a = nI i ∧ n < i + m) : f_X2_hasPlaces (nI r) a (nI m) h = some (0, h) := by
  unfold f_X2_hasPlaces
  rcases q with q | ⟨i, hi, rfl, q⟩
  · rw [if_pos q]
  · rw [if_neg (nI_pos hi), if_pos (inb_t hr (by decide)), nI_clamp (by omega), s, if_pos ((cp_iff hn hi hm).mpr q)]
theorem X2_hasPlaces_y {r n m i : Nat} (h : Hp) (hr : r < 6) (hn : n ≤ 40) (s : h.1 4 0 r = nI n) (q : i + m ≤ n) : f_X2_hasPlaces (nI r) (nI i) (nI m) h = some (1, h) := by
  unfold f_X2_hasPlaces
  rw [if_neg (nI_pos (by omega)), if_pos (inb_t hr (by decide)), nI_clamp (by omega), s, if_neg (fun z => by have := (cp_iff hn (by omega) (by omega)).mp z; omega)]
theorem X6_copy_l2 {t j m : Nat} {F : Nat → Int32} (ht : t < 6) (hj : j + m ≤ 40) : ∀ (d k fuel : Nat) (h : Hp), k + d = m → d < fuel → (∀ c, c < m → h.1 24 0 c = F c) → f_X6_copy_b136 fuel (nI t) (nI j) (nI m) (nI k) h = some (1, fif h 23 0 (40 * t + j + k) (40 * t + j + m) (fun c => F (c - (40 * t + j)))) := by
  intro d
  induction d with
  | zero =>
    intro k fuel h hk hf hF
    obtain ⟨f, rfl⟩ : ∃ f, fuel = f + 1 := ⟨fuel - 1, by omega⟩
    show f_X6_copy_b136_body _ _ _ _ _ _ = _
    unfold f_X6_copy_b136_body
    rw [if_pos (nI_le (by omega) (by omega)), fif_nil h (by omega)]
  | succ d ih =>
    intro k fuel h hk hf hF
    obtain ⟨f, rfl⟩ : ∃ f, fuel = f + 1 := ⟨fuel - 1, by omega⟩
    show f_X6_copy_b136_body _ _ _ _ _ _ = _
    unfold f_X6_copy_b136_body
    rw [if_neg (nI_ge (by omega) (by omega)), if_pos (inb_t (by omega) (by decide)), nI_clamp (by omega), nI_add, X6_setRow h _ ht (by omega), bnd_some, nI_1, ih (k + 1) f _ (by omega) (by omega) (fun c hc => by rw [si_g h (by decide)]; exact hF c hc)]
    rw [show 40 * t + j + (k + 1) = (40 * t + (j + k)) + 1 by omega, show 40 * t + j + k = 40 * t + (j + k) by omega, fif_si h (by omega) (by rw [hF k (by omega), show 40 * t + (j + k) - (40 * t + j) = k by omega])]
theorem X6_copy_l1 {r i m : Nat} {a3 a4 : Int32} {F : Nat → Int32} (hr : r < 6) (hi : i + m ≤ 40) : ∀ (d k fuel : Nat) (h : Hp), k + d = m → d < fuel → (∀ c, c < m → h.1 23 0 (40 * r + (i + c)) = F c) → f_X6_copy_b104 fuel (nI r) (nI i) a3 a4 (nI m) (nI k) h = f_X6_copy_b136 200 a3 a4 (nI m) 0 (fif h 24 0 k m F) := by
  intro d
  induction d with
  | zero =>
    intro k fuel h hk hf hF
    obtain ⟨f, rfl⟩ : ∃ f, fuel = f + 1 := ⟨fuel - 1, by omega⟩
    show f_X6_copy_b104_body _ _ _ _ _ _ _ _ = _
    unfold f_X6_copy_b104_body
    rw [if_pos (nI_le (by omega) (by omega)), fif_nil h (by omega)]
  | succ d ih =>
    intro k fuel h hk hf hF
    obtain ⟨f, rfl⟩ : ∃ f, fuel = f + 1 := ⟨fuel - 1, by omega⟩
    show f_X6_copy_b104_body _ _ _ _ _ _ _ _ = _
    unfold f_X6_copy_b104_body
    rw [if_neg (nI_ge (by omega) (by omega)), nI_add, X6_rowAt h hr (by omega), bnd_some, if_pos (inb_t (by omega) (by decide)), nI_clamp (by omega), nI_1, ih (k + 1) f _ (by omega) (by omega) (fun c hc => by rw [si_g h (by decide)]; exact hF c hc), fif_si h (by omega) (hF k (by omega))]
theorem scp_g (h : Hp) {r t i j m g a b : Nat} (q : g ≠ 3) : (scp h r t i j m).1 g a b = h.1 g a b := by
  unfold scp
  exact if_neg (fun z => q z.1)
theorem copy_Inv {h : Hp} {r t i j m n n2 : Nat} (hI : Inv h) (hr : r < 6) (ht : t < 6) (hn : n ≤ 40) (hn2 : n2 ≤ 40) (s1 : h.1 4 0 r = nI n) (s2 : h.1 22 0 r = nI n) (s3 : ∀ j, j < n → h.1 3 r j = h.1 23 0 (40 * r + j)) (hi : i + m ≤ n) (hj : j + m ≤ n2) (t1 : h.1 4 0 t = nI n2) : Inv (fif (fif (scp h r t i j m) 24 0 0 m (fun c => h.1 23 0 (40 * r + (i + c)))) 23 0 (40 * t + j) (40 * t + j + m) (fun c => h.1 23 0 (40 * r + (i + (c - (40 * t + j)))))) := by
  obtain ⟨⟨a, b, c, d, e⟩, R, T, W⟩ := hI
  have g1 : ∀ g i2 j2, g ≠ 3 → g ≠ 23 → g ≠ 24 → (fif (fif (scp h r t i j m) 24 0 0 m (fun c => h.1 23 0 (40 * r + (i + c)))) 23 0 (40 * t + j) (40 * t + j + m) (fun c => h.1 23 0 (40 * r + (i + (c - (40 * t + j)))))).1 g i2 j2 = h.1 g i2 j2 := by
    intro g i2 j2 q1 q2 q3
    rw [fif_ne _ (by omega), fif_ne _ (by omega)]
    exact if_neg (by omega)
  refine ⟨⟨?_, ?_, fun k hk => ?_, d, e⟩, fun k hk => ?_, InvT_of (fun g i j q => ?_) T, InvW_of (fun g i j q => ?_) W⟩
  · rw [g1 0 0 6 (by decide) (by decide) (by decide), g1 20 0 0 (by decide) (by decide) (by decide)]; exact a
  · rw [g1 0 0 7 (by decide) (by decide) (by decide), g1 20 0 2 (by decide) (by decide) (by decide)]; exact b
  · rw [g1 19 0 k (by decide) (by decide) (by decide), g1 21 0 k (by decide) (by decide) (by decide)]; exact c k hk
  · unfold RowOk
    rw [g1 4 0 k (by decide) (by decide) (by decide), g1 22 0 k (by decide) (by decide) (by decide)]
    rcases R k hk with ⟨y, z⟩ | ⟨u, hu, y, z, v⟩
    · exact Or.inl ⟨y, z⟩
    · refine Or.inr ⟨u, hu, y, z, fun x hx => ?_⟩
      have hL : (fif (fif (scp h r t i j m) 24 0 0 m (fun c => h.1 23 0 (40 * r + (i + c)))) 23 0 (40 * t + j) (40 * t + j + m) (fun c => h.1 23 0 (40 * r + (i + (c - (40 * t + j)))))).1 3 k x = if k = t ∧ j ≤ x ∧ x < j + m then h.1 3 r (i + (x - j)) else h.1 3 k x := by
        rw [fif_ne _ (by omega), fif_ne _ (by omega)]
        unfold scp va_cpy
        dsimp only
        by_cases q : k = t
        · subst q
          by_cases q2 : j ≤ x ∧ x < j + m
          · rw [if_pos ⟨rfl, rfl⟩, if_pos q2, if_pos ⟨rfl, q2⟩]
          · rw [if_pos ⟨rfl, rfl⟩, if_neg q2, if_neg (fun z => q2 z.2)]
        · rw [if_neg (fun z => q z.2), if_neg (fun z => q z.1)]
      rw [hL]
      by_cases q : k = t ∧ j ≤ x ∧ x < j + m
      · rw [if_pos q, q.1, fif_at _ (by omega) (by omega), show 40 * t + x - (40 * t + j) = x - j by omega]
        exact s3 _ (by omega)
      · rw [if_neg q, fif_ne _ (by omega), fif_ne _ (by omega), v x hx]
        exact (scp_g h (by decide)).symm
  · exact g1 g i j (by omega) (by omega) (by omega)
  · exact g1 g i j (by unfold wcore at q; omega) (by unfold wcore at q; omega) (by unfold wcore at q; omega)
theorem st_copy (a1 a2 a3 a4 a5 : Int32) (h : Hp) (hI : Inv h) : ∃ (r : Int32) (h1 h2 : Hp), f_X5_copy a1 a2 a3 a4 a5 h = some (r, h1) ∧ f_X6_copy a1 a2 a3 a4 a5 h1 = some (r, h2) ∧ Inv h2 := by
  rcases rng 6 (by decide) a1 with q | ⟨r, hr, rfl⟩
  · refine ⟨-1, h, h, ?_, ?_, hI⟩
    · unfold f_X5_copy
      rw [X5_isRow_n h q, bnd_some, if_pos rfl]
    · unfold f_X6_copy
      rw [X6_isRow_n h q, bnd_some, if_pos rfl]
  rcases rng 6 (by decide) a3 with q | ⟨t, ht, rfl⟩
  · refine ⟨-1, h, h, ?_, ?_, hI⟩
    · unfold f_X5_copy
      rw [X5_isRow_y h hr, bnd_some, if_neg (by decide), X5_isRow_n h q, bnd_some, if_neg (fun z => z rfl)]
    · unfold f_X6_copy
      rw [X6_isRow_y h hr, bnd_some, if_neg (by decide), X6_isRow_n h q, bnd_some, if_neg (fun z => z rfl)]
  have e5 : ∀ h, f_X5_copy (nI r) a2 (nI t) a4 a5 h = _ := fun h => by
    unfold f_X5_copy
    rw [X5_isRow_y h hr, bnd_some, if_neg (by decide), X5_isRow_y h ht, bnd_some, if_pos (by decide)]
  have e6 : ∀ h, f_X6_copy (nI r) a2 (nI t) a4 a5 h = _ := fun h => by
    unfold f_X6_copy
    rw [X6_isRow_y h hr, bnd_some, if_neg (by decide), X6_isRow_y h ht, bnd_some, if_pos (by decide)]
  by_cases q5 : 0 ≤ a5
  · obtain ⟨m, hm, rfl⟩ := nI_of (Int32.not_lt.mpr q5)
    have mis5 : ∀ h, f_X5_copy_b51 h = some (-3, rfC h 1) := fun h => by
      unfold f_X5_copy_b51
      rw [show f_X5_refuse 1 h = _ from X5_refuse (f := 1) h (by decide), bnd_some]
    have bey5 : ∀ h, f_X5_copy_b86 h = some (-3, rfC h 2) := fun h => by
      unfold f_X5_copy_b86
      rw [show f_X5_refuse 2 h = _ from X5_refuse (f := 2) h (by decide), bnd_some]
    have mis6 : ∀ h, f_X6_copy_b45 h = some (-3, mtC h 1) := fun h => by
      unfold f_X6_copy_b45
      rw [show f_X6_meet 1 h = _ from X6_meet (f := 1) h (by decide), bnd_some]
    have bey6 : ∀ h, f_X6_copy_b95 h = some (-3, mtC h 2) := fun h => by
      unfold f_X6_copy_b95
      rw [show f_X6_meet 2 h = _ from X6_meet (f := 2) h (by decide), bnd_some]
    rcases hI.2.1 r hr with ⟨s1, s2⟩ | ⟨n, hn, s1, s2, s3⟩
    · refine ⟨-3, rfC h 1, mtC (rfC h 1) 1, ?_, ?_, rm_Inv hI⟩
      · rw [e5, if_pos q5, if_pos (inb_t hr (by decide)), nI_clamp (by omega), s1, if_pos (by decide), mis5]
      · rw [e6, if_pos q5, if_pos (inb_t hr (by decide)), nI_clamp (by omega), rfC_g h 1 (by decide) (by decide), s2, if_pos (by decide), mis6]
    rcases hI.2.1 t ht with ⟨t1, t2⟩ | ⟨n2, hn2, t1, t2, t3⟩
    · refine ⟨-3, rfC h 1, mtC (rfC h 1) 1, ?_, ?_, rm_Inv hI⟩
      · rw [e5, if_pos q5, if_pos (inb_t hr (by decide)), nI_clamp (by omega), s1, if_neg (nI_pos (by omega)), if_pos (inb_t ht (by decide)), nI_clamp (by omega), t1, if_neg n1, mis5]
      · rw [e6, if_pos q5, if_pos (inb_t hr (by decide)), nI_clamp (by omega), rfC_g h 1 (by decide) (by decide), s2, if_neg (nI_pos (by omega)), if_pos (inb_t ht (by decide)), nI_clamp (by omega), rfC_g h 1 (by decide) (by decide), t2, if_neg n9, mis6]
    have b5 : ∀ h', h'.1 4 0 r = nI n → h'.1 4 0 t = nI n2 → f_X5_copy (nI r) a2 (nI t) a4 (nI m) h' = _ := fun h' u1 u2 => by
      rw [e5, if_pos q5, if_pos (inb_t hr (by decide)), nI_clamp (by omega), u1, if_neg (nI_pos (by omega)), if_pos (inb_t ht (by decide)), nI_clamp (by omega), u2, if_pos (nI_pos' (by omega))]
    have b6 : ∀ h', h'.1 22 0 r = nI n → h'.1 22 0 t = nI n2 → f_X6_copy (nI r) a2 (nI t) a4 (nI m) h' = _ := fun h' u1 u2 => by
      rw [e6, if_pos q5, if_pos (inb_t hr (by decide)), nI_clamp (by omega), u1, if_neg (nI_pos (by omega)), if_pos (inb_t ht (by decide)), nI_clamp (by omega), u2, if_pos (nI_pos' (by omega))]
    have r22 : ∀ z, (rfC h 2).1 22 0 z = h.1 22 0 z := fun z => rfC_g h 2 (by decide) (by decide)
    by_cases qi : a2 < 0
    · refine ⟨-3, rfC h 2, mtC (rfC h 2) 2, ?_, ?_, rm_Inv hI⟩
      · rw [b5 h s1 t1, X2_hasPlaces_n h hr hn hm s1 (Or.inl qi), bnd_some, if_pos rfl, bey5]
      · rw [b6 _ ((r22 r).trans s2) ((r22 t).trans t2), if_pos qi, bey6]
    obtain ⟨i, hi, rfl⟩ := nI_of qi
    by_cases qi2 : i + m ≤ n
    · by_cases qj : a4 < 0
      · refine ⟨-3, rfC h 2, mtC (rfC h 2) 2, ?_, ?_, rm_Inv hI⟩
        · rw [b5 h s1 t1, X2_hasPlaces_y h hr hn s1 qi2, bnd_some, if_neg (by decide), X2_hasPlaces_n h ht hn2 hm t1 (Or.inl qj), bnd_some, if_neg (fun z => z rfl), bey5]
        · rw [b6 _ ((r22 r).trans s2) ((r22 t).trans t2), if_neg qi, if_pos qj, bey6]
      obtain ⟨j, hj, rfl⟩ := nI_of qj
      by_cases qj2 : j + m ≤ n2
      · refine ⟨1, scp h r t i j m, _, ?_, ?_, copy_Inv hI hr ht hn hn2 s1 s2 s3 qi2 qj2 t1⟩
        · rw [b5 h s1 t1, X2_hasPlaces_y h hr hn s1 qi2, bnd_some, if_neg (by decide), X2_hasPlaces_y h ht hn2 t1 qj2, bnd_some, if_pos (by decide), if_pos (inb_t hr (by decide)), if_pos (inb_t ht (by decide)), nI_clamp hi, nI_clamp hj, nI_clamp hm, if_pos ⟨qi, qj, nI_pos hm, by omega, by omega⟩]
        · have sc : ∀ g z y, g ≠ 3 → (scp h r t i j m).1 g z y = h.1 g z y := fun g z y q => if_neg (fun w => q w.1)
          rw [b6 _ ((sc 22 0 r (by decide)).trans s2) ((sc 22 0 t (by decide)).trans t2), if_neg qi, if_neg qj, if_pos (inb_t hr (by decide)), if_neg (fun z => by have := (cl_iff hn hi hm).mp z; omega), if_pos (inb_t ht (by decide)), if_pos ((cl_iff2 hn2 hj hm).mpr qj2)]
          rw [show (0 : Int32) = nI 0 from rfl, X6_copy_l1 (F := fun c => h.1 23 0 (40 * r + (i + c))) hr (by omega) m 0 200 _ (by omega) (by omega) (fun c hc => sc 23 0 _ (by decide)), show (0 : Int32) = nI 0 from rfl, X6_copy_l2 (F := fun c => h.1 23 0 (40 * r + (i + c))) ht (by omega) m 0 200 _ (by omega) (by omega) (fun c hc => fif_at _ (by omega) hc)]
          rfl
      · refine ⟨-3, rfC h 2, mtC (rfC h 2) 2, ?_, ?_, rm_Inv hI⟩
        · rw [b5 h s1 t1, X2_hasPlaces_y h hr hn s1 qi2, bnd_some, if_neg (by decide), X2_hasPlaces_n h ht hn2 hm t1 (Or.inr ⟨j, hj, rfl, by omega⟩), bnd_some, if_neg (fun z => z rfl), bey5]
        · rw [b6 _ ((r22 r).trans s2) ((r22 t).trans t2), if_neg qi, if_neg qj, if_pos (inb_t hr (by decide)), if_neg (fun z => by have := (cl_iff hn hi hm).mp z; omega), if_pos (inb_t ht (by decide)), if_neg (fun z => qj2 ((cl_iff2 hn2 hj hm).mp z)), bey6]
    · refine ⟨-3, rfC h 2, mtC (rfC h 2) 2, ?_, ?_, rm_Inv hI⟩
      · rw [b5 h s1 t1, X2_hasPlaces_n h hr hn hm s1 (Or.inr ⟨i, hi, rfl, by omega⟩), bnd_some, if_pos rfl, bey5]
      · rw [b6 _ ((r22 r).trans s2) ((r22 t).trans t2), if_neg qi]
        by_cases qj : a4 < 0
        · rw [if_pos qj, bey6]
        · rw [if_neg qj, if_pos (inb_t hr (by decide)), if_pos ((cl_iff hn hi hm).mpr (by omega)), bey6]
  · refine ⟨-3, rfC h 5, mtC (rfC h 5) 5, ?_, ?_, rm_Inv hI⟩
    · rw [e5, if_neg q5, show f_X5_refuse 5 h = _ from X5_refuse (f := 5) h (by decide), bnd_some]
    · rw [e6, if_neg q5, show f_X6_meet 5 _ = _ from X6_meet (f := 5) _ (by decide), bnd_some]
/-- a sum of ints in longs -/
def sml (F : Nat → Int32) : Nat → Nat → Int64 → Int64
  | _, 0, acc => acc
  | k, d + 1, acc => sml F (k + 1) d (acc + (F k).toInt64)
theorem sml_congr {F G : Nat → Int32} : ∀ (d k : Nat) (acc : Int64), (∀ c, k ≤ c → c < k + d → F c = G c) → sml F k d acc = sml G k d acc
  | 0, _, _, _ => rfl
  | d + 1, k, acc, h => by
    unfold sml
    rw [h k (by omega) (by omega)]
    exact sml_congr d (k + 1) _ (fun c h1 h2 => h c (by omega) (by omega))
theorem X2_sum_loop {r n : Nat} (h : Hp) (hr : r < 6) (hn : n ≤ 40) (s : h.1 4 0 r = nI n) : ∀ (d k fuel : Nat) (acc : Int64), k + d = n → d < fuel → f_X2_sum_b5 fuel (nI r) acc (nI k) h = some (sml (h.1 3 r) k d acc, h) := by
  intro d
  induction d with
  | zero =>
    intro k fuel acc hk hf
    obtain ⟨f, rfl⟩ : ∃ f, fuel = f + 1 := ⟨fuel - 1, by omega⟩
    show f_X2_sum_b5_body _ _ _ _ _ = _
    unfold f_X2_sum_b5_body
    rw [if_pos (inb_t hr (by decide)), nI_clamp (by omega), s, if_pos (nI_le (by omega) (by omega))]
    rfl
  | succ d ih =>
    intro k fuel acc hk hf
    obtain ⟨f, rfl⟩ : ∃ f, fuel = f + 1 := ⟨fuel - 1, by omega⟩
    show f_X2_sum_b5_body _ _ _ _ _ = _
    unfold f_X2_sum_b5_body
    rw [if_pos (inb_t hr (by decide)), nI_clamp (by omega), s, if_neg (nI_ge (by omega) (by omega)), if_pos (inb_t hr (by decide)), if_pos (inb_t (by omega) (by decide)), nI_clamp (by omega), nI_1, ih (k + 1) f _ (by omega) (by omega)]
    rfl
theorem X6_mean_loop {r n : Nat} (h : Hp) (hr : r < 6) (hn : n ≤ 40) (s : h.1 22 0 r = nI n) : ∀ (d k fuel : Nat) (acc : Int64), k + d = n → d < fuel → f_X6_mean_b17 fuel (nI r) acc (nI k) h = if n = 0 then some (-3, mtC h 4) else some (1, si h 20 0 2 (Int64.toInt32 (sml (fun j => h.1 23 0 (40 * r + j)) k d acc / Int32.toInt64 (nI n)))) := by
  intro d
  induction d with
  | zero =>
    intro k fuel acc hk hf
    obtain ⟨f, rfl⟩ : ∃ f, fuel = f + 1 := ⟨fuel - 1, by omega⟩
    show f_X6_mean_b17_body _ _ _ _ _ = _
    unfold f_X6_mean_b17_body
    rw [if_pos (inb_t hr (by decide)), nI_clamp (by omega), s, if_pos (nI_le (by omega) (by omega)), if_pos (inb_t hr (by decide))]
    by_cases q : n = 0
    · subst q
      rw [if_neg (fun z => z rfl), if_pos rfl, show f_X6_meet 4 h = _ from X6_meet (f := 4) h (by decide), bnd_some]
    · rw [if_pos (nI_ne0 (by omega) (by omega)), if_neg q, if_pos (inb_t hr (by decide)), nI_l (by omega), if_pos (show ¬ lN n = 0 from fun z => q ((pk_lEQ (b := 0) (by omega) (by decide)).mp z))]
      rfl
  | succ d ih =>
    intro k fuel acc hk hf
    obtain ⟨f, rfl⟩ : ∃ f, fuel = f + 1 := ⟨fuel - 1, by omega⟩
    show f_X6_mean_b17_body _ _ _ _ _ = _
    unfold f_X6_mean_b17_body
    rw [if_pos (inb_t hr (by decide)), nI_clamp (by omega), s, if_neg (nI_ge (by omega) (by omega)), X6_rowAt h hr (by omega), bnd_some, nI_1, ih (k + 1) f _ (by omega) (by omega)]
    rfl
theorem st_mean (a1 : Int32) (h : Hp) (hI : Inv h) : ∃ (r : Int32) (h1 h2 : Hp), f_X5_mean a1 h = some (r, h1) ∧ f_X6_mean a1 h1 = some (r, h2) ∧ Inv h2 := by
  rcases rng 6 (by decide) a1 with q | ⟨r, hr, rfl⟩
  · refine ⟨-1, h, h, ?_, ?_, hI⟩
    · unfold f_X5_mean
      rw [X5_isRow_n h q, bnd_some, if_neg (fun z => z rfl)]
    · unfold f_X6_mean
      rw [X6_askedRow_n h q, bnd_some, if_neg n1]
  · rcases hI.2.1 r hr with ⟨s1, s2⟩ | ⟨n, hn, s1, s2, s3⟩
    · refine ⟨-3, rfC h 1, mtC (rfC h 1) 1, ?_, ?_, rm_Inv hI⟩
      · unfold f_X5_mean
        rw [X5_isRow_y h hr, bnd_some, if_pos (by decide), if_pos (inb_t hr (by decide)), nI_clamp (by omega), s1, if_neg n1, show f_X5_refuse 1 h = _ from X5_refuse (f := 1) h (by decide), bnd_some]
      · unfold f_X6_mean
        rw [X6_askedRow_m _ hr (by rw [rfC_g h 1 (by decide) (by decide)]; exact s2), bnd_some, if_neg n3]
    · have m6 : ∀ h', h'.1 22 0 r = nI n → f_X6_mean (nI r) h' = _ := fun h' u => by
        unfold f_X6_mean
        rw [X6_askedRow_y h' hr hn u, bnd_some, if_pos (by decide), show (0 : Int32) = nI 0 from rfl, X6_mean_loop h' hr hn u n 0 200 0 (by omega) (by omega)]
      by_cases q : n = 0
      · refine ⟨-3, rfC h 4, mtC (rfC h 4) 4, ?_, ?_, rm_Inv hI⟩
        · unfold f_X5_mean
          rw [X5_isRow_y h hr, bnd_some, if_pos (by decide), if_pos (inb_t hr (by decide)), nI_clamp (by omega), s1, if_pos (nI_pos' (by omega)), if_neg (fun z => z (by rw [q]; rfl)), show f_X5_refuse 4 h = _ from X5_refuse (f := 4) h (by decide), bnd_some]
        · rw [m6 _ (by rw [rfC_g h 4 (by decide) (by decide)]; exact s2), if_pos q]
      · refine ⟨1, si h 0 0 7 (Int64.toInt32 (sml (h.1 3 r) 0 n 0 / Int32.toInt64 (nI n))), _, ?_, ?_, ask_Inv (x := Int64.toInt32 (sml (h.1 3 r) 0 n 0 / Int32.toInt64 (nI n))) hI⟩
        · unfold f_X5_mean f_X2_sum
          rw [X5_isRow_y h hr, bnd_some, if_pos (by decide), if_pos (inb_t hr (by decide)), nI_clamp (by omega), s1, if_pos (nI_pos' (by omega)), if_pos (nI_ne0 (by omega) (by omega)), show (0 : Int32) = nI 0 from rfl, X2_sum_loop h hr hn s1 n 0 200 0 (by omega) (by omega), bnd_some, if_pos (fun z => q ((pk_lEQ (b := 0) (by omega) (by decide)).mp (by rw [← nI_l (by omega)]; exact z)))]
        · rw [m6 _ (by rw [si_g h (by decide)]; exact s2), if_neg q]
          have e : sml (fun j => (si h 0 0 7 (Int64.toInt32 (sml (h.1 3 r) 0 n 0 / Int32.toInt64 (nI n)))).1 23 0 (40 * r + j)) 0 n 0 = sml (h.1 3 r) 0 n 0 := sml_congr n 0 0 (fun c _ hc => by rw [si_g h (by decide)]; exact (s3 c (by omega)).symm)
          rw [e]
          rfl
theorem st_asked (h : Hp) (hI : Inv h) : ∃ (r : Int32) (h1 h2 : Hp), f_X5_asked h = some (r, h1) ∧ f_X6_asked h1 = some (r, h2) ∧ Inv h2 := ⟨_, h, h, rfl, by unfold f_X6_asked; rw [hI.1.2.1], hI⟩
theorem st_upper (h : Hp) (hI : Inv h) : ∃ (r : Int64) (h1 h2 : Hp), f_X5_upper h = some (r, h1) ∧ f_X6_upper h1 = some (r, h2) ∧ Inv h2 := ⟨_, h, h, rfl, by unfold f_X6_upper; rw [hI.1.2.2.2.1], hI⟩
theorem st_lower (h : Hp) (hI : Inv h) : ∃ (r : Int64) (h1 h2 : Hp), f_X5_lower h = some (r, h1) ∧ f_X6_lower h1 = some (r, h2) ∧ Inv h2 := ⟨_, h, h, rfl, by unfold f_X6_lower; rw [hI.1.2.2.2.2], hI⟩
theorem st_finding (h : Hp) (hI : Inv h) : ∃ (r : Int32) (h1 h2 : Hp), f_X5_finding h = some (r, h1) ∧ f_X6_finding h1 = some (r, h2) ∧ Inv h2 := ⟨_, h, h, rfl, by unfold f_X6_finding; rw [hI.1.1], hI⟩
theorem st_findings (a1 : Int32) (h : Hp) (hI : Inv h) : ∃ (r : Int32) (h1 h2 : Hp), f_X5_findings a1 h = some (r, h1) ∧ f_X6_findings a1 h1 = some (r, h2) ∧ Inv h2 := by
  by_cases q1 : a1 < 1
  · refine ⟨-1, h, h, ?_, ?_, hI⟩
    · unfold f_X5_findings
      rw [if_pos q1]
    · unfold f_X6_findings
      rw [X6_in_n h (Or.inl q1), bnd_some, if_pos rfl]
  · by_cases q2 : a1 ≤ 5
    · obtain ⟨k, hk, rfl⟩ := nI_of2 (M := 5) (n := 5) (by decide) (fun z => q1 (Int32.lt_trans z (by decide))) q2
      refine ⟨h.1 19 0 k, h, h, ?_, ?_, hI⟩
      · unfold f_X5_findings
        rw [if_neg q1, if_pos q2, if_pos (inb_t (by omega) (by decide)), nI_clamp (by omega)]
      · unfold f_X6_findings
        rw [X6_in_y h q1 (Int32.not_lt.mpr q2), bnd_some, if_neg (by decide), if_pos (inb_t (by omega) (by decide)), nI_clamp (by omega), hI.1.2.2.1 k (by omega)]
    · refine ⟨-1, h, h, ?_, ?_, hI⟩
      · unfold f_X5_findings
        rw [if_neg q1, if_neg q2]
      · unfold f_X6_findings
        rw [X6_in_n h (Or.inr (Int32.not_le.mp q2)), bnd_some, if_pos rfl]
