/-! rows on bits, shifts and unsigned numbers, to paste: each family out of a closed proof of our own, whole with what it rests on; each by itself clean at Lean in its own claim (generation 39, form 5). Take a family whole -/
/-! ===== Int32 by its bits: bt x i ===== -/
def bt (x : Int32) (i : Nat) : Bool := x.toBitVec.getLsbD i
theorem b_ext {x y : Int32} (h : ∀ i, i < 32 → bt x i = bt y i) : x = y := Int32.toBitVec_inj.mp (BitVec.eq_of_getLsbD_eq (fun i hi => h i hi))
theorem b_or (x y : Int32) (i : Nat) : bt (x ||| y) i = (bt x i || bt y i) := by unfold bt; rw [Int32.toBitVec_or, BitVec.getLsbD_or]
theorem b_and (x y : Int32) (i : Nat) : bt (x &&& y) i = (bt x i && bt y i) := by unfold bt; rw [Int32.toBitVec_and, BitVec.getLsbD_and]
theorem b_xor (x y : Int32) (i : Nat) : bt (x ^^^ y) i = (bt x i ^^ bt y i) := by unfold bt; rw [Int32.toBitVec_xor, BitVec.getLsbD_xor]
theorem b_big {x : Int32} {i : Nat} (h : 32 ≤ i) : bt x i = false := BitVec.getLsbD_of_ge _ _ h
theorem b_255 (i : Nat) : bt 255 i = decide (i < 8) := by
  rcases Nat.lt_or_ge i 32 with h | h
  · exact (by decide +kernel : ∀ i, i < 32 → bt 255 i = decide (i < 8)) i h
  · rw [b_big h, decide_eq_false (by omega)]
theorem b_65535 (i : Nat) : bt 65535 i = decide (i < 16) := by
  rcases Nat.lt_or_ge i 32 with h | h
  · exact (by decide +kernel : ∀ i, i < 32 → bt 65535 i = decide (i < 16)) i h
  · rw [b_big h, decide_eq_false (by omega)]
theorem b_m1 : ∀ i, i < 32 → bt (-1) i = true := by decide +kernel
theorem b_0 (i : Nat) : bt 0 i = false := BitVec.getLsbD_zero
theorem s_l : ∀ n, n < 32 → ((nI n &&& 31).toBitVec.smod 32).toNat = n := by decide +kernel
theorem s_u : ∀ n, n < 32 → (((nI n).toUInt32 &&& Int32.toUInt32 31).toBitVec % 32).toNat = n := by decide +kernel
theorem b_shl (n : Nat) (hn : n < 32) (x : Int32) {i : Nat} (hi : i < 32) : bt (x <<< (nI n &&& 31)) i = (decide (n ≤ i) && bt x (i - n)) := by
  unfold bt
  rw [Int32.toBitVec_shiftLeft]
  show (x.toBitVec <<< ((nI n &&& 31).toBitVec.smod 32).toNat).getLsbD i = _
  rw [s_l n hn, BitVec.getLsbD_shiftLeft]
  rcases Nat.lt_or_ge i n with h | h
  · simp [h, Nat.not_le.mpr h]
  · simp [hi, h, Nat.not_lt.mpr h]
theorem b_ushr (n : Nat) (hn : n < 32) (x : Int32) (i : Nat) : bt ((x.toUInt32 >>> ((nI n).toUInt32 &&& Int32.toUInt32 31)).toInt32) i = bt x (n + i) := by
  show (x.toUInt32 >>> ((nI n).toUInt32 &&& Int32.toUInt32 31)).toBitVec.getLsbD i = x.toUInt32.toBitVec.getLsbD (n + i)
  rw [UInt32.toBitVec_shiftRight]
  show (x.toUInt32.toBitVec >>> (((nI n).toUInt32 &&& Int32.toUInt32 31).toBitVec % 32).toNat).getLsbD i = _
  rw [s_u n hn, BitVec.getLsbD_ushiftRight]
theorem b_sshr (n : Nat) (hn : n < 32) (x : Int32) {i : Nat} (hi : i < 32) : bt (x >>> (nI n &&& 31)) i = if n + i < 32 then bt x (n + i) else bt x 31 := by
  unfold bt
  rw [Int32.toBitVec_shiftRight]
  show (x.toBitVec.sshiftRight ((nI n &&& 31).toBitVec.smod 32).toNat).getLsbD i = _
  rw [s_l n hn, BitVec.getLsbD_sshiftRight, BitVec.msb_eq_getLsbD_last]
  simp [hi]
theorem b_shl8 (x : Int32) {i : Nat} (hi : i < 32) : bt (x <<< ((8 : Int32) &&& 31)) i = (decide (8 ≤ i) && bt x (i - 8)) := b_shl 8 (by omega) x hi
theorem b_shl16 (x : Int32) {i : Nat} (hi : i < 32) : bt (x <<< ((16 : Int32) &&& 31)) i = (decide (16 ≤ i) && bt x (i - 16)) := b_shl 16 (by omega) x hi
theorem b_shl24 (x : Int32) {i : Nat} (hi : i < 32) : bt (x <<< ((24 : Int32) &&& 31)) i = (decide (24 ≤ i) && bt x (i - 24)) := b_shl 24 (by omega) x hi
theorem b_sshr8 (x : Int32) {i : Nat} (hi : i < 32) : bt (x >>> ((8 : Int32) &&& 31)) i = if 8 + i < 32 then bt x (8 + i) else bt x 31 := b_sshr 8 (by omega) x hi
theorem nI_mul (a b : Nat) : nI a * nI b = nI (a * b) := (Int32.ofNat_mul a b).symm
theorem nI_subI {a b : Nat} (h : b ≤ a) : nI a - nI b = nI (a - b) := by
  have : nI (a - b) + nI b = nI a := by rw [nI_add, Nat.sub_add_cancel h]
  rw [← this, Int32.add_sub_cancel]
theorem inb_nI {k n : Nat} (hk : k < 2 ^ 31) : inb (nI k) n = decide (k < n) := by
  unfold inb
  rw [nI_clamp hk]
  have : ¬ nI k < 0 := nI_pos hk
  simp [this]
theorem inb_t {k n : Nat} (h : k < n) (hn : n < 2 ^ 31) : inb (nI k) n = true := by
  rw [inb_nI (by omega)]
  exact decide_eq_true h
theorem rng (N : Nat) (hN : N < 2 ^ 31) (a : Int32) : (a < 0 ∨ nI N ≤ a) ∨ ∃ k, k < N ∧ a = nI k := by
  by_cases h : a < 0
  · exact Or.inl (Or.inl h)
  · obtain ⟨k, hk, rfl⟩ := nI_of h
    rcases Nat.lt_or_ge k N with q | q
    · exact Or.inr ⟨k, q, rfl⟩
    · exact Or.inl (Or.inr (nI_le q hk))
theorem bnd_some {α β : Type} (a : α) (h : Hp) (k : α → Hp → Option β) : bnd (some (a, h)) k = k a h := rfl
theorem si_g (h : Hp) {g g2 i j i2 j2 : Nat} {v : Int32} (q : g2 ≠ g) : (si h g i j v).1 g2 i2 j2 = h.1 g2 i2 j2 := if_neg (fun z => q z.1)
theorem si_i (h : Hp) {g g2 i j i2 j2 : Nat} {v : Int32} (q : i2 ≠ i) : (si h g i j v).1 g2 i2 j2 = h.1 g2 i2 j2 := if_neg (fun z => q z.2.1)
theorem si_j (h : Hp) {g g2 i j i2 j2 : Nat} {v : Int32} (q : j2 ≠ j) : (si h g i j v).1 g2 i2 j2 = h.1 g2 i2 j2 := if_neg (fun z => q z.2.2)
theorem si_l (h : Hp) {g i j : Nat} {v : Int32} : (si h g i j v).2 = h.2 := rfl
theorem sl_i (h : Hp) {g i j : Nat} {v : Int64} : (sl h g i j v).1 = h.1 := rfl
theorem sl_t (h : Hp) {g i j : Nat} {v : Int64} : (sl h g i j v).2.2 = h.2.2 := rfl
theorem sl_ne (h : Hp) {g i j a b c : Nat} (v : Int64) (q : ¬ (a = g ∧ b = i ∧ c = j)) : (sl h g i j v).2.1 a b c = h.2.1 a b c := if_neg q
/-- a stretch of places with one value -/
def fil (h : Hp) (g i lo hi : Nat) (v : Int32) : Hp := (fun a b c => if a = g ∧ b = i ∧ lo ≤ c ∧ c < hi then v else h.1 a b c, h.2)
theorem fil_nil (h : Hp) {g i lo hi : Nat} {v : Int32} (q : hi ≤ lo) : fil h g i lo hi v = h := by
  unfold fil
  refine Prod.ext (funext fun a => funext fun b => funext fun c => ?_) rfl
  exact if_neg (by omega)
theorem fil_si (h : Hp) {g i lo hi : Nat} {v : Int32} (q : lo < hi) : fil (si h g i lo v) g i (lo + 1) hi v = fil h g i lo hi v := by
  unfold fil si
  refine Prod.ext (funext fun a => funext fun b => funext fun c => ?_) rfl
  dsimp only
  by_cases h1 : a = g ∧ b = i ∧ lo ≤ c ∧ c < hi
  · rw [if_pos h1]
    by_cases h2 : lo + 1 ≤ c
    · rw [if_pos ⟨h1.1, h1.2.1, h2, h1.2.2.2⟩]
    · rw [if_neg (fun z => h2 z.2.2.1), if_pos ⟨h1.1, h1.2.1, by omega⟩]
  · rw [if_neg h1, if_neg (fun z => h1 ⟨z.1, z.2.1, by omega, z.2.2.2⟩), if_neg (fun z => h1 ⟨z.1, z.2.1, by omega, by omega⟩)]
theorem fil_at (h : Hp) {g i lo hi c : Nat} {v : Int32} (h1 : lo ≤ c) (h2 : c < hi) : (fil h g i lo hi v).1 g i c = v := if_pos ⟨rfl, rfl, h1, h2⟩
theorem fil_ne (h : Hp) {g i lo hi a b c : Nat} {v : Int32} (q : ¬ (a = g ∧ b = i ∧ lo ≤ c ∧ c < hi)) : (fil h g i lo hi v).1 a b c = h.1 a b c := if_neg q
