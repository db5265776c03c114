/-! digest -/
def mx (a : Int64) (v : Int32) : Int64 := (31 : Int64) * a + Int32.toInt64 v
def fld {α : Type} (F : Nat → α → α) : Nat → Nat → α → α
  | _, 0, a => a
  | k, d + 1, a => fld F (k + 1) d (F k a)
theorem fld_s {α : Type} (F : Nat → α → α) (k d : Nat) (a : α) : fld F k (d + 1) a = fld F (k + 1) d (F k a) := rfl
theorem fld_congr {α : Type} {F G : Nat → α → α} : ∀ (d k : Nat) (a : α), (∀ c, k ≤ c → c < k + d → F c = G c) → fld F k d a = fld G k d a
  | 0, _, _, _ => rfl
  | d + 1, k, a, e => by
    rw [fld_s, fld_s, e k (by omega) (by omega)]
    exact fld_congr d (k + 1) _ (fun c h1 h2 => e c (by omega) (by omega))
theorem sl_sl (h : Hp) {g i j : Nat} {x y : Int64} : sl (sl h g i j x) g i j y = sl h g i j y := by
  unfold sl
  refine Prod.ext rfl (Prod.ext (funext fun a => funext fun b => funext fun c => ?_) rfl)
  dsimp only
  by_cases q : a = g ∧ b = i ∧ c = j
  · rw [if_pos q, if_pos q]
  · rw [if_neg q, if_neg q, if_neg q]
def sm (h : Hp) (a : Int64) : Hp := sl h 20 0 24 a
theorem sm_1 (h : Hp) (a : Int64) : (sm h a).1 = h.1 := rfl
theorem sm_2 (h : Hp) (a : Int64) : (sm h a).2.1 20 0 24 = a := sl_at h _ _ _ _
theorem X6_mix_sm (h : Hp) (a : Int64) (v : Int32) : f_X6_mix v (sm h a) = some ((), sm h (mx a v)) := by
  unfold f_X6_mix
  rw [sm_2]
  unfold sm
  rw [sl_sl]
  rfl
section DG
variable {h : Hp} {V : Wv} {n dn : Nat}
theorem WF_dn (W : WF V n dn) : dn ≤ 14 := by
  have := WF_dp W
  have := WF_n W
  omega
def cF (h : Hp) (V : Wv) (n : Nat) : Nat → Int64 → Int64 := fun j a => mx a (cntv h V n j)
def tF (V : Wv) (b : Nat) : Nat → Int64 → Int64 := fun j a => mx a (tel V b j)
def bF (V : Wv) : Nat → Int64 → Int64 := fun b a => fld (tF V b) 0 9 a
def dF (V : Wv) : Nat → Int64 → Int64 := fun i a => mx a (V.2.2 i)
def kv (h : Hp) (k : Nat) : Int32 := if h.1 11 (2 + k) 5 = 0 then -1 else h.1 11 (2 + k) 8
def kF (h : Hp) : Nat → Int64 → Int64 := fun k a => mx a (kv h k)
def riF (h : Hp) (r : Nat) : Nat → Int64 → Int64 := fun i a => mx a (h.1 3 r i)
def rF (h : Hp) : Nat → Int64 → Int64 := fun r a => fld (riF h r) 0 (h.1 4 0 r).toNatClampNeg (mx a (h.1 4 0 r))
def tiF (h : Hp) (r : Nat) : Nat → Int64 → Int64 := fun i a => mx a (h.1 7 r i)
def txF (h : Hp) : Nat → Int64 → Int64 := fun r a => fld (tiF h r) 0 (h.1 8 0 r).toNatClampNeg (mx a (h.1 8 0 r))
theorem X5_dg6 (W : CW h V n dn) : ∀ (d k fuel : Nat) (a : Int64), k + d = 8 → d < fuel → f_X5_digest_b6 fuel a (nI k) h = bnd (f_X4_mixInto 1 (fld (cF h V n) k d a) h) (fun v2 h3 => f_X5_digest_b42 200 v2 (0 : Int32) h3) := by
  intro d
  induction d with
  | zero =>
    intro k fuel a hk hq
    obtain ⟨f, rfl⟩ : ∃ f, fuel = f + 1 := ⟨fuel - 1, by omega⟩
    show f_X5_digest_b6_body _ _ _ _ = _
    unfold f_X5_digest_b6_body
    rw [show k = 8 by omega, if_pos (by decide)]
    rfl
  | succ d ih =>
    intro k fuel a hk hq
    obtain ⟨f, rfl⟩ : ∃ f, fuel = f + 1 := ⟨fuel - 1, by omega⟩
    show f_X5_digest_b6_body _ _ _ _ = _
    unfold f_X5_digest_b6_body
    rw [if_neg (show ¬ (8 : Int32) ≤ nI k from nI_ge (b := 8) (by omega) (by decide)), X5_count_y W (by omega), bnd_some, nI_1, ih (k + 1) f _ (by omega) (by omega)]
    rfl
theorem X4_mix37 (W : CW h V n dn) {b : Nat} (hb : b < n) (kt : Nat → Int64 → Int32 → Hp → Option (Int64 × Hp)) : ∀ (d k fuel : Nat) (a : Int64), k + d = 9 → d < fuel → f_X4_mixInto_b37 kt fuel 1 a (nI b) (nI k) h = kt 1 (fld (tF V b) k d a) (nI (b + 1)) h := by
  intro d
  induction d with
  | zero =>
    intro k fuel a hk hq
    obtain ⟨f, rfl⟩ : ∃ f, fuel = f + 1 := ⟨fuel - 1, by omega⟩
    show f_X4_mixInto_b37_body _ _ _ _ _ _ _ = _
    unfold f_X4_mixInto_b37_body
    rw [show k = 9 by omega, if_pos (by decide), nI_1]
    rfl
  | succ d ih =>
    intro k fuel a hk hq
    obtain ⟨f, rfl⟩ : ∃ f, fuel = f + 1 := ⟨fuel - 1, by omega⟩
    show f_X4_mixInto_b37_body _ _ _ _ _ _ _ = _
    unfold f_X4_mixInto_b37_body
    rw [if_neg (show ¬ (8 : Int32) < nI k from nI_nlt (a := 8) (by omega) (by decide)), X4_tells W hb (by omega), bnd_some, nI_1, ih (k + 1) f _ (by omega) (by omega)]
    rfl
theorem X4_mix73 (W : CW h V n dn) : ∀ (d k fuel : Nat) (a : Int64), k + d = dn → d < fuel → f_X4_mixInto_b73 fuel 1 a (nI k) h = some (fld (dF V) k d a, h) := by
  have hd := WF_dn W.1
  intro d
  induction d with
  | zero =>
    intro k fuel a hk hq
    obtain ⟨f, rfl⟩ : ∃ f, fuel = f + 1 := ⟨fuel - 1, by omega⟩
    show f_X4_mixInto_b73_body _ _ _ _ _ = _
    unfold f_X4_mixInto_b73_body
    rw [CW_c13 W, if_pos (nI_le (by omega) (by omega))]
    rfl
  | succ d ih =>
    intro k fuel a hk hq
    obtain ⟨f, rfl⟩ : ∃ f, fuel = f + 1 := ⟨fuel - 1, by omega⟩
    show f_X4_mixInto_b73_body _ _ _ _ _ = _
    unfold f_X4_mixInto_b73_body
    rw [CW_c13 W, if_neg (nI_ge (by omega) (by omega)), if_pos (inb_t (by omega) (by decide)), nI_clamp (by omega), W.2.2.2.1 k (by omega), nI_1, ih (k + 1) f _ (by omega) (by omega)]
    rfl
theorem X4_mix26 (W : CW h V n dn) : ∀ (d k fuel : Nat) (a : Int64), k + d = n → d < fuel → f_X4_mixInto_b26 fuel 1 a (nI k) h = some (fld (dF V) 0 dn (fld (bF V) k d a), h) := by
  have hn := WF_n W.1
  have hd := WF_dn W.1
  intro d
  induction d with
  | zero =>
    intro k fuel a hk hq
    obtain ⟨f, rfl⟩ : ∃ f, fuel = f + 1 := ⟨fuel - 1, by omega⟩
    show f_X4_mixInto_b26_body _ _ _ _ _ = _
    unfold f_X4_mixInto_b26_body
    rw [CW_c7 W, if_pos (nI_le (by omega) (by omega))]
    exact X4_mix73 W dn 0 200 a (by omega) (by omega)
  | succ d ih =>
    intro k fuel a hk hq
    obtain ⟨f, rfl⟩ : ∃ f, fuel = f + 1 := ⟨fuel - 1, by omega⟩
    show f_X4_mixInto_b26_body _ _ _ _ _ = _
    unfold f_X4_mixInto_b26_body
    rw [CW_c7 W, if_neg (nI_ge (by omega) (by omega))]
    exact (X4_mix37 W (show k < n by omega) (f_X4_mixInto_b26 f) 9 0 200 a (by omega) (by omega)).trans (ih (k + 1) f _ (by omega) (by omega))
/-- the wall mixed in -/
def wM (V : Wv) (n dn : Nat) (a : Int64) : Int64 := fld (dF V) 0 dn (fld (bF V) 0 n (mx (mx a (V.1 0)) (V.1 5)))
theorem X4_mixInto (W : CW h V n dn) (a : Int64) : f_X4_mixInto 1 a h = some (wM V n dn a, h) := by
  have hn := WF_n W.1
  unfold f_X4_mixInto
  rw [CW_c11 W, show h.1 11 1 6 = V.1 0 from W.2.1.1]
  exact X4_mix26 W n 0 200 _ (by omega) (by omega)
theorem X2_mix25 {r m : Nat} (hr : r < 6) (hm : m ≤ 40) (s : h.1 4 0 r = nI m) (kt : Int64 → Int32 → Hp → Option (Int64 × Hp)) : ∀ (d k fuel : Nat) (a : Int64), k + d = m → d < fuel → f_X2_mixInto_b25 kt fuel a (nI r) (nI k) h = kt (fld (riF h r) k d a) (nI (r + 1)) h := by
  intro d
  induction d with
  | zero =>
    intro k fuel a hk hq
    obtain ⟨f, rfl⟩ : ∃ f, fuel = f + 1 := ⟨fuel - 1, by omega⟩
    show f_X2_mixInto_b25_body _ _ _ _ _ _ = _
    unfold f_X2_mixInto_b25_body
    rw [if_pos (inb_t hr (by decide)), nI_clamp (by omega), s, if_pos (nI_le (by omega) (by omega)), nI_1]
    rfl
  | succ d ih =>
    intro k fuel a hk hq
    obtain ⟨f, rfl⟩ : ∃ f, fuel = f + 1 := ⟨fuel - 1, by omega⟩
    show f_X2_mixInto_b25_body _ _ _ _ _ _ = _
    unfold f_X2_mixInto_b25_body
    rw [if_pos (inb_t hr (by decide)), nI_clamp (by omega), s, if_neg (nI_ge (by omega) (by omega)), if_pos (inb_t hr (by decide)), if_pos (inb_t (by omega) (by decide)), nI_clamp (by omega), nI_1, ih (k + 1) f _ (by omega) (by omega)]
    rfl
theorem X3_mix24 {r m : Nat} (hr : r < 4) (hm : m ≤ 100) (s : h.1 8 0 r = nI m) (kt : Int64 → Int32 → Hp → Option (Int64 × Hp)) : ∀ (d k fuel : Nat) (a : Int64), k + d = m → d < fuel → f_X3_mixInto_b24 kt fuel a (nI r) (nI k) h = kt (fld (tiF h r) k d a) (nI (r + 1)) h := by
  intro d
  induction d with
  | zero =>
    intro k fuel a hk hq
    obtain ⟨f, rfl⟩ : ∃ f, fuel = f + 1 := ⟨fuel - 1, by omega⟩
    show f_X3_mixInto_b24_body _ _ _ _ _ _ = _
    unfold f_X3_mixInto_b24_body
    rw [if_pos (inb_t hr (by decide)), nI_clamp (by omega), s, if_pos (nI_le (by omega) (by omega)), nI_1]
    rfl
  | succ d ih =>
    intro k fuel a hk hq
    obtain ⟨f, rfl⟩ : ∃ f, fuel = f + 1 := ⟨fuel - 1, by omega⟩
    show f_X3_mixInto_b24_body _ _ _ _ _ _ = _
    unfold f_X3_mixInto_b24_body
    rw [if_pos (inb_t hr (by decide)), nI_clamp (by omega), s, if_neg (nI_ge (by omega) (by omega)), if_pos (inb_t hr (by decide)), if_pos (inb_t (by omega) (by decide)), nI_clamp (by omega), nI_1, ih (k + 1) f _ (by omega) (by omega)]
    rfl
theorem m1_le {k : Nat} (hk : k < 2 ^ 31) : (-1 : Int32) ≤ nI k := Int32.le_trans (show (-1 : Int32) ≤ 0 by decide) (nI_pos' hk)
theorem m9_le {k : Nat} (hk : k < 2 ^ 31) : (-9 : Int32) ≤ nI k := Int32.le_trans (show (-9 : Int32) ≤ 0 by decide) (nI_pos' hk)
theorem X2_mix2 (R : InvR h) : ∀ (d k fuel : Nat) (a : Int64), k + d = 6 → d < fuel → f_X2_mixInto_b2 fuel a (nI k) h = some (fld (rF h) k d a, h) := by
  intro d
  induction d with
  | zero =>
    intro k fuel a hk hq
    obtain ⟨f, rfl⟩ : ∃ f, fuel = f + 1 := ⟨fuel - 1, by omega⟩
    show f_X2_mixInto_b2_body _ _ _ _ = _
    unfold f_X2_mixInto_b2_body
    rw [show k = 6 by omega, if_pos (by decide)]
    rfl
  | succ d ih =>
    intro k fuel a hk hq
    obtain ⟨f, rfl⟩ : ∃ f, fuel = f + 1 := ⟨fuel - 1, by omega⟩
    show f_X2_mixInto_b2_body _ _ _ _ = _
    unfold f_X2_mixInto_b2_body
    rw [if_neg (show ¬ (6 : Int32) ≤ nI k from nI_ge (b := 6) (by omega) (by decide)), if_pos (inb_t (by omega) (by decide)), nI_clamp (by omega)]
    rw [fld_s]
    rcases R k (by omega) with ⟨s, -⟩ | ⟨m, hm, s, -, -⟩
    · have e : rF h k a = mx a (-1) := by unfold rF; rw [s]; rfl
      rw [e]
      show f_X2_mixInto_b25_body _ _ _ _ _ _ = _
      unfold f_X2_mixInto_b25_body
      rw [if_pos (inb_t (by omega) (by decide)), nI_clamp (by omega), s, if_pos (by decide), nI_1]
      exact ih (k + 1) f _ (by omega) (by omega)
    · have e : rF h k a = fld (riF h k) 0 m (mx a (nI m)) := by unfold rF; rw [s, nI_clamp (by omega)]
      rw [e, s]
      exact (X2_mix25 (show k < 6 by omega) hm s (f_X2_mixInto_b2 f) m 0 200 _ (by omega) (by omega)).trans (ih (k + 1) f _ (by omega) (by omega))
theorem X3_mix2 (R : InvT h) : ∀ (d k fuel : Nat) (a : Int64), k + d = 4 → d < fuel → f_X3_mixInto_b2 fuel a (nI k) h = some (fld (txF h) k d a, h) := by
  intro d
  induction d with
  | zero =>
    intro k fuel a hk hq
    obtain ⟨f, rfl⟩ : ∃ f, fuel = f + 1 := ⟨fuel - 1, by omega⟩
    show f_X3_mixInto_b2_body _ _ _ _ = _
    unfold f_X3_mixInto_b2_body
    rw [show k = 4 by omega, if_pos (by decide)]
    rfl
  | succ d ih =>
    intro k fuel a hk hq
    obtain ⟨f, rfl⟩ : ∃ f, fuel = f + 1 := ⟨fuel - 1, by omega⟩
    show f_X3_mixInto_b2_body _ _ _ _ = _
    unfold f_X3_mixInto_b2_body
    rw [if_neg (show ¬ (4 : Int32) ≤ nI k from nI_ge (b := 4) (by omega) (by decide)), if_pos (inb_t (by omega) (by decide)), nI_clamp (by omega)]
    rw [fld_s]
    rcases R k (by omega) with ⟨s, -⟩ | ⟨m, hm, s, -, -⟩
    · have e : txF h k a = mx a (-1) := by unfold txF; rw [s]; rfl
      rw [e]
      show f_X3_mixInto_b24_body _ _ _ _ _ _ = _
      unfold f_X3_mixInto_b24_body
      rw [if_pos (inb_t (by omega) (by decide)), nI_clamp (by omega), s, if_pos (by decide), nI_1]
      exact ih (k + 1) f _ (by omega) (by omega)
    · have e : txF h k a = fld (tiF h k) 0 m (mx a (nI m)) := by unfold txF; rw [s, nI_clamp (by omega)]
      rw [e, s]
      exact (X3_mix24 (show k < 4 by omega) hm s (f_X3_mixInto_b2 f) m 0 200 _ (by omega) (by omega)).trans (ih (k + 1) f _ (by omega) (by omega))
theorem X5_dg42 (R : InvR h) (T : InvT h) : ∀ (d k fuel : Nat) (a : Int64), k + d = 3 → d < fuel → f_X5_digest_b42 fuel a (nI k) h = some (fld (txF h) 0 4 (fld (rF h) 0 6 (fld (kF h) k d a)), h) := by
  intro d
  induction d with
  | zero =>
    intro k fuel a hk hq
    obtain ⟨f, rfl⟩ : ∃ f, fuel = f + 1 := ⟨fuel - 1, by omega⟩
    show f_X5_digest_b42_body _ _ _ _ = _
    unfold f_X5_digest_b42_body f_X2_mixInto f_X3_mixInto
    rw [show k = 3 by omega, if_pos (by decide), show f_X2_mixInto_b2 200 a 0 h = _ from X2_mix2 R 6 0 200 a (by omega) (by omega), bnd_some, show f_X3_mixInto_b2 200 _ 0 h = _ from X3_mix2 T 4 0 200 _ (by omega) (by omega), bnd_some]
    rfl
  | succ d ih =>
    intro k fuel a hk hq
    obtain ⟨f, rfl⟩ : ∃ f, fuel = f + 1 := ⟨fuel - 1, by omega⟩
    show f_X5_digest_b42_body _ _ _ _ = _
    unfold f_X5_digest_b42_body f_X5_digest_b77
    rw [if_neg (show ¬ (3 : Int32) ≤ nI k from nI_ge (b := 3) (by omega) (by decide)), if_pos (inb_t (by omega) (by decide)), nI_clamp (by omega), if_pos (inb_t (by omega) (by decide)), nI_1, fld_s (kF h)]
    have e : kF h k a = mx a (kv h k) := rfl
    rw [e]
    unfold kv
    by_cases q : h.1 11 (2 + k) 5 = 0
    · rw [if_pos q, if_pos q]
      exact ih (k + 1) f _ (by omega) (by omega)
    · rw [if_neg q, if_neg q]
      exact ih (k + 1) f _ (by omega) (by omega)
/-- the whole digest -/
def dg (h : Hp) (V : Wv) (n dn : Nat) : Int64 := fld (txF h) 0 4 (fld (rF h) 0 6 (fld (kF h) 0 3 (wM V n dn (fld (cF h V n) 0 8 17))))
theorem X5_digest (W : CW h V n dn) (R : InvR h) (T : InvT h) : f_X5_digest h = some (dg h V n dn, h) := by
  unfold f_X5_digest
  rw [show f_X5_digest_b6 200 17 0 h = _ from X5_dg6 W 8 0 200 17 (by omega) (by omega), X4_mixInto W, bnd_some]
  exact X5_dg42 R T 3 0 200 _ (by omega) (by omega)
theorem X6_dg67 {r m : Nat} (hr : r < 6) (hm : m ≤ 40) (s : h.1 22 0 r = nI m) (c : ∀ j, j < m → h.1 3 r j = h.1 23 0 (40 * r + j)) (kt : Int32 → Hp → Option (Int64 × Hp)) : ∀ (d k fuel : Nat) (a : Int64), k + d = m → d < fuel → f_X6_digest_b67 kt fuel (nI r) (nI k) (sm h a) = kt (nI (r + 1)) (sm h (fld (riF h r) k d a)) := by
  intro d
  induction d with
  | zero =>
    intro k fuel a hk hq
    obtain ⟨f, rfl⟩ : ∃ f, fuel = f + 1 := ⟨fuel - 1, by omega⟩
    show f_X6_digest_b67_body _ _ _ _ _ = _
    unfold f_X6_digest_b67_body
    rw [if_pos (inb_t hr (by decide)), nI_clamp (by omega), sm_1, s, if_pos (nI_le (by omega) (by omega)), nI_1]
    rfl
  | succ d ih =>
    intro k fuel a hk hq
    obtain ⟨f, rfl⟩ : ∃ f, fuel = f + 1 := ⟨fuel - 1, by omega⟩
    show f_X6_digest_b67_body _ _ _ _ _ = _
    unfold f_X6_digest_b67_body
    rw [if_pos (inb_t hr (by decide)), nI_clamp (by omega), sm_1, s, if_neg (nI_ge (by omega) (by omega)), X6_rowAt _ hr (by omega), bnd_some, X6_mix_sm, bnd_some, sm_1, ← c k (by omega), nI_1, ih (k + 1) f _ (by omega) (by omega)]
    rfl
theorem X6_dg131 {r m : Nat} (hr : r < 4) (hm : m ≤ 100) (s : h.1 25 0 r = nI m) (c : ∀ j, j < m → h.1 7 r j = h.1 26 0 (100 * r + j)) (kt : Int32 → Hp → Option (Int64 × Hp)) : ∀ (d k fuel : Nat) (a : Int64), k + d = m → d < fuel → f_X6_digest_b131 kt fuel (nI r) (nI k) (sm h a) = kt (nI (r + 1)) (sm h (fld (tiF h r) k d a)) := by
  intro d
  induction d with
  | zero =>
    intro k fuel a hk hq
    obtain ⟨f, rfl⟩ : ∃ f, fuel = f + 1 := ⟨fuel - 1, by omega⟩
    show f_X6_digest_b131_body _ _ _ _ _ = _
    unfold f_X6_digest_b131_body
    rw [if_pos (inb_t hr (by decide)), nI_clamp (by omega), sm_1, s, if_pos (nI_le (by omega) (by omega)), nI_1]
    rfl
  | succ d ih =>
    intro k fuel a hk hq
    obtain ⟨f, rfl⟩ : ∃ f, fuel = f + 1 := ⟨fuel - 1, by omega⟩
    show f_X6_digest_b131_body _ _ _ _ _ = _
    unfold f_X6_digest_b131_body
    rw [if_pos (inb_t hr (by decide)), nI_clamp (by omega), sm_1, s, if_neg (nI_ge (by omega) (by omega)), n100, if_pos (inb_t (by omega) (by decide)), nI_clamp (by omega), X6_mix_sm, bnd_some, ← c k (by omega), nI_1, ih (k + 1) f _ (by omega) (by omega)]
    rfl
theorem X6_dg101 (T : InvT h) : ∀ (d k fuel : Nat) (a : Int64), k + d = 4 → d < fuel → f_X6_digest_b101 fuel (nI k) (sm h a) = some (fld (txF h) k d a, sm h (fld (txF h) k d a)) := by
  intro d
  induction d with
  | zero =>
    intro k fuel a hk hq
    obtain ⟨f, rfl⟩ : ∃ f, fuel = f + 1 := ⟨fuel - 1, by omega⟩
    show f_X6_digest_b101_body _ _ _ = _
    unfold f_X6_digest_b101_body
    rw [show k = 4 by omega, if_pos (by decide), sm_2]
    rfl
  | succ d ih =>
    intro k fuel a hk hq
    obtain ⟨f, rfl⟩ : ∃ f, fuel = f + 1 := ⟨fuel - 1, by omega⟩
    show f_X6_digest_b101_body _ _ _ = _
    unfold f_X6_digest_b101_body f_X6_digest_b126
    rw [if_neg (show ¬ (4 : Int32) ≤ nI k from nI_ge (b := 4) (by omega) (by decide)), if_pos (inb_t (by omega) (by decide)), if_pos (inb_t (by omega) (by decide)), nI_clamp (by omega), sm_1, fld_s]
    rcases T k (by omega) with ⟨s, s2⟩ | ⟨m, hm, s, s2, c⟩
    · have e : txF h k a = mx a (-1) := by unfold txF; rw [s]; rfl
      rw [e, s2, if_neg n9, X6_mix_sm, bnd_some]
      show f_X6_digest_b131_body _ _ _ _ _ = _
      unfold f_X6_digest_b131_body
      rw [if_pos (inb_t (by omega) (by decide)), nI_clamp (by omega), sm_1, s2, if_pos (by decide), nI_1]
      exact ih (k + 1) f _ (by omega) (by omega)
    · have e : txF h k a = fld (tiF h k) 0 m (mx a (nI m)) := by unfold txF; rw [s, nI_clamp (by omega)]
      rw [e, s2, if_pos (nI_pos' (by omega)), X6_mix_sm, bnd_some]
      exact (X6_dg131 (show k < 4 by omega) hm s2 c (f_X6_digest_b101 f) m 0 200 _ (by omega) (by omega)).trans (ih (k + 1) f _ (by omega) (by omega))
theorem X6_dg36 (R : InvR h) (T : InvT h) : ∀ (d k fuel : Nat) (a : Int64), k + d = 6 → d < fuel → f_X6_digest_b36 fuel (nI k) (sm h a) = some (fld (txF h) 0 4 (fld (rF h) k d a), sm h (fld (txF h) 0 4 (fld (rF h) k d a))) := by
  intro d
  induction d with
  | zero =>
    intro k fuel a hk hq
    obtain ⟨f, rfl⟩ : ∃ f, fuel = f + 1 := ⟨fuel - 1, by omega⟩
    show f_X6_digest_b36_body _ _ _ = _
    unfold f_X6_digest_b36_body
    rw [show k = 6 by omega, if_pos (by decide)]
    exact X6_dg101 T 4 0 200 a (by omega) (by omega)
  | succ d ih =>
    intro k fuel a hk hq
    obtain ⟨f, rfl⟩ : ∃ f, fuel = f + 1 := ⟨fuel - 1, by omega⟩
    show f_X6_digest_b36_body _ _ _ = _
    unfold f_X6_digest_b36_body f_X6_digest_b62
    rw [if_neg (show ¬ (6 : Int32) ≤ nI k from nI_ge (b := 6) (by omega) (by decide)), if_pos (inb_t (by omega) (by decide)), if_pos (inb_t (by omega) (by decide)), nI_clamp (by omega), sm_1, fld_s (rF h)]
    rcases R k (by omega) with ⟨s, s2⟩ | ⟨m, hm, s, s2, c⟩
    · have e : rF h k a = mx a (-1) := by unfold rF; rw [s]; rfl
      rw [e, s2, if_neg n9, X6_mix_sm, bnd_some]
      show f_X6_digest_b67_body _ _ _ _ _ = _
      unfold f_X6_digest_b67_body
      rw [if_pos (inb_t (by omega) (by decide)), nI_clamp (by omega), sm_1, s2, if_pos (by decide), nI_1]
      exact ih (k + 1) f _ (by omega) (by omega)
    · have e : rF h k a = fld (riF h k) 0 m (mx a (nI m)) := by unfold rF; rw [s, nI_clamp (by omega)]
      rw [e, s2, if_pos (nI_pos' (by omega)), X6_mix_sm, bnd_some]
      exact (X6_dg67 (show k < 6 by omega) hm s2 c (f_X6_digest_b36 f) m 0 200 _ (by omega) (by omega)).trans (ih (k + 1) f _ (by omega) (by omega))
theorem IW_sm (W : IW h V n dn) (a : Int64) : IW (sm h a) V n dn := IW_of (fun _ _ _ _ => rfl) W
theorem X6_mw28 (W : IW h V n dn) {b : Nat} (hb : b < n) (kt : Int32 → Hp → Option (Unit × Hp)) : ∀ (d k fuel : Nat) (a : Int64), k + d = 9 → d < fuel → f_X6_mixWall_b28 kt fuel (nI b) (nI k) (sm h a) = kt (nI (b + 1)) (sm h (fld (tF V b) k d a)) := by
  intro d
  induction d with
  | zero =>
    intro k fuel a hk hq
    obtain ⟨f, rfl⟩ : ∃ f, fuel = f + 1 := ⟨fuel - 1, by omega⟩
    show f_X6_mixWall_b28_body _ _ _ _ _ = _
    unfold f_X6_mixWall_b28_body
    rw [show k = 9 by omega, if_pos (by decide), nI_1]
    rfl
  | succ d ih =>
    intro k fuel a hk hq
    obtain ⟨f, rfl⟩ : ∃ f, fuel = f + 1 := ⟨fuel - 1, by omega⟩
    show f_X6_mixWall_b28_body _ _ _ _ _ = _
    unfold f_X6_mixWall_b28_body
    rw [if_neg (show ¬ (8 : Int32) < nI k from nI_nlt (a := 8) (by omega) (by decide)), X6_brickOf (mw (IW_sm W a)) hb (by omega), bnd_some, X6_mix_sm, bnd_some, nI_1, ih (k + 1) f _ (by omega) (by omega)]
    rfl
theorem X6_mw84 (W : IW h V n dn) : ∀ (d k fuel : Nat) (a : Int64), k + d = 3 → d < fuel → f_X6_mixWall_b84 fuel (nI k) (sm h a) = some ((), sm h (fld (kF h) k d a)) := by
  intro d
  induction d with
  | zero =>
    intro k fuel a hk hq
    obtain ⟨f, rfl⟩ : ∃ f, fuel = f + 1 := ⟨fuel - 1, by omega⟩
    show f_X6_mixWall_b84_body _ _ _ = _
    unfold f_X6_mixWall_b84_body
    rw [show k = 3 by omega, if_pos (by decide)]
    rfl
  | succ d ih =>
    intro k fuel a hk hq
    obtain ⟨f, rfl⟩ : ∃ f, fuel = f + 1 := ⟨fuel - 1, by omega⟩
    show f_X6_mixWall_b84_body _ _ _ = _
    unfold f_X6_mixWall_b84_body f_X6_mixWall_b117
    rw [if_neg (show ¬ (3 : Int32) ≤ nI k from nI_ge (b := 3) (by omega) (by decide)), n120, if_pos (inb_t (by omega) (by decide)), if_pos (inb_t (by omega) (by decide)), nI_clamp (by omega), sm_1, X6_mix_sm, bnd_some, X6_mix_sm, bnd_some, nI_1, fld_s]
    have e : kF h k a = mx a (kv h k) := rfl
    rw [e]
    unfold kv
    rcases W.2.2.2.2 k (by omega) with ⟨b0, k0⟩ | ⟨b1, -, U, m, dm, U1, U2, U3, U4⟩
    · rw [if_pos b0, if_neg (fun z => z k0)]
      exact ih (k + 1) f _ (by omega) (by omega)
    · have c8 : h.1 11 (2 + k) 8 = U.1 2 := U3.1.2.2.1
      have k8 : h.1 29 0 (120 * k) = U.1 2 := U4.1.1
      rw [k8, c8, if_pos (sub_m9 (WF_n U1) (WF_in U1)), if_neg (show ¬ h.1 11 (2 + k) 5 = 0 by rw [b1]; decide)]
      exact ih (k + 1) f _ (by omega) (by omega)
theorem X6_mw58 (W : IW h V n dn) : ∀ (d k fuel : Nat) (a : Int64), k + d = dn → d < fuel → f_X6_mixWall_b58 fuel (nI k) (sm h a) = some ((), sm h (fld (kF h) 0 3 (fld (dF V) k d a))) := by
  have hd := WF_dn W.1
  intro d
  induction d with
  | zero =>
    intro k fuel a hk hq
    obtain ⟨f, rfl⟩ : ∃ f, fuel = f + 1 := ⟨fuel - 1, by omega⟩
    show f_X6_mixWall_b58_body _ _ _ = _
    unfold f_X6_mixWall_b58_body
    rw [sm_1, MW_m22 (mw W), if_pos (nI_le (by omega) (by omega))]
    exact X6_mw84 W 3 0 200 a (by omega) (by omega)
  | succ d ih =>
    intro k fuel a hk hq
    obtain ⟨f, rfl⟩ : ∃ f, fuel = f + 1 := ⟨fuel - 1, by omega⟩
    show f_X6_mixWall_b58_body _ _ _ = _
    unfold f_X6_mixWall_b58_body
    rw [sm_1, MW_m22 (mw W), if_neg (nI_ge (by omega) (by omega)), if_pos (inb_t (by omega) (by decide)), nI_clamp (by omega), X6_mix_sm, bnd_some, W.2.2.1.2.2 k (by omega), nI_1, ih (k + 1) f _ (by omega) (by omega)]
    rfl
theorem X6_mw18 (W : IW h V n dn) : ∀ (d k fuel : Nat) (a : Int64), k + d = n → d < fuel → f_X6_mixWall_b18 fuel (nI k) (sm h a) = some ((), sm h (fld (kF h) 0 3 (fld (dF V) 0 dn (fld (bF V) k d a)))) := by
  have hn := WF_n W.1
  have hd := WF_dn W.1
  intro d
  induction d with
  | zero =>
    intro k fuel a hk hq
    obtain ⟨f, rfl⟩ : ∃ f, fuel = f + 1 := ⟨fuel - 1, by omega⟩
    show f_X6_mixWall_b18_body _ _ _ = _
    unfold f_X6_mixWall_b18_body
    rw [sm_1, MW_m11 (mw W), if_pos (nI_le (by omega) (by omega))]
    exact X6_mw58 W dn 0 200 a (by omega) (by omega)
  | succ d ih =>
    intro k fuel a hk hq
    obtain ⟨f, rfl⟩ : ∃ f, fuel = f + 1 := ⟨fuel - 1, by omega⟩
    show f_X6_mixWall_b18_body _ _ _ = _
    unfold f_X6_mixWall_b18_body
    rw [sm_1, MW_m11 (mw W), if_neg (nI_ge (by omega) (by omega))]
    exact (X6_mw28 W (show k < n by omega) (f_X6_mixWall_b18 f) 9 0 200 a (by omega) (by omega)).trans (ih (k + 1) f _ (by omega) (by omega))
theorem X6_mixWall (W : IW h V n dn) (a : Int64) : f_X6_mixWall (sm h a) = some ((), sm h (fld (kF h) 0 3 (wM V n dn a))) := by
  have hn := WF_n W.1
  unfold f_X6_mixWall
  rw [X6_mix_sm, bnd_some, X6_mix_sm, bnd_some, sm_1, sm_1, MW_m16 (mw W), show h.1 20 0 10 = V.1 0 from W.2.2.1.1.1]
  exact X6_mw18 W n 0 200 _ (by omega) (by omega)
theorem X6_dg9 (W : IW h V n dn) (R : InvR h) (T : InvT h) : ∀ (d k fuel : Nat) (a : Int64), k + d = 8 → d < fuel → f_X6_digest_b9 fuel (nI k) (sm h a) = bnd (f_X6_mixWall (sm h (fld (cF h V n) k d a))) (fun v2 h3 => f_X6_digest_b36 200 (0 : Int32) h3) := by
  intro d
  induction d with
  | zero =>
    intro k fuel a hk hq
    obtain ⟨f, rfl⟩ : ∃ f, fuel = f + 1 := ⟨fuel - 1, by omega⟩
    show f_X6_digest_b9_body _ _ _ = _
    unfold f_X6_digest_b9_body
    rw [show k = 8 by omega, if_pos (by decide)]
    rfl
  | succ d ih =>
    intro k fuel a hk hq
    obtain ⟨f, rfl⟩ : ∃ f, fuel = f + 1 := ⟨fuel - 1, by omega⟩
    show f_X6_digest_b9_body _ _ _ = _
    unfold f_X6_digest_b9_body
    rw [if_neg (show ¬ (7 : Int32) < nI k from nI_nlt (a := 7) (by omega) (by decide)), X6_counts (mw (IW_sm W a)) (InvR_of (fun _ _ _ _ => rfl) R) (InvT_of (fun _ _ _ _ => rfl) T) (by omega), bnd_some, X6_mix_sm, bnd_some, nI_1, ih (k + 1) f _ (by omega) (by omega)]
    rfl
theorem X6_digest (W : IW h V n dn) (R : InvR h) (T : InvT h) : f_X6_digest h = some (dg h V n dn, sm h (dg h V n dn)) := by
  unfold f_X6_digest
  rw [show f_X6_digest_b9 200 0 (sl h 20 0 24 17) = _ from X6_dg9 W R T 8 0 200 17 (by omega) (by omega), X6_mixWall W, bnd_some]
  exact X6_dg36 R T 6 0 200 _ (by omega) (by omega)
end DG
theorem st_digest (h : Hp) (hI : Inv h) : ∃ (r : Int64) (h1 h2 : Hp), f_X5_digest h = some (r, h1) ∧ f_X6_digest h1 = some (r, h2) ∧ Inv h2 := by
  obtain ⟨V, n, dn, W⟩ := Inv_W hI
  refine ⟨_, h, _, X5_digest (cw W) hI.2.1 hI.2.2.1, X6_digest W hI.2.1 hI.2.2.1, Inv_of (fun _ _ _ _ => rfl) ?_ hI⟩
  obtain ⟨a, b, c, d, e⟩ := hI.1
  refine ⟨a, b, c, ?_, ?_⟩
  · unfold sm
    rw [sl_ne _ _ (by omega), sl_ne _ _ (by omega)]; exact d
  · unfold sm
    rw [sl_ne _ _ (by omega), sl_ne _ _ (by omega)]; exact e
