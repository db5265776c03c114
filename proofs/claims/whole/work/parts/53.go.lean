/-! go -/
theorem IW_new {h h' : Hp} {V V' : Wv} {n dn n' dn' : Nat} (W : IW h V n dn) (C : CW h' V' n' dn') (M : MW h' V' n' dn') (e0 : V'.1 0 = V.1 0) (b : h'.1 11 1 5 = h.1 11 1 5)
    (r : ∀ g i j, (g = 29 ∨ ((g = 11 ∨ g = 13 ∨ g = 14) ∧ 2 ≤ i) ∨ (g = 17 ∧ 28 ≤ i)) → h'.1 g i j = h.1 g i j) : IW h' V' n' dn' := by
  obtain ⟨H1, H2, H3, H4, H5⟩ := W
  refine ⟨C.1, C.2, M.2, ?_, fun k hk => ?_⟩
  · rw [b, H4, e0]
  · have e29 : ∀ j, h'.1 29 0 j = h.1 29 0 j := fun j => r 29 0 j (by omega)
    have e11 : ∀ j, h'.1 11 (2 + k) j = h.1 11 (2 + k) j := fun j => r 11 _ j (by omega)
    have e13 : ∀ j, h'.1 13 (2 + k) j = h.1 13 (2 + k) j := fun j => r 13 _ j (by omega)
    have e14 : ∀ j, h'.1 14 (2 + k) j = h.1 14 (2 + k) j := fun j => r 14 _ j (by omega)
    have e17 : ∀ b j, h'.1 17 (14 * (2 + k) + b) j = h.1 17 (14 * (2 + k) + b) j := fun b j => r 17 _ j (by omega)
    have K := H5 k hk
    unfold Kept CR KR at K ⊢
    simp only [e29, e11, e13, e14, e17]
    rw [e0]
    exact K
theorem CW_g {h h' : Hp} {V : Wv} {n dn : Nat} (W : CW h V n dn) (e : ∀ g i j, (((g = 11 ∨ g = 13 ∨ g = 14) ∧ i = 1) ∨ (g = 17 ∧ 14 ≤ i ∧ i < 28)) → h'.1 g i j = h.1 g i j) : CW h' V n dn := by
  have hn := WF_n W.1
  obtain ⟨a, b, c, od, o1, o2, o3⟩ := W.2
  refine ⟨W.1, ?_, fun x hx => ?_, fun i hi => ?_, od, fun i hi => ?_, o2, o3⟩
  · simp only [fun j => e 11 1 j (by omega)]; exact a
  · have e17 : ∀ j, h'.1 17 (14 * 1 + x) j = h.1 17 (14 * 1 + x) j := fun j => e 17 _ j (by omega)
    simp only [e17]; exact b x hx
  · rw [e 14 1 i (by omega)]; exact c i hi
  · rw [e 13 1 i (by omega)]; exact o1 i hi
theorem CW_us {h : Hp} {V : Wv} {n dn j : Nat} {v : Int32} (W : CW h V n dn) (hj : j ≤ 7) (w' : WF (us V j v) n dn) : CW (si h 11 1 (6 + j) v) (us V j v) n dn := by
  obtain ⟨a1, a2, a3, a4, a5, a6, a7, a8⟩ := W.2.1
  have k : ∀ t, h.1 11 1 (6 + t) = V.1 t → (si h 11 1 (6 + j) v).1 11 1 (6 + t) = (us V j v).1 t := fun t e => by
    by_cases q : t = j
    · subst q; rw [si_at]; exact (if_pos rfl).symm
    · rw [si_ne _ _ (by omega), e]; exact (if_neg q).symm
  refine ⟨w', ⟨k 0 a1, k 1 a2, k 2 a3, k 3 a4, k 4 a5, k 5 a6, k 6 a7, k 7 a8⟩, fun b hb => ?_, fun i hi => ?_, ?_⟩
  · simp only [si_g h (v := v) (show (17 : Nat) ≠ 11 by decide)]
    exact W.2.2.1 b hb
  · rw [si_g h (by decide)]; exact W.2.2.2.1 i hi
  · obtain ⟨od, o1, o2, o3⟩ := W.2.2.2.2
    exact ⟨od, fun i hi => by rw [si_g h (by decide)]; exact o1 i hi, o2, o3⟩
theorem MW_us {h : Hp} {V : Wv} {n dn j : Nat} {v : Int32} (W : MW h V n dn) (hj : 2 ≤ j ∧ j ≤ 6) (w' : WF (us V j v) n dn) : MW (si h 20 0 (11 + j) v) (us V j v) n dn := by
  obtain ⟨a1, a2, a3, a4, a5, a6, a7, a8⟩ := W.2.1
  have k : ∀ t, h.1 20 0 (11 + t) = V.1 t → (si h 20 0 (11 + j) v).1 20 0 (11 + t) = (us V j v).1 t := fun t e => by
    by_cases q : t = j
    · subst q; rw [si_at]; exact (if_pos rfl).symm
    · rw [si_ne _ _ (by omega), e]; exact (if_neg q).symm
  have m : ∀ t c, ¬ c = 11 + j → ¬ t = j → h.1 20 0 c = V.1 t → (si h 20 0 (11 + j) v).1 20 0 c = (us V j v).1 t := fun t c q q2 e => by
    rw [si_ne _ _ (by omega), e]; exact (if_neg q2).symm
  refine ⟨w', ⟨m 0 10 (by omega) (by omega) a1, m 1 11 (by omega) (by omega) a2, k 2 a3, k 3 a4, k 4 a5, k 5 a6, k 6 a7, m 7 22 (by omega) (by omega) a8⟩, fun b f hb hf => ?_, fun i hi => ?_⟩
  · rw [si_g h (by decide)]; exact W.2.2.1 b f hb hf
  · rw [si_g h (by decide)]; exact W.2.2.2 i hi
theorem si_self (h : Hp) (g i j : Nat) : si h g i j (h.1 g i j) = h := by
  unfold si
  refine Prod.ext (funext fun a => funext fun b => funext fun c => ?_) rfl
  dsimp only
  split
  · rename_i z; rw [z.1, z.2.1, z.2.2]
  · rfl
def lnk (k : Nat) : Nat := if 4 ≤ k then 3 else 2
def tchb (a x a' x' : Nat) : Bool := !(decide (x' + lnk a' ≤ x) || decide (x + lnk a ≤ x')) || (decide ((((nI (mskN a x) <<< ((1 : Int32) &&& 31)) ||| (nI (mskN a x) >>> ((1 : Int32) &&& 31))) &&& nI (mskN a' x')) = 0) == !(decide (x + lnk a = x') || decide (x' + lnk a' = x)))
theorem tchb_all : allN (fun a => allN (fun x => allN (fun a' => allN (fun x' => tchb a x a' x') 10) 6) 10) 6 = true := by decide +kernel
theorem tch_tab (a : Nat) (ha : a < 6) (x : Nat) (hx : x < 10) (a' : Nat) (ha' : a' < 6) (x' : Nat) (hx' : x' < 10) (z : x' + lnk a' ≤ x ∨ x + lnk a ≤ x') : decide ((((nI (mskN a x) <<< ((1 : Int32) &&& 31)) ||| (nI (mskN a x) >>> ((1 : Int32) &&& 31))) &&& nI (mskN a' x')) = 0) = !(decide (x + lnk a = x') || decide (x' + lnk a' = x)) := by
  have t := allN_iff (allN_iff (allN_iff (allN_iff tchb_all a ha) x hx) a' ha') x' hx'
  unfold tchb at t
  have e : (decide (x' + lnk a' ≤ x) || decide (x + lnk a ≤ x')) = true := by
    rw [Bool.or_eq_true, decide_eq_true_iff, decide_eq_true_iff]; exact z
  rw [e, Bool.not_true, Bool.false_or] at t
  exact eq_of_beq t
theorem abs_tab : ∀ c, c < 6 → ∀ c', c' < 6 → decide ((1 : Int32) < (if 0 ≤ (nI c - nI c') then (nI c - nI c') else 0 - (nI c - nI c'))) = decide (c' + 1 < c ∨ c + 1 < c') := by decide +kernel
theorem apart_tab : ∀ c, c < 6 → ∀ c', c' < 6 → decide (nI c - nI c' = (1 : Int32)) = decide (c = c' + 1) ∧ decide (nI c - nI c' = (-1 : Int32)) = decide (c + 1 = c') := by decide +kernel
theorem dec_ite {p : Prop} [Decidable p] {b : Bool} (e : decide p = b) {α : Type} (x y : α) : (if p then x else y) = if b = true then x else y := by
  subst e
  by_cases q : p
  · rw [if_pos q, if_pos (decide_eq_true q)]
  · rw [if_neg q, if_neg (fun z => q (of_decide_eq_true z))]
/-- brick k is beside b, or one lies upon the other -/
def nrB (V : Wv) (b k : Nat) : Bool := (tcB V k b || tcB V b k) || (decide (co V k = co V b + 1 ∨ co V k + 1 = co V b) && ovB V k b)
theorem ovB_c (V : Wv) (a b : Nat) : ovB V a b = ovB V b a := by unfold ovB; rw [Bool.and_comm]
theorem X0_touches {h : Hp} {V : Wv} {n dn b k : Nat} (W : CW h V n dn) (hb : b < n) (hk : k < n) (ib : bt (V.1 2) b = true) (ik : bt (V.1 2) k = true) (ne : b ≠ k) : f_X0_touches (14 * 1 + b) (14 * 1 + k) h = some (bi (nrB V b k), h) := by
  obtain ⟨-, c1, -, c3, -⟩ := W.2.2.1 b hb
  obtain ⟨-, d1, -, d3, -⟩ := W.2.2.1 k hk
  obtain ⟨-, b1, -, b3, b4⟩ := WF_br W.1 b hb
  obtain ⟨-, k1, -, k3, k4⟩ := WF_br W.1 k hk
  have hl := WF_hf W.1 b hb
  have hl2 := WF_hf W.1 k hk
  have l2 := ln_ge V b
  have l3 := ln_ge V k
  unfold f_X0_touches f_X0_touches_b31
  rw [c1, d1, c3, d3, b1, k1, dec_ite (abs_tab (co V b) (by omega) (co V k) (by omega))]
  by_cases z : co V b = co V k
  · have D := WF_D W.1 b k hb hk ne ib ik z
    unfold ovl at D
    rw [if_neg (fun y => y (by rw [z])), dec_ite (abs_tab (co V b) (by omega) (co V k) (by omega)), decide_eq_false (by omega), if_neg (by decide), dec_ite (tch_tab (kd V b) (by omega) (hf V b) (by omega) (kd V k) (by omega) (hf V k) (by omega) (by unfold ln at D; unfold lnk; omega))]
    have e : nrB V b k = (decide (hf V b + lnk (kd V b) = hf V k) || decide (hf V k + lnk (kd V k) = hf V b)) := by
      unfold nrB tcB
      rw [decide_eq_true z, decide_eq_true z.symm, decide_eq_false (show ¬ (co V k = co V b + 1 ∨ co V k + 1 = co V b) by omega), Bool.false_and, Bool.or_false, Bool.true_and, Bool.true_and, Bool.or_comm]
      rfl
    rw [← e]
    cases nrB V b k <;> rfl
  · have e : nrB V b k = (decide (co V k = co V b + 1 ∨ co V k + 1 = co V b) && ovB V b k) := by
      unfold nrB tcB
      rw [decide_eq_false z, decide_eq_false (show ¬ co V k = co V b from fun y => z y.symm), Bool.false_and, Bool.false_and, Bool.or_false, Bool.false_or, ovB_c]
    rw [if_pos (show ¬ nI (co V b) = nI (co V k) from fun y => z ((nI_eq (by omega) (by omega)).mp y)), e]
    by_cases y : co V k + 1 < co V b ∨ co V b + 1 < co V k
    · rw [decide_eq_true y, if_pos rfl, decide_eq_false (show ¬ (co V k = co V b + 1 ∨ co V k + 1 = co V b) by omega)]; rfl
    · rw [decide_eq_false y, if_neg (by decide), decide_eq_true (show (co V k = co V b + 1 ∨ co V k + 1 = co V b) by omega), dec_ite (ov_msk W.1 hb hk), Bool.true_and]
      cases ovB V b k <;> rfl
def vnB (V : Wv) (b k : Nat) : Bool := bt (V.1 4) k && nrB V b k
def grB (V : Wv) (n b : Nat) : Bool := bt (V.1 2) b && (!bt (V.1 4) b && anyB (vnB V b) n)
theorem anyB_t {p : Nat → Bool} {n k : Nat} (hk : k < n) (z : p k = true) : anyB p n = true := anyB_iff.mpr ⟨k, hk, z⟩
theorem X4_tv_loop {h : Hp} {V : Wv} {n dn b : Nat} (W : CW h V n dn) (hb : b < n) (ib : bt (V.1 2) b = true) (nv : bt (V.1 4) b = false) : ∀ (d k fuel : Nat), k + d = n → d < fuel → (∀ c, c < k → vnB V b c = false) → f_X4_touchesVine_b2 fuel 1 (nI b) (nI k) h = some (bi (anyB (vnB V b) n), h) := by
  have hn := WF_n W.1
  intro d
  induction d with
  | zero =>
    intro k fuel hk hq hz
    obtain ⟨f, rfl⟩ : ∃ f, fuel = f + 1 := ⟨fuel - 1, by omega⟩
    show f_X4_touchesVine_b2_body _ _ _ _ _ = _
    unfold f_X4_touchesVine_b2_body
    rw [CW_c7 W, if_pos (nI_le (by omega) (by omega)), anyB_none (fun c hc => hz c (by omega))]; rfl
  | succ d ih =>
    intro k fuel hk hq hz
    obtain ⟨f, rfl⟩ : ∃ f, fuel = f + 1 := ⟨fuel - 1, by omega⟩
    have hkn : k < n := by omega
    show f_X4_touchesVine_b2_body _ _ _ _ _ = _
    unfold f_X4_touchesVine_b2_body f_X4_touchesVine_b38
    have go : vnB V b k = false → f_X4_touchesVine_b2 f 1 (nI b) (nI k + 1) h = some (bi (anyB (vnB V b) n), h) := fun z => by
      rw [nI_1]
      exact ih (k + 1) f (by omega) (by omega) (fun c hc => by
        rcases Nat.lt_or_ge c k with y | y
        · exact hz c y
        · rw [show c = k by omega]; exact z)
    rw [CW_c7 W, if_neg (nI_ge hkn (by omega)), X4_hasVine' W hkn, bnd_some]
    cases hv : bt (V.1 4) k
    · rw [bi_f, if_pos rfl]
      exact go (by unfold vnB; rw [hv]; rfl)
    · have ne : b ≠ k := fun z => by rw [z, hv] at nv; cases nv
      rw [bi_t, if_neg (by decide), if_pos (inb_t (by omega) (by decide)), if_pos (inb_t (by omega) (by decide)), nI_clamp (by omega), nI_clamp (by omega), X0_touches W hb hkn ib (WF_vin W.1 k hv) ne, bnd_some]
      cases hr : nrB V b k
      · rw [bi_f, if_pos rfl]
        exact go (by unfold vnB; rw [hr, Bool.and_false])
      · rw [bi_t, if_neg (by decide), anyB_t hkn (show vnB V b k = true by unfold vnB; rw [hv, hr]; rfl)]; rfl
/-- the first of p, as a bit, among the last d of n -/
def nxo (p : Nat → Bool) (n : Nat) : Nat → Int32
  | 0 => 0
  | d + 1 => if p (n - (d + 1)) then (1 : Int32) <<< (nI (n - (d + 1)) &&& 31) else nxo p n d
def nx (p : Nat → Bool) (n : Nat) : Nat → Int32
  | 0 => -9
  | d + 1 => if p (n - (d + 1)) then nI (n - (d + 1)) else nx p n d
theorem nx_o (p : Nat → Bool) {n : Nat} (hn : n ≤ 14) : ∀ d, d ≤ n → (if ¬ nx p n d = -9 then (1 : Int32) <<< (nx p n d &&& 31) else 0) = nxo p n d
  | 0, _ => rfl
  | d + 1, hd => by
    unfold nx nxo
    cases p (n - (d + 1))
    · exact nx_o p hn d (by omega)
    · show (if ¬ nI (n - (d + 1)) = -9 then (1 : Int32) <<< (nI (n - (d + 1)) &&& 31) else 0) = (1 : Int32) <<< (nI (n - (d + 1)) &&& 31)
      rw [if_pos (nI_m9 (by omega))]
theorem nxo_bit (p : Nat → Bool) {n : Nat} (hn : n ≤ 14) {i : Nat} (hi : i < 32) : ∀ d, d ≤ n → bt (nxo p n d) i = true → i < n ∧ p i = true
  | 0, _, z => by unfold nxo at z; rw [b_0] at z; cases z
  | d + 1, hd, z => by
    unfold nxo at z
    cases e : p (n - (d + 1))
    · rw [e] at z; exact nxo_bit p hn hi d (by omega) z
    · rw [e, if_pos rfl, b_one (by omega) hi] at z
      have := of_decide_eq_true z
      subst this
      exact ⟨by omega, e⟩
theorem or_z (x : Int32) : x ||| 0 = x := b_ext (fun i _ => by rw [b_or, b_0, Bool.or_false])
theorem X4_grow {h : Hp} {V : Wv} {n dn : Nat} (W : CW h V n dn) : ∀ (d k fuel : Nat), k + d = n → d < fuel → f_X4_growVine_b2 fuel 1 (nI k) h = some ((), si h 11 1 10 (V.1 4 ||| nxo (grB V n) n d)) := by
  have hn := WF_n W.1
  intro d
  induction d with
  | zero =>
    intro k fuel hk hq
    obtain ⟨f, rfl⟩ : ∃ f, fuel = f + 1 := ⟨fuel - 1, by omega⟩
    show f_X4_growVine_b2_body _ _ _ _ = _
    unfold f_X4_growVine_b2_body
    rw [CW_c7 W, if_pos (nI_le (by omega) (by omega))]
    show _ = some ((), si h 11 1 10 (V.1 4 ||| 0))
    rw [or_z, ← CW_c10 W, si_self]
  | succ d ih =>
    intro k fuel hk hq
    obtain ⟨f, rfl⟩ : ∃ f, fuel = f + 1 := ⟨fuel - 1, by omega⟩
    have hkn : k < n := by omega
    have nd : n - (d + 1) = k := by omega
    show f_X4_growVine_b2_body _ _ _ _ = _
    unfold f_X4_growVine_b2_body f_X4_growVine_b47
    have go : grB V n k = false → f_X4_growVine_b2 f 1 (nI k + 1) h = some ((), si h 11 1 10 (V.1 4 ||| nxo (grB V n) n (d + 1))) := fun z => by
      rw [nI_1, ih (k + 1) f (by omega) (by omega)]
      unfold nxo
      rw [nd, z]
      cases d <;> rfl
    rw [CW_c7 W, if_neg (nI_ge hkn (by omega)), X4_isIn' W hkn, bnd_some]
    cases h1 : bt (V.1 2) k
    · rw [bi_f, if_pos rfl]; exact go (by unfold grB; rw [h1]; rfl)
    rw [bi_t, if_neg (by decide), X4_hasVine' W hkn, bnd_some]
    cases h2 : bt (V.1 4) k
    · rw [bi_f, if_neg (fun z => z rfl), show f_X4_touchesVine 1 (nI k) h = _ from X4_tv_loop W hkn h1 h2 n 0 200 (by omega) (by omega) (fun c hc => by omega), bnd_some]
      cases h3 : anyB (vnB V k) n
      · rw [bi_f, if_pos rfl]; exact go (by unfold grB; rw [h3, Bool.and_false, Bool.and_false])
      · rw [bi_t, if_neg (by decide), CW_c10 W]
        unfold nxo
        rw [nd, show grB V n k = true by unfold grB; rw [h1, h2, h3]; rfl, if_pos rfl]
    · rw [bi_t, if_pos (by decide)]; exact go (by unfold grB; rw [h2, Bool.not_true, Bool.false_and, Bool.and_false])
/-- the wall a year on -/
def yr (V : Wv) (n : Nat) : Wv := us (us V 6 (V.1 6 + 1)) 4 (V.1 4 ||| nxo (grB V n) n n)
def yrs (V : Wv) (n : Nat) : Nat → Wv
  | 0 => V
  | d + 1 => yrs (yr V n) n d
theorem WF_yr {V : Wv} {n dn y : Nat} (W : WF V n dn) (hy : V.1 6 = nI y) (h1 : y + 1 ≤ 1000) : WF (us V 6 (V.1 6 + 1)) n dn ∧ WF (yr V n) n dn ∧ (yr V n).1 6 = nI (y + 1) := by
  have hn := WF_n W
  have a : WF (us V 6 (V.1 6 + 1)) n dn := by
    obtain ⟨r1, r2, r3, r4, r5, r6, r7⟩ := WF_rest W
    exact WF_s W rfl rfl rfl ⟨r1, r2, r3, r4, r5, ⟨y + 1, h1, by show V.1 6 + 1 = _; rw [hy, nI_1]⟩, r7⟩
  refine ⟨a, ?_, ?_⟩
  · obtain ⟨r1, r2, r3, r4⟩ := WF_rest a
    refine WF_s a rfl rfl rfl ⟨r1, r2, fun i z => ?_, r4⟩
    have z : bt (V.1 4 ||| nxo (grB V n) n n) i = true := z
    rw [b_or, Bool.or_eq_true] at z
    rcases z with z | z
    · exact WF_vin W i z
    · rcases Nat.lt_or_ge i 32 with q | q
      · have := (nxo_bit _ hn q n (Nat.le_refl n) z).2
        unfold grB at this
        rw [Bool.and_eq_true] at this
        exact this.1
      · rw [b_big q] at z; cases z
  · show V.1 6 + 1 = _
    rw [hy, nI_1]
theorem grB_us {V : Wv} {n : Nat} (y : Int32) : grB (us V 6 y) n = grB V n := rfl
theorem CW_yr {h : Hp} {V : Wv} {n dn y : Nat} (W : CW h V n dn) (hy : V.1 6 = nI y) (h1 : y + 1 ≤ 1000) : ∃ h', f_X4_growVine 1 (si h 11 1 12 (h.1 11 1 12 + 1)) = some ((), h') ∧ CW h' (yr V n) n dn ∧ (∀ g i j, ¬ (g = 11 ∧ i = 1 ∧ (j = 10 ∨ j = 12)) → h'.1 g i j = h.1 g i j) ∧ h'.2 = h.2 := by
  have hn := WF_n W.1
  obtain ⟨w1, w2, -⟩ := WF_yr W.1 hy h1
  have C1 : CW (si h 11 1 12 (V.1 6 + 1)) (us V 6 (V.1 6 + 1)) n dn := CW_us W (j := 6) (by decide) w1
  have C2 : CW (si (si h 11 1 12 (V.1 6 + 1)) 11 1 10 (V.1 4 ||| nxo (grB V n) n n)) (yr V n) n dn := CW_us C1 (j := 4) (by decide) w2
  refine ⟨_, ?_, C2, fun g i j q => by rw [si_ne _ _ (by omega), si_ne _ _ (by omega)], rfl⟩
  rw [CW_c12 W]
  exact X4_grow C1 n 0 200 (by omega) (by omega)
theorem X5_go_loop {n dn N : Nat} (hN : N ≤ 20) : ∀ (d i fuel y : Nat) (h : Hp) (V : Wv), CW h V n dn → V.1 6 = nI y → y + d ≤ 1000 → i + d = N → d < fuel → ∃ h', f_X5_go_b32 fuel (nI N) (nI i) h = some (nI (pcn ((yrs V n d).1 4) 14), h') ∧ CW h' (yrs V n d) n dn ∧ (∀ g i j, ¬ (g = 11 ∧ i = 1 ∧ (j = 10 ∨ j = 12)) → h'.1 g i j = h.1 g i j) ∧ h'.2 = h.2 := by
  intro d
  induction d with
  | zero =>
    intro i fuel y h V W hy h1 hi hq
    obtain ⟨f, rfl⟩ : ∃ f, fuel = f + 1 := ⟨fuel - 1, by omega⟩
    refine ⟨h, ?_, W, fun _ _ _ _ => rfl, rfl⟩
    show f_X5_go_b32_body _ _ _ _ = _
    unfold f_X5_go_b32_body
    rw [if_pos (nI_le (by omega) (by omega)), CW_c10 W, bc_of (sub_in (sub_mono (WF_in W.1) (WF_n W.1)) (WF_vin W.1)), bnd_some]; rfl
  | succ d ih =>
    intro i fuel y h V W hy h1 hi hq
    obtain ⟨f, rfl⟩ : ∃ f, fuel = f + 1 := ⟨fuel - 1, by omega⟩
    obtain ⟨h', e1, e2, e3, e4⟩ := CW_yr W hy (by omega)
    obtain ⟨h'', f1, f2, f3, f4⟩ := ih (i + 1) f (y + 1) h' (yr V n) e2 (WF_yr W.1 hy (by omega)).2.2 (by omega) (by omega) (by omega)
    refine ⟨h'', ?_, f2, fun g i j q => (f3 g i j q).trans (e3 g i j q), f4.trans e4⟩
    show f_X5_go_b32_body _ _ _ _ = _
    unfold f_X5_go_b32_body
    rw [if_neg (nI_ge (by omega) (by omega)), e1, bnd_some, nI_1]
    exact f1
theorem X6_go_in {h : Hp} {V : Wv} {n dn b : Nat} (W : MW h V n dn) (hb : b < n) (a1 a2 a3 : Int32) (kt : Int32 → Int32 → Hp → Option (Int32 × Hp)) (k45 : Int32 → Int32 → Int32 → Int32 → Hp → Option (Int32 × Hp)) : ∀ (d k fuel : Nat), k + d = n → d < fuel → f_X6_go_b56 kt k45 fuel a1 a2 a3 (nI b) (bi (anyB (vnB V b) k)) (nI k) h = k45 a1 a2 (if grB V n b then nI b else a3) (nI b + -1) h := by
  have hn := WF_n W.1
  have M := MW_M W
  intro d
  induction d with
  | zero =>
    intro k fuel hk hq
    obtain ⟨f, rfl⟩ : ∃ f, fuel = f + 1 := ⟨fuel - 1, by omega⟩
    show f_X6_go_b56_body _ _ _ _ _ _ _ _ _ _ = _
    unfold f_X6_go_b56_body f_X6_go_b196 f_X6_go_b197
    rw [MW_m11 W, if_pos (nI_le (by omega) (by omega)), show k = n by omega, MW_m13 W, X6_has _ _ (by omega), bnd_some, MW_m15 W, X6_has _ _ (by omega), bnd_some]
    unfold grB
    cases anyB (vnB V b) n
    · rw [bi_f, if_pos rfl, Bool.and_false, Bool.and_false]; rfl
    · rw [bi_t, if_neg (by decide)]
      cases bt (V.1 2) b
      · rw [bi_f, if_pos rfl, Bool.false_and]; rfl
      · rw [bi_t, if_neg (by decide)]
        cases bt (V.1 4) b
        · rw [bi_f, if_neg (fun z => z rfl)]; rfl
        · rw [bi_t, if_pos (by decide)]; rfl
  | succ d ih =>
    intro k fuel hk hq
    obtain ⟨f, rfl⟩ : ∃ f, fuel = f + 1 := ⟨fuel - 1, by omega⟩
    have hkn : k < n := by omega
    have k4 := (WF_br W.1 k hkn).2.2.2.2
    have b4 := (WF_br W.1 b hb).2.2.2.2
    show f_X6_go_b56_body _ _ _ _ _ _ _ _ _ _ = _
    unfold f_X6_go_b56_body f_X6_go_b149 f_X6_go_b153 f_X6_go_b138 f_X6_go_b149 f_X6_go_b153 f_X6_go_b154
    have go := ih (k + 1) f (by omega) (by omega)
    rw [MW_m11 W, if_neg (nI_ge hkn (by omega)), M1 M hkn, bnd_some, M1 M hb, bnd_some, MW_m15 W, MW_m13 W, X6_has _ _ (by omega), bnd_some, X6_touches M hkn hb, bnd_some, X6_touches M hb hkn, bnd_some, X6_over M hkn hb, bnd_some, nI_1]
    have e : anyB (vnB V b) (k + 1) = (anyB (vnB V b) k || vnB V b k) := rfl
    cases ha : anyB (vnB V b) k
    · rw [bi_f, if_neg (fun z => z rfl)]
      rw [e, ha, Bool.false_or] at go
      have ev : bt (V.1 4 &&& V.1 2) k = bt (V.1 4) k := by
        rw [b_and]
        cases hv : bt (V.1 4) k
        · rfl
        · rw [WF_vin W.1 k hv]; rfl
      rw [ev]
      unfold vnB nrB at go
      cases hv : bt (V.1 4) k
      · rw [bi_f, if_pos rfl]; rw [hv, Bool.false_and] at go; exact go
      · rw [bi_t, if_neg (by decide)]
        rw [hv, Bool.true_and] at go
        cases h1 : tcB V k b
        · rw [bi_f, if_neg (fun z => z rfl)]
          rw [h1, Bool.false_or] at go
          cases h2 : tcB V b k
          · rw [bi_f, if_neg (fun z => z rfl), dec_ite (apart_tab (co V k) (by omega) (co V b) (by omega)).1]
            rw [h2, Bool.false_or] at go
            by_cases y1 : co V k = co V b + 1
            · rw [decide_eq_true y1, if_pos rfl]
              rw [decide_eq_true (Or.inl y1), Bool.true_and] at go
              cases h3 : ovB V k b
              · rw [bi_f, if_pos rfl]; rw [h3] at go; exact go
              · rw [bi_t, if_neg (by decide)]; rw [h3] at go; exact go
            · rw [decide_eq_false y1, if_neg (by decide)]
              by_cases y2 : co V k + 1 = co V b
              · rw [if_neg (fun z => z (of_decide_eq_true (((apart_tab (co V k) (by omega) (co V b) (by omega)).2).trans (decide_eq_true y2))))]
                rw [decide_eq_true (Or.inr y2), Bool.true_and] at go
                cases h3 : ovB V k b
                · rw [bi_f, if_pos rfl]; rw [h3] at go; exact go
                · rw [bi_t, if_neg (by decide)]; rw [h3] at go; exact go
              · rw [if_pos (of_decide_eq_false (((apart_tab (co V k) (by omega) (co V b) (by omega)).2).trans (decide_eq_false y2)))]
                rw [decide_eq_false (show ¬ (co V k = co V b + 1 ∨ co V k + 1 = co V b) by omega), Bool.false_and] at go
                exact go
          · rw [bi_t, if_pos (by decide)]; rw [h2] at go; exact go
        · rw [bi_t, if_pos (by decide)]; rw [h1] at go; exact go
    · rw [bi_t, if_pos (by decide)]
      rw [e, ha] at go
      exact go
theorem nI_m1 (k : Nat) : nI k + -1 = nI k - 1 := (Int32.sub_eq_add_neg _ _).symm
theorem X6_go_mid {h : Hp} {V : Wv} {n dn : Nat} (W : MW h V n dn) (a1 a2 : Int32) (kt : Int32 → Int32 → Hp → Option (Int32 × Hp)) : ∀ (d fuel : Nat), d ≤ n → d < fuel → f_X6_go_b45 kt fuel a1 a2 (nx (grB V n) n (n - d)) (nI d - 1) h = kt a1 (a2 + 1) (si (si h 20 0 15 (V.1 4 ||| nxo (grB V n) n n)) 20 0 17 (V.1 6 + 1)) := by
  have hn := WF_n W.1
  intro d
  induction d with
  | zero =>
    intro fuel hd hq
    obtain ⟨f, rfl⟩ : ∃ f, fuel = f + 1 := ⟨fuel - 1, by omega⟩
    show f_X6_go_b45_body _ _ _ _ _ _ _ = _
    unfold f_X6_go_b45_body f_X6_go_b222
    rw [if_pos (by decide), MW_m15 W, Nat.sub_zero, ← nx_o (grB V n) hn n (Nat.le_refl n), ← MW_m17 W]
    by_cases q : nx (grB V n) n n = -9
    · rw [if_neg (fun z => z q), if_neg (fun z => z q), si_ne _ _ (by omega)]
    · rw [if_pos q, if_pos q, si_ne _ _ (by omega)]
  | succ d ih =>
    intro fuel hd hq
    obtain ⟨f, rfl⟩ : ∃ f, fuel = f + 1 := ⟨fuel - 1, by omega⟩
    show f_X6_go_b45_body _ _ _ _ _ _ _ = _
    unfold f_X6_go_b45_body
    rw [nI_pred, if_neg (nI_pos (by omega)), show f_X6_go_b56 kt (f_X6_go_b45 kt f) 200 a1 a2 (nx (grB V n) n (n - (d + 1))) (nI d) 0 0 h = _ from X6_go_in W (by omega) a1 a2 _ kt _ n 0 200 (by omega) (by omega), nI_m1, ← ih f (by omega) (by omega), show n - d = (n - (d + 1)) + 1 by omega]
    have e : nx (grB V n) n (n - (d + 1) + 1) = if grB V n (n - (n - (d + 1) + 1)) then nI (n - (n - (d + 1) + 1)) else nx (grB V n) n (n - (d + 1)) := rfl
    rw [e, show n - (n - (d + 1) + 1) = d by omega]
theorem MW_yr {h : Hp} {V : Wv} {n dn y : Nat} (W : MW h V n dn) (hy : V.1 6 = nI y) (h1 : y + 1 ≤ 1000) : MW (si (si h 20 0 15 (V.1 4 ||| nxo (grB V n) n n)) 20 0 17 (V.1 6 + 1)) (yr V n) n dn := by
  obtain ⟨w1, w2, -⟩ := WF_yr W.1 hy h1
  have e : si (si h 20 0 15 (V.1 4 ||| nxo (grB V n) n n)) 20 0 17 (V.1 6 + 1) = si (si h 20 0 17 (V.1 6 + 1)) 20 0 15 (V.1 4 ||| nxo (grB V n) n n) := by
    unfold si
    refine Prod.ext (funext fun a => funext fun b => funext fun c => ?_) rfl
    dsimp only
    by_cases q1 : a = 20 ∧ b = 0 ∧ c = 17
    · rw [if_pos q1, if_neg (by omega), if_pos q1]
    · rw [if_neg q1, if_neg q1]
  rw [e]
  have C1 : MW (si h 20 0 17 (V.1 6 + 1)) (us V 6 (V.1 6 + 1)) n dn := MW_us W (j := 6) (by decide) w1
  exact MW_us C1 (j := 4) (by decide) w2
theorem X6_go_loop {n dn N : Nat} (hN : N ≤ 20) : ∀ (d i fuel y : Nat) (h : Hp) (V : Wv), MW h V n dn → V.1 6 = nI y → y + d ≤ 1000 → i + d = N → d < fuel → ∃ h', f_X6_go_b29 fuel (nI N) (nI i) h = some (nI (pcn ((yrs V n d).1 4) 14), h') ∧ MW h' (yrs V n d) n dn ∧ (∀ g i j, ¬ (g = 20 ∧ i = 0 ∧ (j = 15 ∨ j = 17)) → h'.1 g i j = h.1 g i j) ∧ h'.2 = h.2 := by
  intro d
  induction d with
  | zero =>
    intro i fuel y h V W hy h1 hi hq
    obtain ⟨f, rfl⟩ : ∃ f, fuel = f + 1 := ⟨fuel - 1, by omega⟩
    refine ⟨h, ?_, W, fun _ _ _ _ => rfl, rfl⟩
    show f_X6_go_b29_body _ _ _ _ = _
    unfold f_X6_go_b29_body
    rw [if_pos (nI_le (by omega) (by omega)), MW_m15 W, X6_sizeOf, bnd_some]; rfl
  | succ d ih =>
    intro i fuel y h V W hy h1 hi hq
    obtain ⟨f, rfl⟩ : ∃ f, fuel = f + 1 := ⟨fuel - 1, by omega⟩
    have hn := WF_n W.1
    obtain ⟨h'', f1, f2, f3, f4⟩ := ih (i + 1) f (y + 1) _ (yr V n) (MW_yr W hy (by omega)) (WF_yr W.1 hy (by omega)).2.2 (by omega) (by omega) (by omega)
    refine ⟨h'', ?_, f2, fun g i j q => (f3 g i j q).trans (by rw [si_ne _ _ (by omega), si_ne _ _ (by omega)]), f4⟩
    show f_X6_go_b29_body _ _ _ _ = _
    unfold f_X6_go_b29_body
    have e := X6_go_mid W (nI N) (nI i) (f_X6_go_b29 f) n 200 (Nat.le_refl n) (by omega)
    rw [Nat.sub_self] at e
    rw [if_neg (nI_ge (by omega) (by omega)), MW_m11 W, show f_X6_go_b45 (f_X6_go_b29 f) 200 (nI N) (nI i) (-9) (nI n - 1) h = _ from e, nI_1]
    exact f1
theorem yrs_0 (n : Nat) : ∀ (d : Nat) (V : Wv), (yrs V n d).1 0 = V.1 0
  | 0, _ => rfl
  | d + 1, V => yrs_0 n d (yr V n)
theorem st_go (a1 : Int32) (h : Hp) (hI : Inv h) : ∃ (r : Int32) (h1 h2 : Hp), f_X5_go a1 h = some (r, h1) ∧ f_X6_go a1 h1 = some (r, h2) ∧ Inv h2 := by
  obtain ⟨V, n, dn, W⟩ := Inv_W hI
  rcases rng 21 (by omega) a1 with q | ⟨N, hN, rfl⟩
  · refine ⟨-1, h, h, ?_, ?_, hI⟩
    · unfold f_X5_go
      by_cases q1 : a1 < 0
      · rw [if_pos q1]
      · rw [if_neg q1, if_neg (fun z => absurd (Int32.le_trans (q.resolve_left q1) z) (by decide))]
    · unfold f_X6_go
      rw [show f_X6_in a1 0 20 h = some (0, h) from X6_rng_n (N := 20) h (by decide) q, bnd_some, if_neg (fun z => z rfl)]
  obtain ⟨y, hy, ey⟩ := IW_y W
  have c : f_X5_go (nI N) h = if y + N ≤ 1000 then f_X5_go_b32 200 (nI N) 0 h else some (-6, h) := by
    unfold f_X5_go
    rw [if_neg (nI_pos (by omega)), if_pos (show nI N ≤ (20 : Int32) from nI_le (b := 20) (by omega) (by decide)), CW_c12 (cw W), ey, nI_add]
    by_cases q : y + N ≤ 1000
    · rw [if_pos (show nI (y + N) ≤ (1000 : Int32) from nI_le (b := 1000) q (by decide)), if_pos q]
    · rw [if_neg (show ¬ nI (y + N) ≤ (1000 : Int32) from nI_ge (a := 1000) (by omega) (by omega)), if_neg q]
  have m : ∀ h', h'.1 20 0 17 = nI y → f_X6_go (nI N) h' = if y + N ≤ 1000 then f_X6_go_b29 200 (nI N) 0 h' else some (-6, h') := fun h' e => by
    unfold f_X6_go
    rw [show f_X6_in (nI N) 0 20 h' = some (1, h') from X6_rng_y (N := 20) h' hN (by decide), bnd_some, if_pos (by decide), e, nI_add]
    by_cases q : y + N ≤ 1000
    · rw [if_pos (show nI (y + N) ≤ (1000 : Int32) from nI_le (b := 1000) q (by decide)), if_pos q]
    · rw [if_neg (show ¬ nI (y + N) ≤ (1000 : Int32) from nI_ge (a := 1000) (by omega) (by omega)), if_neg q]
  have m0 : h.1 20 0 17 = nI y := (MW_m17 (mw W)).trans ey
  by_cases q : y + N ≤ 1000
  · obtain ⟨h', e1, e2, e3, e4⟩ := X5_go_loop (N := N) (by omega) N 0 200 y h V (cw W) ey q (by omega) (by omega)
    have M1 : MW h' V n dn := MW_g (mw W) (fun g j z => e3 g 0 j (by omega))
    obtain ⟨h'', f1, f2, f3, f4⟩ := X6_go_loop (N := N) (by omega) N 0 200 y h' V M1 ey q (by omega) (by omega)
    refine ⟨_, h', h'', by rw [c, if_pos q]; exact e1, by rw [m h' ((e3 20 0 17 (by omega)).trans m0), if_pos q]; exact f1, ?_⟩
    have C2 : CW h'' (yrs V n N) n dn := CW_g e2 (fun g i j z => f3 g i j (by omega))
    exact Inv_w hI (IW_new W C2 f2 (yrs_0 n N V) ((f3 _ _ _ (by omega)).trans (e3 _ _ _ (by omega))) (fun g i j z => (f3 g i j (by omega)).trans (e3 g i j (by omega)))) (by rw [f4, e4]) (fun g i j z => (f3 g i j (by omega)).trans (e3 g i j (by omega)))
  · exact ⟨-6, h, h, by rw [c, if_neg q], by rw [m h m0, if_neg q], hI⟩
