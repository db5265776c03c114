/-! ahead -/
def atB (V : Wv) (F : Int32) (l k : Nat) : Bool := bt F k && decide (rk V k = l)
def lk (V : Wv) (F : Int32) (l : Nat) : Nat → List Nat
  | 0 => []
  | k + 1 => lk V F l k ++ (if atB V F l k then [k] else [])
def lt (V : Wv) (F : Int32) (n : Nat) : Nat → List Nat
  | 0 => []
  | t + 1 => lt V F n t ++ lk V F (11 - t) n
theorem lk_s (V : Wv) (F : Int32) (l k : Nat) : lk V F l (k + 1) = lk V F l k ++ (if atB V F l k then [k] else []) := rfl
theorem ltq_s (V : Wv) (F : Int32) (n t : Nat) : lt V F n (t + 1) = lt V F n t ++ lk V F (11 - t) n := rfl
theorem lk_len (V : Wv) (F : Int32) (l : Nat) : ∀ k, (lk V F l k).length = mkn (atB V F l) k
  | 0 => rfl
  | k + 1 => by
    rw [lk_s, mkn_s, List.length_append, lk_len V F l k]
    cases atB V F l k <;> rfl
theorem mkn_kn (p : Nat → Bool) {k : Nat} : ∀ {n : Nat}, k ≤ n → mkn p k ≤ mkn p n
  | 0, h => by rw [show k = 0 by omega]; exact Nat.le_refl _
  | n + 1, h => by
    by_cases q : k = n + 1
    · rw [q]; exact Nat.le_refl _
    · have := mkn_kn p (k := k) (n := n) (by omega)
      rw [mkn_s]; omega
theorem lt_len (V : Wv) (F : Int32) {n : Nat} (hr : ∀ b, b < n → rk V b ≤ 11) : ∀ t, t ≤ 12 → (lt V F n t).length = mkn (fun k => bt F k && decide (12 - t ≤ rk V k)) n
  | 0, _ => by
    rw [mkn_z (fun k hk => by rw [decide_eq_false (by have := hr k hk; omega), Bool.and_false])]; rfl
  | t + 1, ht => by
    rw [ltq_s, List.length_append, lt_len V F hr t (by omega), lk_len, ← mkn_or (fun k hk z => ?_)]
    · refine mkn_congr (fun k hk => ?_)
      unfold atB
      cases bt F k
      · rfl
      · by_cases y : 12 - t ≤ rk V k
        · rw [decide_eq_true y, decide_eq_true (show 12 - (t + 1) ≤ rk V k by omega)]; rfl
        · by_cases y2 : rk V k = 11 - t
          · rw [decide_eq_false y, decide_eq_true y2, decide_eq_true (by omega)]; rfl
          · rw [decide_eq_false y, decide_eq_false y2, decide_eq_false (by omega)]; rfl
    · rw [Bool.and_eq_true, decide_eq_true_iff] at z
      unfold atB
      rw [decide_eq_false (by omega), Bool.and_false]
theorem lt_all (V : Wv) (F : Int32) {n : Nat} (hr : ∀ b, b < n → rk V b ≤ 11) : (lt V F n 12).length = mkn (bt F) n := by
  rw [lt_len V F hr 12 (by omega)]
  exact mkn_congr (fun k _ => by rw [decide_eq_true (by omega), Bool.and_true])
theorem lt_le (V : Wv) (F : Int32) {n : Nat} (hn : n ≤ 14) (hr : ∀ b, b < n → rk V b ≤ 11) {t k : Nat} (ht : t < 12) (hk : k ≤ n) : (lt V F n t ++ lk V F (11 - t) k).length ≤ 14 := by
  have a := lt_len V F hr (t + 1) (by omega)
  have b := mkn_le (fun k => bt F k && decide (12 - (t + 1) ≤ rk V k)) n
  have c := mkn_kn (atB V F (11 - t)) hk
  rw [ltq_s, List.length_append, lk_len] at a
  rw [List.length_append, lk_len]
  omega
theorem lk_mem (V : Wv) (F : Int32) (l x : Nat) : ∀ k, x ∈ lk V F l k ↔ x < k ∧ atB V F l x = true
  | 0 => by simp [lk]
  | k + 1 => by
    rw [lk_s, List.mem_append, lk_mem V F l x k]
    by_cases y : x = k
    · subst y
      cases e : atB V F l x
      · simp
      · simp
    · cases e : atB V F l k
      · rw [if_neg (by decide)]
        simp only [List.not_mem_nil, or_false]
        exact ⟨fun z => ⟨by omega, z.2⟩, fun z => ⟨by omega, z.2⟩⟩
      · rw [if_pos rfl, List.mem_singleton]
        exact ⟨fun z => z.elim (fun z => ⟨by omega, z.2⟩) (fun z => absurd z y), fun z => Or.inl ⟨by omega, z.2⟩⟩
theorem lt_mem (V : Wv) (F : Int32) {n : Nat} (hr : ∀ b, b < n → rk V b ≤ 11) (x : Nat) : ∀ t, t ≤ 12 → (x ∈ lt V F n t ↔ x < n ∧ bt F x = true ∧ 12 - t ≤ rk V x)
  | 0, _ => by
    simp [lt]
    intro h1 _
    have := hr x h1
    omega
  | t + 1, ht => by
    rw [ltq_s, List.mem_append, lt_mem V F hr x t (by omega), lk_mem]
    unfold atB
    rw [Bool.and_eq_true, decide_eq_true_iff]
    constructor
    · rintro (⟨a, b, c⟩ | ⟨a, b, c⟩)
      · exact ⟨a, b, by omega⟩
      · exact ⟨a, b, by omega⟩
    · rintro ⟨a, b, c⟩
      by_cases y : 12 - t ≤ rk V x
      · exact Or.inl ⟨a, b, y⟩
      · exact Or.inr ⟨a, b, by omega⟩
def oa (V : Wv) (F z : Int32) : Nat → Int32
  | 0 => z
  | k + 1 => oa V F z k ||| (if bt F k then aks V k else 0)
def ob (V : Wv) (z : Int32) (ls : List Nat) : Int32 := ls.foldl (fun a k => a ||| aks V k) z
theorem oa_bit (V : Wv) (F z : Int32) (i : Nat) : ∀ k, bt (oa V F z k) i = (bt z i || anyB (fun x => bt F x && bt (aks V x) i) k)
  | 0 => by unfold oa anyB; rw [Bool.or_false]
  | k + 1 => by
    unfold oa anyB
    rw [b_or, oa_bit V F z i k, Bool.or_assoc]
    cases bt F k
    · rw [if_neg (by decide), b_0]; rfl
    · rw [if_pos rfl]; rfl
theorem ob_bit (V : Wv) (i : Nat) : ∀ (ls : List Nat) (z : Int32), bt (ob V z ls) i = true ↔ bt z i = true ∨ ∃ x, x ∈ ls ∧ bt (aks V x) i = true
  | [], z => by simp [ob]
  | a :: ls, z => by
    show bt (ob V (z ||| aks V a) ls) i = true ↔ _
    rw [ob_bit V i ls, b_or, Bool.or_eq_true]
    constructor
    · rintro ((h | h) | ⟨x, h1, h2⟩)
      · exact Or.inl h
      · exact Or.inr ⟨a, by simp, h⟩
      · exact Or.inr ⟨x, by simp [h1], h2⟩
    · rintro (h | ⟨x, h1, h2⟩)
      · exact Or.inl (Or.inl h)
      · rcases List.mem_cons.mp h1 with rfl | h1
        · exact Or.inl (Or.inr h2)
        · exact Or.inr ⟨x, h1, h2⟩
theorem oab (V : Wv) (F z : Int32) {n : Nat} (hr : ∀ b, b < n → rk V b ≤ 11) : oa V F z n = ob V z (lt V F n 12) := by
  apply b_ext
  intro i _
  have e : bt (oa V F z n) i = true ↔ bt (ob V z (lt V F n 12)) i = true := by
    rw [oa_bit, ob_bit, Bool.or_eq_true, anyB_iff]
    refine or_congr Iff.rfl ⟨?_, ?_⟩
    · rintro ⟨k, h1, h2⟩
      rw [Bool.and_eq_true] at h2
      exact ⟨k, (lt_mem V F hr k 12 (by omega)).mpr ⟨h1, h2.1, by omega⟩, h2.2⟩
    · rintro ⟨k, h1, h2⟩
      obtain ⟨a, b, -⟩ := (lt_mem V F hr k 12 (by omega)).mp h1
      exact ⟨k, a, by rw [b, h2]; rfl⟩
  cases x : bt (oa V F z n) i <;> cases y : bt (ob V z (lt V F n 12)) i
  · rfl
  · rw [x, y] at e; exact absurd (e.mpr rfl) (by decide)
  · rw [x, y] at e; exact absurd (e.mp rfl) (by decide)
  · rfl
/-- places of a row hold a list -/
def hol (f : Nat → Int32) (ls : List Nat) : Prop := ∀ j, j < ls.length → f j = nI (ls.getD j 0)
theorem gd_l : ∀ (ls : List Nat) (k j : Nat), j < ls.length → (ls ++ [k]).getD j 0 = ls.getD j 0
  | [], _, _, h => absurd h (Nat.not_lt_zero _)
  | _ :: _, _, 0, _ => rfl
  | _ :: ls, k, j + 1, h => gd_l ls k j (Nat.lt_of_succ_lt_succ h)
theorem gd_r : ∀ (ls : List Nat) (k : Nat), (ls ++ [k]).getD ls.length 0 = k
  | [], _ => rfl
  | _ :: ls, k => gd_r ls k
theorem hol_app {f g : Nat → Int32} {ls : List Nat} {k : Nat} (H : hol f ls) (e : ∀ j, j ≠ ls.length → g j = f j) (e1 : g ls.length = nI k) : hol g (ls ++ [k]) := by
  intro j hj
  rw [List.length_append] at hj
  have hj : j < ls.length + 1 := hj
  rcases Nat.lt_or_ge j ls.length with y | y
  · rw [e j (by omega), H j y, gd_l ls k j y]
  · have : j = ls.length := by omega
    subst this
    rw [e1, gd_r]
theorem X0_rank {h : Hp} {V : Wv} {n dn k : Nat} (W : CW h V n dn) (hk : k < n) : f_X0_rank (14 * 1 + k) h = some (nI (rk V k), h) := by
  obtain ⟨c0, c1, -⟩ := W.2.2.1 k hk
  obtain ⟨b0, b1, -, b3, b4⟩ := WF_br W.1 k hk
  unfold f_X0_rank rk
  rw [c0, c1, b0, b1]
  have e : ∀ x : Nat, (2 : Int32) * nI (co V k) + nI x = nI (2 * co V k + x) := fun x => by rw [show (2 : Int32) = nI 2 from rfl, nI_mul, nI_add]
  by_cases z : kd V k = 5
  · rw [if_neg (fun y => y (by rw [z]; rfl)), if_pos z]
    exact congrArg (fun x => some (x, h)) (e 1)
  · rw [if_pos (ne5 (by omega) z), if_neg z]
    exact congrArg (fun x => some (x, h)) (e 0)
theorem rk_le {V : Wv} {n dn : Nat} (W : WF V n dn) : ∀ b, b < n → rk V b ≤ 11 := fun b hb => by
  have := (WF_br W b hb).2.2.2.2
  unfold rk
  split <;> omega
theorem shr_bit (F : Int32) {k : Nat} (hk : k < 32) : (¬ ((F >>> (nI k &&& 31)) &&& (1 : Int32)) = 1) ↔ bt F k = false := by
  rw [shr1 F hk]
  cases bt F k <;> decide
theorem X4_list_in {V : Wv} {n dn r : Nat} {F : Int32} {l : Nat} (hl : l ≤ 11) (A : List Nat) (hA : ∀ k, k ≤ n → (A ++ lk V F l k).length ≤ 14) (kt : Nat → Int32 → Nat → Int32 → Int32 → Hp → Option (Unit × Hp)) : ∀ (d k fuel : Nat) (h : Hp), CW h V n dn → hol (h.1 3 r) (A ++ lk V F l k) → k + d = n → d < fuel → ∃ h', f_X4_listFromTop_b14 kt fuel 1 F r (nI (A ++ lk V F l k).length) (nI l) (nI k) h = kt 1 F r (nI (A ++ lk V F l n).length) (nI l + -1) h' ∧ hol (h'.1 3 r) (A ++ lk V F l n) ∧ (∀ g i j, ¬ (g = 3 ∧ i = r) → h'.1 g i j = h.1 g i j) ∧ h'.2 = h.2 := by
  intro d
  induction d with
  | zero =>
    intro k fuel h W H hk hq
    have hn := WF_n W.1
    obtain ⟨f, rfl⟩ : ∃ f, fuel = f + 1 := ⟨fuel - 1, by omega⟩
    have ek : k = n := by omega
    subst ek
    refine ⟨h, ?_, H, fun _ _ _ _ => rfl, rfl⟩
    show f_X4_listFromTop_b14_body _ _ _ _ _ _ _ _ _ = _
    unfold f_X4_listFromTop_b14_body
    rw [CW_c7 W, if_pos (nI_le (by omega) (by omega))]
  | succ d ih =>
    intro k fuel h W H hk hq
    have hn := WF_n W.1
    obtain ⟨f, rfl⟩ : ∃ f, fuel = f + 1 := ⟨fuel - 1, by omega⟩
    have hkn : k < n := by omega
    have hr := rk_le W.1 k hkn
    have ex : ∀ x y, f_X4_listFromTop_b14 kt (f + 1) 1 F r x (nI l) y h = f_X4_listFromTop_b14_body kt (f_X4_listFromTop_b14 kt f) 1 F r x (nI l) y h := fun _ _ => rfl
    rw [ex]
    unfold f_X4_listFromTop_b14_body f_X4_listFromTop_b62
    rw [CW_c7 W, if_neg (nI_ge hkn (by omega)), nI_1]
    have no : atB V F l k = false → ∃ h', f_X4_listFromTop_b14 kt f 1 F r (nI (A ++ lk V F l k).length) (nI l) (nI (k + 1)) h = kt 1 F r (nI (A ++ lk V F l n).length) (nI l + -1) h' ∧ hol (h'.1 3 r) (A ++ lk V F l n) ∧ (∀ g i j, ¬ (g = 3 ∧ i = r) → h'.1 g i j = h.1 g i j) ∧ h'.2 = h.2 := fun z => by
      have e : lk V F l (k + 1) = lk V F l k := by rw [lk_s, z, if_neg (by decide), List.append_nil]
      have := ih (k + 1) f h W (by rw [e]; exact H) (by omega) (by omega)
      rw [e] at this
      exact this
    cases hF : bt F k
    · rw [if_pos ((shr_bit F (by omega)).mpr hF)]
      exact no (by unfold atB; rw [hF]; rfl)
    rw [if_neg (fun z => by rw [(shr_bit F (by omega)).mp z] at hF; cases hF), if_pos (inb_t (by omega) (by decide)), nI_clamp (by omega), X0_rank W hkn, bnd_some]
    by_cases z : rk V k = l
    · have ck : atB V F l k = true := by unfold atB; rw [hF, decide_eq_true z]; rfl
      have len := hA k (by omega)
      have e : A ++ lk V F l (k + 1) = (A ++ lk V F l k) ++ [k] := by rw [lk_s, ck, if_pos rfl, List.append_assoc]
      rw [if_neg (fun y => y (by rw [z])), if_neg (show ¬ (40 : Int32) ≤ nI (A ++ lk V F l k).length from nI_ge (b := 40) (by omega) (by decide)), if_pos (inb_t (by omega) (by decide)), nI_clamp (by omega), nI_1]
      have W1 : CW (si h 3 r (A ++ lk V F l k).length (nI k)) V n dn := CW_g W (fun g i j q => si_g h (by omega))
      obtain ⟨h', e1, e2, e3, e4⟩ := ih (k + 1) f _ W1 (by rw [e]; exact hol_app H (fun j hj => si_j h hj) (si_at _ _ _ _ _)) (by omega) (by omega)
      refine ⟨h', ?_, e2, fun g i j q => (e3 g i j q).trans (si_ne _ _ (by omega)), e4⟩
      rw [e, List.length_append] at e1
      exact e1
    · rw [if_pos (fun y => z ((nI_eq (by omega) (by omega)).mp y))]
      exact no (by unfold atB; rw [decide_eq_false z, Bool.and_false])
theorem X4_list_out {V : Wv} {n dn r : Nat} {F : Int32} : ∀ (d fuel : Nat) (h : Hp), CW h V n dn → hol (h.1 3 r) (lt V F n (12 - d)) → d ≤ 12 → d < fuel → ∃ h', f_X4_listFromTop_b6 fuel 1 F r (nI (lt V F n (12 - d)).length) (nI d - 1) h = some ((), h') ∧ hol (h'.1 3 r) (lt V F n 12) ∧ (∀ g i j, ¬ (g = 3 ∧ i = r) → h'.1 g i j = h.1 g i j) ∧ h'.2 = h.2 := by
  intro d
  induction d with
  | zero =>
    intro fuel h W H hd hq
    obtain ⟨f, rfl⟩ : ∃ f, fuel = f + 1 := ⟨fuel - 1, by omega⟩
    exact ⟨h, rfl, H, fun _ _ _ _ => rfl, rfl⟩
  | succ d ih =>
    intro fuel h W H hd hq
    obtain ⟨f, rfl⟩ : ∃ f, fuel = f + 1 := ⟨fuel - 1, by omega⟩
    have hn := WF_n W.1
    have eA := fun k (hk : k ≤ n) => lt_le V F hn (rk_le W.1) (t := 12 - (d + 1)) (by omega) hk
    rw [show 11 - (12 - (d + 1)) = d by omega] at eA
    obtain ⟨h', e1, e2, e3, e4⟩ := X4_list_in (r := r) (l := d) (by omega) (lt V F n (12 - (d + 1))) eA (f_X4_listFromTop_b6 f) n 0 200 h W (by show hol _ (_ ++ []); rw [List.append_nil]; exact H) (by omega) (by omega)
    have el : lt V F n (12 - d) = lt V F n (12 - (d + 1)) ++ lk V F d n := by rw [show 12 - d = (12 - (d + 1)) + 1 by omega, ltq_s, show 11 - (12 - (d + 1)) = d by omega]
    rw [← el] at e1 e2
    obtain ⟨h'', g1, g2, g3, g4⟩ := ih f h' (CW_g W (fun g i j q => e3 g i j (by omega))) e2 (by omega) (by omega)
    refine ⟨h'', ?_, g2, fun g i j q => (g3 g i j q).trans (e3 g i j q), g4.trans e4⟩
    show f_X4_listFromTop_b6_body _ _ _ _ _ _ _ = _
    unfold f_X4_listFromTop_b6_body
    rw [nI_pred, if_neg (nI_pos (by omega))]
    have e0 : lt V F n (12 - (d + 1)) ++ lk V F d 0 = lt V F n (12 - (d + 1)) := List.append_nil _
    rw [e0] at e1
    rw [show f_X4_listFromTop_b14 (f_X4_listFromTop_b6 f) 200 1 F r (nI (lt V F n (12 - (d + 1))).length) (nI d) 0 h = _ from e1, nI_m1]
    exact g1
theorem X4_listFromTop {h : Hp} {V : Wv} {n dn r : Nat} (F : Int32) (W : CW h V n dn) : ∃ h', f_X4_listFromTop 1 F r h = some ((), h') ∧ hol (h'.1 3 r) (lt V F n 12) ∧ (∀ g i j, ¬ (g = 3 ∧ i = r) → h'.1 g i j = h.1 g i j) ∧ h'.2 = h.2 := X4_list_out 12 200 h W (fun j hj => absurd hj (Nat.not_lt_zero j)) (by omega) (by omega)
theorem X5_ahead_loop {h : Hp} {V : Wv} {n dn r : Nat} (F z : Int32) (W : CW h V n dn) (hr : r < 6) (sF : sub F n) : ∀ (d k fuel : Nat), k + d = n → d < fuel → ∃ h', f_X5_ahead_b75 fuel (nI r) F (oa V F z k) (nI k) h = some (nI (pcn F 14), si h' 0 0 7 (oa V F z n)) ∧ hol (h'.1 3 r) (lt V F n 12) ∧ h'.1 4 0 r = nI (pcn F 14) ∧ (∀ g i j, ¬ (g = 3 ∧ i = r) → ¬ (g = 4 ∧ i = 0 ∧ j = r) → h'.1 g i j = h.1 g i j) ∧ h'.2 = h.2 := by
  have hn := WF_n W.1
  intro d
  induction d with
  | zero =>
    intro k fuel hk hq
    obtain ⟨f, rfl⟩ : ∃ f, fuel = f + 1 := ⟨fuel - 1, by omega⟩
    have pl := pcn_le F 14
    have eb : ∀ g i j, ¬ (g = 3 ∧ i = r) → ¬ (g = 4 ∧ i = 0 ∧ j = r) → (fil (si h 4 0 r (nI (pcn F 14))) 3 r 0 (pcn F 14) 0).1 g i j = h.1 g i j := fun g i j q1 q2 => by rw [fil_ne _ (by omega), si_ne _ _ (by omega)]
    have W1 : CW (fil (si h 4 0 r (nI (pcn F 14))) 3 r 0 (pcn F 14) 0) V n dn := CW_g W (fun g i j q => eb g i j (by omega) (by omega))
    obtain ⟨h', e1, e2, e3, e4⟩ := X4_listFromTop (r := r) F W1
    have e5 : h'.1 4 0 r = nI (pcn F 14) := by rw [e3 4 0 r (by omega), fil_ne _ (by omega), si_at]
    refine ⟨h', ?_, e2, e5, fun g i j q1 q2 => (e3 g i j q1).trans (eb g i j q1 q2), e4⟩
    show f_X5_ahead_b75_body _ _ _ _ _ _ = _
    unfold f_X5_ahead_b75_body
    rw [CW_c7 W, if_pos (nI_le (by omega) (by omega)), bc_of (sub_mono sF hn), bnd_some, X2_begin h hr (by omega), bnd_some, if_pos (inb_t (by omega) (by decide)), nI_clamp (by omega), e1, bnd_some, if_pos (inb_t (by omega) (by decide)), si_g _ (by decide), e5, show k = n by omega]
  | succ d ih =>
    intro k fuel hk hq
    obtain ⟨f, rfl⟩ : ∃ f, fuel = f + 1 := ⟨fuel - 1, by omega⟩
    have hkn : k < n := by omega
    have ex : f_X5_ahead_b75 (f + 1) (nI r) F (oa V F z k) (nI k) h = f_X5_ahead_b75_body (f_X5_ahead_b75 f) (nI r) F (oa V F z k) (nI k) h := rfl
    rw [ex]
    unfold f_X5_ahead_b75_body f_X5_ahead_b112
    have go := ih (k + 1) f (by omega) (by omega)
    have e : oa V F z (k + 1) = oa V F z k ||| (if bt F k then aks V k else 0) := rfl
    rw [CW_c7 W, if_neg (nI_ge hkn (by omega)), nI_1, X4_askedToDraw W hkn, bnd_some]
    cases hF : bt F k
    · rw [if_pos ((shr_bit F (by omega)).mpr hF)]
      rw [e, hF, if_neg (by decide)] at go
      exact go
    · rw [if_neg (fun z => by rw [(shr_bit F (by omega)).mp z] at hF; cases hF)]
      rw [e, hF, if_pos rfl] at go
      exact go
theorem X6_ahead_in {V : Wv} {n dn r : Nat} {F z : Int32} {c ar : Nat} (hr : r < 6) (hc : c ≤ 5) (har : ar ≤ 1) (A : List Nat) (hA : ∀ k, k ≤ n → (A ++ lk V F (2 * c + ar) k).length ≤ 14) (k76 : Int32 → Int32 → Int32 → Int32 → Int32 → Hp → Option (Int32 × Hp)) (k84 : Int32 → Int32 → Int32 → Int32 → Int32 → Int32 → Hp → Option (Int32 × Hp)) : ∀ (d k fuel : Nat) (h : Hp), MW h V n dn → hol (fun j => h.1 23 0 (40 * r + j)) (A ++ lk V F (2 * c + ar) k) → k + d = n → d < fuel → ∃ h', f_X6_ahead_b92 k76 k84 fuel (nI r) F (ob V z (A ++ lk V F (2 * c + ar) k)) (nI (A ++ lk V F (2 * c + ar) k).length) (nI c) (nI ar) (nI k) h = k84 (nI r) F (ob V z (A ++ lk V F (2 * c + ar) n)) (nI (A ++ lk V F (2 * c + ar) n).length) (nI c) (nI ar + -1) h' ∧ hol (fun j => h'.1 23 0 (40 * r + j)) (A ++ lk V F (2 * c + ar) n) ∧ (∀ g i j, ¬ (g = 23 ∧ i = 0 ∧ 40 * r ≤ j ∧ j < 40 * r + 40) → h'.1 g i j = h.1 g i j) ∧ h'.2 = h.2 := by
  intro d
  induction d with
  | zero =>
    intro k fuel h W H hk hq
    have hn := WF_n W.1
    obtain ⟨f, rfl⟩ : ∃ f, fuel = f + 1 := ⟨fuel - 1, by omega⟩
    have ek : k = n := by omega
    subst ek
    refine ⟨h, ?_, H, fun _ _ _ _ => rfl, rfl⟩
    show f_X6_ahead_b92_body _ _ _ _ _ _ _ _ _ _ _ = _
    unfold f_X6_ahead_b92_body
    rw [MW_m11 W, if_pos (nI_le (by omega) (by omega))]
  | succ d ih =>
    intro k fuel h W H hk hq
    have hn := WF_n W.1
    obtain ⟨f, rfl⟩ : ∃ f, fuel = f + 1 := ⟨fuel - 1, by omega⟩
    have hkn : k < n := by omega
    have k4 := (WF_br W.1 k hkn).2.2.2.2
    have k3 := (WF_br W.1 k hkn).2.2.2.1
    have M := MW_M W
    have ex : ∀ w x y, f_X6_ahead_b92 k76 k84 (f + 1) (nI r) F w x (nI c) (nI ar) y h = f_X6_ahead_b92_body k76 k84 (f_X6_ahead_b92 k76 k84 f) (nI r) F w x (nI c) (nI ar) y h := fun _ _ _ => rfl
    rw [ex]
    unfold f_X6_ahead_b92_body f_X6_ahead_b139 f_X6_ahead_b150 f_X6_ahead_b176
    rw [MW_m11 W, if_neg (nI_ge hkn (by omega)), nI_1, X6_has _ _ (by omega), bnd_some, M1 M hkn, bnd_some, M0 M hkn, bnd_some]
    have no : atB V F (2 * c + ar) k = false → ∃ h', f_X6_ahead_b92 k76 k84 f (nI r) F (ob V z (A ++ lk V F (2 * c + ar) k)) (nI (A ++ lk V F (2 * c + ar) k).length) (nI c) (nI ar) (nI (k + 1)) h = k84 (nI r) F (ob V z (A ++ lk V F (2 * c + ar) n)) (nI (A ++ lk V F (2 * c + ar) n).length) (nI c) (nI ar + -1) h' ∧ hol (fun j => h'.1 23 0 (40 * r + j)) (A ++ lk V F (2 * c + ar) n) ∧ (∀ g i j, ¬ (g = 23 ∧ i = 0 ∧ 40 * r ≤ j ∧ j < 40 * r + 40) → h'.1 g i j = h.1 g i j) ∧ h'.2 = h.2 := fun z' => by
      have e : lk V F (2 * c + ar) (k + 1) = lk V F (2 * c + ar) k := by rw [lk_s, z', if_neg (by decide), List.append_nil]
      have := ih (k + 1) f h W (by rw [e]; exact H) (by omega) (by omega)
      rw [e] at this
      exact this
    have len := hA k (by omega)
    have ye : atB V F (2 * c + ar) k = true → ∃ h', (bnd (f_X6_setRow (nI r) (nI (A ++ lk V F (2 * c + ar) k).length) (nI k) h) (fun v2 h3 => bnd (f_X6_asksOf (nI k) h3) (fun v5 h6 => f_X6_ahead_b92 k76 k84 f (nI r) F (ob V z (A ++ lk V F (2 * c + ar) k) ||| v5) (nI (A ++ lk V F (2 * c + ar) k).length + 1) (nI c) (nI ar) (nI (k + 1)) h6))) = k84 (nI r) F (ob V z (A ++ lk V F (2 * c + ar) n)) (nI (A ++ lk V F (2 * c + ar) n).length) (nI c) (nI ar + -1) h' ∧ hol (fun j => h'.1 23 0 (40 * r + j)) (A ++ lk V F (2 * c + ar) n) ∧ (∀ g i j, ¬ (g = 23 ∧ i = 0 ∧ 40 * r ≤ j ∧ j < 40 * r + 40) → h'.1 g i j = h.1 g i j) ∧ h'.2 = h.2 := fun ck => by
      have e : A ++ lk V F (2 * c + ar) (k + 1) = (A ++ lk V F (2 * c + ar) k) ++ [k] := by rw [lk_s, ck, if_pos rfl, List.append_assoc]
      have W1 : MW (si h 23 0 (40 * r + (A ++ lk V F (2 * c + ar) k).length) (nI k)) V n dn := MW_si W (by decide)
      rw [X6_setRow h _ hr (by omega), bnd_some, X6_asksOf W1 hkn, bnd_some, nI_1]
      obtain ⟨h', e1, e2, e3, e4⟩ := ih (k + 1) f _ W1 (by rw [e]; exact hol_app H (fun j hj => si_j h (by omega)) (si_at _ _ _ _ _)) (by omega) (by omega)
      refine ⟨h', ?_, e2, fun g i j q => (e3 g i j q).trans (si_ne _ _ (by omega)), e4⟩
      have eo : ob V z (A ++ lk V F (2 * c + ar) (k + 1)) = ob V z (A ++ lk V F (2 * c + ar) k) ||| aks V k := by
        rw [e]; unfold ob; rw [List.foldl_append]; rfl
      rw [eo, e, List.length_append] at e1
      exact e1
    cases hF : bt F k
    · rw [bi_f, if_pos rfl]
      exact no (by unfold atB; rw [hF]; rfl)
    rw [bi_t, if_neg (by decide)]
    by_cases z1 : co V k = c
    · rw [if_neg (fun y => y (by rw [z1]))]
      have er : rk V k = 2 * c + (if kd V k = 5 then 1 else 0) := by unfold rk; rw [z1]
      by_cases z5 : kd V k = 5
      · rw [if_neg (fun y => y (by rw [z5]; rfl))]
        rw [if_pos z5] at er
        rcases (show ar = 0 ∨ ar = 1 by omega) with rfl | rfl
        · rw [if_pos (by decide), if_pos (by decide)]
          exact no (by unfold atB; rw [decide_eq_false (by omega), Bool.and_false])
        · rw [if_neg (fun y => y rfl), if_neg (fun y => y rfl)]
          exact ye (by unfold atB; rw [hF, decide_eq_true er]; rfl)
      · rw [if_pos (ne5 (by omega) z5)]
        rw [if_neg z5] at er
        rcases (show ar = 0 ∨ ar = 1 by omega) with rfl | rfl
        · rw [if_pos (by decide), if_neg (fun y => y rfl)]
          exact ye (by unfold atB; rw [hF, decide_eq_true er]; rfl)
        · rw [if_neg (fun y => y rfl), if_pos (by decide)]
          exact no (by unfold atB; rw [decide_eq_false (by omega), Bool.and_false])
    · rw [if_pos (fun y => z1 ((nI_eq (by omega) (by omega)).mp y))]
      refine no ?_
      have : ¬ rk V k = 2 * c + ar := by unfold rk; split <;> omega
      unfold atB; rw [decide_eq_false this, Bool.and_false]
theorem X6_ahead_mid {V : Wv} {n dn r : Nat} {F z : Int32} {c : Nat} (hr : r < 6) (hc : c ≤ 5) (k76 : Int32 → Int32 → Int32 → Int32 → Int32 → Hp → Option (Int32 × Hp)) (h : Hp) (W : MW h V n dn) (H : hol (fun j => h.1 23 0 (40 * r + j)) (lt V F n (2 * (5 - c)))) : ∃ h', f_X6_ahead_b84 k76 200 (nI r) F (ob V z (lt V F n (2 * (5 - c)))) (nI (lt V F n (2 * (5 - c))).length) (nI c) 1 h = k76 (nI r) F (ob V z (lt V F n (2 * (5 - c) + 2))) (nI (lt V F n (2 * (5 - c) + 2)).length) (nI c + -1) h' ∧ hol (fun j => h'.1 23 0 (40 * r + j)) (lt V F n (2 * (5 - c) + 2)) ∧ (∀ g i j, ¬ (g = 23 ∧ i = 0 ∧ 40 * r ≤ j ∧ j < 40 * r + 40) → h'.1 g i j = h.1 g i j) ∧ h'.2 = h.2 := by
  have hn := WF_n W.1
  have a1 : 11 - 2 * (5 - c) = 2 * c + 1 := by omega
  have a2 : 11 - (2 * (5 - c) + 1) = 2 * c + 0 := by omega
  have eA := fun k (hk : k ≤ n) => lt_le V F hn (rk_le W.1) (t := 2 * (5 - c)) (by omega) hk
  have eB := fun k (hk : k ≤ n) => lt_le V F hn (rk_le W.1) (t := 2 * (5 - c) + 1) (by omega) hk
  rw [a1] at eA
  rw [a2] at eB
  have l1 : lt V F n (2 * (5 - c) + 1) = lt V F n (2 * (5 - c)) ++ lk V F (2 * c + 1) n := by rw [ltq_s, a1]
  have l2 : lt V F n (2 * (5 - c) + 2) = lt V F n (2 * (5 - c) + 1) ++ lk V F (2 * c + 0) n := by rw [show 2 * (5 - c) + 2 = (2 * (5 - c) + 1) + 1 from rfl, ltq_s, a2]
  have z1 : lt V F n (2 * (5 - c)) ++ lk V F (2 * c + 1) 0 = lt V F n (2 * (5 - c)) := List.append_nil _
  have z2 : lt V F n (2 * (5 - c) + 1) ++ lk V F (2 * c + 0) 0 = lt V F n (2 * (5 - c) + 1) := List.append_nil _
  obtain ⟨h', e1, e2, e3, e4⟩ := X6_ahead_in (z := z) (c := c) (ar := 1) hr hc (by omega) (lt V F n (2 * (5 - c))) eA k76 (f_X6_ahead_b84 k76 199) n 0 200 h W (by rw [z1]; exact H) (by omega) (by omega)
  rw [z1, ← l1] at e1
  rw [← l1] at e2
  have W1 : MW h' V n dn := MW_g W (fun g j q => e3 g 0 j (by omega))
  obtain ⟨h'', g1, g2, g3, g4⟩ := X6_ahead_in (z := z) (c := c) (ar := 0) hr hc (by omega) (lt V F n (2 * (5 - c) + 1)) eB k76 (f_X6_ahead_b84 k76 198) n 0 200 h' W1 (by rw [z2]; exact e2) (by omega) (by omega)
  rw [z2, ← l2] at g1
  rw [← l2] at g2
  refine ⟨h'', ?_, g2, fun g i j q => (g3 g i j q).trans (e3 g i j q), g4.trans e4⟩
  show f_X6_ahead_b84_body k76 (f_X6_ahead_b84 k76 199) _ _ _ _ _ _ _ = _
  unfold f_X6_ahead_b84_body
  rw [if_neg (by decide), show f_X6_ahead_b92 k76 (f_X6_ahead_b84 k76 199) 200 (nI r) F (ob V z (lt V F n (2 * (5 - c)))) (nI (lt V F n (2 * (5 - c))).length) (nI c) 1 0 h = _ from e1]
  show f_X6_ahead_b84_body k76 (f_X6_ahead_b84 k76 198) _ _ _ _ _ _ _ = _
  unfold f_X6_ahead_b84_body
  rw [if_neg (by decide), show f_X6_ahead_b92 k76 (f_X6_ahead_b84 k76 198) 200 (nI r) F (ob V z (lt V F n (2 * (5 - c) + 1))) (nI (lt V F n (2 * (5 - c) + 1)).length) (nI c) (nI 1 + -1) 0 h' = _ from g1]
  show f_X6_ahead_b84_body k76 (f_X6_ahead_b84 k76 197) _ _ _ _ _ _ _ = _
  unfold f_X6_ahead_b84_body
  rw [if_pos (by decide)]
theorem X6_ahead_out {V : Wv} {n dn r : Nat} {F z : Int32} (hr : r < 6) : ∀ (d fuel : Nat) (h : Hp), MW h V n dn → hol (fun j => h.1 23 0 (40 * r + j)) (lt V F n (2 * (6 - d))) → d ≤ 6 → d < fuel → ∃ h', f_X6_ahead_b76 fuel (nI r) F (ob V z (lt V F n (2 * (6 - d)))) (nI (lt V F n (2 * (6 - d))).length) (nI d - 1) h = some (nI (lt V F n 12).length, si h' 20 0 2 (ob V z (lt V F n 12))) ∧ hol (fun j => h'.1 23 0 (40 * r + j)) (lt V F n 12) ∧ (∀ g i j, ¬ (g = 23 ∧ i = 0 ∧ 40 * r ≤ j ∧ j < 40 * r + 40) → h'.1 g i j = h.1 g i j) ∧ h'.2 = h.2 := by
  intro d
  induction d with
  | zero =>
    intro fuel h W H hd hq
    obtain ⟨f, rfl⟩ : ∃ f, fuel = f + 1 := ⟨fuel - 1, by omega⟩
    exact ⟨h, rfl, H, fun _ _ _ _ => rfl, rfl⟩
  | succ d ih =>
    intro fuel h W H hd hq
    obtain ⟨f, rfl⟩ : ∃ f, fuel = f + 1 := ⟨fuel - 1, by omega⟩
    rw [show 6 - (d + 1) = 5 - d by omega] at H ⊢
    obtain ⟨h', e1, e2, e3, e4⟩ := X6_ahead_mid (z := z) (c := d) hr (by omega) (f_X6_ahead_b76 f) h W H
    rw [show 2 * (5 - d) + 2 = 2 * (6 - d) by omega] at e1 e2
    obtain ⟨h'', g1, g2, g3, g4⟩ := ih f h' (MW_g W (fun g j q => e3 g 0 j (by omega))) e2 (by omega) (by omega)
    refine ⟨h'', ?_, g2, fun g i j q => (g3 g i j q).trans (e3 g i j q), g4.trans e4⟩
    show f_X6_ahead_b76_body _ _ _ _ _ _ _ = _
    unfold f_X6_ahead_b76_body
    rw [nI_pred, if_neg (nI_pos (by omega)), e1, nI_m1]
    exact g1
theorem row_new {h K : Hp} {r N : Nat} (hI : Inv h) (hr : r < 6) (hN : N ≤ 40) (k4 : K.1 4 0 r = nI N) (k22 : K.1 22 0 r = nI N) (kr : ∀ j, j < N → K.1 3 r j = K.1 23 0 (40 * r + j)) (ka : K.1 0 0 7 = K.1 20 0 2)
    (e : ∀ g i j, ¬ (g = 4 ∧ i = 0 ∧ j = r) → ¬ (g = 3 ∧ i = r) → ¬ (g = 22 ∧ i = 0 ∧ j = r) → ¬ (g = 23 ∧ i = 0 ∧ 40 * r ≤ j ∧ j < 40 * r + 40) → ¬ (g = 0 ∧ i = 0 ∧ j = 7) → ¬ (g = 20 ∧ i = 0 ∧ j = 2) → ¬ (g = 15 ∨ g = 16) → K.1 g i j = h.1 g i j) (l : K.2.1 = h.2.1) : Inv K := by
  obtain ⟨⟨x1, x2, x3, x4, x5⟩, R, T, W⟩ := hI
  refine ⟨⟨?_, ka, fun f hf => ?_, by rw [l]; exact x4, by rw [l]; exact x5⟩, fun r' hr' => ?_, InvT_of (fun g i j q => e g i j (by omega) (by omega) (by omega) (by omega) (by omega) (by omega) (by omega)) T, InvW_of (fun g i j q => e g i j (by unfold wcore at q; omega) (by unfold wcore at q; omega) (by unfold wcore at q; omega) (by unfold wcore at q; omega) (by unfold wcore at q; omega) (by unfold wcore at q; omega) (by unfold wcore at q; omega)) W⟩
  · rw [e 0 0 6 (by omega) (by omega) (by omega) (by omega) (by omega) (by omega) (by omega), e 20 0 0 (by omega) (by omega) (by omega) (by omega) (by omega) (by omega) (by omega)]; exact x1
  · rw [e 19 0 f (by omega) (by omega) (by omega) (by omega) (by omega) (by omega) (by omega), e 21 0 f (by omega) (by omega) (by omega) (by omega) (by omega) (by omega) (by omega)]; exact x3 f hf
  · by_cases z : r' = r
    · subst z; exact Or.inr ⟨N, hN, k4, k22, kr⟩
    · have e4 := e 4 0 r' (by omega) (by omega) (by omega) (by omega) (by omega) (by omega) (by omega)
      have e22 := e 22 0 r' (by omega) (by omega) (by omega) (by omega) (by omega) (by omega) (by omega)
      unfold RowOk
      rw [e4, e22]
      rcases R r' hr' with q | ⟨n, h1, h2, h3, h4⟩
      · exact Or.inl q
      · refine Or.inr ⟨n, h1, h2, h3, fun j hj => ?_⟩
        rw [e 3 r' j (by omega) (by omega) (by omega) (by omega) (by omega) (by omega) (by omega), e 23 0 _ (by omega) (by omega) (by omega) (by omega) (by omega) (by omega) (by omega)]
        exact h4 j hj
theorem pcn_n {F : Int32} {n : Nat} (hn : n ≤ 14) (s : sub F n) : pcn F 14 = mkn (bt F) n := by
  have t := mkn_cut (p := bt F) (m := n) (14 - n)
  rw [show n + (14 - n) = 14 by omega] at t
  unfold pcn
  rw [← t]
  refine mkn_congr (fun k _ => ?_)
  rcases Nat.lt_or_ge k n with y | y
  · rw [decide_eq_true y]; rfl
  · rw [s k y, Bool.and_false]
theorem st_ahead (a1 a2 : Int32) (h : Hp) (hI : Inv h) : ∃ (r : Int32) (h1 h2 : Hp), f_X5_ahead a1 a2 h = some (r, h1) ∧ f_X6_ahead a1 a2 h1 = some (r, h2) ∧ Inv h2 := by
  obtain ⟨V, n, dn, W⟩ := Inv_W hI
  have hn := IW_n W
  rcases rng n (by omega) a1 with q | ⟨b, hb, rfl⟩
  · refine ⟨-1, h, h, ?_, ?_, hI⟩
    · unfold f_X5_ahead; rw [X4_has_n (cw W) q, bnd_some, if_pos rfl]
    · unfold f_X6_ahead; rw [X6_isBrick_n (mw W) q, bnd_some, if_pos rfl]
  rcases rng 6 (by omega) a2 with q | ⟨r, hr, rfl⟩
  · refine ⟨-1, h, h, ?_, ?_, hI⟩
    · unfold f_X5_ahead; rw [X4_has_y (cw W) hb, bnd_some, if_neg (by decide), X5_isRow_n h q, bnd_some, if_neg (fun z => z rfl)]
    · unfold f_X6_ahead; rw [X6_isBrick_y (mw W) hb, bnd_some, if_neg (by decide), X6_isRow_n h q, bnd_some, if_neg (fun z => z rfl)]
  cases hq : bt (V.1 2) b
  · have W1 : IW (rfC h 1) V n dn := IW_rf W
    refine ⟨-3, rfC h 1, mtC (rfC h 1) 1, ?_, ?_, rm_Inv hI⟩
    · unfold f_X5_ahead; rw [X4_has_y (cw W) hb, bnd_some, if_neg (by decide), X5_isRow_y h hr, bnd_some, if_pos (by decide), X4_isIn' (cw W) hb, bnd_some, hq, bi_f, if_neg (fun z => z rfl), X5_ref1, bnd_some]
    · unfold f_X6_ahead; rw [X6_isBrick_y (mw W1) hb, bnd_some, if_neg (by decide), X6_isRow_y _ hr, bnd_some, if_pos (by decide), X6_askedIn_o (mw W1) hb hq, bnd_some, if_neg (by decide)]
  cases hv : bt (V.1 4) b
  · generalize hx : (1 : Int32) <<< (nI b &&& 31) = x
    obtain ⟨h', e1, e2⟩ := X4_falls (cw W) x
    have W' := IW_sw e2 W
    have sF := Fl_sub W.1 x
    have pl := pcn_le (Fl V n x) 14
    obtain ⟨H, g1, g2, g3, g4, g5⟩ := X5_ahead_loop (r := r) (Fl V n x) (aks V b) (cw W') hr sF n 0 200 (by omega) (by omega)
    generalize hH1 : si H 0 0 7 (oa V (Fl V n x) (aks V b) n) = H1 at g1
    have eH : ∀ g i j, ¬ (g = 3 ∧ i = r) → ¬ (g = 4 ∧ i = 0 ∧ j = r) → ¬ (g = 0 ∧ i = 0 ∧ j = 7) → ¬ (g = 15 ∨ g = 16) → H1.1 g i j = h.1 g i j := fun g i j p1 p2 p3 p4 => by
      rw [← hH1, si_ne _ _ (by omega), g4 g i j p1 p2, e2.1 g i j (by omega)]
    have cl : f_X5_ahead (nI b) (nI r) h = some (nI (pcn (Fl V n x) 14), H1) := by
      unfold f_X5_ahead
      rw [X4_has_y (cw W) hb, bnd_some, if_neg (by decide), X5_isRow_y h hr, bnd_some, if_pos (by decide), X4_isIn' (cw W) hb, bnd_some, hq, bi_t, if_pos (by decide), X4_hasVine' (cw W) hb, bnd_some, hv, bi_f, if_pos rfl, hx, e1, bnd_some, X4_askedToDraw (cw W') hb, bnd_some]
      exact g1
    have M1 : MW H1 V n dn := MW_g (mw W) (fun g j q => eH g 0 j (by omega) (by omega) (by omega) (by omega))
    generalize hK0 : fil (si H1 22 0 r (nI (pcn (Fl V n x) 14))) 23 0 (40 * r) (40 * r + 40) 0 = K0
    have eK0 : ∀ g i j, ¬ (g = 22 ∧ i = 0 ∧ j = r) → ¬ (g = 23 ∧ i = 0 ∧ 40 * r ≤ j ∧ j < 40 * r + 40) → K0.1 g i j = H1.1 g i j := fun g i j p1 p2 => by
      rw [← hK0, fil_ne _ p2, si_ne _ _ p1]
    have M2 : MW K0 V n dn := MW_g M1 (fun g j q => eK0 g 0 j (by omega) (by omega))
    obtain ⟨K, k1, k2, k3, k4⟩ := X6_ahead_out (F := Fl V n x) (z := aks V b) hr 6 200 K0 M2 (fun j hj => absurd hj (Nat.not_lt_zero j)) (by omega) (by omega)
    have elen : (lt V (Fl V n x) n 12).length = pcn (Fl V n x) 14 := by rw [lt_all V _ (rk_le W.1), pcn_n hn sF]
    have eK : ∀ g i j, ¬ (g = 22 ∧ i = 0 ∧ j = r) → ¬ (g = 23 ∧ i = 0 ∧ 40 * r ≤ j ∧ j < 40 * r + 40) → K.1 g i j = H1.1 g i j := fun g i j p1 p2 => (k3 g i j p2).trans (eK0 g i j p1 p2)
    rw [elen] at k1
    refine ⟨_, H1, si K 20 0 2 (ob V (aks V b) (lt V (Fl V n x) n 12)), cl, ?_, ?_⟩
    · unfold f_X6_ahead
      rw [X6_isBrick_y M1 hb, bnd_some, if_neg (by decide), X6_isRow_y _ hr, bnd_some, if_pos (by decide), X6_askedIn_i M1 hb hq, bnd_some, if_pos (by decide), MW_m15 M1, X6_has _ _ (by omega), bnd_some, hv, bi_f, if_pos rfl, hx, X6_falls' M1, bnd_some, X6_asksOf M1 hb, bnd_some, X6_sizeOf, bnd_some, X6_row_y H1 hr (by omega), bnd_some, hK0]
      exact k1
    · refine row_new hI hr (show pcn (Fl V n x) 14 ≤ 40 by omega) ?_ ?_ (fun j hj => ?_) ?_ (fun g i j p1 p2 p3 p4 p5 p6 p7 => ?_) ?_
      · rw [si_ne _ _ (by omega), eK _ _ _ (by omega) (by omega), ← hH1, si_ne _ _ (by omega), g3]
      · rw [si_ne _ _ (by omega), k3 _ _ _ (by omega), ← hK0, fil_ne _ (by omega), si_at]
      · rw [si_ne _ _ (by omega), si_ne _ _ (by omega), eK _ _ _ (by omega) (by omega), ← hH1, si_ne _ _ (by omega), g2 j (by omega)]; exact (k2 j (by omega)).symm
      · rw [si_ne _ _ (by omega), si_at, eK _ _ _ (by omega) (by omega), ← hH1, si_at, oab V _ _ (rk_le W.1)]
      · rw [si_ne _ _ (by omega), eK _ _ _ p3 p4, eH _ _ _ p2 p1 p5 p7]
      · show K.2.1 = h.2.1
        rw [k4, ← hK0]
        show H1.2.1 = h.2.1
        rw [← hH1]
        show H.2.1 = h.2.1
        rw [g5, e2.2]
  · refine ⟨-4, h, h, ?_, ?_, hI⟩
    · unfold f_X5_ahead; rw [X4_has_y (cw W) hb, bnd_some, if_neg (by decide), X5_isRow_y h hr, bnd_some, if_pos (by decide), X4_isIn' (cw W) hb, bnd_some, hq, bi_t, if_pos (by decide), X4_hasVine' (cw W) hb, bnd_some, hv, bi_t, if_neg (by decide)]
    · unfold f_X6_ahead; rw [X6_isBrick_y (mw W) hb, bnd_some, if_neg (by decide), X6_isRow_y _ hr, bnd_some, if_pos (by decide), X6_askedIn_i (mw W) hb hq, bnd_some, if_pos (by decide), MW_m15 (mw W), X6_has _ _ (by omega), bnd_some, hv, bi_t, if_neg (by decide)]
