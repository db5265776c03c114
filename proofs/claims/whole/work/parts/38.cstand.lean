theorem anyB_add {p p' : Nat → Bool} {n b : Nat} {q : Bool} (hb : b < n) (e : ∀ k, k < n → p' k = (p k || (decide (k = b) && q))) : anyB p' n = (anyB p n || q) := by
  rw [Bool.eq_iff_iff, Bool.or_eq_true, anyB_iff, anyB_iff]
  constructor
  · rintro ⟨k, hk, z⟩
    rw [e k hk, Bool.or_eq_true, Bool.and_eq_true] at z
    rcases z with z | z
    · exact Or.inl ⟨k, hk, z⟩
    · exact Or.inr z.2
  · rintro (⟨k, hk, z⟩ | z)
    · exact ⟨k, hk, by rw [e k hk, z]; rfl⟩
    · exact ⟨b, hb, by rw [e b hb, z]; simp⟩
theorem anyB_none {p : Nat → Bool} {n : Nat} (e : ∀ k, k < n → p k = false) : anyB p n = false := by
  cases h : anyB p n
  · rfl
  · obtain ⟨k, hk, z⟩ := anyB_iff.mp h
    rw [e k hk] at z
    cases z
theorem X4_clear_loop {w : Nat} : ∀ (d k fuel : Nat) (h : Hp), k + d = 6 → d < fuel → ∃ h', f_X4_clearHalves_b2 fuel w (nI k) h = some ((), h') ∧ Sw w h h' ∧ (∀ c, k ≤ c → c < 6 → h'.1 15 w c = 0 ∧ h'.1 16 w c = 0) ∧ (∀ c, c < k → h'.1 15 w c = h.1 15 w c ∧ h'.1 16 w c = h.1 16 w c) := by
  intro d
  induction d with
  | zero =>
    intro k fuel h hk hq
    obtain ⟨f, rfl⟩ : ∃ f, fuel = f + 1 := ⟨fuel - 1, by omega⟩
    refine ⟨h, ?_, Sw.rfl', fun c h1 h2 => by omega, fun c _ => ⟨rfl, rfl⟩⟩
    show f_X4_clearHalves_b2_body _ _ _ _ = _
    unfold f_X4_clearHalves_b2_body
    rw [if_pos (show (6 : Int32) ≤ nI k from nI_le (a := 6) (by omega) (by omega))]
  | succ d ih =>
    intro k fuel h hk hq
    obtain ⟨f, rfl⟩ : ∃ f, fuel = f + 1 := ⟨fuel - 1, by omega⟩
    obtain ⟨h', e1, e2, e3, e4⟩ := ih (k + 1) f (si (si h 15 w k 0) 16 w k 0) (by omega) (by omega)
    refine ⟨h', ?_, ⟨fun g i j q => ?_, e2.2⟩, fun c h1 h2 => ?_, fun c h1 => ?_⟩
    · show f_X4_clearHalves_b2_body _ _ _ _ = _
      unfold f_X4_clearHalves_b2_body
      rw [if_neg (show ¬ (6 : Int32) ≤ nI k from nI_ge (b := 6) (by omega) (by decide)), if_pos (inb_t (by omega) (by decide)), if_pos (inb_t (by omega) (by decide)), nI_clamp (by omega), nI_1]
      exact e1
    · rw [e2.1 g i j q, si_ne _ _ (by omega), si_ne _ _ (by omega)]
    · by_cases q : c = k
      · subst q
        rw [(e4 c (by omega)).1, (e4 c (by omega)).2]
        exact ⟨by simp [si], by simp [si]⟩
      · exact e3 c (by omega) h2
    · rw [(e4 c (by omega)).1, (e4 c (by omega)).2]
      exact ⟨by rw [si_ne _ _ (by omega), si_ne _ _ (by omega)], by rw [si_ne _ _ (by omega), si_ne _ _ (by omega)]⟩
theorem X4_clearHalves (w n : Nat) (V : Wv) (h : Hp) : ∃ h', f_X4_clearHalves w h = some ((), h') ∧ Sw w h h' ∧ Rep h' w V n (fun _ => false) := by
  obtain ⟨h', e1, e2, e3, -⟩ := X4_clear_loop (w := w) 6 0 200 h (by omega) (by omega)
  refine ⟨h', e1, e2, fun c hc j hj => ?_⟩
  obtain ⟨a, b⟩ := e3 c (by omega) hc
  rw [a, b, b_0]
  exact ⟨(anyB_none (fun k _ => by unfold cvB; rfl)).symm, (anyB_none (fun k _ => by unfold cnB cvB; rfl)).symm⟩
section CL2
variable {V : Wv} {n w : Nat}
theorem X4_fillHalves {h : Hp} (C : CB h w V n) {s : Nat → Bool} (R : Rep h w V n s) {b : Nat} (hb : b < n) : ∃ h', f_X4_fillHalves w (14 * w + b) h = some ((), h') ∧ Sw w h h' ∧ Rep h' w V n (fun k => s k || decide (k = b)) := by
  obtain ⟨c0, c1, c2, c3, c4, c5, c6⟩ := C.2.2.1 b hb
  have l3 := ln_le V b
  have hx : hf V b < 10 := by omega
  have mb : ∀ j, j < 32 → bt (nI (mskN (kd V b) (hf V b))) j = decide (hf V b < j ∧ j ≤ hf V b + ln V b) := fun j hj => msk_bit (kd V b) (by omega) (hf V b) hx j hj
  have e17 : ∀ v c j, (si h 15 w c v).1 17 (14 * w + b) j = h.1 17 (14 * w + b) j := fun _ _ _ => si_g h (by decide)
  have e16 : ∀ v c j, (si h 15 w c v).1 16 w j = h.1 16 w j := fun _ _ _ => si_g h (by decide)
  have cv : ∀ c j k, cvB V (fun k => s k || decide (k = b)) c j k = (cvB V s c j k || (decide (k = b) && (decide (co V b = c) && decide (hf V b < j ∧ j ≤ hf V b + ln V b)))) := fun c j k => by
    unfold cvB
    by_cases q : k = b
    · subst q
      rw [decide_eq_true (rfl : k = k)]
      cases s k <;> simp
    · simp [q]
  have cn : ∀ c j k, cnB V (fun k => s k || decide (k = b)) c j k = (cnB V s c j k || (decide (k = b) && ((decide (co V b = c) && decide (hf V b < j ∧ j ≤ hf V b + ln V b)) && !decide (kd V b = 5)))) := fun c j k => by
    unfold cnB
    rw [cv]
    by_cases q : k = b
    · subst q
      rw [decide_eq_true (rfl : k = k)]
      cases cvB V s c j k <;> simp
    · rw [decide_eq_false q]
      simp
  have rep : ∀ h' : Hp, (∀ c, c < 6 → h'.1 15 w c = if c = co V b then h.1 15 w c ||| nI (mskN (kd V b) (hf V b)) else h.1 15 w c) → (∀ c, c < 6 → h'.1 16 w c = if c = co V b ∧ ¬ kd V b = 5 then h.1 16 w c ||| nI (mskN (kd V b) (hf V b)) else h.1 16 w c) → Rep h' w V n (fun k => s k || decide (k = b)) := by
    intro h' z1 z2 c hc j hj
    obtain ⟨r1, r2⟩ := R c hc j hj
    rw [z1 c hc, z2 c hc, anyB_add hb (fun k _ => cv c j k), anyB_add hb (fun k _ => cn c j k), ← r1, ← r2]
    by_cases q : c = co V b
    · rw [if_pos q, b_or, mb j hj, decide_eq_true q.symm, Bool.true_and]
      refine ⟨rfl, ?_⟩
      by_cases q5 : kd V b = 5
      · rw [if_neg (fun z => z.2 q5), decide_eq_true q5]; simp
      · rw [if_pos ⟨q, q5⟩, b_or, mb j hj, decide_eq_false q5]; simp
    · rw [if_neg q, if_neg (fun z => q z.1), decide_eq_false (fun z => q z.symm)]
      simp
  unfold f_X4_fillHalves
  simp only [e17, e16, c0, c1, c3]
  rw [if_pos (inb_t (by omega) (by decide)), if_pos (inb_t (by omega) (by decide)), nI_clamp (by omega)]
  by_cases q5 : kd V b = 5
  · rw [if_pos (by rw [q5]; rfl)]
    refine ⟨_, rfl, ⟨fun g i j q => si_ne _ _ (by omega), rfl⟩, rep _ (fun c hc => ?_) (fun c hc => ?_)⟩
    · by_cases q : c = co V b
      · subst q; simp [si]
      · rw [if_neg q, si_ne _ _ (by omega)]
    · rw [if_neg (fun z => z.2 q5), si_ne _ _ (by omega)]
  · rw [if_neg (ne5 (by omega) q5), if_pos (inb_t (by omega) (by decide)), if_pos (inb_t (by omega) (by decide))]
    refine ⟨_, rfl, ⟨fun g i j q => by rw [si_ne _ _ (by omega), si_ne _ _ (by omega)], rfl⟩, rep _ (fun c hc => ?_) (fun c hc => ?_)⟩
    · by_cases q : c = co V b
      · subst q; rw [si_ne _ _ (by omega)]; simp [si]
      · rw [if_neg q, si_ne _ _ (by omega), si_ne _ _ (by omega)]
    · by_cases q : c = co V b
      · subst q; simp [si, q5]
      · rw [if_neg (fun z => q z.1), si_ne _ _ (by omega), si_ne _ _ (by omega)]
theorem X0_holds_any (a : Nat) (x y : Int32) (h : Hp) : ∃ r : Bool, f_X0_holds a x y h = some (bi r, h) := by
  unfold f_X0_holds f_X0_middle f_X0_sides
  rw [bnd_some, bnd_some]
  split
  · split
    · exact ⟨false, rfl⟩
    · exact ⟨true, rfl⟩
  split
  · split
    · exact ⟨false, rfl⟩
    · exact ⟨true, rfl⟩
  split
  · split
    · exact ⟨true, rfl⟩
    · split
      · exact ⟨false, rfl⟩
      · exact ⟨true, rfl⟩
  split
  · exact ⟨false, rfl⟩
  · exact ⟨true, rfl⟩
theorem Rep_congr {h : Hp} {s s' : Nat → Bool} (e : ∀ k, k < n → s k = s' k) (R : Rep h w V n s) : Rep h w V n s' := by
  intro c hc j hj
  obtain ⟨r1, r2⟩ := R c hc j hj
  rw [r1, r2]
  exact ⟨anyB_congr (fun k hk => by unfold cvB; rw [e k hk]), anyB_congr (fun k hk => by unfold cnB cvB; rw [e k hk])⟩
theorem X4_st_loop (th pr : Int32) (D : Dj V n (bt th)) (od : Nat → Nat) (o2 : ∀ b, b < n → ∃ i, i < n ∧ od i = b) (o3 : ∀ i j, i < j → j < n → rk V (od i) ≤ rk V (od j)) : ∀ (d i fuel : Nat) (S : Int32) (h : Hp), CB h w V n → (∀ i, i < n → h.1 13 w i = nI (od i) ∧ od i < n) → i + d = n → d < fuel → Rep h w V n (bt S) → (∀ b, b < n → bt S b = (anyB (fun p => decide (od p = b)) i && bt (lvS V n th pr 12) b)) → sub S n → ∃ h', f_X4_standing_b17 fuel w th S pr (nI i) h = some (lvS V n th pr 12, h') ∧ Sw w h h' ∧ Rep h' w V n (bt (lvS V n th pr 12)) := by
  intro d
  induction d with
  | zero =>
    intro i fuel S h C o1 hi hq R hS sS
    obtain ⟨f, rfl⟩ : ∃ f, fuel = f + 1 := ⟨fuel - 1, by omega⟩
    have hn := C.1
    have e : S = lvS V n th pr 12 := by
      apply b_ext
      intro j hj
      by_cases q : j < n
      · rw [hS j q]
        obtain ⟨p, p1, p2⟩ := o2 j q
        rw [anyB_iff.mpr ⟨p, by omega, decide_eq_true p2⟩, Bool.true_and]
      · rw [sS j (by omega), lvS_sub V th pr hn 12 j (by omega)]
    refine ⟨h, ?_, Sw.rfl', e ▸ R⟩
    show f_X4_standing_b17_body _ _ _ _ _ _ _ = _
    unfold f_X4_standing_b17_body
    rw [C.2.1, if_pos (nI_le (by omega) (by omega)), e]
  | succ d ih =>
    intro i fuel S h C o1 hi hq R hS sS
    obtain ⟨f, rfl⟩ : ∃ f, fuel = f + 1 := ⟨fuel - 1, by omega⟩
    have hn := C.1
    have hin : i < n := by omega
    obtain ⟨oi, hb⟩ := o1 i hin
    generalize hbd : od i = b at oi hb
    obtain ⟨c0, c1, c2, c3, c4, c5, c6⟩ := C.2.2.1 b hb
    have hc : ∀ b, b < n → co V b ≤ 5 := fun b hb => (C.2.2.1 b hb).2.2.2.2.2.1
    have eho : hoB V n (bt S) b = hoB V n (bt (lvS V n th pr 12)) b := by
      apply ho_congr
      intro k hk hr
      obtain ⟨p, p1, p2⟩ := o2 k hk
      have hp : p < i := by
        rcases Nat.lt_or_ge p i with z | z
        · exact z
        · rcases Nat.eq_or_lt_of_le z with z2 | z2
          · exfalso; rw [← z2, hbd] at p2; rw [p2] at hr; omega
          · have := o3 i p z2 p1
            rw [hbd, p2] at this
            omega
      rw [hS k hk, anyB_iff.mpr ⟨p, hp, decide_eq_true p2⟩, Bool.true_and]
    have eS := lv_FP V th pr hn hc b hb
    have nx : ∀ S' h1, Sw w h h1 → Rep h1 w V n (bt S') → (∀ k, k < n → bt S' k = (bt S k || (decide (k = b) && bt (lvS V n th pr 12) b))) → sub S' n → ∃ h', f_X4_standing_b117 (f_X4_standing_b17 f) w th S' pr (nI i) h1 = some (lvS V n th pr 12, h') ∧ Sw w h h' ∧ Rep h' w V n (bt (lvS V n th pr 12)) := by
      intro S' h1 w1 R1 e1 s1
      unfold f_X4_standing_b117
      rw [nI_1]
      obtain ⟨h', r1, r2, r3⟩ := ih (i + 1) f S' h1 (CB_sw w1 C) (fun j hj => by rw [w1.g (by decide) (by decide)]; exact o1 j hj) (by omega) (by omega) R1 (fun k hk => by
        rw [e1 k hk, hS k hk, show anyB (fun p => decide (od p = k)) (i + 1) = (anyB (fun p => decide (od p = k)) i || decide (od i = k)) from rfl, hbd]
        by_cases q : k = b
        · subst q; rw [decide_eq_true (rfl : k = k)]; cases anyB (fun p => decide (od p = k)) i <;> simp
        · simp [q, show ¬ b = k from fun z => q z.symm]) s1
      exact ⟨h', r1, Sw.tr w1 r2, r3⟩
    have fin : ∀ s0 : Bool, (bt th b = true → s0 = (bt pr b || hoB V n (bt S) b)) → ∃ h', f_X4_standing_b87 (f_X4_standing_b17 f) w th S pr (nI i) (nI b) (14 * w + b) (bi s0) h = some (lvS V n th pr 12, h') ∧ Sw w h h' ∧ Rep h' w V n (bt (lvS V n th pr 12)) := by
      intro s0 hs
      unfold f_X4_standing_b87
      rw [shr1 th (by omega)]
      have skip : bt (lvS V n th pr 12) b = false → ∃ h', f_X4_standing_b117 (f_X4_standing_b17 f) w th S pr (nI i) h = some (lvS V n th pr 12, h') ∧ Sw w h h' ∧ Rep h' w V n (bt (lvS V n th pr 12)) := fun z => nx S h Sw.rfl' R (fun k hk => by rw [z]; simp) sS
      cases ht : bt th b
      · rw [bi_f, if_pos (by decide)]
        exact skip (by rw [eS, ht]; rfl)
      · rw [bi_t, if_neg (fun z => z rfl)]
        have e0 := hs ht
        cases hs0 : s0
        · rw [bi_f, if_pos rfl]
          exact skip (by rw [eS, ← eho, ← e0, hs0]; simp)
        · rw [bi_t, if_neg (by decide)]
          have est : bt (lvS V n th pr 12) b = true := by rw [eS, ← eho, ← e0, hs0, ht]; rfl
          obtain ⟨h1, f1, f2, f3⟩ := X4_fillHalves C R hb
          rw [f1, bnd_some]
          have eb : ∀ k, k < n → bt (S ||| (1 : Int32) <<< (nI b &&& 31)) k = (bt S k || decide (k = b)) := fun k hk => by rw [b_or, b_one (by omega) (by omega)]
          refine nx _ h1 f2 (Rep_congr (fun k hk => (eb k hk).symm) f3) (fun k hk => by rw [eb k hk, est, Bool.and_true]) (fun k hk => ?_)
          rcases Nat.lt_or_ge k 32 with z | z
          · rw [b_or, b_one (by omega) z, sS k hk, decide_eq_false (by omega)]; rfl
          · exact b_big z
    show ∃ h', f_X4_standing_b17_body _ _ _ _ _ _ _ = _ ∧ _
    unfold f_X4_standing_b17_body f_X4_standing_b82
    rw [C.2.1, if_neg (nI_ge hin (by omega)), if_pos (inb_t (by omega) (by decide)), nI_clamp (by omega), oi, if_pos (inb_t (by omega) (by decide)), nI_clamp (by omega), shr1 pr (by omega)]
    cases hp : bt pr b
    · rw [bi_f, if_neg (by decide), c1]
      obtain ⟨v, v1, v2⟩ := X4_beneath C R hb
      rw [v1, bnd_some, c1, if_pos (inb_t (by omega) (by decide)), nI_clamp (by omega)]
      cases ht : bt th b
      · obtain ⟨r, hr⟩ := X0_holds_any (14 * w + b) v (h.1 16 w (co V b)) h
        rw [hr, bnd_some]
        cases r
        · rw [bi_f, if_pos rfl]
          exact fin false (fun z => by rw [ht] at z; cases z)
        · rw [bi_t, if_neg (by decide)]
          exact fin true (fun z => by rw [ht] at z; cases z)
      · rw [X0_holds C R D (fun k hk z => by
          rw [hS k hk, Bool.and_eq_true] at z
          exact lv_in V th pr hn hc hk z.2) hb ht v2, bnd_some]
        cases hr : hoB V n (bt S) b
        · rw [bi_f, if_pos rfl]
          exact fin false (fun z => by rw [hp, hr]; rfl)
        · rw [bi_t, if_neg (by decide)]
          exact fin true (fun z => by rw [hp, hr]; rfl)
    · rw [bi_t, if_pos rfl]
      exact fin true (fun z => by rw [hp]; rfl)
theorem X4_standing {h : Hp} (C : CB h w V n) (th wd : Int32) (D : Dj V n (bt th)) : ∃ h', f_X4_standing w th wd h = some (lvS V n th (wd ||| h.1 11 w 10) 12, h') ∧ Sw w h h' ∧ Rep h' w V n (bt (lvS V n th (wd ||| h.1 11 w 10) 12)) := by
  unfold f_X4_standing
  obtain ⟨h1, e1, e2, e3⟩ := X4_clearHalves w n V h
  rw [e1, bnd_some, e2.g (by decide) (by decide)]
  obtain ⟨od, o1, o2, o3⟩ := C.2.2.2
  obtain ⟨h', r1, r2, r3⟩ := X4_st_loop th (wd ||| h.1 11 w 10) D od o2 o3 n 0 200 0 h1 (CB_sw e2 C) (fun j hj => by rw [e2.g (by decide) (by decide)]; exact o1 j hj) (by omega) (by have := C.1; omega) (Rep_congr (fun k _ => (b_0 k).symm) e3) (fun b hb => by rw [b_0]; rfl) (fun k _ => b_0 k)
  exact ⟨h', r1, Sw.tr e2 r2, r3⟩
end CL2
