theorem ne5 {k : Nat} (hk : k < 2 ^ 31) (q : ¬ k = 5) : ¬ nI k = (5 : Int32) := fun z => q ((nI_eq (b := 5) hk (by decide)).mp z)
theorem ne1 {k : Nat} (hk : k < 2 ^ 31) (q : ¬ k = 1) : ¬ nI k = (1 : Int32) := fun z => q ((nI_eq (b := 1) hk (by decide)).mp z)
theorem mkb2 (p : Nat → Bool) : mkb p 2 = (if p 0 then 1 else 0) ||| (if p 1 then 2 else 0) := by
  unfold mkb mkb mkb
  cases p 0 <;> cases p 1 <;> decide
theorem mkb3 (p : Nat → Bool) : mkb p 3 = (if p 0 then 1 else 0) ||| (if p 1 then 2 else 0) ||| (if p 2 then 4 else 0) := by
  unfold mkb mkb mkb mkb
  cases p 0 <;> cases p 1 <;> cases p 2 <;> decide
def lfB (V : Wv) (s : Nat → Bool) (b k : Nat) : Bool := (s k && !decide (kd V k = 5)) && tcB V k b
def rtB (V : Wv) (s : Nat → Bool) (b k : Nat) : Bool := (s k && !decide (kd V k = 5)) && tcB V b k
/-- whether brick b stands of itself, by those that stand -/
def hoB (V : Wv) (n : Nat) (s : Nat → Bool) (b : Nat) : Bool :=
  if 4 ≤ kd V b then (rsB V n s b 0 && rsB V n s b 2) || (decide (kd V b = 5) && (anyB (lfB V s b) n && anyB (rtB V s b) n))
  else if kd V b = 1 then rsB V n s b 0 && rsB V n s b 1 else rsB V n s b 0 || rsB V n s b 1
section STD
variable {h : Hp} {V : Wv} {n : Nat}
theorem X6_arch (M : MB h V n) {b : Nat} (x v : Int32) (hb : b < n) : ∀ (d k fuel : Nat), k + d = n → d < fuel → f_X6_standsBy_b72 fuel (nI b) x v 5 (bi (anyB (lfB V (bt x) b) k)) (bi (anyB (rtB V (bt x) b) k)) (nI k) h = f_X6_standsBy_b174 v (bi (anyB (lfB V (bt x) b) n)) (bi (anyB (rtB V (bt x) b) n)) h := by
  have hn := M.1
  intro d
  induction d with
  | zero =>
    intro k fuel hk hq
    obtain ⟨f, rfl⟩ : ∃ f, fuel = f + 1 := ⟨fuel - 1, by omega⟩
    show f_X6_standsBy_b72_body _ _ _ _ _ _ _ _ _ = _
    unfold f_X6_standsBy_b72_body
    rw [M.2.1, if_pos (nI_le (by omega) (by omega)), show k = n by omega]
  | succ d ih =>
    intro k fuel hk hq
    obtain ⟨f, rfl⟩ : ∃ f, fuel = f + 1 := ⟨fuel - 1, by omega⟩
    have hkn : k < n := by omega
    have c2 := (M.2.2.2 k hkn).2.2.2
    generalize hg : f_X6_standsBy_b174 v (bi (anyB (lfB V (bt x) b) n)) (bi (anyB (rtB V (bt x) b) n)) h = G at ih ⊢
    have z166 : ∀ L R : Bool, L = anyB (lfB V (bt x) b) (k + 1) → R = anyB (rtB V (bt x) b) (k + 1) → f_X6_standsBy_b166 (f_X6_standsBy_b72 f) (nI b) x v 5 (bi L) (nI k) (bi R) h = G := by
      intro L R hL hR
      unfold f_X6_standsBy_b166
      rw [nI_1, hL, hR]
      exact ih (k + 1) f (by omega) (by omega)
    have z139 : ∀ L : Bool, ∀ may : Bool, may = (bt x k && !decide (kd V k = 5)) → L = anyB (lfB V (bt x) b) (k + 1) → f_X6_standsBy_b139 (f_X6_standsBy_b72 f) (nI b) x v 5 (bi (anyB (rtB V (bt x) b) k)) (nI k) (bi may) (bi L) h = G := by
      intro L may hm hL
      have hR : anyB (rtB V (bt x) b) (k + 1) = (anyB (rtB V (bt x) b) k || (may && tcB V b k)) := by rw [hm]; rfl
      unfold f_X6_standsBy_b139 f_X6_standsBy_b161 f_X6_standsBy_b165
      cases hr : anyB (rtB V (bt x) b) k
      · rw [if_neg (fun z => z rfl)]
        cases may
        · rw [bi_f, if_pos rfl]
          exact z166 L false hL (by rw [hR, hr]; rfl)
        · rw [bi_t, if_neg (by decide), X6_touches M hb hkn, bnd_some]
          cases ht : tcB V b k
          · rw [bi_f, if_pos rfl]
            exact z166 L false hL (by rw [hR, hr, ht]; rfl)
          · rw [bi_t, if_neg (by decide)]
            exact z166 L true hL (by rw [hR, hr, ht]; rfl)
      · rw [if_pos (by decide)]
        exact z166 L true hL (by rw [hR, hr]; rfl)
    have z112 : ∀ may : Bool, may = (bt x k && !decide (kd V k = 5)) → f_X6_standsBy_b112 (f_X6_standsBy_b72 f) (nI b) x v 5 (bi (anyB (lfB V (bt x) b) k)) (bi (anyB (rtB V (bt x) b) k)) (nI k) (bi may) h = G := by
      intro may hm
      have hL : anyB (lfB V (bt x) b) (k + 1) = (anyB (lfB V (bt x) b) k || (may && tcB V k b)) := by rw [hm]; rfl
      unfold f_X6_standsBy_b112 f_X6_standsBy_b134 f_X6_standsBy_b138
      cases hr : anyB (lfB V (bt x) b) k
      · rw [if_neg (fun z => z rfl)]
        cases hmay : may
        · rw [bi_f, if_pos rfl]
          exact z139 false false (hmay ▸ hm) (by rw [hL, hr, hmay]; rfl)
        · rw [bi_t, if_neg (by decide), X6_touches M hkn hb, bnd_some]
          cases ht : tcB V k b
          · rw [bi_f, if_pos rfl]
            exact z139 false true (hmay ▸ hm) (by rw [hL, hr, ht, hmay]; rfl)
          · rw [bi_t, if_neg (by decide)]
            exact z139 true true (hmay ▸ hm) (by rw [hL, hr, ht, hmay]; rfl)
      · rw [if_pos (by decide)]
        exact z139 true may hm (by rw [hL, hr]; rfl)
    show f_X6_standsBy_b72_body _ _ _ _ _ _ _ _ _ = _
    unfold f_X6_standsBy_b72_body f_X6_standsBy_b111
    rw [M.2.1, if_neg (nI_ge hkn (by omega)), if_neg (fun z => z rfl), X6_has x h (by omega), bnd_some]
    cases hs : bt x k
    · rw [bi_f, if_pos rfl]
      exact z112 false (by rw [hs]; rfl)
    · rw [bi_t, if_neg (by decide), M0 M hkn, bnd_some]
      by_cases q : kd V k = 5
      · rw [if_pos (by rw [q]; rfl)]
        exact z112 false (by rw [hs, decide_eq_true q]; rfl)
      · rw [if_neg (ne5 (by omega) q)]
        exact z112 true (by rw [hs, decide_eq_false q]; rfl)
theorem X6_standsBy (M : MB h V n) {b : Nat} (x pr : Int32) (hb : b < n) : f_X6_standsBy (nI b) x pr h = some (bi (bt pr b || hoB V n (bt x) b), h) := by
  have hn := M.1
  have c2 := (M.2.2.2 b hb).2.2.2
  unfold f_X6_standsBy
  rw [X6_has pr h (by omega), bnd_some]
  cases hp : bt pr b
  · rw [bi_f, if_pos rfl, X6_restsOn M x hb, bnd_some, M0 M hb, bnd_some, Bool.false_or]
    unfold hoB
    by_cases q : 4 ≤ kd V b
    · rw [if_pos (show (4 : Int32) ≤ nI (kd V b) from nI_le (a := 4) q (by omega)), if_pos q]
      have e3 : ln V b = 3 := by unfold ln; rw [if_pos q]
      rw [e3, mkb3]
      by_cases q5 : kd V b = 5
      · rw [q5]
        have key := X6_arch M x ((if rsB V n (bt x) b 0 then 1 else 0) ||| (if rsB V n (bt x) b 1 then 2 else 0) ||| (if rsB V n (bt x) b 2 then 4 else 0)) hb n 0 200 (by omega) (by omega)
        refine key.trans ?_
        unfold f_X6_standsBy_b174
        cases rsB V n (bt x) b 0 <;> cases rsB V n (bt x) b 1 <;> cases rsB V n (bt x) b 2 <;> cases anyB (lfB V (bt x) b) n <;> cases anyB (rtB V (bt x) b) n <;> rfl
      · have e4 : kd V b = 4 := by omega
        rw [e4]
        show f_X6_standsBy_b72_body _ _ _ _ _ _ _ _ _ = _
        unfold f_X6_standsBy_b72_body f_X6_standsBy_b174
        rw [if_pos (show ¬ nI 4 = (5 : Int32) by decide)]
        cases rsB V n (bt x) b 0 <;> cases rsB V n (bt x) b 1 <;> cases rsB V n (bt x) b 2 <;> (split <;> rfl)
    · rw [if_neg (show ¬ (4 : Int32) ≤ nI (kd V b) from nI_ge (b := 4) (by omega) (by decide)), if_neg q]
      have e2 : ln V b = 2 := by unfold ln; rw [if_neg q]
      rw [e2, mkb2]
      by_cases q1 : kd V b = 1
      · rw [q1, if_neg (fun z => z rfl), if_pos rfl]
        cases rsB V n (bt x) b 0 <;> cases rsB V n (bt x) b 1 <;> rfl
      · rw [if_pos (ne1 (by omega) q1), if_neg q1]
        cases rsB V n (bt x) b 0 <;> cases rsB V n (bt x) b 1 <;> rfl
  · rw [bi_t, if_neg (by decide), Bool.true_or]
    rfl
/-- one level of the standing ones -/
def dueB (V : Wv) (n : Nat) (th pr S : Int32) (l b : Nat) : Bool := (bt th b && decide (rk V b = l)) && (bt pr b || hoB V n (bt S) b)
def lvS (V : Wv) (n : Nat) (th pr : Int32) : Nat → Int32
  | 0 => 0
  | l + 1 => lvS V n th pr l ||| mkb (dueB V n th pr (lvS V n th pr l) l) n
theorem X6_level (M : MB h V n) (th pr S : Int32) {c ar : Nat} (hc : c ≤ 5) (har : ar ≤ 1) (k5 : Int32 → Int32 → Int32 → Int32 → Hp → Option (Int32 × Hp)) (k15 : Int32 → Int32 → Int32 → Int32 → Int32 → Hp → Option (Int32 × Hp)) : ∀ (d k fuel : Nat), k + d = n → d < fuel → f_X6_standing_b27 k5 k15 fuel th pr S (nI c) (nI ar) (S ||| mkb (dueB V n th pr S (2 * c + ar)) k) (nI k) h = k15 th pr (S ||| mkb (dueB V n th pr S (2 * c + ar)) n) (nI c) (nI (ar + 1)) h := by
  have hn := M.1
  intro d
  induction d with
  | zero =>
    intro k fuel hk hq
    obtain ⟨f, rfl⟩ : ∃ f, fuel = f + 1 := ⟨fuel - 1, by omega⟩
    show f_X6_standing_b27_body _ _ _ _ _ _ _ _ _ _ _ = _
    unfold f_X6_standing_b27_body
    rw [M.2.1, if_pos (nI_le (by omega) (by omega)), show k = n by omega, nI_1]
  | succ d ih =>
    intro k fuel hk hq
    obtain ⟨f, rfl⟩ : ∃ f, fuel = f + 1 := ⟨fuel - 1, by omega⟩
    have hkn : k < n := by omega
    have c2 := (M.2.2.2 k hkn).2.2.2
    generalize hG : k15 th pr (S ||| mkb (dueB V n th pr S (2 * c + ar)) n) (nI c) (nI (ar + 1)) h = G at ih ⊢
    have nx : ∀ z : Int32, z = (if dueB V n th pr S (2 * c + ar) k then (1 : Int32) <<< (nI k &&& 31) else 0) → f_X6_standing_b120 k5 k15 (f_X6_standing_b27 k5 k15 f) th pr S (nI c) (nI ar) (nI k) (S ||| mkb (dueB V n th pr S (2 * c + ar)) k) z h = G := by
      intro z hz
      unfold f_X6_standing_b120
      rw [nI_1, hz, Int32.or_assoc]
      exact ih (k + 1) f (by omega) (by omega)
    have no : dueB V n th pr S (2 * c + ar) k = false → f_X6_standing_b91 k5 k15 (f_X6_standing_b27 k5 k15 f) th pr S (nI c) (nI ar) (S ||| mkb (dueB V n th pr S (2 * c + ar)) k) (nI k) h = G := by
      intro z
      unfold f_X6_standing_b91 f_X6_standing_b92 f_X6_standing_b119
      rw [if_pos rfl]
      exact nx 0 (by rw [z]; rfl)
    have ye : (bt th k && decide (rk V k = 2 * c + ar)) = true → f_X6_standing_b92 k5 k15 (f_X6_standing_b27 k5 k15 f) th pr S (nI c) (nI ar) (S ||| mkb (dueB V n th pr S (2 * c + ar)) k) (nI k) 1 h = G := by
      intro z
      unfold f_X6_standing_b92 f_X6_standing_b119
      rw [if_neg (by decide), X6_standsBy M S pr hkn, bnd_some]
      have e : dueB V n th pr S (2 * c + ar) k = (bt pr k || hoB V n (bt S) k) := by unfold dueB; rw [z, Bool.true_and]
      cases hr : bt pr k || hoB V n (bt S) k
      · rw [bi_f, if_pos rfl]
        exact nx 0 (by rw [e, hr]; rfl)
      · rw [bi_t, if_neg (by decide)]
        exact nx _ (by rw [e, hr]; rfl)
    show f_X6_standing_b27_body _ _ _ _ _ _ _ _ _ _ _ = _
    unfold f_X6_standing_b27_body
    rw [M.2.1, if_neg (nI_ge hkn (by omega)), X6_has th h (by omega), bnd_some]
    cases hs : bt th k
    · rw [bi_f, if_pos rfl]
      exact no (by unfold dueB; rw [hs]; rfl)
    · rw [bi_t, if_neg (by decide), M1 M hkn, bnd_some]
      by_cases q : co V k = c
      · rw [if_neg (fun z => z (by rw [q])), M0 M hkn, bnd_some]
        unfold f_X6_standing_b73 f_X6_standing_b84
        rcases (show ar = 0 ∨ ar = 1 by omega) with rfl | rfl
        · by_cases q5 : kd V k = 5
          · rw [if_neg (fun z => z (by rw [q5]; rfl)), if_pos (by decide), if_pos (by decide)]
            exact no (by unfold dueB; rw [decide_eq_false (by unfold rk; rw [if_pos q5]; omega)]; simp)
          · rw [if_pos (ne5 (by omega) q5), if_pos (by decide), if_neg (fun z => z rfl)]
            exact ye (by rw [hs, decide_eq_true (by unfold rk; rw [if_neg q5]; omega)]; rfl)
        · by_cases q5 : kd V k = 5
          · rw [if_neg (fun z => z (by rw [q5]; rfl)), if_neg (fun z => z rfl), if_neg (fun z => z rfl)]
            exact ye (by rw [hs, decide_eq_true (by unfold rk; rw [if_pos q5]; omega)]; rfl)
          · rw [if_pos (ne5 (by omega) q5), if_neg (fun z => z rfl), if_pos (by decide)]
            exact no (by unfold dueB; rw [decide_eq_false (by unfold rk; rw [if_neg q5]; omega)]; simp)
      · rw [if_pos (fun z => q ((nI_eq (by omega) (by omega)).mp z))]
        exact no (by unfold dueB; rw [decide_eq_false (by unfold rk; split <;> omega)]; simp)
theorem or_0 (x : Int32) : x ||| mkb (fun _ => false) 0 = x := by
  show x ||| 0 = x
  exact Int32.or_zero
theorem X6_course (M : MB h V n) (th pr : Int32) : ∀ (d c fuel : Nat), c + d = 6 → d < fuel → f_X6_standing_b5 fuel th pr (lvS V n th pr (2 * c)) (nI c) h = some (lvS V n th pr 12, h) := by
  intro d
  induction d with
  | zero =>
    intro c fuel hc hq
    obtain ⟨f, rfl⟩ : ∃ f, fuel = f + 1 := ⟨fuel - 1, by omega⟩
    show f_X6_standing_b5_body _ _ _ _ _ _ = _
    unfold f_X6_standing_b5_body
    rw [show c = 6 by omega, if_pos (by decide)]
  | succ d ih =>
    intro c fuel hc hq
    obtain ⟨f, rfl⟩ : ∃ f, fuel = f + 1 := ⟨fuel - 1, by omega⟩
    show f_X6_standing_b5_body _ _ _ _ _ _ = _
    unfold f_X6_standing_b5_body
    rw [if_neg (show ¬ (6 : Int32) ≤ nI c from nI_ge (b := 6) (by omega) (by decide))]
    have s0 : ∀ (S : Int32) (k15), f_X6_standing_b27 (f_X6_standing_b5 f) k15 200 th pr S (nI c) (nI 0) S (nI 0) h = k15 th pr (S ||| mkb (dueB V n th pr S (2 * c + 0)) n) (nI c) (nI 1) h := fun S k15 => by
      have key := X6_level M th pr S (c := c) (ar := 0) (by omega) (by omega) (f_X6_standing_b5 f) k15 n 0 200 (by omega) (by have := M.1; omega)
      rw [show S ||| mkb (dueB V n th pr S (2 * c + 0)) 0 = S from Int32.or_zero] at key
      exact key
    have s1 : ∀ (S : Int32) (k15), f_X6_standing_b27 (f_X6_standing_b5 f) k15 200 th pr S (nI c) (nI 1) S (nI 0) h = k15 th pr (S ||| mkb (dueB V n th pr S (2 * c + 1)) n) (nI c) (nI 2) h := fun S k15 => by
      have key := X6_level M th pr S (c := c) (ar := 1) (by omega) (by omega) (f_X6_standing_b5 f) k15 n 0 200 (by omega) (by have := M.1; omega)
      rw [show S ||| mkb (dueB V n th pr S (2 * c + 1)) 0 = S from Int32.or_zero] at key
      exact key
    show f_X6_standing_b15_body (f_X6_standing_b5 f) (f_X6_standing_b15 (f_X6_standing_b5 f) 199) th pr _ (nI c) (nI 0) h = _
    unfold f_X6_standing_b15_body
    rw [if_neg (by decide)]
    refine (s0 _ _).trans ?_
    show f_X6_standing_b15_body (f_X6_standing_b5 f) (f_X6_standing_b15 (f_X6_standing_b5 f) 198) th pr _ (nI c) (nI 1) h = _
    unfold f_X6_standing_b15_body
    rw [if_neg (by decide)]
    refine (s1 _ _).trans ?_
    show f_X6_standing_b15_body (f_X6_standing_b5 f) (f_X6_standing_b15 (f_X6_standing_b5 f) 197) th pr _ (nI c) (nI 2) h = _
    unfold f_X6_standing_b15_body
    rw [if_pos (by decide), nI_1]
    exact ih (c + 1) f (by omega) (by omega)
theorem X6_standing (M : MB h V n) (th pr : Int32) : f_X6_standing th pr h = some (lvS V n th pr 12, h) := X6_course M th pr 6 0 200 (by omega) (by omega)
end STD
