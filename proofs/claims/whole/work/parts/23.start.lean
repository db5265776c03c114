/-- the heap behind the two constructors -/
def hp0 : Hp := (fun g _ j => match g with
  | 4 => -1
  | 8 => -1
  | 22 => -9
  | 25 => -9
  | 29 => if j = 0 ∨ j = 120 ∨ j = 240 then -9 else 0
  | _ => 0, (fun g _ j => match g with
  | 0 => if j = 9 then 1 else 0
  | 20 => if j = 4 then 1 else 0
  | _ => 0, none))
def adW (i : Nat) : Nat := match i with
  | 0 => 19
  | 1 => 39
  | 2 => 60
  | 3 => 80
  | _ => 100
def adF (fx fm : Nat → Nat) (b : Nat) : Ad := fun q => match q with
  | (g, i) => match g with
    | 0 => fx 0
    | 1 => fx 1
    | 2 => fx 2
    | 3 => fx (1 + (3 + i))
    | 4 => fx 3
    | 5 => fx 10
    | 6 => fx 11
    | 7 => fx (10 + (3 + i))
    | 8 => fx 12
    | 9 => fx 17
    | 10 => fx 18
    | 11 => fx (adW i)
    | 12 => fx (adW i + 1)
    | 13 => fx (adW i + 2)
    | 14 => fx (adW i + 3)
    | 15 => fx (adW i + 4)
    | 16 => fx (adW i + 5)
    | 17 => fx (adW (i / 14) + (6 + i % 14))
    | 18 => fx 59
    | 19 => fx 120
    | 20 => fm 0
    | 21 => fm 1
    | 22 => fm 2
    | 23 => fm 3
    | 24 => fm 4
    | 25 => fm 5
    | 26 => fm 6
    | 27 => fm 7
    | 28 => fm 8
    | 29 => fm 9
    | 99 => b
    | _ => 0
theorem P_split {D : va_G} {cl : List vw_C} {a b : va_W} {H : Heap} (hP : va_P D cl (a ++ b) H) : va_P D cl a H ∧ va_P D cl b H := by
  refine ⟨fun k q hq => hP k q ?_, fun k q hq => hP (a.length + k) q ?_⟩
  · rw [List.getElem?_append_left (List.getElem?_eq_some_iff.mp hq).1]
    exact hq
  · rw [List.getElem?_append_right (by omega), Nat.add_sub_cancel_left]
    exact hq
theorem D_seq {A : Nat → Prop} {ws wl : va_W} (hD : va_D A ws) (ps : List Nat) (hn : ps.Nodup) (hs : ps.map (fun i => (ws.map Prod.fst)[i]?) = (wl.map Prod.fst).map some) : va_D A wl := by
  have e : ∀ (k : Nat) (q : Nat × va_E), wl[k]? = some q → ∃ i z, ps[k]? = some i ∧ ws[i]? = some (q.1, z) := by
    intro k q hq
    have h1 := congrArg (fun l => l[k]?) hs
    simp only [List.getElem?_map, hq, Option.map_some] at h1
    cases hp : ps[k]? with
    | none => rw [hp] at h1; cases h1
    | some i =>
      rw [hp, Option.map_some] at h1
      cases hw : ws[i]? with
      | none => rw [hw] at h1; cases h1
      | some x =>
        rw [hw] at h1
        have e1 : x.1 = q.1 := Option.some.inj (Option.some.inj h1)
        exact ⟨i, x.2, rfl, by rw [hw, ← e1]⟩
  refine ⟨fun i j p q hp hq hpq => ?_, fun k q hq => ?_⟩
  · obtain ⟨a, za, ha, hwa⟩ := e i p hp
    obtain ⟨b, zb, hb, hwb⟩ := e j q hq
    have hab := hD.1 a b (p.1, za) (q.1, zb) hwa hwb hpq
    subst hab
    exact (List.getElem?_inj (List.getElem?_eq_some_iff.mp ha).1 hn).mp (ha.trans hb.symm)
  · obtain ⟨a, za, ha, hwa⟩ := e k q hq
    exact hD.2 a (q.1, za) hwa
set_option maxRecDepth 100000 in
theorem ws_fst {cy : Nat → ClassId} {fx fm : Nat → Nat} : (dryW cy fx ++ modelW cy fm).map Prod.fst = [fx 0, fx 1, fx 2, fx 4, fx 5, fx 6, fx 7, fx 8, fx 9, fx 3, fx 10, fx 11, fx 13, fx 14, fx 15, fx 16, fx 12, fx 17, fx 19, fx 20, fx 21, fx 22, fx 23, fx 24, fx 25, fx 26, fx 27, fx 28, fx 29, fx 30, fx 31, fx 32, fx 33, fx 34, fx 35, fx 36, fx 37, fx 38, fx 18, fx 39, fx 40, fx 41, fx 42, fx 43, fx 44, fx 45, fx 46, fx 47, fx 48, fx 49, fx 50, fx 51, fx 52, fx 53, fx 54, fx 55, fx 56, fx 57, fx 58, fx 59, fx 60, fx 61, fx 62, fx 63, fx 64, fx 65, fx 66, fx 67, fx 68, fx 69, fx 70, fx 71, fx 72, fx 73, fx 74, fx 75, fx 76, fx 77, fx 78, fx 79, fx 80, fx 81, fx 82, fx 83, fx 84, fx 85, fx 86, fx 87, fx 88, fx 89, fx 90, fx 91, fx 92, fx 93, fx 94, fx 95, fx 96, fx 97, fx 98, fx 99, fx 100, fx 101, fx 102, fx 103, fx 104, fx 105, fx 106, fx 107, fx 108, fx 109, fx 110, fx 111, fx 112, fx 113, fx 114, fx 115, fx 116, fx 117, fx 118, fx 119, fx 120, fm 0, fm 1, fm 2, fm 3, fm 4, fm 5, fm 6, fm 7, fm 8, fm 9] := rfl
set_option maxRecDepth 100000 in
theorem ad_fst {cy : Nat → ClassId} {fx fm : Nat → Nat} {b : Nat} {h : Hp} : (wld cy (adF fx fm b) h).map Prod.fst = [fx 0, fx 1, fx 2, fx 4, fx 5, fx 6, fx 7, fx 8, fx 9, fx 3, fx 10, fx 11, fx 13, fx 14, fx 15, fx 16, fx 12, fx 17, fx 18, fx 19, fx 39, fx 60, fx 80, fx 100, fx 20, fx 40, fx 61, fx 81, fx 101, fx 21, fx 41, fx 62, fx 82, fx 102, fx 22, fx 42, fx 63, fx 83, fx 103, fx 23, fx 43, fx 64, fx 84, fx 104, fx 24, fx 44, fx 65, fx 85, fx 105, fx 25, fx 26, fx 27, fx 28, fx 29, fx 30, fx 31, fx 32, fx 33, fx 34, fx 35, fx 36, fx 37, fx 38, fx 45, fx 46, fx 47, fx 48, fx 49, fx 50, fx 51, fx 52, fx 53, fx 54, fx 55, fx 56, fx 57, fx 58, fx 66, fx 67, fx 68, fx 69, fx 70, fx 71, fx 72, fx 73, fx 74, fx 75, fx 76, fx 77, fx 78, fx 79, fx 86, fx 87, fx 88, fx 89, fx 90, fx 91, fx 92, fx 93, fx 94, fx 95, fx 96, fx 97, fx 98, fx 99, fx 106, fx 107, fx 108, fx 109, fx 110, fx 111, fx 112, fx 113, fx 114, fx 115, fx 116, fx 117, fx 118, fx 119, fx 59, fx 120, fm 0, fm 1, fm 2, fm 3, fm 4, fm 5, fm 6, fm 7, fm 8, fm 9] := by
  unfold wld
  rw [List.map_map]
  rfl
set_option maxRecDepth 100000 in
theorem wld_Dof {cy : Nat → ClassId} {A : Nat → Prop} {fx fm : Nat → Nat} (b : Nat) (hD : va_D A (dryW cy fx ++ modelW cy fm)) : va_D A (wld cy (adF fx fm b) hp0) := D_seq hD [0, 1, 2, 3, 4, 5, 6, 7, 8, 9, 10, 11, 12, 13, 14, 15, 16, 17, 38, 18, 39, 60, 80, 100, 19, 40, 61, 81, 101, 20, 41, 62, 82, 102, 21, 42, 63, 83, 103, 22, 43, 64, 84, 104, 23, 44, 65, 85, 105, 24, 25, 26, 27, 28, 29, 30, 31, 32, 33, 34, 35, 36, 37, 45, 46, 47, 48, 49, 50, 51, 52, 53, 54, 55, 56, 57, 58, 66, 67, 68, 69, 70, 71, 72, 73, 74, 75, 76, 77, 78, 79, 86, 87, 88, 89, 90, 91, 92, 93, 94, 95, 96, 97, 98, 99, 106, 107, 108, 109, 110, 111, 112, 113, 114, 115, 116, 117, 118, 119, 59, 120, 121, 122, 123, 124, 125, 126, 127, 128, 129, 130] (by decide +kernel) (by rw [ws_fst, ad_fst]; rfl)
set_option maxHeartbeats 8000000 in
set_option maxRecDepth 100000 in
theorem wld_Pof {D : va_G} {cy : Nat → ClassId} {H : Heap} {fx fm : Nat → Nat} (b : Nat) (hP : va_P D vwCl (dryW cy fx ++ modelW cy fm) H) : ∀ g i, i < cnt g → va_at D vwCl (adF fx fm b (g, i), cont cy (adF fx fm b) hp0 (g, i)) H := by
  obtain ⟨hd, hM⟩ := P_split hP
  unfold dryW at hd
  obtain ⟨hd, hF⟩ := P_split hd
  obtain ⟨hd, hW4⟩ := P_split hd
  obtain ⟨hd, hW3⟩ := P_split hd
  obtain ⟨hd, hW2⟩ := P_split hd
  obtain ⟨hd, hKp⟩ := P_split hd
  obtain ⟨hd, hW1⟩ := P_split hd
  obtain ⟨hd, hRd⟩ := P_split hd
  obtain ⟨hd, hTx⟩ := P_split hd
  obtain ⟨hd, hRw⟩ := P_split hd
  unfold readerW at hRd
  obtain ⟨hRd, hEm⟩ := P_split hRd
  obtain ⟨hRd, hW0⟩ := P_split hRd
  intro g i hi
  match g, hi with
  | 0, hi =>
    have hi : i < 1 := hi
    match i, hi with
    | 0, _ => exact hd 0 _ rfl
    | k + 1, hi => exact absurd hi (by omega)
  | 1, hi =>
    have hi : i < 1 := hi
    match i, hi with
    | 0, _ => exact hRw 0 _ rfl
    | k + 1, hi => exact absurd hi (by omega)
  | 2, hi =>
    have hi : i < 1 := hi
    match i, hi with
    | 0, _ => exact hRw 1 _ rfl
    | k + 1, hi => exact absurd hi (by omega)
  | 3, hi =>
    have hi : i < 6 := hi
    match i, hi with
    | 0, _ => exact hRw 2 _ rfl
    | 1, _ => exact hRw 3 _ rfl
    | 2, _ => exact hRw 4 _ rfl
    | 3, _ => exact hRw 5 _ rfl
    | 4, _ => exact hRw 6 _ rfl
    | 5, _ => exact hRw 7 _ rfl
    | k + 6, hi => exact absurd hi (by omega)
  | 4, hi =>
    have hi : i < 1 := hi
    match i, hi with
    | 0, _ => exact hRw 8 _ rfl
    | k + 1, hi => exact absurd hi (by omega)
  | 5, hi =>
    have hi : i < 1 := hi
    match i, hi with
    | 0, _ => exact hTx 0 _ rfl
    | k + 1, hi => exact absurd hi (by omega)
  | 6, hi =>
    have hi : i < 1 := hi
    match i, hi with
    | 0, _ => exact hTx 1 _ rfl
    | k + 1, hi => exact absurd hi (by omega)
  | 7, hi =>
    have hi : i < 4 := hi
    match i, hi with
    | 0, _ => exact hTx 2 _ rfl
    | 1, _ => exact hTx 3 _ rfl
    | 2, _ => exact hTx 4 _ rfl
    | 3, _ => exact hTx 5 _ rfl
    | k + 4, hi => exact absurd hi (by omega)
  | 8, hi =>
    have hi : i < 1 := hi
    match i, hi with
    | 0, _ => exact hTx 6 _ rfl
    | k + 1, hi => exact absurd hi (by omega)
  | 9, hi =>
    have hi : i < 1 := hi
    match i, hi with
    | 0, _ => exact hRd 0 _ rfl
    | k + 1, hi => exact absurd hi (by omega)
  | 10, hi =>
    have hi : i < 1 := hi
    match i, hi with
    | 0, _ => exact hEm 0 _ rfl
    | k + 1, hi => exact absurd hi (by omega)
  | 11, hi =>
    have hi : i < 5 := hi
    match i, hi with
    | 0, _ => exact hW0 0 _ rfl
    | 1, _ => exact hW1 0 _ rfl
    | 2, _ => exact hW2 0 _ rfl
    | 3, _ => exact hW3 0 _ rfl
    | 4, _ => exact hW4 0 _ rfl
    | k + 5, hi => exact absurd hi (by omega)
  | 12, hi =>
    have hi : i < 5 := hi
    match i, hi with
    | 0, _ => exact at_refs (fun j hj => by rcases (show j = 0 ∨ j = 1 ∨ j = 2 ∨ j = 3 ∨ j = 4 ∨ j = 5 ∨ j = 6 ∨ j = 7 ∨ j = 8 ∨ j = 9 ∨ j = 10 ∨ j = 11 ∨ j = 12 ∨ j = 13 by omega) with rfl | rfl | rfl | rfl | rfl | rfl | rfl | rfl | rfl | rfl | rfl | rfl | rfl | rfl <;> rfl) (hW0 1 _ rfl)
    | 1, _ => exact at_refs (fun j hj => by rcases (show j = 0 ∨ j = 1 ∨ j = 2 ∨ j = 3 ∨ j = 4 ∨ j = 5 ∨ j = 6 ∨ j = 7 ∨ j = 8 ∨ j = 9 ∨ j = 10 ∨ j = 11 ∨ j = 12 ∨ j = 13 by omega) with rfl | rfl | rfl | rfl | rfl | rfl | rfl | rfl | rfl | rfl | rfl | rfl | rfl | rfl <;> rfl) (hW1 1 _ rfl)
    | 2, _ => exact at_refs (fun j hj => by rcases (show j = 0 ∨ j = 1 ∨ j = 2 ∨ j = 3 ∨ j = 4 ∨ j = 5 ∨ j = 6 ∨ j = 7 ∨ j = 8 ∨ j = 9 ∨ j = 10 ∨ j = 11 ∨ j = 12 ∨ j = 13 by omega) with rfl | rfl | rfl | rfl | rfl | rfl | rfl | rfl | rfl | rfl | rfl | rfl | rfl | rfl <;> rfl) (hW2 1 _ rfl)
    | 3, _ => exact at_refs (fun j hj => by rcases (show j = 0 ∨ j = 1 ∨ j = 2 ∨ j = 3 ∨ j = 4 ∨ j = 5 ∨ j = 6 ∨ j = 7 ∨ j = 8 ∨ j = 9 ∨ j = 10 ∨ j = 11 ∨ j = 12 ∨ j = 13 by omega) with rfl | rfl | rfl | rfl | rfl | rfl | rfl | rfl | rfl | rfl | rfl | rfl | rfl | rfl <;> rfl) (hW3 1 _ rfl)
    | 4, _ => exact at_refs (fun j hj => by rcases (show j = 0 ∨ j = 1 ∨ j = 2 ∨ j = 3 ∨ j = 4 ∨ j = 5 ∨ j = 6 ∨ j = 7 ∨ j = 8 ∨ j = 9 ∨ j = 10 ∨ j = 11 ∨ j = 12 ∨ j = 13 by omega) with rfl | rfl | rfl | rfl | rfl | rfl | rfl | rfl | rfl | rfl | rfl | rfl | rfl | rfl <;> rfl) (hW4 1 _ rfl)
    | k + 5, hi => exact absurd hi (by omega)
  | 13, hi =>
    have hi : i < 5 := hi
    match i, hi with
    | 0, _ => exact hW0 2 _ rfl
    | 1, _ => exact hW1 2 _ rfl
    | 2, _ => exact hW2 2 _ rfl
    | 3, _ => exact hW3 2 _ rfl
    | 4, _ => exact hW4 2 _ rfl
    | k + 5, hi => exact absurd hi (by omega)
  | 14, hi =>
    have hi : i < 5 := hi
    match i, hi with
    | 0, _ => exact hW0 3 _ rfl
    | 1, _ => exact hW1 3 _ rfl
    | 2, _ => exact hW2 3 _ rfl
    | 3, _ => exact hW3 3 _ rfl
    | 4, _ => exact hW4 3 _ rfl
    | k + 5, hi => exact absurd hi (by omega)
  | 15, hi =>
    have hi : i < 5 := hi
    match i, hi with
    | 0, _ => exact hW0 4 _ rfl
    | 1, _ => exact hW1 4 _ rfl
    | 2, _ => exact hW2 4 _ rfl
    | 3, _ => exact hW3 4 _ rfl
    | 4, _ => exact hW4 4 _ rfl
    | k + 5, hi => exact absurd hi (by omega)
  | 16, hi =>
    have hi : i < 5 := hi
    match i, hi with
    | 0, _ => exact hW0 5 _ rfl
    | 1, _ => exact hW1 5 _ rfl
    | 2, _ => exact hW2 5 _ rfl
    | 3, _ => exact hW3 5 _ rfl
    | 4, _ => exact hW4 5 _ rfl
    | k + 5, hi => exact absurd hi (by omega)
  | 17, hi =>
    have hi : i < 70 := hi
    match i, hi with
    | 0, _ => exact hW0 6 _ rfl
    | 1, _ => exact hW0 7 _ rfl
    | 2, _ => exact hW0 8 _ rfl
    | 3, _ => exact hW0 9 _ rfl
    | 4, _ => exact hW0 10 _ rfl
    | 5, _ => exact hW0 11 _ rfl
    | 6, _ => exact hW0 12 _ rfl
    | 7, _ => exact hW0 13 _ rfl
    | 8, _ => exact hW0 14 _ rfl
    | 9, _ => exact hW0 15 _ rfl
    | 10, _ => exact hW0 16 _ rfl
    | 11, _ => exact hW0 17 _ rfl
    | 12, _ => exact hW0 18 _ rfl
    | 13, _ => exact hW0 19 _ rfl
    | 14, _ => exact hW1 6 _ rfl
    | 15, _ => exact hW1 7 _ rfl
    | 16, _ => exact hW1 8 _ rfl
    | 17, _ => exact hW1 9 _ rfl
    | 18, _ => exact hW1 10 _ rfl
    | 19, _ => exact hW1 11 _ rfl
    | 20, _ => exact hW1 12 _ rfl
    | 21, _ => exact hW1 13 _ rfl
    | 22, _ => exact hW1 14 _ rfl
    | 23, _ => exact hW1 15 _ rfl
    | 24, _ => exact hW1 16 _ rfl
    | 25, _ => exact hW1 17 _ rfl
    | 26, _ => exact hW1 18 _ rfl
    | 27, _ => exact hW1 19 _ rfl
    | 28, _ => exact hW2 6 _ rfl
    | 29, _ => exact hW2 7 _ rfl
    | 30, _ => exact hW2 8 _ rfl
    | 31, _ => exact hW2 9 _ rfl
    | 32, _ => exact hW2 10 _ rfl
    | 33, _ => exact hW2 11 _ rfl
    | 34, _ => exact hW2 12 _ rfl
    | 35, _ => exact hW2 13 _ rfl
    | 36, _ => exact hW2 14 _ rfl
    | 37, _ => exact hW2 15 _ rfl
    | 38, _ => exact hW2 16 _ rfl
    | 39, _ => exact hW2 17 _ rfl
    | 40, _ => exact hW2 18 _ rfl
    | 41, _ => exact hW2 19 _ rfl
    | 42, _ => exact hW3 6 _ rfl
    | 43, _ => exact hW3 7 _ rfl
    | 44, _ => exact hW3 8 _ rfl
    | 45, _ => exact hW3 9 _ rfl
    | 46, _ => exact hW3 10 _ rfl
    | 47, _ => exact hW3 11 _ rfl
    | 48, _ => exact hW3 12 _ rfl
    | 49, _ => exact hW3 13 _ rfl
    | 50, _ => exact hW3 14 _ rfl
    | 51, _ => exact hW3 15 _ rfl
    | 52, _ => exact hW3 16 _ rfl
    | 53, _ => exact hW3 17 _ rfl
    | 54, _ => exact hW3 18 _ rfl
    | 55, _ => exact hW3 19 _ rfl
    | 56, _ => exact hW4 6 _ rfl
    | 57, _ => exact hW4 7 _ rfl
    | 58, _ => exact hW4 8 _ rfl
    | 59, _ => exact hW4 9 _ rfl
    | 60, _ => exact hW4 10 _ rfl
    | 61, _ => exact hW4 11 _ rfl
    | 62, _ => exact hW4 12 _ rfl
    | 63, _ => exact hW4 13 _ rfl
    | 64, _ => exact hW4 14 _ rfl
    | 65, _ => exact hW4 15 _ rfl
    | 66, _ => exact hW4 16 _ rfl
    | 67, _ => exact hW4 17 _ rfl
    | 68, _ => exact hW4 18 _ rfl
    | 69, _ => exact hW4 19 _ rfl
    | k + 70, hi => exact absurd hi (by omega)
  | 18, hi =>
    have hi : i < 1 := hi
    match i, hi with
    | 0, _ => exact at_refs (fun j hj => by rcases (show j = 0 ∨ j = 1 ∨ j = 2 by omega) with rfl | rfl | rfl <;> rfl) (hKp 0 _ rfl)
    | k + 1, hi => exact absurd hi (by omega)
  | 19, hi =>
    have hi : i < 1 := hi
    match i, hi with
    | 0, _ => exact hF 0 _ rfl
    | k + 1, hi => exact absurd hi (by omega)
  | 20, hi =>
    have hi : i < 1 := hi
    match i, hi with
    | 0, _ => exact hM 0 _ rfl
    | k + 1, hi => exact absurd hi (by omega)
  | 21, hi =>
    have hi : i < 1 := hi
    match i, hi with
    | 0, _ => exact hM 1 _ rfl
    | k + 1, hi => exact absurd hi (by omega)
  | 22, hi =>
    have hi : i < 1 := hi
    match i, hi with
    | 0, _ => exact hM 2 _ rfl
    | k + 1, hi => exact absurd hi (by omega)
  | 23, hi =>
    have hi : i < 1 := hi
    match i, hi with
    | 0, _ => exact hM 3 _ rfl
    | k + 1, hi => exact absurd hi (by omega)
  | 24, hi =>
    have hi : i < 1 := hi
    match i, hi with
    | 0, _ => exact hM 4 _ rfl
    | k + 1, hi => exact absurd hi (by omega)
  | 25, hi =>
    have hi : i < 1 := hi
    match i, hi with
    | 0, _ => exact hM 5 _ rfl
    | k + 1, hi => exact absurd hi (by omega)
  | 26, hi =>
    have hi : i < 1 := hi
    match i, hi with
    | 0, _ => exact hM 6 _ rfl
    | k + 1, hi => exact absurd hi (by omega)
  | 27, hi =>
    have hi : i < 1 := hi
    match i, hi with
    | 0, _ => exact hM 7 _ rfl
    | k + 1, hi => exact absurd hi (by omega)
  | 28, hi =>
    have hi : i < 1 := hi
    match i, hi with
    | 0, _ => exact hM 8 _ rfl
    | k + 1, hi => exact absurd hi (by omega)
  | 29, hi =>
    have hi : i < 1 := hi
    match i, hi with
    | 0, _ => exact hM 9 _ rfl
    | k + 1, hi => exact absurd hi (by omega)
  | g + 30, hi => exact absurd (cnt_30 hi) (by omega)
theorem wld_of {D : va_G} {cy : Nat → ClassId} {A : Nat → Prop} {H : Heap} {fx fm : Nat → Nat} (b : Nat) (hP : va_P D vwCl (dryW cy fx ++ modelW cy fm) H) (hD : va_D A (dryW cy fx ++ modelW cy fm)) : va_P D vwCl (wld cy (adF fx fm b) hp0) H ∧ va_D A (wld cy (adF fx fm b) hp0) := by
  refine ⟨fun k q hq => ?_, wld_Dof b hD⟩
  unfold wld at hq
  rw [List.getElem?_map] at hq
  cases hc : cells[k]? with
  | none => rw [hc] at hq; cases hq
  | some p =>
    rw [hc] at hq
    cases hq
    obtain ⟨g, h1, h2⟩ := List.mem_flatMap.mp (List.mem_of_getElem? hc)
    obtain ⟨i, h3, h4⟩ := List.mem_map.mp h2
    cases h4
    exact wld_Pof b hP g i (List.mem_range.mp h3)
/-- the classes of arrays -/
theorem tys_of {D : va_G} {s : State} {args : Array Value} (hcl : ∀ (c : Nat) (q : vw_C), vwCl[c]? = some q → u_Kn s q.1 q.2.1 q.2.2 (D.1 c) (D.2 c)) (h0 : (Cond.arrayClass .int).before args s = true) (h1 : (Cond.arrayClass .byte).before args s = true) (h2 : (Cond.arrayOver (.object "DryBargains$Brick")).before args s = true) (h3 : (Cond.arrayOver (.object "DryBargains$Wall")).before args s = true) (h4 : (Cond.arrayOver (.array .int)).before args s = true) (h5 : (Cond.arrayOver (.array .byte)).before args s = true) : ∃ cy : Nat → ClassId, va_K D vwCl (tyL cy) s := by
  obtain ⟨c0, k0, p0, a0, b0, d0⟩ := Cond.arrayClass_spec h0
  obtain ⟨c1, k1, p1, a1, b1, d1⟩ := Cond.arrayClass_spec h1
  obtain ⟨p2, c2, k2, e2, -, b2, d2, a2⟩ := Cond.arrayOver_spec h2
  obtain ⟨p3, c3, k3, e3, -, b3, d3, a3⟩ := Cond.arrayOver_spec h3
  obtain ⟨p4, c4, k4, e4, -, b4, d4, a4⟩ := Jvm.Stand.arrayOver_specB h4
  obtain ⟨p5, c5, k5, e5, -, b5, d5, a5⟩ := Jvm.Stand.arrayOver_specB h5
  refine ⟨fun k => [c0, c1, c2, c3, c4, c5].getD k 0, hcl, ?_⟩
  intro k q hk
  match k, hk with
  | 0, hk => cases hk; exact ⟨fun N z => ⟨(fun q hq => by cases hq), k0, b0, p0, d0⟩, a0⟩
  | 1, hk => cases hk; exact ⟨fun N z => ⟨(fun q hq => by cases hq), k1, b1, p1, d1⟩, a1⟩
  | 2, hk => cases hk; exact ⟨fun N z => ⟨(fun q hq => by cases hq), k2, b2, p2, d2⟩, ⟨k2, p2, b2, d2, e2, a2⟩⟩
  | 3, hk => cases hk; exact ⟨fun N z => ⟨(fun q hq => by cases hq), k3, b3, p3, d3⟩, ⟨k3, p3, b3, d3, e3, a3⟩⟩
  | 4, hk => cases hk; exact ⟨fun N z => ⟨(fun q hq => by cases hq), k4, b4, p4, d4⟩, a4⟩
  | 5, hk => cases hk; exact ⟨fun N z => ⟨(fun q hq => by cases hq), k5, b5, p5, d5⟩, a5⟩
  | k + 6, hk => simp [tyL] at hk
set_option maxHeartbeats 8000000 in
set_option maxRecDepth 100000 in
/-- the law from its entry, given a step that keeps an invariant -/
theorem start_of {Inv : Hp → Prop} (S : LawStp Inv) (hI0 : Inv hp0) {p : Program} {e : Env} {s : State} {m : MethodId} {below : List Frame} {meth : Method} {c : Code} (l : Launch) {b L : Nat} {xs : Nat → Int32} (hL : L ≤ 384) (C0 : lw_At p s m meth c b L xs) : W p l e room_1 s m #[Value.ref b] below meth c s.heap [] 0 0 (lw_Z below #[Value.ref b] s) (entryFrame m ([Value.ref b] : List Value).toArray 4) := by
  obtain ⟨hx, hb, hr, hml, hown, hts0, hX, hbl, hlocks, hgv⟩ := id C0
  have hts : ∀ w ∈ gtb, w.before #[Value.ref b] s = true := fun w hw => hts0 w (List.mem_filter.mp hw).1
  have hA : ∀ q : Nat, s.heap.size ≤ q → (fun q : Nat => s.heap.size ≤ q) q := fun _ h => h
  have hbA : ¬ (fun q : Nat => s.heap.size ≤ q) b := Nat.not_le.mpr hbl
  obtain ⟨c0, iS0, hKn0⟩ := u_known (C := RX0) (T := TX0) (N := 8) (n := 8) hts inGX0 (hts (.instantiable RX0 8) (gt_m 115 rfl rfl))
  obtain ⟨c1, iS1, hKn1⟩ := u_known (C := RX1) (T := TX1) (N := 4) (n := 4) hts inGX1 (hts (.instantiable RX1 4) (gt_m 102 rfl rfl))
  obtain ⟨c2, iS2, hKn2⟩ := u_known (C := RX2) (T := TX2) (N := 2) (n := 2) hts inGX2 (hts (.instantiable RX2 2) (gt_m 66 rfl rfl))
  obtain ⟨c3, iS3, hKn3⟩ := u_known (C := RX3) (T := TX3) (N := 2) (n := 2) hts inGX3 (hts (.instantiable RX3 2) (gt_m 84 rfl rfl))
  obtain ⟨c4, iS4, hKn4⟩ := u_known (C := RX4) (T := TX4) (N := 14) (n := 14) hts inGX4 (hts (.instantiable RX4 14) (gt_m 108 rfl rfl))
  obtain ⟨c5, iS5, hKn5⟩ := u_known (C := RX5) (T := TX5) (N := 10) (n := 10) hts inGX5 (hts (.instantiable RX5 10) (gt_m 58 rfl rfl))
  obtain ⟨c6, iS6, hKn6⟩ := u_known (C := RX6) (T := TX6) (N := 25) (n := 25) hts inGX6 (hts (.instantiable RX6 25) (gt_m 810 rfl rfl))
  obtain ⟨D, hKc⟩ : ∃ D : va_G, ∀ (k : Nat) (q : vw_C), vwCl[k]? = some q → u_Kn s q.1 q.2.1 q.2.2 (D.1 k) (D.2 k) := by
    refine ⟨(fun k => [c0, c1, c2, c3, c4, c5, c6].getD k 0, fun k => [iS0, iS1, iS2, iS3, iS4, iS5, iS6].getD k iS0), ?_⟩
    intro k q hq
    match k, hq with
    | 0, hq => cases hq; exact hKn0
    | 1, hq => cases hq; exact hKn1
    | 2, hq => cases hq; exact hKn2
    | 3, hq => cases hq; exact hKn3
    | 4, hq => cases hq; exact hKn4
    | 5, hq => cases hq; exact hKn5
    | 6, hq => cases hq; exact hKn6
    | k + 7, hq => simp [vwCl] at hq
  have o2 : (Cond.arrayOver (.object "DryBargains$Brick")).before #[Value.ref b] s = true := (hts0 _ (List.mem_of_getElem? (i := 114) rfl))
  have o3 : (Cond.arrayOver (.object "DryBargains$Wall")).before #[Value.ref b] s = true := (hts0 _ (List.mem_of_getElem? (i := 227) rfl))
  have o4 : (Cond.arrayOver (.array .int)).before #[Value.ref b] s = true := (hts0 _ (List.mem_of_getElem? (i := 72) rfl))
  have o5 : (Cond.arrayOver (.array .byte)).before #[Value.ref b] s = true := (hts0 _ (List.mem_of_getElem? (i := 90) rfl))
  obtain ⟨cy, hK⟩ := tys_of (D := D) hKc (hts0 (.arrayClass .int) (List.mem_of_getElem? (i := 82) rfl)) (hts0 (.arrayClass .byte) (List.mem_of_getElem? (i := 100) rfl)) o2 o3 o4 o5
  have hN : kN s := ⟨va_Nw.of rfl (hts0 _ (List.mem_of_getElem? (i := 103) rfl)), va_Nw.of rfl (hts0 _ (List.mem_of_getElem? (i := 116) rfl)), va_AO.of o2, va_AO.of o3, Jvm.Stand.arrayOver_alikeB (Vm.Alike.refl s.vm) o4, Jvm.Stand.arrayOver_alikeB (Vm.Alike.refl s.vm) o5⟩
  have hS : va_S (fun q : Nat => s.heap.size ≤ q) s.heap s.heap [] := va_S.rf
  have hP : va_P D vwCl [] s.heap := fun k q h => by simp at h
  have hD : va_D (fun q : Nat => s.heap.size ≤ q) [] := ⟨fun i j p q h => by simp at h, fun k q h => by simp at h⟩
  have hl := lv_entry ([.ref b]) (n := 4) (Nat.le_of_ble_eq_true rfl)
  rw [lg_entry_eq]
  generalize (lg_sl ([.ref b]) ++ List.replicate (4 - (lg_sl ([.ref b])).length) Slot.unset).toArray = ls at hl ⊢
  have hl : lv_has ls 4 [(0, .ref b)] := hl
  refine va_new (ci := 5) (fs := [.null, .null, .null, .null, .null, .null, .int 0, .int 0, .long 0, .long 0]) (C := RX5) (T := TX5) (N := 10) hx hb hts inGX5 tyX5 tyX5_ok hown (hts _ (gt_m 57 rfl rfl)) (hts _ (gt_m 58 rfl rfl)) (hts _ (gt_m 47 rfl rfl)) hK hP hD hS hA rfl (fun j hj => by rcases (show j = 0 ∨ j = 1 ∨ j = 2 ∨ j = 3 ∨ j = 4 ∨ j = 5 ∨ j = 6 ∨ j = 7 ∨ j = 8 ∨ j = 9 by omega) with rfl | rfl | rfl | rfl | rfl | rfl | rfl | rfl | rfl | rfl <;> rfl) (Nat.le_of_ble_eq_true rfl) (Nat.le_of_ble_eq_true rfl) dL_law_0 (fun q1 H1 hP hD hS => ?_)
  refine lv_dup hx hb dL_law_3 rfl ?_
  refine k_callI kt_X5 ⟨hx, hb, hml, hown, hts⟩ hN hK hP hD hS hA (gt_m 47 rfl rfl) (gt_m 59 rfl rfl) (gt_m 60 rfl rfl) (gt_m 61 rfl rfl) rfl (by decide +kernel) ⟨Nat.le_of_ble_eq_true rfl, Nat.le_of_ble_eq_true rfl⟩ hl.1 (Nat.le_of_ble_eq_true rfl) dL_law_4 ⟨Nat.le_of_ble_eq_true rfl, Nat.le_of_ble_eq_true rfl⟩ (fun fx H2 lcfx efx hP hD hS => ?_)
  rw [← efx]
  refine lv_astore_n (lv' := [(1, .ref (fx 0)), (0, .ref b)]) hx hb dL_law_7 rfl hl (by decide) rfl (fun ls hl => ?_)
  refine va_new (ci := 6) (fs := [.int 0, .null, .int 0, .long 0, .long 0, .null, .null, .null, .null, .null, .int 0, .int 0, .null, .int 0, .int 0, .int 0, .int 0, .int 0, .int 0, .int 0, .int 0, .null, .int 0, .null, .long 0]) (C := RX6) (T := TX6) (N := 25) hx hb hts inGX6 tyX6 tyX6_ok hown (hts _ (gt_m 809 rfl rfl)) (hts _ (gt_m 810 rfl rfl)) (hts _ (gt_m 53 rfl rfl)) hK hP hD hS hA rfl (fun j hj => by rcases (show j = 0 ∨ j = 1 ∨ j = 2 ∨ j = 3 ∨ j = 4 ∨ j = 5 ∨ j = 6 ∨ j = 7 ∨ j = 8 ∨ j = 9 ∨ j = 10 ∨ j = 11 ∨ j = 12 ∨ j = 13 ∨ j = 14 ∨ j = 15 ∨ j = 16 ∨ j = 17 ∨ j = 18 ∨ j = 19 ∨ j = 20 ∨ j = 21 ∨ j = 22 ∨ j = 23 ∨ j = 24 by omega) with rfl | rfl | rfl | rfl | rfl | rfl | rfl | rfl | rfl | rfl | rfl | rfl | rfl | rfl | rfl | rfl | rfl | rfl | rfl | rfl | rfl | rfl | rfl | rfl | rfl <;> rfl) (Nat.le_of_ble_eq_true rfl) (Nat.le_of_ble_eq_true rfl) dL_law_8 (fun q2 H3 hP hD hS => ?_)
  refine lv_dup hx hb dL_law_11 rfl ?_
  refine k_callI kt_X6 ⟨hx, hb, hml, hown, hts⟩ hN hK hP hD hS hA (gt_m 53 rfl rfl) (gt_m 811 rfl rfl) (gt_m 812 rfl rfl) (gt_m 813 rfl rfl) rfl (by decide +kernel) ⟨Nat.le_of_ble_eq_true rfl, Nat.le_of_ble_eq_true rfl⟩ hl.1 (Nat.le_of_ble_eq_true rfl) dL_law_12 ⟨Nat.le_of_ble_eq_true rfl, Nat.le_of_ble_eq_true rfl⟩ (fun fm H4 lcfm efm hP hD hS => ?_)
  rw [← efm]
  refine lv_astore_n (lv' := [(2, .ref (fm 0)), (1, .ref (fx 0)), (0, .ref b)]) hx hb dL_law_15 rfl hl (by decide) rfl (fun ls hl => ?_)
  refine lv_iconst (v := 0) hx hb dL_law_16 (by decide) ?_
  refine lv_istore_n (lv' := [(3, .int 0), (2, .ref (fm 0)), (1, .ref (fx 0)), (0, .ref b)]) hx hb dL_law_17 rfl hl (by decide) rfl (fun ls hl => ?_)
  have hP : va_P D vwCl (dryW cy fx ++ modelW cy fm) H4 := hP
  have hD : va_D (fun q : Nat => s.heap.size ≤ q) (dryW cy fx ++ modelW cy fm) := hD
  obtain ⟨hP9, hD9⟩ := wld_of b hP hD
  refine W.widen (k := 600000) (n := 7302249) (Nat.le_of_ble_eq_true rfl) (Nat.le_of_ble_eq_true rfl) ?_
  exact law_loop S hL 400 0 hp0 (by omega) (by omega) hI0 p l e s m below meth c D cy (adF fx fm b) H4 _ ls C0 rfl ⟨hK, hP9, hD9, hS, hA⟩ (lv_sub hl [3, 2, 1, 0] rfl)
