theorem si_oth {cy : Nat → ClassId} {ad : Ad} {h : Hp} {g i j : Nat} {v : Int32} (p : Nat × Nat) (hp : p ≠ (g, i)) : cont cy ad (si h g i j v) p = cont cy ad h p := by
  obtain ⟨a, b⟩ := p
  refine cont_own (fun z => ?_) (fun _ => rfl) (fun _ => rfl)
  unfold si
  dsimp only
  rw [if_neg]
  exact fun q => hp (by rw [q.1, q.2.1])
theorem sl_oth {cy : Nat → ClassId} {ad : Ad} {h : Hp} {g i j : Nat} {v : Int64} (p : Nat × Nat) (hp : p ≠ (g, i)) : cont cy ad (sl h g i j v) p = cont cy ad h p := by
  obtain ⟨a, b⟩ := p
  refine cont_own (fun _ => rfl) (fun z => ?_) (fun _ => rfl)
  unfold sl
  dsimp only
  rw [if_neg]
  exact fun q => hp (by rw [q.1, q.2.1])
theorem si_at (h : Hp) (g i j : Nat) (v : Int32) : (si h g i j v).1 g i j = v := if_pos ⟨rfl, rfl, rfl⟩
theorem si_ne (h : Hp) {g i j a b c : Nat} (v : Int32) (q : ¬ (a = g ∧ b = i ∧ c = j)) : (si h g i j v).1 a b c = h.1 a b c := if_neg q
theorem sl_at (h : Hp) (g i j : Nat) (v : Int64) : (sl h g i j v).2.1 g i j = v := if_pos ⟨rfl, rfl, rfl⟩
theorem si_row (h : Hp) (g i j : Nat) (v : Int32) : upd (fun z => h.1 g i z) j v = fun z => (si h g i j v).1 g i z := by
  funext z
  unfold upd si
  by_cases q : z = j <;> simp [q]
section JH
variable {ρ : Type} {enc : ρ → Option Value} {own : String} {cc : ByteArray} {nL r pc : Nat} {ret : Option FieldType} {lv : List (Nat × AV)} {st : List AV} {h : Hp} {o o1 o2 : Option (ρ × Hp)}
theorem j_get {g i kf ci idx N : Nat} {Cn : String} {T : u_T} {v : AV} {fs : (Nat → ClassId) → Ad → List Value} (hc : ∀ cy ad, cont cy ad h (g, i) = .inr (ci, fs cy ad)) (hf : ∀ cy ad, (fs cy ad)[kf]? = some (cv ad v)) (hcl : vwCl[ci]? = some (Cn, T, N)) (hin : ∀ w ∈ u_ws Cn T N, w ∈ gtb) (hk : kf < N) (hw : Cond.fieldLink own idx (T kf).1 (T kf).2.1 (T kf).2.2.1 ∈ gtb) (hi : i < cnt g) (hd : decode cc pc = .ok (.getfield idx, 3)) (k : J enc own cc nL ret r (pc + 3) lv (v :: st) h o) : J enc own cc nL ret r pc lv (aR g i :: st) h o := by
  intro p l e s m args below meth c D cy ad A H locs ls C Wd hl r0 u ho
  obtain ⟨k0, hk0⟩ := cells_at hi
  exact va_get (D := D) (cl := vwCl) (ci := ci) (C := Cn) (T := T) (N := N) C.1 C.2.1 C.2.2.2.2.1 hin C.2.2.2.1 Wd.1 Wd.2.1 k0 (by rw [wld_at cy ad h hk0, hc]) hcl kf hk (C.2.2.2.2.1 _ hw) (fun _ h9 => h9) (hf cy ad) hd (k p l e s m args below meth c D cy ad A H locs ls C Wd hl r0 u ho)
theorem j_put {g i kf ci idx N : Nat} {Cn : String} {T : u_T} {v : AV} {h' : Hp} {fs : (Nat → ClassId) → Ad → List Value} (hc : ∀ cy ad, cont cy ad h (g, i) = .inr (ci, fs cy ad)) (hcl : vwCl[ci]? = some (Cn, T, N)) (hin : ∀ w ∈ u_ws Cn T N, w ∈ gtb) (ty0 : Nat → FieldType) (hty : ∀ k, k < N → parseFieldDescriptor (T k).2.2.1 = some (ty0 k)) (hnm : ∀ a, a < N → ∀ b, b < N → a ≠ b → (T a).2.1 ≠ (T b).2.1) (hk : kf < N) (hw : Cond.fieldLink own idx (T kf).1 (T kf).2.1 (T kf).2.2.1 ∈ gtb) (hfin : (T kf).2.2.2 = false) {ty : FieldType} (hpd : parseFieldDescriptor (T kf).2.2.1 = some ty) (hn : ∀ ad, narrow ty (cv ad v) = cv ad v) (hfit : ∀ ad, fits ty (cv ad v) = true) (hlen : ∀ cy ad, kf < (fs cy ad).length) (hc2 : ∀ cy ad, cont cy ad h' (g, i) = .inr (ci, (fs cy ad).set kf (cv ad v))) (hoth : ∀ cy ad p, p ∈ cells → p ≠ (g, i) → cont cy ad h' p = cont cy ad h p) (hi : i < cnt g) (hd : decode cc pc = .ok (.putfield idx, 3)) (k : J enc own cc nL ret r (pc + 3) lv st h' o) : J enc own cc nL ret r pc lv (v :: aR g i :: st) h o := by
  intro p l e s m args below meth c D cy ad A H locs ls C Wd hl r0 u ho
  obtain ⟨k0, hk0⟩ := cells_at hi
  have e0 := wld_set (ad := ad) (cy := cy) (h := h) (h' := h') hk0 (hc2 cy ad) (hoth cy ad)
  refine va_put (D := D) (cl := vwCl) (ci := ci) (C := Cn) (T := T) (N := N) (v := cv ad v) C.1 C.2.1 C.2.2.2.2.1 hin ty0 hty hnm C.2.2.2.1 Wd.1 Wd.2.1 Wd.2.2.1 Wd.2.2.2.1 k0 (by rw [wld_at cy ad h hk0, hc]) hcl kf hk (C.2.2.2.2.1 _ hw) (fun _ h9 => h9) hfin hpd (hn ad) (hfit ad) (hlen cy ad) hd (fun H1 locs1 hP hD hS => ?_)
  rw [e0] at hP hD
  exact k p l e s m args below meth c D cy ad A H1 locs1 ls C ⟨Wd.1, hP, hD, hS, Wd.2.2.2.2⟩ hl r0 u ho
theorem j_iald {g i n : Nat} {x : Int32} {inst : Decidable (inb x n = true)} (hc : ∀ h cy ad, cont cy ad h (g, i) = .inl (cy 0, n, .inl (fun j => h.1 g i j))) (hi : i < cnt g) (hd : decode cc pc = .ok (.iaload, 1)) (k : inb x n = true → J enc own cc nL ret r (pc + 1) lv (aI (h.1 g i x.toNatClampNeg) :: st) h o) : J enc own cc nL ret r pc lv (aI x :: aR g i :: st) h (@ite _ (inb x n = true) inst o none) := by
  refine j_gd (fun hin => ?_)
  intro p l e s m args below meth c D cy ad A H locs ls C Wd hl r0 u ho
  obtain ⟨k0, hk0⟩ := cells_at hi
  exact va_iald (f := fun j => h.1 g i j) C.1 C.2.1 Wd.1 Wd.2.1 k0 0 (by rw [wld_at cy ad h hk0, hc]) rfl (inb_in hin) hd (k hin p l e s m args below meth c D cy ad A H locs ls C Wd hl r0 u ho)
theorem j_bald {g i n : Nat} {x : Int32} {inst : Decidable (inb x n = true)} (hc : ∀ h cy ad, cont cy ad h (g, i) = .inl (cy 1, n, .inl (fun j => h.1 g i j))) (hi : i < cnt g) (hd : decode cc pc = .ok (.baload, 1)) (k : inb x n = true → J enc own cc nL ret r (pc + 1) lv (aI (h.1 g i x.toNatClampNeg) :: st) h o) : J enc own cc nL ret r pc lv (aI x :: aR g i :: st) h (@ite _ (inb x n = true) inst o none) := by
  refine j_gd (fun hin => ?_)
  intro p l e s m args below meth c D cy ad A H locs ls C Wd hl r0 u ho
  obtain ⟨k0, hk0⟩ := cells_at hi
  exact va_bald (f := fun j => h.1 g i j) C.1 C.2.1 Wd.1 Wd.2.1 k0 1 (by rw [wld_at cy ad h hk0, hc]) rfl (inb_in hin) hd (k hin p l e s m args below meth c D cy ad A H locs ls C Wd hl r0 u ho)
theorem j_iast {g i n : Nat} {x v : Int32} {inst : Decidable (inb x n = true)} (hc : ∀ h cy ad, cont cy ad h (g, i) = .inl (cy 0, n, .inl (fun j => h.1 g i j))) (hi : i < cnt g) (hd : decode cc pc = .ok (.iastore, 1)) (k : inb x n = true → J enc own cc nL ret r (pc + 1) lv st (si h g i x.toNatClampNeg v) o) : J enc own cc nL ret r pc lv (aI v :: aI x :: aR g i :: st) h (@ite _ (inb x n = true) inst o none) := by
  refine j_gd (fun hin => ?_)
  intro p l e s m args below meth c D cy ad A H locs ls C Wd hl r0 u ho
  obtain ⟨k0, hk0⟩ := cells_at hi
  refine va_iast (f := fun j => h.1 g i j) C.1 C.2.1 Wd.1 Wd.2.1 Wd.2.2.1 Wd.2.2.2.1 k0 0 (by rw [wld_at cy ad h hk0, hc]) rfl (inb_in hin) hd (fun H1 locs1 hP hD hS => ?_)
  have e0 := wld_set (ad := ad) (cy := cy) (h := h) (h' := si h g i x.toNatClampNeg v) hk0 (hc _ cy ad) (fun p _ hp => si_oth p hp)
  rw [si_row, e0] at hP hD
  exact k hin p l e s m args below meth c D cy ad A H1 locs1 ls C ⟨Wd.1, hP, hD, hS, Wd.2.2.2.2⟩ hl r0 u ho
theorem j_bast {g i n : Nat} {x v : Int32} {inst : Decidable (inb x n = true)} (hc : ∀ h cy ad, cont cy ad h (g, i) = .inl (cy 1, n, .inl (fun j => h.1 g i j))) (hi : i < cnt g) (hd : decode cc pc = .ok (.bastore, 1)) (k : inb x n = true → J enc own cc nL ret r (pc + 1) lv st (si h g i x.toNatClampNeg v.toInt8.toInt32) o) : J enc own cc nL ret r pc lv (aI v :: aI x :: aR g i :: st) h (@ite _ (inb x n = true) inst o none) := by
  refine j_gd (fun hin => ?_)
  intro p l e s m args below meth c D cy ad A H locs ls C Wd hl r0 u ho
  obtain ⟨k0, hk0⟩ := cells_at hi
  refine va_bast (f := fun j => h.1 g i j) C.1 C.2.1 Wd.1 Wd.2.1 Wd.2.2.1 Wd.2.2.2.1 k0 1 (by rw [wld_at cy ad h hk0, hc]) rfl (inb_in hin) hd (fun H1 locs1 hP hD hS => ?_)
  have e0 := wld_set (ad := ad) (cy := cy) (h := h) (h' := si h g i x.toNatClampNeg v.toInt8.toInt32) hk0 (hc _ cy ad) (fun p _ hp => si_oth p hp)
  rw [vp_nar_byte, si_row, e0] at hP hD
  exact k hin p l e s m args below meth c D cy ad A H1 locs1 ls C ⟨Wd.1, hP, hD, hS, Wd.2.2.2.2⟩ hl r0 u ho
theorem j_aald {g i n g2 t0 : Nat} {f : Nat → Nat} {ty : FieldType} {x : Int32} {inst : Decidable (inb x n = true)} (hc : ∀ cy ad, cont cy ad h (g, i) = .inl (cy t0, n, .inr (.inr (.inr (.inr (fun j => some (ad (g2, f j)))))))) (ht : ∀ cy, (tyL cy)[t0]? = some (cy t0, ty)) (hr : ty.isReference = true) (hi : i < cnt g) (hd : decode cc pc = .ok (.aaload, 1)) (k : inb x n = true → J enc own cc nL ret r (pc + 1) lv (aR g2 (f x.toNatClampNeg) :: st) h o) : J enc own cc nL ret r pc lv (aI x :: aR g i :: st) h (@ite _ (inb x n = true) inst o none) := by
  refine j_gd (fun hin => ?_)
  intro p l e s m args below meth c D cy ad A H locs ls C Wd hl r0 u ho
  obtain ⟨k0, hk0⟩ := cells_at hi
  have ha : (wld cy ad h)[k0]? = some (ad (g, i), .inl (cy t0, n, .inr (.inr (.inr (.inr (fun j => some (ad (g2, f j)))))))) := by rw [wld_at cy ad h hk0, hc]
  exact W.aald (v := va_rf (some (ad (g2, f x.toNatClampNeg)))) (ty := ty) C.1 C.2.1 (Wd.2.1 k0 _ ha) ((Wd.1.2 t0 _ (ht cy)).1 n (fun j => va_rf (some (ad (g2, f j))))) hr (fun q => by cases q) (by show ¬ (x < 0 ∨ (arrV _ _ _).slots.size ≤ _); rw [arrV_size]; exact inb_in hin) (by show (arrV _ _ _).slots[_]? = _; rw [arrV_read _ _ (inb_lt hin)]) rfl rfl hd (k hin p l e s m args below meth c D cy ad A H locs ls C Wd hl r0 u ho)
theorem j_alen {g i n t0 : Nat} {ty : FieldType} {v : Int32} (hc : ∀ h cy ad, cont cy ad h (g, i) = .inl (cy t0, n, .inl (fun j => h.1 g i j))) (ht : ∀ cy, (tyL cy)[t0]? = some (cy t0, ty)) (hv : Int32.ofNat n = v) (hi : i < cnt g) (hd : decode cc pc = .ok (.arraylength, 1)) (k : J enc own cc nL ret r (pc + 1) lv (aI v :: st) h o) : J enc own cc nL ret r pc lv (aR g i :: st) h o := by
  intro p l e s m args below meth c D cy ad A H locs ls C Wd hl r0 u ho
  obtain ⟨k0, hk0⟩ := cells_at hi
  exact va_alen (x := (n, .inl (fun j => h.1 g i j))) C.1 C.2.1 Wd.1 Wd.2.1 k0 t0 (by rw [wld_at cy ad h hk0, hc]) (ht cy) hv hd (k p l e s m args below meth c D cy ad A H locs ls C Wd hl r0 u ho)
end JH
/-- rows of a copy -/
def scp (h : Hp) (a b sp dp n : Nat) : Hp := (fun g i j => if g = 3 ∧ i = b then va_cpy (fun z => h.1 3 a z) (fun z => h.1 3 b z) sp dp n j else h.1 g i j, h.2)
section JA
variable {ρ : Type} {enc : ρ → Option Value} {own : String} {cc : ByteArray} {nL r pc : Nat} {ret : Option FieldType} {lv : List (Nat × AV)} {st : List AV} {h : Hp} {o o1 o2 : Option (ρ × Hp)}
theorem j_acopy {a b idx : Nat} {n dp sp : Int32} {inst : Decidable (¬ sp < 0 ∧ ¬ dp < 0 ∧ ¬ n < 0 ∧ sp.toNatClampNeg + n.toNatClampNeg ≤ 40 ∧ dp.toNatClampNeg + n.toNatClampNeg ≤ 40)} (ha : a < cnt 3) (hb : b < cnt 3) (hw1 : Cond.methodLink own idx arraycopyName ∈ gtb) (hw2 : Cond.native arraycopyName ∈ gtb) (hw3 : Cond.static arraycopyName ∈ gtb) (hw4 : Cond.initialized "java/lang/System" ∈ gtb) (hr : 1 ≤ r) (hst : (st.map acat).sum + (nativeFrameWords "java/lang/System" "arraycopy" 5 + 11) ≤ 36) (hd : decode cc pc = .ok (.invokestatic idx, 3)) (k : (¬ sp < 0 ∧ ¬ dp < 0 ∧ ¬ n < 0 ∧ sp.toNatClampNeg + n.toNatClampNeg ≤ 40 ∧ dp.toNatClampNeg + n.toNatClampNeg ≤ 40) → J enc own cc nL ret r (pc + 3) lv st (scp h a b sp.toNatClampNeg dp.toNatClampNeg n.toNatClampNeg) o) : J enc own cc nL ret r pc lv (aI n :: aI dp :: aR 3 b :: aI sp :: aR 3 a :: st) h (@ite _ (¬ sp < 0 ∧ ¬ dp < 0 ∧ ¬ n < 0 ∧ sp.toNatClampNeg + n.toNatClampNeg ≤ 40 ∧ dp.toNatClampNeg + n.toNatClampNeg ≤ 40) inst o none) := by
  refine j_gd (fun hin => ?_)
  intro p l e s m args below meth c D cy ad A H locs ls C Wd hl r0 u ho
  obtain ⟨k0, hk0⟩ := cells_at ha
  obtain ⟨k1, hk1⟩ := cells_at hb
  refine va_copyi (f := fun j => h.1 3 a j) (g := fun j => h.1 3 b j) (n0 := 40) (n1 := 40) (ty := .int) C.1 C.2.1 (by rw [C.2.2.1]; exact hl.1.symm) C.2.2.2.1 (C.2.2.2.2.1 _ hw1) (C.2.2.2.2.1 _ hw2) (C.2.2.2.2.1 _ hw3) (C.2.2.2.2.1 _ hw4) Wd.1 Wd.2.1 Wd.2.2.1 Wd.2.2.2.1 k0 k1 0 0 (by rw [wld_at cy ad h hk0]; rfl) (by rw [wld_at cy ad h hk1]; rfl) rfl rfl rfl hin.1 hin.2.1 hin.2.2.1 hin.2.2.2.1 hin.2.2.2.2 (fun _ _ => rfl) (show 1 ≤ r from hr) (show _ ≤ 36 * r from ?_) hd (fun H1 locs1 hP hD hS => ?_)
  · have e1 : ((List.map (cv ad) st).map fun v => v.category).sum = (st.map acat).sum := by
      rw [List.map_map]
      congr 2
      funext v
      exact acat_cv ad v
    rw [e1]
    omega
  · have e0 := wld_set (ad := ad) (cy := cy) (h := h) (h' := scp h a b sp.toNatClampNeg dp.toNatClampNeg n.toNatClampNeg) (e := .inl (cy 0, 40, .inl (va_cpy (fun j => h.1 3 a j) (fun j => h.1 3 b j) sp.toNatClampNeg dp.toNatClampNeg n.toNatClampNeg))) hk1 (by unfold scp; simp [cont]) (fun p _ hp => by
      obtain ⟨x, y⟩ := p
      refine cont_own (fun z => ?_) (fun _ => rfl) (fun _ => rfl)
      unfold scp
      dsimp only
      rw [if_neg]
      exact fun q => hp (by rw [q.1, q.2]))
    rw [e0] at hP hD
    exact k hin p l e s m args below meth c D cy ad A H1 locs1 ls C ⟨Wd.1, hP, hD, hS, Wd.2.2.2.2⟩ hl r0 u ho
end JA
/-- a method's contract: with these arguments and this heap it ends as o says, if o says something -/
def Ct {ρ : Type} (enc : ρ → Option Value) (y : MethodName) (cc : ByteArray) (nL : Nat) (ret : Option FieldType) (r : Nat) (as : List AV) (h : Hp) (o : Option (ρ × Hp)) : Prop :=
  ∀ (r0 : ρ) (u : Hp), o = some (r0, u) → ∀ (l : Launch) (D : va_G) (cy : Nat → ClassId) (ad : Ad) (sz : Nat), Met l y (wsU y cc nL ret) (rmR r) (va_Pc (cvs ad as) (fun U => U.heap.size = sz ∧ va_P D vwCl (wld cy ad h) U.heap ∧ va_K D vwCl (tyL cy) U ∧ va_D (fun _ => True) (wld cy ad h) ∧ jN U)) (jQ enc D cy ad (va_A (wld cy ad h) sz) r0 u) 0 0 (va_A (wld cy ad h) sz)
theorem ct_of {ρ : Type} {enc : ρ → Option Value} {y : MethodName} {cc : ByteArray} {nL : Nat} {ret : Option FieldType} {r : Nat} {as : List AV} {h : Hp} {o : Option (ρ × Hp)} (lv : List (Nat × AV)) (hy : plainName y.cls = true) (hlv : ∀ ad, lv_args 0 (cvs ad as) = cvl ad lv) (hn : ∀ ad, (lg_sl (cvs ad as)).length ≤ nL) (k : J enc y.cls cc nL ret r 0 lv [] h o) : Ct enc y cc nL ret r as h o := by
  intro r0 u ho l D cy ad sz
  refine Met.ofW (cc := cc) (maxL := nL) (ret := ret) hy rfl ?_
  intro p e s m args below meth c s₁ B hml hv
  obtain ⟨rfl, hsz, hP, hK, hD0, hN⟩ := hv
  have hts := atoms_spec (ws := wsU y cc nL ret) B.pre
  have hown : s.vm.findClass y.cls = some m.cls := findClass_of_methodNamed B.named
  subst hsz
  have hD := hD0.self (sz := s.heap.size)
  have hl := lv_entry (cvs ad as) (n := nL) (hn ad)
  rw [lg_entry_eq]
  generalize (lg_sl (cvs ad as) ++ List.replicate (nL - (lg_sl (cvs ad as)).length) Slot.unset).toArray = ls at hl ⊢
  rw [hlv ad] at hl
  exact k p l e s m _ below meth c D cy ad _ s.heap [] ls ⟨B.exec, B.bytes, hml, hown, fun w hw => hts w (List.mem_cons_of_mem _ hw), B.returns, B.notSynchronized, hN⟩ ⟨hK, hP, hD, va_S.rf, fun q h => Or.inr h⟩ hl r0 u ho
theorem jN_calling {U : State} {g : JFrame} {mk : MethodId} {a : Array Value} (h : jN U) : jN (U.calling g mk a) := ⟨va_Nw.same rfl rfl h.1, va_Nw.same rfl rfl h.2⟩
theorem jN_warm {s U : State} (hW : s.WarmedH U.vm) (h : jN s) : jN U := ⟨va_Nw.warmM hW h.1, va_Nw.warmM hW h.2⟩
theorem j_blind {as : List AV} {D : va_G} {cy : Nat → ClassId} {ad : Ad} {h : Hp} {sz : Nat} : FrameBlind (va_Pc (cvs ad as) (fun U => U.heap.size = sz ∧ va_P D vwCl (wld cy ad h) U.heap ∧ va_K D vwCl (tyL cy) U ∧ va_D (fun _ => True) (wld cy ad h) ∧ jN U)) := by
  intro a U g mk q
  obtain ⟨q0, q1, qP, qK, qD, qN⟩ := q
  exact ⟨q0, q1, qP, va_K.moved (u := U) (U := U.calling g mk a) (Vm.Alike.refl U.vm) qK, qD, jN_calling qN⟩
theorem j_room {ad : Ad} {st : List AV} (hst : (st.map acat).sum ≤ 8) : ((cvs ad st).map fun v => v.category).sum ≤ 8 := by
  unfold cvs
  rw [List.map_map]
  exact Nat.le_trans (Nat.le_of_eq (congrArg List.sum (List.map_congr_left (fun v _ => acat_cv ad v)))) hst
theorem j_after {ρ : Type} {enc : ρ → Option Value} {p : Program} {l : Launch} {e : Env} {R : Room} {s : State} {m : MethodId} {args : Array Value} {below : List Frame} {meth : Method} {c : Code} {H : Heap} {locs : List Loc} {Q : State → Prop} {pc : Nat} {ls : Array Slot} {rest st0 : List Value} {a : Array Value} {A0 A1 : Nat → Prop} {free : Addr → Prop} {D : va_G} {cy : Nat → ClassId} {ad : Ad} {v : ρ} {u : Hp}
    (hr : va_Run p l e R s m args below meth c H locs 0 0 0 0 (F0 m pc ls st0) rest (jQ enc D cy ad A1 v u a) free) (hS : va_S A0 s.heap H locs) (hA : ∀ q, A1 q → A0 q) (hf : ∀ q, free q → A0 q)
    (kk : ∀ (H1 : Heap) (locs1 : List Loc), va_P D vwCl (wld cy ad u) H1 → va_S A0 s.heap H1 locs1 → W p l e R s m args below meth c H1 locs1 0 0 Q (F0 m (pc + 3) ls ((enc v).toList ++ rest))) : W p l e R s m args below meth c H locs 0 0 Q (F0 m pc ls st0) := by
  intro T hT X
  obtain ⟨v1, st₀, t, T', L, h0, X', hL, e1, e2, ⟨hv, hp, hz, hk⟩, st⟩ := hr T hT X
  cases hv
  rw [h0] at hz hk
  obtain ⟨t2, a1, b1⟩ := kk T'.heap (locs ++ L) (by rw [e1]; exact hp)
    ⟨Nat.le_trans hS.1 (by rw [e1]; exact hz), fun q h1 h2 => by rw [e1, hk q (Nat.lt_of_lt_of_le h1 hS.1) (fun z => h2 (hA q z))]; exact hS.2.1 q h1 h2, fun q hq => by
      rcases List.mem_append.mp hq with h | h
      · exact hS.2.2 q h
      · exact hf _ (hL q h)⟩ T' rfl X'
  exact ⟨t2, st t2 a1, b1⟩
theorem j_free {A : Nat → Prop} {cy : Nat → ClassId} {ad : Ad} {h : Hp} {s : State} {H : Heap} {locs : List Loc} {D : va_G} (Wd : jW D cy ad A s H locs h) : ∀ q, va_A (wld cy ad h) H.size q → A q := by
  intro q hq
  rcases hq with ⟨k, e, he⟩ | hq
  · exact Wd.2.2.1.2 k _ he
  · exact Wd.2.2.2.2 q (Nat.le_trans Wd.2.2.2.1.1 hq)
section JK
variable {ρ : Type} {enc : ρ → Option Value} {own : String} {cc : ByteArray} {nL r pc : Nat} {ret : Option FieldType} {lv : List (Nat × AV)} {st : List AV} {h : Hp}
variable {ρ' : Type} {enc' : ρ' → Option Value} {y : MethodName} {cc' : ByteArray} {nL' r' : Nat} {ret' : Option FieldType} {As : List AV} {o' : Option (ρ' × Hp)} {ea : ρ' → List AV} {idx n : Nat} {k : ρ' → Hp → Option (ρ × Hp)}
theorem j_callV {g i ci N : Nat} {T : u_T} (hC : Ct enc' y cc' nL' ret' r' (aR g i :: As) h o') (hea : ∀ v ad, (enc' v).toList = cvs ad (ea v)) (hr : r' + 1 ≤ r) (hnl : nL' ≤ 17) {fs : (Nat → ClassId) → Ad → List Value} (hob : ∀ cy ad, cont cy ad h (g, i) = .inr (ci, fs cy ad)) (hcl : vwCl[ci]? = some (y.cls, T, N)) (hi : i < cnt g) (hw1 : Cond.methodLink own idx y ∈ gtb) (hw2 : Cond.instanceMethod y ∈ gtb) (hw3 : Cond.selects y.cls y y ∈ gtb) (hw4 : Cond.initialized y.cls ∈ gtb) (hw5 : Cond.code y cc' nL' ret' ∈ gtb) (hds : y.cls ≠ "java/lang/invoke/MethodHandle" ∧ y.cls ≠ "java/lang/invoke/VarHandle" ∧ (parseMethodDescriptor y.desc).map (fun d => d.parameters.length) = some n) (hn : As.length = n) (hst : (st.map acat).sum ≤ 8) (hd : decode cc pc = .ok (.invokevirtual idx, 3)) (kk : ∀ v h', o' = some (v, h') → J enc own cc nL ret r (pc + 3) lv (ea v ++ st) h' (k v h')) : J enc own cc nL ret r pc lv (As.reverse ++ aR g i :: st) h (bnd o' k) := by
  intro p l e s m args below meth c D cy ad A H locs ls C Wd hl r0 u ho
  cases ho' : o' with
  | none => rw [ho'] at ho; cases ho
  | some q =>
    obtain ⟨v, h1⟩ := q
    rw [ho'] at ho
    have hts := C.2.2.2.2.1
    obtain ⟨k0, hk0⟩ := cells_at hi
    have he : (wld cy ad h)[k0]? = some (ad (g, i), .inr (ci, fs cy ad)) := by rw [wld_at cy ad h hk0, hob]
    have hM := hC v h1 ho' l D cy ad H.size
    have run := va_runV (p := p) (e := e) (below := below) (meth := meth) (locs := locs) (cells := 0) (slots := 0) (R := rmR r) (b := ad (g, i)) (As := cvs ad As) (rest := cvs ad st) (g := F0 m pc ls (cvs ad (As.reverse ++ aR g i :: st))) (C := y.cls) ⟨C.1, C.2.1, C.2.2.1, C.2.2.2.1, hts⟩ hM ⟨callB_of n hts (gt_ws hw5) rfl rfl rfl (hts _ hw4) (hts _ hw1) hds ⟨hr, by show 8 + (nL' + 11) + 36 * r' ≤ 36 * r; omega⟩, hts _ hw2, hts _ hw3⟩ ⟨j_blind, va_recv Wd.1 Wd.2.1 hcl he, fun U hU hW => ⟨rfl, by rw [hU], by rw [hU]; exact Wd.2.1, va_K.moved hW.alike Wd.1, Wd.2.2.1.weaken (fun _ _ _ _ => trivial), jN_warm hW C.2.2.2.2.2.2.2⟩⟩ rfl (by unfold cvs; rw [List.length_map]; exact hn) hl.1 (by show cvs ad (As.reverse ++ aR g i :: st) = _; unfold cvs; rw [List.map_append, List.map_reverse]; rfl) (lv_room (j_room hst)) hd ⟨Nat.le_refl _, Nat.le_refl _⟩
    refine j_after run Wd.2.2.2.1 (j_free Wd) (j_free Wd) (fun H1 locs1 hP hS => ?_)
    have e1 : (enc' v).toList ++ cvs ad st = cvs ad (ea v ++ st) := by rw [hea v ad]; unfold cvs; rw [List.map_append]
    rw [e1]
    exact kk v h1 ho' p l e s m args below meth c D cy ad A H1 locs1 ls C ⟨Wd.1, hP, wld_D Wd.2.2.1, hS, Wd.2.2.2.2⟩ hl r0 u ho
theorem j_callS (hC : Ct enc' y cc' nL' ret' r' As h o') (hea : ∀ v ad, (enc' v).toList = cvs ad (ea v)) (hr : r' + 1 ≤ r) (hnl : nL' ≤ 17) (hw1 : Cond.methodLink own idx y ∈ gtb) (hw2 : Cond.static y ∈ gtb) (hw4 : Cond.initialized y.cls ∈ gtb) (hw5 : Cond.code y cc' nL' ret' ∈ gtb) (hds : y.cls ≠ "java/lang/invoke/MethodHandle" ∧ y.cls ≠ "java/lang/invoke/VarHandle" ∧ (parseMethodDescriptor y.desc).map (fun d => d.parameters.length) = some n) (hn : As.length = n) (hst : (st.map acat).sum ≤ 8) (hd : decode cc pc = .ok (.invokestatic idx, 3)) (kk : ∀ v h', o' = some (v, h') → J enc own cc nL ret r (pc + 3) lv (ea v ++ st) h' (k v h')) : J enc own cc nL ret r pc lv (As.reverse ++ st) h (bnd o' k) := by
  intro p l e s m args below meth c D cy ad A H locs ls C Wd hl r0 u ho
  cases ho' : o' with
  | none => rw [ho'] at ho; cases ho
  | some q =>
    obtain ⟨v, h1⟩ := q
    rw [ho'] at ho
    have hts := C.2.2.2.2.1
    have hM := hC v h1 ho' l D cy ad H.size
    have run := va_runS (p := p) (e := e) (below := below) (meth := meth) (locs := locs) (cells := 0) (slots := 0) (R := rmR r) (As := cvs ad As) (rest := cvs ad st) (g := F0 m pc ls (cvs ad (As.reverse ++ st))) ⟨C.1, C.2.1, C.2.2.1, C.2.2.2.1, hts⟩ hM ⟨callB_of n hts (gt_ws hw5) rfl rfl rfl (hts _ hw4) (hts _ hw1) hds ⟨hr, by show 8 + (nL' + 11) + 36 * r' ≤ 36 * r; omega⟩, hts _ hw2⟩ ⟨j_blind, fun U hU hW => ⟨rfl, by rw [hU], by rw [hU]; exact Wd.2.1, va_K.moved hW.alike Wd.1, Wd.2.2.1.weaken (fun _ _ _ _ => trivial), jN_warm hW C.2.2.2.2.2.2.2⟩⟩ rfl (by unfold cvs; rw [List.length_map]; exact hn) hl.1 (by show cvs ad (As.reverse ++ st) = _; unfold cvs; rw [List.map_append, List.map_reverse]) (lv_room (j_room hst)) hd ⟨Nat.le_refl _, Nat.le_refl _⟩
    refine j_after run Wd.2.2.2.1 (j_free Wd) (j_free Wd) (fun H1 locs1 hP hS => ?_)
    have e1 : (enc' v).toList ++ cvs ad st = cvs ad (ea v ++ st) := by rw [hea v ad]; unfold cvs; rw [List.map_append]
    rw [e1]
    exact kk v h1 ho' p l e s m args below meth c D cy ad A H1 locs1 ls C ⟨Wd.1, hP, wld_D Wd.2.2.1, hS, Wd.2.2.2.2⟩ hl r0 u ho
theorem j_callN {host : String} (hC : Ct enc' y cc' nL' ret' r' As h o') (hea : ∀ v ad, (enc' v).toList = cvs ad (ea v)) (hr : r' + 1 ≤ r) (hnl : nL' ≤ 17) (hw1 : ∀ s, jN s → va_Nw (.methodLinkNest own idx y host) s) (hw2 : Cond.static y ∈ gtb) (hw4 : Cond.initialized y.cls ∈ gtb) (hw5 : Cond.code y cc' nL' ret' ∈ gtb) (hds : y.cls ≠ "java/lang/invoke/MethodHandle" ∧ y.cls ≠ "java/lang/invoke/VarHandle" ∧ (parseMethodDescriptor y.desc).map (fun d => d.parameters.length) = some n) (hn : As.length = n) (hst : (st.map acat).sum ≤ 8) (hd : decode cc pc = .ok (.invokestatic idx, 3)) (kk : ∀ v h', o' = some (v, h') → J enc own cc nL ret r (pc + 3) lv (ea v ++ st) h' (k v h')) : J enc own cc nL ret r pc lv (As.reverse ++ st) h (bnd o' k) := by
  intro p l e s m args below meth c D cy ad A H locs ls C Wd hl r0 u ho
  cases ho' : o' with
  | none => rw [ho'] at ho; cases ho
  | some q =>
    obtain ⟨v, h1⟩ := q
    rw [ho'] at ho
    have hts := C.2.2.2.2.1
    have hM := hC v h1 ho' l D cy ad H.size
    have run := va_runSN (p := p) (e := e) (below := below) (meth := meth) (locs := locs) (cells := 0) (slots := 0) (R := rmR r) (As := cvs ad As) (rest := cvs ad st) (g := F0 m pc ls (cvs ad (As.reverse ++ st))) ⟨C.1, C.2.1, C.2.2.1, C.2.2.2.1, hts⟩ hM ⟨va_cnB n hts (gt_ws hw5) rfl rfl rfl (hw1 s C.2.2.2.2.2.2.2) (hts _ hw4) hds ⟨hr, by show 8 + (nL' + 11) + 36 * r' ≤ 36 * r; omega⟩, hts _ hw2, trivial⟩ ⟨j_blind, fun U hU hW => ⟨rfl, by rw [hU], by rw [hU]; exact Wd.2.1, va_K.moved hW.alike Wd.1, Wd.2.2.1.weaken (fun _ _ _ _ => trivial), jN_warm hW C.2.2.2.2.2.2.2⟩⟩ rfl (by unfold cvs; rw [List.length_map]; exact hn) hl.1 (by show cvs ad (As.reverse ++ st) = _; unfold cvs; rw [List.map_append, List.map_reverse]) (lv_room (j_room hst)) hd ⟨Nat.le_refl _, Nat.le_refl _⟩
    refine j_after run Wd.2.2.2.1 (j_free Wd) (j_free Wd) (fun H1 locs1 hP hS => ?_)
    have e1 : (enc' v).toList ++ cvs ad st = cvs ad (ea v ++ st) := by rw [hea v ad]; unfold cvs; rw [List.map_append]
    rw [e1]
    exact kk v h1 ho' p l e s m args below meth c D cy ad A H1 locs1 ls C ⟨Wd.1, hP, wld_D Wd.2.2.1, hS, Wd.2.2.2.2⟩ hl r0 u ho
end JK
