/-- one call on both: the same answer, and the invariant again -/
def LawStp (Inv : Hp → Prop) : Prop :=
  (∀ (a1 a2 : Int32) (h : Hp), Inv h → ∃ (r : Int32) (h1 h2 : Hp), f_X5_row a1 a2 h = some (r, h1) ∧ f_X6_row a1 a2 h1 = some (r, h2) ∧ Inv h2) ∧
  (∀ (a1 a2 a3 : Int32) (h : Hp), Inv h → ∃ (r : Int32) (h1 h2 : Hp), f_X5_lay a1 a2 a3 h = some (r, h1) ∧ f_X6_lay a1 a2 a3 h1 = some (r, h2) ∧ Inv h2) ∧
  (∀ (a1 a2 : Int32) (h : Hp), Inv h → ∃ (r : Int32) (h1 h2 : Hp), f_X5_at a1 a2 h = some (r, h1) ∧ f_X6_at a1 a2 h1 = some (r, h2) ∧ Inv h2) ∧
  (∀ (a1 : Int32) (h : Hp), Inv h → ∃ (r : Int32) (h1 h2 : Hp), f_X5_tear a1 h = some (r, h1) ∧ f_X6_tear a1 h1 = some (r, h2) ∧ Inv h2) ∧
  (∀ (a1 a2 a3 a4 a5 : Int32) (h : Hp), Inv h → ∃ (r : Int32) (h1 h2 : Hp), f_X5_copy a1 a2 a3 a4 a5 h = some (r, h1) ∧ f_X6_copy a1 a2 a3 a4 a5 h1 = some (r, h2) ∧ Inv h2) ∧
  (∀ (a1 : Int32) (h : Hp), Inv h → ∃ (r : Int32) (h1 h2 : Hp), f_X5_mean a1 h = some (r, h1) ∧ f_X6_mean a1 h1 = some (r, h2) ∧ Inv h2) ∧
  (∀ (a1 a2 : Int32) (h : Hp), Inv h → ∃ (r : Int32) (h1 h2 : Hp), f_X5_text a1 a2 h = some (r, h1) ∧ f_X6_text a1 a2 h1 = some (r, h2) ∧ Inv h2) ∧
  (∀ (a1 a2 a3 : Int32) (h : Hp), Inv h → ∃ (r : Int32) (h1 h2 : Hp), f_X5_put a1 a2 a3 h = some (r, h1) ∧ f_X6_put a1 a2 a3 h1 = some (r, h2) ∧ Inv h2) ∧
  (∀ (a1 : Int32) (h : Hp), Inv h → ∃ (r : Int32) (h1 h2 : Hp), f_X5_fault a1 h = some (r, h1) ∧ f_X6_fault a1 h1 = some (r, h2) ∧ Inv h2) ∧
  (∀ (a1 : Int32) (h : Hp), Inv h → ∃ (r : Int32) (h1 h2 : Hp), f_X5_wall a1 h = some (r, h1) ∧ f_X6_wall a1 h1 = some (r, h2) ∧ Inv h2) ∧
  (∀ (a1 a2 : Int32) (h : Hp), Inv h → ∃ (r : Int32) (h1 h2 : Hp), f_X5_brick a1 a2 h = some (r, h1) ∧ f_X6_brick a1 a2 h1 = some (r, h2) ∧ Inv h2) ∧
  (∀ (a1 a2 : Int32) (h : Hp), Inv h → ∃ (r : Int32) (h1 h2 : Hp), f_X5_mark a1 a2 h = some (r, h1) ∧ f_X6_mark a1 a2 h1 = some (r, h2) ∧ Inv h2) ∧
  (∀ (a1 a2 : Int32) (h : Hp), Inv h → ∃ (r : Int32) (h1 h2 : Hp), f_X5_yes a1 a2 h = some (r, h1) ∧ f_X6_yes a1 a2 h1 = some (r, h2) ∧ Inv h2) ∧
  (∀ (a1 a2 : Int32) (h : Hp), Inv h → ∃ (r : Int32) (h1 h2 : Hp), f_X5_heir a1 a2 h = some (r, h1) ∧ f_X6_heir a1 a2 h1 = some (r, h2) ∧ Inv h2) ∧
  (∀ (a1 a2 : Int32) (h : Hp), Inv h → ∃ (r : Int32) (h1 h2 : Hp), f_X5_hang a1 a2 h = some (r, h1) ∧ f_X6_hang a1 a2 h1 = some (r, h2) ∧ Inv h2) ∧
  (∀ (a1 a2 : Int32) (h : Hp), Inv h → ∃ (r : Int32) (h1 h2 : Hp), f_X5_wedge a1 a2 h = some (r, h1) ∧ f_X6_wedge a1 a2 h1 = some (r, h2) ∧ Inv h2) ∧
  (∀ (a1 : Int32) (h : Hp), Inv h → ∃ (r : Int32) (h1 h2 : Hp), f_X5_vine a1 h = some (r, h1) ∧ f_X6_vine a1 h1 = some (r, h2) ∧ Inv h2) ∧
  (∀ (h : Hp), Inv h → ∃ (r : Int32) (h1 h2 : Hp), f_X5_stands  h = some (r, h1) ∧ f_X6_stands  h1 = some (r, h2) ∧ Inv h2) ∧
  (∀ (a1 : Int32) (h : Hp), Inv h → ∃ (r : Int32) (h1 h2 : Hp), f_X5_falls a1 h = some (r, h1) ∧ f_X6_falls a1 h1 = some (r, h2) ∧ Inv h2) ∧
  (∀ (a1 : Int32) (h : Hp), Inv h → ∃ (r : Int32) (h1 h2 : Hp), f_X5_load a1 h = some (r, h1) ∧ f_X6_load a1 h1 = some (r, h2) ∧ Inv h2) ∧
  (∀ (h : Hp), Inv h → ∃ (r : Int32) (h1 h2 : Hp), f_X5_great  h = some (r, h1) ∧ f_X6_great  h1 = some (r, h2) ∧ Inv h2) ∧
  (∀ (a1 : Int32) (h : Hp), Inv h → ∃ (r : Int32) (h1 h2 : Hp), f_X5_asks a1 h = some (r, h1) ∧ f_X6_asks a1 h1 = some (r, h2) ∧ Inv h2) ∧
  (∀ (a1 : Int32) (h : Hp), Inv h → ∃ (r : Int32) (h1 h2 : Hp), f_X5_draw a1 h = some (r, h1) ∧ f_X6_draw a1 h1 = some (r, h2) ∧ Inv h2) ∧
  (∀ (h : Hp), Inv h → ∃ (r : Int32) (h1 h2 : Hp), f_X5_free  h = some (r, h1) ∧ f_X6_free  h1 = some (r, h2) ∧ Inv h2) ∧
  (∀ (h : Hp), Inv h → ∃ (r : Int32) (h1 h2 : Hp), f_X5_undo  h = some (r, h1) ∧ f_X6_undo  h1 = some (r, h2) ∧ Inv h2) ∧
  (∀ (a1 a2 : Int32) (h : Hp), Inv h → ∃ (r : Int32) (h1 h2 : Hp), f_X5_ahead a1 a2 h = some (r, h1) ∧ f_X6_ahead a1 a2 h1 = some (r, h2) ∧ Inv h2) ∧
  (∀ (a1 : Int32) (h : Hp), Inv h → ∃ (r : Int32) (h1 h2 : Hp), f_X5_rests a1 h = some (r, h1) ∧ f_X6_rests a1 h1 = some (r, h2) ∧ Inv h2) ∧
  (∀ (a1 : Int32) (h : Hp), Inv h → ∃ (r : Int32) (h1 h2 : Hp), f_X5_props a1 h = some (r, h1) ∧ f_X6_props a1 h1 = some (r, h2) ∧ Inv h2) ∧
  (∀ (a1 a2 a3 a4 : Int32) (h : Hp), Inv h → ∃ (r : Int32) (h1 h2 : Hp), f_X5_set a1 a2 a3 a4 h = some (r, h1) ∧ f_X6_set a1 a2 a3 a4 h1 = some (r, h2) ∧ Inv h2) ∧
  (∀ (h : Hp), Inv h → ∃ (r : Int32) (h1 h2 : Hp), f_X5_soon  h = some (r, h1) ∧ f_X6_soon  h1 = some (r, h2) ∧ Inv h2) ∧
  (∀ (a1 a2 : Int32) (h : Hp), Inv h → ∃ (r : Int32) (h1 h2 : Hp), f_X5_owes a1 a2 h = some (r, h1) ∧ f_X6_owes a1 a2 h1 = some (r, h2) ∧ Inv h2) ∧
  (∀ (h : Hp), Inv h → ∃ (r : Int32) (h1 h2 : Hp), f_X5_rich  h = some (r, h1) ∧ f_X6_rich  h1 = some (r, h2) ∧ Inv h2) ∧
  (∀ (a1 : Int32) (h : Hp), Inv h → ∃ (r : Int32) (h1 h2 : Hp), f_X5_alone a1 h = some (r, h1) ∧ f_X6_alone a1 h1 = some (r, h2) ∧ Inv h2) ∧
  (∀ (a1 : Int32) (h : Hp), Inv h → ∃ (r : Int32) (h1 h2 : Hp), f_X5_few a1 h = some (r, h1) ∧ f_X6_few a1 h1 = some (r, h2) ∧ Inv h2) ∧
  (∀ (a1 : Int32) (h : Hp), Inv h → ∃ (r : Int32) (h1 h2 : Hp), f_X5_moved a1 h = some (r, h1) ∧ f_X6_moved a1 h1 = some (r, h2) ∧ Inv h2) ∧
  (∀ (a1 a2 : Int32) (h : Hp), Inv h → ∃ (r : Int32) (h1 h2 : Hp), f_X5_frost a1 a2 h = some (r, h1) ∧ f_X6_frost a1 a2 h1 = some (r, h2) ∧ Inv h2) ∧
  (∀ (a1 a2 : Int32) (h : Hp), Inv h → ∃ (r : Int32) (h1 h2 : Hp), f_X5_odds a1 a2 h = some (r, h1) ∧ f_X6_odds a1 a2 h1 = some (r, h2) ∧ Inv h2) ∧
  (∀ (a1 : Int32) (h : Hp), Inv h → ∃ (r : Int32) (h1 h2 : Hp), f_X5_go a1 h = some (r, h1) ∧ f_X6_go a1 h1 = some (r, h2) ∧ Inv h2) ∧
  (∀ (a1 : Int32) (h : Hp), Inv h → ∃ (r : Int32) (h1 h2 : Hp), f_X5_keep a1 h = some (r, h1) ∧ f_X6_keep a1 h1 = some (r, h2) ∧ Inv h2) ∧
  (∀ (a1 : Int32) (h : Hp), Inv h → ∃ (r : Int32) (h1 h2 : Hp), f_X5_on a1 h = some (r, h1) ∧ f_X6_on a1 h1 = some (r, h2) ∧ Inv h2) ∧
  (∀ (h : Hp), Inv h → ∃ (r : Int32) (h1 h2 : Hp), f_X5_asked  h = some (r, h1) ∧ f_X6_asked  h1 = some (r, h2) ∧ Inv h2) ∧
  (∀ (h : Hp), Inv h → ∃ (r : Int64) (h1 h2 : Hp), f_X5_upper  h = some (r, h1) ∧ f_X6_upper  h1 = some (r, h2) ∧ Inv h2) ∧
  (∀ (h : Hp), Inv h → ∃ (r : Int64) (h1 h2 : Hp), f_X5_lower  h = some (r, h1) ∧ f_X6_lower  h1 = some (r, h2) ∧ Inv h2) ∧
  (∀ (a1 : Int32) (h : Hp), Inv h → ∃ (r : Int32) (h1 h2 : Hp), f_X5_count a1 h = some (r, h1) ∧ f_X6_count a1 h1 = some (r, h2) ∧ Inv h2) ∧
  (∀ (h : Hp), Inv h → ∃ (r : Int32) (h1 h2 : Hp), f_X5_finding  h = some (r, h1) ∧ f_X6_finding  h1 = some (r, h2) ∧ Inv h2) ∧
  (∀ (a1 : Int32) (h : Hp), Inv h → ∃ (r : Int32) (h1 h2 : Hp), f_X5_findings a1 h = some (r, h1) ∧ f_X6_findings a1 h1 = some (r, h2) ∧ Inv h2) ∧
  (∀ (h : Hp), Inv h → ∃ (r : Int64) (h1 h2 : Hp), f_X5_digest  h = some (r, h1) ∧ f_X6_digest  h1 = some (r, h2) ∧ Inv h2)
theorem vp_inb {i L k : Nat} (h : i + k < L) (hL : L ≤ 384) : vp_in (nI i + nI k) L := by
  rw [nI_add]
  exact vp_in_nI h (by omega)
theorem law_lt {i L : Nat} (hi : i ≤ 390) (hL : L ≤ 384) (h : ¬ (Int32.ofNat L - 6 < nI i)) : i + 6 ≤ L := by
  rcases Nat.lt_or_ge L 6 with q | q
  · exfalso
    apply h
    have e : ∀ z, z < 6 → Int32.ofNat z - 6 < 0 := by decide
    have h0 : (0 : Int32) ≤ nI i := nI_pos' (by omega)
    exact Int32.lt_of_lt_of_le (e L q) h0
  · have e : Int32.ofNat L - 6 = nI (L - 6) := by
      have : nI (L - 6) + 6 = nI L := by
        rw [show (6 : Int32) = nI 6 from rfl, nI_add, show L - 6 + 6 = L by omega]
      show nI L - 6 = _
      rw [← this, Int32.add_sub_cancel]
    rw [e] at h
    have : ¬ (L - 6 < i) := fun z => h ((nI_ltI (a := L - 6) (b := i) (by omega) (by omega)).mpr z)
    omega
theorem law_0 {b L : Nat} {xs : Nat → Int32} {Inv : Hp → Prop} (S : LawStp Inv) {i : Nat} (hi : i + 6 ≤ L) (hL : L ≤ 384) {h : Hp} (hI : Inv h) (k : ∀ h2, Inv h2 → LJ b L xs 1450 [(0, aR 99 0), (1, aR 0 0), (2, aR 20 0), (3, aI (nI i))] [] h2) : LJ b L xs 236 [(0, aR 99 0), (1, aR 0 0), (2, aR 20 0), (3, aI (nI i))] [] h := by
  obtain ⟨r, h1, h2, e1, e2, hI2⟩ := S.1 (xs (Int32.toNatClampNeg (nI i + 1))) (xs (Int32.toNatClampNeg (nI i + 2))) h hI
  refine l_aload_n dL_law_236 rfl ?_
  refine l_aload_n dL_law_237 rfl ?_
  refine l_iload_n dL_law_238 rfl ?_
  refine l_iconst (v := (1 : Int32)) dL_law_239 (by decide) ?_
  refine l_iadd dL_law_240 ?_
  refine l_sld (vp_inb (i := i) (k := 1) (by omega) hL) dL_law_241 ?_
  refine l_aload_n dL_law_242 rfl ?_
  refine l_iload_n dL_law_243 rfl ?_
  refine l_iconst (v := (2 : Int32)) dL_law_244 (by decide) ?_
  refine l_iadd dL_law_245 ?_
  refine l_sld (vp_inb (i := i) (k := 2) (by omega) hL) dL_law_246 ?_
  refine lc_13 (ct_X5_row _ _ _) e1 (by decide) (Nat.le_of_ble_eq_true rfl) dL_law_247 ?_
  refine l_aload_n dL_law_250 rfl ?_
  refine l_aload_n dL_law_251 rfl ?_
  refine l_iload_n dL_law_252 rfl ?_
  refine l_iconst (v := (1 : Int32)) dL_law_253 (by decide) ?_
  refine l_iadd dL_law_254 ?_
  refine l_sld (vp_inb (i := i) (k := 1) (by omega) hL) dL_law_255 ?_
  refine l_aload_n dL_law_256 rfl ?_
  refine l_iload_n dL_law_257 rfl ?_
  refine l_iconst (v := (2 : Int32)) dL_law_258 (by decide) ?_
  refine l_iadd dL_law_259 ?_
  refine l_sld (vp_inb (i := i) (k := 2) (by omega) hL) dL_law_260 ?_
  refine lc_17 (ct_X6_row _ _ _) e2 (by decide) (Nat.le_of_ble_eq_true rfl) dL_law_261 ?_
  refine l_icmp_eq (tgt := 1450) dL_law_264 (by decide) (fun _ => k h2 hI2) (fun q => absurd rfl q)
theorem law_1 {b L : Nat} {xs : Nat → Int32} {Inv : Hp → Prop} (S : LawStp Inv) {i : Nat} (hi : i + 6 ≤ L) (hL : L ≤ 384) {h : Hp} (hI : Inv h) (k : ∀ h2, Inv h2 → LJ b L xs 1450 [(0, aR 99 0), (1, aR 0 0), (2, aR 20 0), (3, aI (nI i))] [] h2) : LJ b L xs 269 [(0, aR 99 0), (1, aR 0 0), (2, aR 20 0), (3, aI (nI i))] [] h := by
  obtain ⟨r, h1, h2, e1, e2, hI2⟩ := S.2.1 (xs (Int32.toNatClampNeg (nI i + 1))) (xs (Int32.toNatClampNeg (nI i + 2))) (xs (Int32.toNatClampNeg (nI i + 3))) h hI
  refine l_aload_n dL_law_269 rfl ?_
  refine l_aload_n dL_law_270 rfl ?_
  refine l_iload_n dL_law_271 rfl ?_
  refine l_iconst (v := (1 : Int32)) dL_law_272 (by decide) ?_
  refine l_iadd dL_law_273 ?_
  refine l_sld (vp_inb (i := i) (k := 1) (by omega) hL) dL_law_274 ?_
  refine l_aload_n dL_law_275 rfl ?_
  refine l_iload_n dL_law_276 rfl ?_
  refine l_iconst (v := (2 : Int32)) dL_law_277 (by decide) ?_
  refine l_iadd dL_law_278 ?_
  refine l_sld (vp_inb (i := i) (k := 2) (by omega) hL) dL_law_279 ?_
  refine l_aload_n dL_law_280 rfl ?_
  refine l_iload_n dL_law_281 rfl ?_
  refine l_iconst (v := (3 : Int32)) dL_law_282 (by decide) ?_
  refine l_iadd dL_law_283 ?_
  refine l_sld (vp_inb (i := i) (k := 3) (by omega) hL) dL_law_284 ?_
  refine lc_18 (ct_X5_lay _ _ _ _) e1 (by decide) (Nat.le_of_ble_eq_true rfl) dL_law_285 ?_
  refine l_aload_n dL_law_288 rfl ?_
  refine l_aload_n dL_law_289 rfl ?_
  refine l_iload_n dL_law_290 rfl ?_
  refine l_iconst (v := (1 : Int32)) dL_law_291 (by decide) ?_
  refine l_iadd dL_law_292 ?_
  refine l_sld (vp_inb (i := i) (k := 1) (by omega) hL) dL_law_293 ?_
  refine l_aload_n dL_law_294 rfl ?_
  refine l_iload_n dL_law_295 rfl ?_
  refine l_iconst (v := (2 : Int32)) dL_law_296 (by decide) ?_
  refine l_iadd dL_law_297 ?_
  refine l_sld (vp_inb (i := i) (k := 2) (by omega) hL) dL_law_298 ?_
  refine l_aload_n dL_law_299 rfl ?_
  refine l_iload_n dL_law_300 rfl ?_
  refine l_iconst (v := (3 : Int32)) dL_law_301 (by decide) ?_
  refine l_iadd dL_law_302 ?_
  refine l_sld (vp_inb (i := i) (k := 3) (by omega) hL) dL_law_303 ?_
  refine lc_22 (ct_X6_lay _ _ _ _) e2 (by decide) (Nat.le_of_ble_eq_true rfl) dL_law_304 ?_
  refine l_icmp_eq (tgt := 1450) dL_law_307 (by decide) (fun _ => k h2 hI2) (fun q => absurd rfl q)
theorem law_2 {b L : Nat} {xs : Nat → Int32} {Inv : Hp → Prop} (S : LawStp Inv) {i : Nat} (hi : i + 6 ≤ L) (hL : L ≤ 384) {h : Hp} (hI : Inv h) (k : ∀ h2, Inv h2 → LJ b L xs 1450 [(0, aR 99 0), (1, aR 0 0), (2, aR 20 0), (3, aI (nI i))] [] h2) : LJ b L xs 312 [(0, aR 99 0), (1, aR 0 0), (2, aR 20 0), (3, aI (nI i))] [] h := by
  obtain ⟨r, h1, h2, e1, e2, hI2⟩ := S.2.2.1 (xs (Int32.toNatClampNeg (nI i + 1))) (xs (Int32.toNatClampNeg (nI i + 2))) h hI
  refine l_aload_n dL_law_312 rfl ?_
  refine l_aload_n dL_law_313 rfl ?_
  refine l_iload_n dL_law_314 rfl ?_
  refine l_iconst (v := (1 : Int32)) dL_law_315 (by decide) ?_
  refine l_iadd dL_law_316 ?_
  refine l_sld (vp_inb (i := i) (k := 1) (by omega) hL) dL_law_317 ?_
  refine l_aload_n dL_law_318 rfl ?_
  refine l_iload_n dL_law_319 rfl ?_
  refine l_iconst (v := (2 : Int32)) dL_law_320 (by decide) ?_
  refine l_iadd dL_law_321 ?_
  refine l_sld (vp_inb (i := i) (k := 2) (by omega) hL) dL_law_322 ?_
  refine lc_23 (ct_X5_at _ _ _) e1 (by decide) (Nat.le_of_ble_eq_true rfl) dL_law_323 ?_
  refine l_aload_n dL_law_326 rfl ?_
  refine l_aload_n dL_law_327 rfl ?_
  refine l_iload_n dL_law_328 rfl ?_
  refine l_iconst (v := (1 : Int32)) dL_law_329 (by decide) ?_
  refine l_iadd dL_law_330 ?_
  refine l_sld (vp_inb (i := i) (k := 1) (by omega) hL) dL_law_331 ?_
  refine l_aload_n dL_law_332 rfl ?_
  refine l_iload_n dL_law_333 rfl ?_
  refine l_iconst (v := (2 : Int32)) dL_law_334 (by decide) ?_
  refine l_iadd dL_law_335 ?_
  refine l_sld (vp_inb (i := i) (k := 2) (by omega) hL) dL_law_336 ?_
  refine lc_26 (ct_X6_at _ _ _) e2 (by decide) (Nat.le_of_ble_eq_true rfl) dL_law_337 ?_
  refine l_icmp_eq (tgt := 1450) dL_law_340 (by decide) (fun _ => k h2 hI2) (fun q => absurd rfl q)
theorem law_3 {b L : Nat} {xs : Nat → Int32} {Inv : Hp → Prop} (S : LawStp Inv) {i : Nat} (hi : i + 6 ≤ L) (hL : L ≤ 384) {h : Hp} (hI : Inv h) (k : ∀ h2, Inv h2 → LJ b L xs 1450 [(0, aR 99 0), (1, aR 0 0), (2, aR 20 0), (3, aI (nI i))] [] h2) : LJ b L xs 345 [(0, aR 99 0), (1, aR 0 0), (2, aR 20 0), (3, aI (nI i))] [] h := by
  obtain ⟨r, h1, h2, e1, e2, hI2⟩ := S.2.2.2.1 (xs (Int32.toNatClampNeg (nI i + 1))) h hI
  refine l_aload_n dL_law_345 rfl ?_
  refine l_aload_n dL_law_346 rfl ?_
  refine l_iload_n dL_law_347 rfl ?_
  refine l_iconst (v := (1 : Int32)) dL_law_348 (by decide) ?_
  refine l_iadd dL_law_349 ?_
  refine l_sld (vp_inb (i := i) (k := 1) (by omega) hL) dL_law_350 ?_
  refine lc_27 (ct_X5_tear _ _) e1 (by decide) (Nat.le_of_ble_eq_true rfl) dL_law_351 ?_
  refine l_aload_n dL_law_354 rfl ?_
  refine l_aload_n dL_law_355 rfl ?_
  refine l_iload_n dL_law_356 rfl ?_
  refine l_iconst (v := (1 : Int32)) dL_law_357 (by decide) ?_
  refine l_iadd dL_law_358 ?_
  refine l_sld (vp_inb (i := i) (k := 1) (by omega) hL) dL_law_359 ?_
  refine lc_31 (ct_X6_tear _ _) e2 (by decide) (Nat.le_of_ble_eq_true rfl) dL_law_360 ?_
  refine l_icmp_eq (tgt := 1450) dL_law_363 (by decide) (fun _ => k h2 hI2) (fun q => absurd rfl q)
theorem law_4 {b L : Nat} {xs : Nat → Int32} {Inv : Hp → Prop} (S : LawStp Inv) {i : Nat} (hi : i + 6 ≤ L) (hL : L ≤ 384) {h : Hp} (hI : Inv h) (k : ∀ h2, Inv h2 → LJ b L xs 1450 [(0, aR 99 0), (1, aR 0 0), (2, aR 20 0), (3, aI (nI i))] [] h2) : LJ b L xs 368 [(0, aR 99 0), (1, aR 0 0), (2, aR 20 0), (3, aI (nI i))] [] h := by
  obtain ⟨r, h1, h2, e1, e2, hI2⟩ := S.2.2.2.2.1 (xs (Int32.toNatClampNeg (nI i + 1))) (xs (Int32.toNatClampNeg (nI i + 2))) (xs (Int32.toNatClampNeg (nI i + 3))) (xs (Int32.toNatClampNeg (nI i + 4))) (xs (Int32.toNatClampNeg (nI i + 5))) h hI
  refine l_aload_n dL_law_368 rfl ?_
  refine l_aload_n dL_law_369 rfl ?_
  refine l_iload_n dL_law_370 rfl ?_
  refine l_iconst (v := (1 : Int32)) dL_law_371 (by decide) ?_
  refine l_iadd dL_law_372 ?_
  refine l_sld (vp_inb (i := i) (k := 1) (by omega) hL) dL_law_373 ?_
  refine l_aload_n dL_law_374 rfl ?_
  refine l_iload_n dL_law_375 rfl ?_
  refine l_iconst (v := (2 : Int32)) dL_law_376 (by decide) ?_
  refine l_iadd dL_law_377 ?_
  refine l_sld (vp_inb (i := i) (k := 2) (by omega) hL) dL_law_378 ?_
  refine l_aload_n dL_law_379 rfl ?_
  refine l_iload_n dL_law_380 rfl ?_
  refine l_iconst (v := (3 : Int32)) dL_law_381 (by decide) ?_
  refine l_iadd dL_law_382 ?_
  refine l_sld (vp_inb (i := i) (k := 3) (by omega) hL) dL_law_383 ?_
  refine l_aload_n dL_law_384 rfl ?_
  refine l_iload_n dL_law_385 rfl ?_
  refine l_iconst (v := (4 : Int32)) dL_law_386 (by decide) ?_
  refine l_iadd dL_law_387 ?_
  refine l_sld (vp_inb (i := i) (k := 4) (by omega) hL) dL_law_388 ?_
  refine l_aload_n dL_law_389 rfl ?_
  refine l_iload_n dL_law_390 rfl ?_
  refine l_iconst (v := (5 : Int32)) dL_law_391 (by decide) ?_
  refine l_iadd dL_law_392 ?_
  refine l_sld (vp_inb (i := i) (k := 5) (by omega) hL) dL_law_393 ?_
  refine lc_32 (ct_X5_copy _ _ _ _ _ _) e1 (by decide) (Nat.le_of_ble_eq_true rfl) dL_law_394 ?_
  refine l_aload_n dL_law_397 rfl ?_
  refine l_aload_n dL_law_398 rfl ?_
  refine l_iload_n dL_law_399 rfl ?_
  refine l_iconst (v := (1 : Int32)) dL_law_400 (by decide) ?_
  refine l_iadd dL_law_401 ?_
  refine l_sld (vp_inb (i := i) (k := 1) (by omega) hL) dL_law_402 ?_
  refine l_aload_n dL_law_403 rfl ?_
  refine l_iload_n dL_law_404 rfl ?_
  refine l_iconst (v := (2 : Int32)) dL_law_405 (by decide) ?_
  refine l_iadd dL_law_406 ?_
  refine l_sld (vp_inb (i := i) (k := 2) (by omega) hL) dL_law_407 ?_
  refine l_aload_n dL_law_408 rfl ?_
  refine l_iload_n dL_law_409 rfl ?_
  refine l_iconst (v := (3 : Int32)) dL_law_410 (by decide) ?_
  refine l_iadd dL_law_411 ?_
  refine l_sld (vp_inb (i := i) (k := 3) (by omega) hL) dL_law_412 ?_
  refine l_aload_n dL_law_413 rfl ?_
  refine l_iload_n dL_law_414 rfl ?_
  refine l_iconst (v := (4 : Int32)) dL_law_415 (by decide) ?_
  refine l_iadd dL_law_416 ?_
  refine l_sld (vp_inb (i := i) (k := 4) (by omega) hL) dL_law_417 ?_
  refine l_aload_n dL_law_418 rfl ?_
  refine l_iload_n dL_law_419 rfl ?_
  refine l_iconst (v := (5 : Int32)) dL_law_420 (by decide) ?_
  refine l_iadd dL_law_421 ?_
  refine l_sld (vp_inb (i := i) (k := 5) (by omega) hL) dL_law_422 ?_
  refine lc_36 (ct_X6_copy _ _ _ _ _ _) e2 (by decide) (Nat.le_of_ble_eq_true rfl) dL_law_423 ?_
  refine l_icmp_eq (tgt := 1450) dL_law_426 (by decide) (fun _ => k h2 hI2) (fun q => absurd rfl q)
theorem law_5 {b L : Nat} {xs : Nat → Int32} {Inv : Hp → Prop} (S : LawStp Inv) {i : Nat} (hi : i + 6 ≤ L) (hL : L ≤ 384) {h : Hp} (hI : Inv h) (k : ∀ h2, Inv h2 → LJ b L xs 1450 [(0, aR 99 0), (1, aR 0 0), (2, aR 20 0), (3, aI (nI i))] [] h2) : LJ b L xs 431 [(0, aR 99 0), (1, aR 0 0), (2, aR 20 0), (3, aI (nI i))] [] h := by
  obtain ⟨r, h1, h2, e1, e2, hI2⟩ := S.2.2.2.2.2.1 (xs (Int32.toNatClampNeg (nI i + 1))) h hI
  refine l_aload_n dL_law_431 rfl ?_
  refine l_aload_n dL_law_432 rfl ?_
  refine l_iload_n dL_law_433 rfl ?_
  refine l_iconst (v := (1 : Int32)) dL_law_434 (by decide) ?_
  refine l_iadd dL_law_435 ?_
  refine l_sld (vp_inb (i := i) (k := 1) (by omega) hL) dL_law_436 ?_
  refine lc_37 (ct_X5_mean _ _) e1 (by decide) (Nat.le_of_ble_eq_true rfl) dL_law_437 ?_
  refine l_aload_n dL_law_440 rfl ?_
  refine l_aload_n dL_law_441 rfl ?_
  refine l_iload_n dL_law_442 rfl ?_
  refine l_iconst (v := (1 : Int32)) dL_law_443 (by decide) ?_
  refine l_iadd dL_law_444 ?_
  refine l_sld (vp_inb (i := i) (k := 1) (by omega) hL) dL_law_445 ?_
  refine lc_40 (ct_X6_mean _ _) e2 (by decide) (Nat.le_of_ble_eq_true rfl) dL_law_446 ?_
  refine l_icmp_eq (tgt := 1450) dL_law_449 (by decide) (fun _ => k h2 hI2) (fun q => absurd rfl q)
theorem law_6 {b L : Nat} {xs : Nat → Int32} {Inv : Hp → Prop} (S : LawStp Inv) {i : Nat} (hi : i + 6 ≤ L) (hL : L ≤ 384) {h : Hp} (hI : Inv h) (k : ∀ h2, Inv h2 → LJ b L xs 1450 [(0, aR 99 0), (1, aR 0 0), (2, aR 20 0), (3, aI (nI i))] [] h2) : LJ b L xs 454 [(0, aR 99 0), (1, aR 0 0), (2, aR 20 0), (3, aI (nI i))] [] h := by
  obtain ⟨r, h1, h2, e1, e2, hI2⟩ := S.2.2.2.2.2.2.1 (xs (Int32.toNatClampNeg (nI i + 1))) (xs (Int32.toNatClampNeg (nI i + 2))) h hI
  refine l_aload_n dL_law_454 rfl ?_
  refine l_aload_n dL_law_455 rfl ?_
  refine l_iload_n dL_law_456 rfl ?_
  refine l_iconst (v := (1 : Int32)) dL_law_457 (by decide) ?_
  refine l_iadd dL_law_458 ?_
  refine l_sld (vp_inb (i := i) (k := 1) (by omega) hL) dL_law_459 ?_
  refine l_aload_n dL_law_460 rfl ?_
  refine l_iload_n dL_law_461 rfl ?_
  refine l_iconst (v := (2 : Int32)) dL_law_462 (by decide) ?_
  refine l_iadd dL_law_463 ?_
  refine l_sld (vp_inb (i := i) (k := 2) (by omega) hL) dL_law_464 ?_
  refine lc_41 (ct_X5_text _ _ _) e1 (by decide) (Nat.le_of_ble_eq_true rfl) dL_law_465 ?_
  refine l_aload_n dL_law_468 rfl ?_
  refine l_aload_n dL_law_469 rfl ?_
  refine l_iload_n dL_law_470 rfl ?_
  refine l_iconst (v := (1 : Int32)) dL_law_471 (by decide) ?_
  refine l_iadd dL_law_472 ?_
  refine l_sld (vp_inb (i := i) (k := 1) (by omega) hL) dL_law_473 ?_
  refine l_aload_n dL_law_474 rfl ?_
  refine l_iload_n dL_law_475 rfl ?_
  refine l_iconst (v := (2 : Int32)) dL_law_476 (by decide) ?_
  refine l_iadd dL_law_477 ?_
  refine l_sld (vp_inb (i := i) (k := 2) (by omega) hL) dL_law_478 ?_
  refine lc_44 (ct_X6_text _ _ _) e2 (by decide) (Nat.le_of_ble_eq_true rfl) dL_law_479 ?_
  refine l_icmp_eq (tgt := 1450) dL_law_482 (by decide) (fun _ => k h2 hI2) (fun q => absurd rfl q)
theorem law_7 {b L : Nat} {xs : Nat → Int32} {Inv : Hp → Prop} (S : LawStp Inv) {i : Nat} (hi : i + 6 ≤ L) (hL : L ≤ 384) {h : Hp} (hI : Inv h) (k : ∀ h2, Inv h2 → LJ b L xs 1450 [(0, aR 99 0), (1, aR 0 0), (2, aR 20 0), (3, aI (nI i))] [] h2) : LJ b L xs 487 [(0, aR 99 0), (1, aR 0 0), (2, aR 20 0), (3, aI (nI i))] [] h := by
  obtain ⟨r, h1, h2, e1, e2, hI2⟩ := S.2.2.2.2.2.2.2.1 (xs (Int32.toNatClampNeg (nI i + 1))) (xs (Int32.toNatClampNeg (nI i + 2))) (xs (Int32.toNatClampNeg (nI i + 3))) h hI
  refine l_aload_n dL_law_487 rfl ?_
  refine l_aload_n dL_law_488 rfl ?_
  refine l_iload_n dL_law_489 rfl ?_
  refine l_iconst (v := (1 : Int32)) dL_law_490 (by decide) ?_
  refine l_iadd dL_law_491 ?_
  refine l_sld (vp_inb (i := i) (k := 1) (by omega) hL) dL_law_492 ?_
  refine l_aload_n dL_law_493 rfl ?_
  refine l_iload_n dL_law_494 rfl ?_
  refine l_iconst (v := (2 : Int32)) dL_law_495 (by decide) ?_
  refine l_iadd dL_law_496 ?_
  refine l_sld (vp_inb (i := i) (k := 2) (by omega) hL) dL_law_497 ?_
  refine l_aload_n dL_law_498 rfl ?_
  refine l_iload_n dL_law_499 rfl ?_
  refine l_iconst (v := (3 : Int32)) dL_law_500 (by decide) ?_
  refine l_iadd dL_law_501 ?_
  refine l_sld (vp_inb (i := i) (k := 3) (by omega) hL) dL_law_502 ?_
  refine lc_45 (ct_X5_put _ _ _ _) e1 (by decide) (Nat.le_of_ble_eq_true rfl) dL_law_503 ?_
  refine l_aload_n dL_law_506 rfl ?_
  refine l_aload_n dL_law_507 rfl ?_
  refine l_iload_n dL_law_508 rfl ?_
  refine l_iconst (v := (1 : Int32)) dL_law_509 (by decide) ?_
  refine l_iadd dL_law_510 ?_
  refine l_sld (vp_inb (i := i) (k := 1) (by omega) hL) dL_law_511 ?_
  refine l_aload_n dL_law_512 rfl ?_
  refine l_iload_n dL_law_513 rfl ?_
  refine l_iconst (v := (2 : Int32)) dL_law_514 (by decide) ?_
  refine l_iadd dL_law_515 ?_
  refine l_sld (vp_inb (i := i) (k := 2) (by omega) hL) dL_law_516 ?_
  refine l_aload_n dL_law_517 rfl ?_
  refine l_iload_n dL_law_518 rfl ?_
  refine l_iconst (v := (3 : Int32)) dL_law_519 (by decide) ?_
  refine l_iadd dL_law_520 ?_
  refine l_sld (vp_inb (i := i) (k := 3) (by omega) hL) dL_law_521 ?_
  refine lc_48 (ct_X6_put _ _ _ _) e2 (by decide) (Nat.le_of_ble_eq_true rfl) dL_law_522 ?_
  refine l_icmp_eq (tgt := 1450) dL_law_525 (by decide) (fun _ => k h2 hI2) (fun q => absurd rfl q)
theorem law_8 {b L : Nat} {xs : Nat → Int32} {Inv : Hp → Prop} (S : LawStp Inv) {i : Nat} (hi : i + 6 ≤ L) (hL : L ≤ 384) {h : Hp} (hI : Inv h) (k : ∀ h2, Inv h2 → LJ b L xs 1450 [(0, aR 99 0), (1, aR 0 0), (2, aR 20 0), (3, aI (nI i))] [] h2) : LJ b L xs 530 [(0, aR 99 0), (1, aR 0 0), (2, aR 20 0), (3, aI (nI i))] [] h := by
  obtain ⟨r, h1, h2, e1, e2, hI2⟩ := S.2.2.2.2.2.2.2.2.1 (xs (Int32.toNatClampNeg (nI i + 1))) h hI
  refine l_aload_n dL_law_530 rfl ?_
  refine l_aload_n dL_law_531 rfl ?_
  refine l_iload_n dL_law_532 rfl ?_
  refine l_iconst (v := (1 : Int32)) dL_law_533 (by decide) ?_
  refine l_iadd dL_law_534 ?_
  refine l_sld (vp_inb (i := i) (k := 1) (by omega) hL) dL_law_535 ?_
  refine lc_49 (ct_X5_fault _ _) e1 (by decide) (Nat.le_of_ble_eq_true rfl) dL_law_536 ?_
  refine l_aload_n dL_law_539 rfl ?_
  refine l_aload_n dL_law_540 rfl ?_
  refine l_iload_n dL_law_541 rfl ?_
  refine l_iconst (v := (1 : Int32)) dL_law_542 (by decide) ?_
  refine l_iadd dL_law_543 ?_
  refine l_sld (vp_inb (i := i) (k := 1) (by omega) hL) dL_law_544 ?_
  refine lc_52 (ct_X6_fault _ _) e2 (by decide) (Nat.le_of_ble_eq_true rfl) dL_law_545 ?_
  refine l_icmp_eq (tgt := 1450) dL_law_548 (by decide) (fun _ => k h2 hI2) (fun q => absurd rfl q)
theorem law_9 {b L : Nat} {xs : Nat → Int32} {Inv : Hp → Prop} (S : LawStp Inv) {i : Nat} (hi : i + 6 ≤ L) (hL : L ≤ 384) {h : Hp} (hI : Inv h) (k : ∀ h2, Inv h2 → LJ b L xs 1450 [(0, aR 99 0), (1, aR 0 0), (2, aR 20 0), (3, aI (nI i))] [] h2) : LJ b L xs 553 [(0, aR 99 0), (1, aR 0 0), (2, aR 20 0), (3, aI (nI i))] [] h := by
  obtain ⟨r, h1, h2, e1, e2, hI2⟩ := S.2.2.2.2.2.2.2.2.2.1 (xs (Int32.toNatClampNeg (nI i + 1))) h hI
  refine l_aload_n dL_law_553 rfl ?_
  refine l_aload_n dL_law_554 rfl ?_
  refine l_iload_n dL_law_555 rfl ?_
  refine l_iconst (v := (1 : Int32)) dL_law_556 (by decide) ?_
  refine l_iadd dL_law_557 ?_
  refine l_sld (vp_inb (i := i) (k := 1) (by omega) hL) dL_law_558 ?_
  refine lc_53 (ct_X5_wall _ _) e1 (by decide) (Nat.le_of_ble_eq_true rfl) dL_law_559 ?_
  refine l_aload_n dL_law_562 rfl ?_
  refine l_aload_n dL_law_563 rfl ?_
  refine l_iload_n dL_law_564 rfl ?_
  refine l_iconst (v := (1 : Int32)) dL_law_565 (by decide) ?_
  refine l_iadd dL_law_566 ?_
  refine l_sld (vp_inb (i := i) (k := 1) (by omega) hL) dL_law_567 ?_
  refine lc_56 (ct_X6_wall _ _) e2 (by decide) (Nat.le_of_ble_eq_true rfl) dL_law_568 ?_
  refine l_icmp_eq (tgt := 1450) dL_law_571 (by decide) (fun _ => k h2 hI2) (fun q => absurd rfl q)
theorem law_10 {b L : Nat} {xs : Nat → Int32} {Inv : Hp → Prop} (S : LawStp Inv) {i : Nat} (hi : i + 6 ≤ L) (hL : L ≤ 384) {h : Hp} (hI : Inv h) (k : ∀ h2, Inv h2 → LJ b L xs 1450 [(0, aR 99 0), (1, aR 0 0), (2, aR 20 0), (3, aI (nI i))] [] h2) : LJ b L xs 576 [(0, aR 99 0), (1, aR 0 0), (2, aR 20 0), (3, aI (nI i))] [] h := by
  obtain ⟨r, h1, h2, e1, e2, hI2⟩ := S.2.2.2.2.2.2.2.2.2.2.1 (xs (Int32.toNatClampNeg (nI i + 1))) (xs (Int32.toNatClampNeg (nI i + 2))) h hI
  refine l_aload_n dL_law_576 rfl ?_
  refine l_aload_n dL_law_577 rfl ?_
  refine l_iload_n dL_law_578 rfl ?_
  refine l_iconst (v := (1 : Int32)) dL_law_579 (by decide) ?_
  refine l_iadd dL_law_580 ?_
  refine l_sld (vp_inb (i := i) (k := 1) (by omega) hL) dL_law_581 ?_
  refine l_aload_n dL_law_582 rfl ?_
  refine l_iload_n dL_law_583 rfl ?_
  refine l_iconst (v := (2 : Int32)) dL_law_584 (by decide) ?_
  refine l_iadd dL_law_585 ?_
  refine l_sld (vp_inb (i := i) (k := 2) (by omega) hL) dL_law_586 ?_
  refine lc_57 (ct_X5_brick _ _ _) e1 (by decide) (Nat.le_of_ble_eq_true rfl) dL_law_587 ?_
  refine l_aload_n dL_law_590 rfl ?_
  refine l_aload_n dL_law_591 rfl ?_
  refine l_iload_n dL_law_592 rfl ?_
  refine l_iconst (v := (1 : Int32)) dL_law_593 (by decide) ?_
  refine l_iadd dL_law_594 ?_
  refine l_sld (vp_inb (i := i) (k := 1) (by omega) hL) dL_law_595 ?_
  refine l_aload_n dL_law_596 rfl ?_
  refine l_iload_n dL_law_597 rfl ?_
  refine l_iconst (v := (2 : Int32)) dL_law_598 (by decide) ?_
  refine l_iadd dL_law_599 ?_
  refine l_sld (vp_inb (i := i) (k := 2) (by omega) hL) dL_law_600 ?_
  refine lc_60 (ct_X6_brick _ _ _) e2 (by decide) (Nat.le_of_ble_eq_true rfl) dL_law_601 ?_
  refine l_icmp_eq (tgt := 1450) dL_law_604 (by decide) (fun _ => k h2 hI2) (fun q => absurd rfl q)
theorem law_11 {b L : Nat} {xs : Nat → Int32} {Inv : Hp → Prop} (S : LawStp Inv) {i : Nat} (hi : i + 6 ≤ L) (hL : L ≤ 384) {h : Hp} (hI : Inv h) (k : ∀ h2, Inv h2 → LJ b L xs 1450 [(0, aR 99 0), (1, aR 0 0), (2, aR 20 0), (3, aI (nI i))] [] h2) : LJ b L xs 609 [(0, aR 99 0), (1, aR 0 0), (2, aR 20 0), (3, aI (nI i))] [] h := by
  obtain ⟨r, h1, h2, e1, e2, hI2⟩ := S.2.2.2.2.2.2.2.2.2.2.2.1 (xs (Int32.toNatClampNeg (nI i + 1))) (xs (Int32.toNatClampNeg (nI i + 2))) h hI
  refine l_aload_n dL_law_609 rfl ?_
  refine l_aload_n dL_law_610 rfl ?_
  refine l_iload_n dL_law_611 rfl ?_
  refine l_iconst (v := (1 : Int32)) dL_law_612 (by decide) ?_
  refine l_iadd dL_law_613 ?_
  refine l_sld (vp_inb (i := i) (k := 1) (by omega) hL) dL_law_614 ?_
  refine l_aload_n dL_law_615 rfl ?_
  refine l_iload_n dL_law_616 rfl ?_
  refine l_iconst (v := (2 : Int32)) dL_law_617 (by decide) ?_
  refine l_iadd dL_law_618 ?_
  refine l_sld (vp_inb (i := i) (k := 2) (by omega) hL) dL_law_619 ?_
  refine lc_61 (ct_X5_mark _ _ _) e1 (by decide) (Nat.le_of_ble_eq_true rfl) dL_law_620 ?_
  refine l_aload_n dL_law_623 rfl ?_
  refine l_aload_n dL_law_624 rfl ?_
  refine l_iload_n dL_law_625 rfl ?_
  refine l_iconst (v := (1 : Int32)) dL_law_626 (by decide) ?_
  refine l_iadd dL_law_627 ?_
  refine l_sld (vp_inb (i := i) (k := 1) (by omega) hL) dL_law_628 ?_
  refine l_aload_n dL_law_629 rfl ?_
  refine l_iload_n dL_law_630 rfl ?_
  refine l_iconst (v := (2 : Int32)) dL_law_631 (by decide) ?_
  refine l_iadd dL_law_632 ?_
  refine l_sld (vp_inb (i := i) (k := 2) (by omega) hL) dL_law_633 ?_
  refine lc_64 (ct_X6_mark _ _ _) e2 (by decide) (Nat.le_of_ble_eq_true rfl) dL_law_634 ?_
  refine l_icmp_eq (tgt := 1450) dL_law_637 (by decide) (fun _ => k h2 hI2) (fun q => absurd rfl q)
theorem law_12 {b L : Nat} {xs : Nat → Int32} {Inv : Hp → Prop} (S : LawStp Inv) {i : Nat} (hi : i + 6 ≤ L) (hL : L ≤ 384) {h : Hp} (hI : Inv h) (k : ∀ h2, Inv h2 → LJ b L xs 1450 [(0, aR 99 0), (1, aR 0 0), (2, aR 20 0), (3, aI (nI i))] [] h2) : LJ b L xs 642 [(0, aR 99 0), (1, aR 0 0), (2, aR 20 0), (3, aI (nI i))] [] h := by
  obtain ⟨r, h1, h2, e1, e2, hI2⟩ := S.2.2.2.2.2.2.2.2.2.2.2.2.1 (xs (Int32.toNatClampNeg (nI i + 1))) (xs (Int32.toNatClampNeg (nI i + 2))) h hI
  refine l_aload_n dL_law_642 rfl ?_
  refine l_aload_n dL_law_643 rfl ?_
  refine l_iload_n dL_law_644 rfl ?_
  refine l_iconst (v := (1 : Int32)) dL_law_645 (by decide) ?_
  refine l_iadd dL_law_646 ?_
  refine l_sld (vp_inb (i := i) (k := 1) (by omega) hL) dL_law_647 ?_
  refine l_aload_n dL_law_648 rfl ?_
  refine l_iload_n dL_law_649 rfl ?_
  refine l_iconst (v := (2 : Int32)) dL_law_650 (by decide) ?_
  refine l_iadd dL_law_651 ?_
  refine l_sld (vp_inb (i := i) (k := 2) (by omega) hL) dL_law_652 ?_
  refine lc_65 (ct_X5_yes _ _ _) e1 (by decide) (Nat.le_of_ble_eq_true rfl) dL_law_653 ?_
  refine l_aload_n dL_law_656 rfl ?_
  refine l_aload_n dL_law_657 rfl ?_
  refine l_iload_n dL_law_658 rfl ?_
  refine l_iconst (v := (1 : Int32)) dL_law_659 (by decide) ?_
  refine l_iadd dL_law_660 ?_
  refine l_sld (vp_inb (i := i) (k := 1) (by omega) hL) dL_law_661 ?_
  refine l_aload_n dL_law_662 rfl ?_
  refine l_iload_n dL_law_663 rfl ?_
  refine l_iconst (v := (2 : Int32)) dL_law_664 (by decide) ?_
  refine l_iadd dL_law_665 ?_
  refine l_sld (vp_inb (i := i) (k := 2) (by omega) hL) dL_law_666 ?_
  refine lc_68 (ct_X6_yes _ _ _) e2 (by decide) (Nat.le_of_ble_eq_true rfl) dL_law_667 ?_
  refine l_icmp_eq (tgt := 1450) dL_law_670 (by decide) (fun _ => k h2 hI2) (fun q => absurd rfl q)
theorem law_13 {b L : Nat} {xs : Nat → Int32} {Inv : Hp → Prop} (S : LawStp Inv) {i : Nat} (hi : i + 6 ≤ L) (hL : L ≤ 384) {h : Hp} (hI : Inv h) (k : ∀ h2, Inv h2 → LJ b L xs 1450 [(0, aR 99 0), (1, aR 0 0), (2, aR 20 0), (3, aI (nI i))] [] h2) : LJ b L xs 675 [(0, aR 99 0), (1, aR 0 0), (2, aR 20 0), (3, aI (nI i))] [] h := by
  obtain ⟨r, h1, h2, e1, e2, hI2⟩ := S.2.2.2.2.2.2.2.2.2.2.2.2.2.1 (xs (Int32.toNatClampNeg (nI i + 1))) (xs (Int32.toNatClampNeg (nI i + 2))) h hI
  refine l_aload_n dL_law_675 rfl ?_
  refine l_aload_n dL_law_676 rfl ?_
  refine l_iload_n dL_law_677 rfl ?_
  refine l_iconst (v := (1 : Int32)) dL_law_678 (by decide) ?_
  refine l_iadd dL_law_679 ?_
  refine l_sld (vp_inb (i := i) (k := 1) (by omega) hL) dL_law_680 ?_
  refine l_aload_n dL_law_681 rfl ?_
  refine l_iload_n dL_law_682 rfl ?_
  refine l_iconst (v := (2 : Int32)) dL_law_683 (by decide) ?_
  refine l_iadd dL_law_684 ?_
  refine l_sld (vp_inb (i := i) (k := 2) (by omega) hL) dL_law_685 ?_
  refine lc_69 (ct_X5_heir _ _ _) e1 (by decide) (Nat.le_of_ble_eq_true rfl) dL_law_686 ?_
  refine l_aload_n dL_law_689 rfl ?_
  refine l_aload_n dL_law_690 rfl ?_
  refine l_iload_n dL_law_691 rfl ?_
  refine l_iconst (v := (1 : Int32)) dL_law_692 (by decide) ?_
  refine l_iadd dL_law_693 ?_
  refine l_sld (vp_inb (i := i) (k := 1) (by omega) hL) dL_law_694 ?_
  refine l_aload_n dL_law_695 rfl ?_
  refine l_iload_n dL_law_696 rfl ?_
  refine l_iconst (v := (2 : Int32)) dL_law_697 (by decide) ?_
  refine l_iadd dL_law_698 ?_
  refine l_sld (vp_inb (i := i) (k := 2) (by omega) hL) dL_law_699 ?_
  refine lc_72 (ct_X6_heir _ _ _) e2 (by decide) (Nat.le_of_ble_eq_true rfl) dL_law_700 ?_
  refine l_icmp_eq (tgt := 1450) dL_law_703 (by decide) (fun _ => k h2 hI2) (fun q => absurd rfl q)
theorem law_14 {b L : Nat} {xs : Nat → Int32} {Inv : Hp → Prop} (S : LawStp Inv) {i : Nat} (hi : i + 6 ≤ L) (hL : L ≤ 384) {h : Hp} (hI : Inv h) (k : ∀ h2, Inv h2 → LJ b L xs 1450 [(0, aR 99 0), (1, aR 0 0), (2, aR 20 0), (3, aI (nI i))] [] h2) : LJ b L xs 708 [(0, aR 99 0), (1, aR 0 0), (2, aR 20 0), (3, aI (nI i))] [] h := by
  obtain ⟨r, h1, h2, e1, e2, hI2⟩ := S.2.2.2.2.2.2.2.2.2.2.2.2.2.2.1 (xs (Int32.toNatClampNeg (nI i + 1))) (xs (Int32.toNatClampNeg (nI i + 2))) h hI
  refine l_aload_n dL_law_708 rfl ?_
  refine l_aload_n dL_law_709 rfl ?_
  refine l_iload_n dL_law_710 rfl ?_
  refine l_iconst (v := (1 : Int32)) dL_law_711 (by decide) ?_
  refine l_iadd dL_law_712 ?_
  refine l_sld (vp_inb (i := i) (k := 1) (by omega) hL) dL_law_713 ?_
  refine l_aload_n dL_law_714 rfl ?_
  refine l_iload_n dL_law_715 rfl ?_
  refine l_iconst (v := (2 : Int32)) dL_law_716 (by decide) ?_
  refine l_iadd dL_law_717 ?_
  refine l_sld (vp_inb (i := i) (k := 2) (by omega) hL) dL_law_718 ?_
  refine lc_73 (ct_X5_hang _ _ _) e1 (by decide) (Nat.le_of_ble_eq_true rfl) dL_law_719 ?_
  refine l_aload_n dL_law_722 rfl ?_
  refine l_aload_n dL_law_723 rfl ?_
  refine l_iload_n dL_law_724 rfl ?_
  refine l_iconst (v := (1 : Int32)) dL_law_725 (by decide) ?_
  refine l_iadd dL_law_726 ?_
  refine l_sld (vp_inb (i := i) (k := 1) (by omega) hL) dL_law_727 ?_
  refine l_aload_n dL_law_728 rfl ?_
  refine l_iload_n dL_law_729 rfl ?_
  refine l_iconst (v := (2 : Int32)) dL_law_730 (by decide) ?_
  refine l_iadd dL_law_731 ?_
  refine l_sld (vp_inb (i := i) (k := 2) (by omega) hL) dL_law_732 ?_
  refine lc_76 (ct_X6_hang _ _ _) e2 (by decide) (Nat.le_of_ble_eq_true rfl) dL_law_733 ?_
  refine l_icmp_eq (tgt := 1450) dL_law_736 (by decide) (fun _ => k h2 hI2) (fun q => absurd rfl q)
theorem law_15 {b L : Nat} {xs : Nat → Int32} {Inv : Hp → Prop} (S : LawStp Inv) {i : Nat} (hi : i + 6 ≤ L) (hL : L ≤ 384) {h : Hp} (hI : Inv h) (k : ∀ h2, Inv h2 → LJ b L xs 1450 [(0, aR 99 0), (1, aR 0 0), (2, aR 20 0), (3, aI (nI i))] [] h2) : LJ b L xs 741 [(0, aR 99 0), (1, aR 0 0), (2, aR 20 0), (3, aI (nI i))] [] h := by
  obtain ⟨r, h1, h2, e1, e2, hI2⟩ := S.2.2.2.2.2.2.2.2.2.2.2.2.2.2.2.1 (xs (Int32.toNatClampNeg (nI i + 1))) (xs (Int32.toNatClampNeg (nI i + 2))) h hI
  refine l_aload_n dL_law_741 rfl ?_
  refine l_aload_n dL_law_742 rfl ?_
  refine l_iload_n dL_law_743 rfl ?_
  refine l_iconst (v := (1 : Int32)) dL_law_744 (by decide) ?_
  refine l_iadd dL_law_745 ?_
  refine l_sld (vp_inb (i := i) (k := 1) (by omega) hL) dL_law_746 ?_
  refine l_aload_n dL_law_747 rfl ?_
  refine l_iload_n dL_law_748 rfl ?_
  refine l_iconst (v := (2 : Int32)) dL_law_749 (by decide) ?_
  refine l_iadd dL_law_750 ?_
  refine l_sld (vp_inb (i := i) (k := 2) (by omega) hL) dL_law_751 ?_
  refine lc_77 (ct_X5_wedge _ _ _) e1 (by decide) (Nat.le_of_ble_eq_true rfl) dL_law_752 ?_
  refine l_aload_n dL_law_755 rfl ?_
  refine l_aload_n dL_law_756 rfl ?_
  refine l_iload_n dL_law_757 rfl ?_
  refine l_iconst (v := (1 : Int32)) dL_law_758 (by decide) ?_
  refine l_iadd dL_law_759 ?_
  refine l_sld (vp_inb (i := i) (k := 1) (by omega) hL) dL_law_760 ?_
  refine l_aload_n dL_law_761 rfl ?_
  refine l_iload_n dL_law_762 rfl ?_
  refine l_iconst (v := (2 : Int32)) dL_law_763 (by decide) ?_
  refine l_iadd dL_law_764 ?_
  refine l_sld (vp_inb (i := i) (k := 2) (by omega) hL) dL_law_765 ?_
  refine lc_80 (ct_X6_wedge _ _ _) e2 (by decide) (Nat.le_of_ble_eq_true rfl) dL_law_766 ?_
  refine l_icmp_eq (tgt := 1450) dL_law_769 (by decide) (fun _ => k h2 hI2) (fun q => absurd rfl q)
theorem law_16 {b L : Nat} {xs : Nat → Int32} {Inv : Hp → Prop} (S : LawStp Inv) {i : Nat} (hi : i + 6 ≤ L) (hL : L ≤ 384) {h : Hp} (hI : Inv h) (k : ∀ h2, Inv h2 → LJ b L xs 1450 [(0, aR 99 0), (1, aR 0 0), (2, aR 20 0), (3, aI (nI i))] [] h2) : LJ b L xs 774 [(0, aR 99 0), (1, aR 0 0), (2, aR 20 0), (3, aI (nI i))] [] h := by
  obtain ⟨r, h1, h2, e1, e2, hI2⟩ := S.2.2.2.2.2.2.2.2.2.2.2.2.2.2.2.2.1 (xs (Int32.toNatClampNeg (nI i + 1))) h hI
  refine l_aload_n dL_law_774 rfl ?_
  refine l_aload_n dL_law_775 rfl ?_
  refine l_iload_n dL_law_776 rfl ?_
  refine l_iconst (v := (1 : Int32)) dL_law_777 (by decide) ?_
  refine l_iadd dL_law_778 ?_
  refine l_sld (vp_inb (i := i) (k := 1) (by omega) hL) dL_law_779 ?_
  refine lc_81 (ct_X5_vine _ _) e1 (by decide) (Nat.le_of_ble_eq_true rfl) dL_law_780 ?_
  refine l_aload_n dL_law_783 rfl ?_
  refine l_aload_n dL_law_784 rfl ?_
  refine l_iload_n dL_law_785 rfl ?_
  refine l_iconst (v := (1 : Int32)) dL_law_786 (by decide) ?_
  refine l_iadd dL_law_787 ?_
  refine l_sld (vp_inb (i := i) (k := 1) (by omega) hL) dL_law_788 ?_
  refine lc_84 (ct_X6_vine _ _) e2 (by decide) (Nat.le_of_ble_eq_true rfl) dL_law_789 ?_
  refine l_icmp_eq (tgt := 1450) dL_law_792 (by decide) (fun _ => k h2 hI2) (fun q => absurd rfl q)
theorem law_17 {b L : Nat} {xs : Nat → Int32} {Inv : Hp → Prop} (S : LawStp Inv) {i : Nat} (hi : i + 6 ≤ L) (hL : L ≤ 384) {h : Hp} (hI : Inv h) (k : ∀ h2, Inv h2 → LJ b L xs 1450 [(0, aR 99 0), (1, aR 0 0), (2, aR 20 0), (3, aI (nI i))] [] h2) : LJ b L xs 797 [(0, aR 99 0), (1, aR 0 0), (2, aR 20 0), (3, aI (nI i))] [] h := by
  obtain ⟨r, h1, h2, e1, e2, hI2⟩ := S.2.2.2.2.2.2.2.2.2.2.2.2.2.2.2.2.2.1  h hI
  refine l_aload_n dL_law_797 rfl ?_
  refine lc_85 (ct_X5_stands  _) e1 (by decide) (Nat.le_of_ble_eq_true rfl) dL_law_798 ?_
  refine l_aload_n dL_law_801 rfl ?_
  refine lc_89 (ct_X6_stands  _) e2 (by decide) (Nat.le_of_ble_eq_true rfl) dL_law_802 ?_
  refine l_icmp_eq (tgt := 1450) dL_law_805 (by decide) (fun _ => k h2 hI2) (fun q => absurd rfl q)
theorem law_18 {b L : Nat} {xs : Nat → Int32} {Inv : Hp → Prop} (S : LawStp Inv) {i : Nat} (hi : i + 6 ≤ L) (hL : L ≤ 384) {h : Hp} (hI : Inv h) (k : ∀ h2, Inv h2 → LJ b L xs 1450 [(0, aR 99 0), (1, aR 0 0), (2, aR 20 0), (3, aI (nI i))] [] h2) : LJ b L xs 810 [(0, aR 99 0), (1, aR 0 0), (2, aR 20 0), (3, aI (nI i))] [] h := by
  obtain ⟨r, h1, h2, e1, e2, hI2⟩ := S.2.2.2.2.2.2.2.2.2.2.2.2.2.2.2.2.2.2.1 (xs (Int32.toNatClampNeg (nI i + 1))) h hI
  refine l_aload_n dL_law_810 rfl ?_
  refine l_aload_n dL_law_811 rfl ?_
  refine l_iload_n dL_law_812 rfl ?_
  refine l_iconst (v := (1 : Int32)) dL_law_813 (by decide) ?_
  refine l_iadd dL_law_814 ?_
  refine l_sld (vp_inb (i := i) (k := 1) (by omega) hL) dL_law_815 ?_
  refine lc_90 (ct_X5_falls _ _) e1 (by decide) (Nat.le_of_ble_eq_true rfl) dL_law_816 ?_
  refine l_aload_n dL_law_819 rfl ?_
  refine l_aload_n dL_law_820 rfl ?_
  refine l_iload_n dL_law_821 rfl ?_
  refine l_iconst (v := (1 : Int32)) dL_law_822 (by decide) ?_
  refine l_iadd dL_law_823 ?_
  refine l_sld (vp_inb (i := i) (k := 1) (by omega) hL) dL_law_824 ?_
  refine lc_93 (ct_X6_falls _ _) e2 (by decide) (Nat.le_of_ble_eq_true rfl) dL_law_825 ?_
  refine l_icmp_eq (tgt := 1450) dL_law_828 (by decide) (fun _ => k h2 hI2) (fun q => absurd rfl q)
theorem law_19 {b L : Nat} {xs : Nat → Int32} {Inv : Hp → Prop} (S : LawStp Inv) {i : Nat} (hi : i + 6 ≤ L) (hL : L ≤ 384) {h : Hp} (hI : Inv h) (k : ∀ h2, Inv h2 → LJ b L xs 1450 [(0, aR 99 0), (1, aR 0 0), (2, aR 20 0), (3, aI (nI i))] [] h2) : LJ b L xs 833 [(0, aR 99 0), (1, aR 0 0), (2, aR 20 0), (3, aI (nI i))] [] h := by
  obtain ⟨r, h1, h2, e1, e2, hI2⟩ := S.2.2.2.2.2.2.2.2.2.2.2.2.2.2.2.2.2.2.2.1 (xs (Int32.toNatClampNeg (nI i + 1))) h hI
  refine l_aload_n dL_law_833 rfl ?_
  refine l_aload_n dL_law_834 rfl ?_
  refine l_iload_n dL_law_835 rfl ?_
  refine l_iconst (v := (1 : Int32)) dL_law_836 (by decide) ?_
  refine l_iadd dL_law_837 ?_
  refine l_sld (vp_inb (i := i) (k := 1) (by omega) hL) dL_law_838 ?_
  refine lc_94 (ct_X5_load _ _) e1 (by decide) (Nat.le_of_ble_eq_true rfl) dL_law_839 ?_
  refine l_aload_n dL_law_842 rfl ?_
  refine l_aload_n dL_law_843 rfl ?_
  refine l_iload_n dL_law_844 rfl ?_
  refine l_iconst (v := (1 : Int32)) dL_law_845 (by decide) ?_
  refine l_iadd dL_law_846 ?_
  refine l_sld (vp_inb (i := i) (k := 1) (by omega) hL) dL_law_847 ?_
  refine lc_97 (ct_X6_load _ _) e2 (by decide) (Nat.le_of_ble_eq_true rfl) dL_law_848 ?_
  refine l_icmp_eq (tgt := 1450) dL_law_851 (by decide) (fun _ => k h2 hI2) (fun q => absurd rfl q)
theorem law_20 {b L : Nat} {xs : Nat → Int32} {Inv : Hp → Prop} (S : LawStp Inv) {i : Nat} (hi : i + 6 ≤ L) (hL : L ≤ 384) {h : Hp} (hI : Inv h) (k : ∀ h2, Inv h2 → LJ b L xs 1450 [(0, aR 99 0), (1, aR 0 0), (2, aR 20 0), (3, aI (nI i))] [] h2) : LJ b L xs 856 [(0, aR 99 0), (1, aR 0 0), (2, aR 20 0), (3, aI (nI i))] [] h := by
  obtain ⟨r, h1, h2, e1, e2, hI2⟩ := S.2.2.2.2.2.2.2.2.2.2.2.2.2.2.2.2.2.2.2.2.1  h hI
  refine l_aload_n dL_law_856 rfl ?_
  refine lc_98 (ct_X5_great  _) e1 (by decide) (Nat.le_of_ble_eq_true rfl) dL_law_857 ?_
  refine l_aload_n dL_law_860 rfl ?_
  refine lc_101 (ct_X6_great  _) e2 (by decide) (Nat.le_of_ble_eq_true rfl) dL_law_861 ?_
  refine l_icmp_eq (tgt := 1450) dL_law_864 (by decide) (fun _ => k h2 hI2) (fun q => absurd rfl q)
theorem law_21 {b L : Nat} {xs : Nat → Int32} {Inv : Hp → Prop} (S : LawStp Inv) {i : Nat} (hi : i + 6 ≤ L) (hL : L ≤ 384) {h : Hp} (hI : Inv h) (k : ∀ h2, Inv h2 → LJ b L xs 1450 [(0, aR 99 0), (1, aR 0 0), (2, aR 20 0), (3, aI (nI i))] [] h2) : LJ b L xs 869 [(0, aR 99 0), (1, aR 0 0), (2, aR 20 0), (3, aI (nI i))] [] h := by
  obtain ⟨r, h1, h2, e1, e2, hI2⟩ := S.2.2.2.2.2.2.2.2.2.2.2.2.2.2.2.2.2.2.2.2.2.1 (xs (Int32.toNatClampNeg (nI i + 1))) h hI
  refine l_aload_n dL_law_869 rfl ?_
  refine l_aload_n dL_law_870 rfl ?_
  refine l_iload_n dL_law_871 rfl ?_
  refine l_iconst (v := (1 : Int32)) dL_law_872 (by decide) ?_
  refine l_iadd dL_law_873 ?_
  refine l_sld (vp_inb (i := i) (k := 1) (by omega) hL) dL_law_874 ?_
  refine lc_102 (ct_X5_asks _ _) e1 (by decide) (Nat.le_of_ble_eq_true rfl) dL_law_875 ?_
  refine l_aload_n dL_law_878 rfl ?_
  refine l_aload_n dL_law_879 rfl ?_
  refine l_iload_n dL_law_880 rfl ?_
  refine l_iconst (v := (1 : Int32)) dL_law_881 (by decide) ?_
  refine l_iadd dL_law_882 ?_
  refine l_sld (vp_inb (i := i) (k := 1) (by omega) hL) dL_law_883 ?_
  refine lc_105 (ct_X6_asks _ _) e2 (by decide) (Nat.le_of_ble_eq_true rfl) dL_law_884 ?_
  refine l_icmp_eq (tgt := 1450) dL_law_887 (by decide) (fun _ => k h2 hI2) (fun q => absurd rfl q)
theorem law_22 {b L : Nat} {xs : Nat → Int32} {Inv : Hp → Prop} (S : LawStp Inv) {i : Nat} (hi : i + 6 ≤ L) (hL : L ≤ 384) {h : Hp} (hI : Inv h) (k : ∀ h2, Inv h2 → LJ b L xs 1450 [(0, aR 99 0), (1, aR 0 0), (2, aR 20 0), (3, aI (nI i))] [] h2) : LJ b L xs 892 [(0, aR 99 0), (1, aR 0 0), (2, aR 20 0), (3, aI (nI i))] [] h := by
  obtain ⟨r, h1, h2, e1, e2, hI2⟩ := S.2.2.2.2.2.2.2.2.2.2.2.2.2.2.2.2.2.2.2.2.2.2.1 (xs (Int32.toNatClampNeg (nI i + 1))) h hI
  refine l_aload_n dL_law_892 rfl ?_
  refine l_aload_n dL_law_893 rfl ?_
  refine l_iload_n dL_law_894 rfl ?_
  refine l_iconst (v := (1 : Int32)) dL_law_895 (by decide) ?_
  refine l_iadd dL_law_896 ?_
  refine l_sld (vp_inb (i := i) (k := 1) (by omega) hL) dL_law_897 ?_
  refine lc_106 (ct_X5_draw _ _) e1 (by decide) (Nat.le_of_ble_eq_true rfl) dL_law_898 ?_
  refine l_aload_n dL_law_901 rfl ?_
  refine l_aload_n dL_law_902 rfl ?_
  refine l_iload_n dL_law_903 rfl ?_
  refine l_iconst (v := (1 : Int32)) dL_law_904 (by decide) ?_
  refine l_iadd dL_law_905 ?_
  refine l_sld (vp_inb (i := i) (k := 1) (by omega) hL) dL_law_906 ?_
  refine lc_109 (ct_X6_draw _ _) e2 (by decide) (Nat.le_of_ble_eq_true rfl) dL_law_907 ?_
  refine l_icmp_eq (tgt := 1450) dL_law_910 (by decide) (fun _ => k h2 hI2) (fun q => absurd rfl q)
theorem law_23 {b L : Nat} {xs : Nat → Int32} {Inv : Hp → Prop} (S : LawStp Inv) {i : Nat} (hi : i + 6 ≤ L) (hL : L ≤ 384) {h : Hp} (hI : Inv h) (k : ∀ h2, Inv h2 → LJ b L xs 1450 [(0, aR 99 0), (1, aR 0 0), (2, aR 20 0), (3, aI (nI i))] [] h2) : LJ b L xs 915 [(0, aR 99 0), (1, aR 0 0), (2, aR 20 0), (3, aI (nI i))] [] h := by
  obtain ⟨r, h1, h2, e1, e2, hI2⟩ := S.2.2.2.2.2.2.2.2.2.2.2.2.2.2.2.2.2.2.2.2.2.2.2.1  h hI
  refine l_aload_n dL_law_915 rfl ?_
  refine lc_110 (ct_X5_free  _) e1 (by decide) (Nat.le_of_ble_eq_true rfl) dL_law_916 ?_
  refine l_aload_n dL_law_919 rfl ?_
  refine lc_113 (ct_X6_free  _) e2 (by decide) (Nat.le_of_ble_eq_true rfl) dL_law_920 ?_
  refine l_icmp_eq (tgt := 1450) dL_law_923 (by decide) (fun _ => k h2 hI2) (fun q => absurd rfl q)
theorem law_24 {b L : Nat} {xs : Nat → Int32} {Inv : Hp → Prop} (S : LawStp Inv) {i : Nat} (hi : i + 6 ≤ L) (hL : L ≤ 384) {h : Hp} (hI : Inv h) (k : ∀ h2, Inv h2 → LJ b L xs 1450 [(0, aR 99 0), (1, aR 0 0), (2, aR 20 0), (3, aI (nI i))] [] h2) : LJ b L xs 928 [(0, aR 99 0), (1, aR 0 0), (2, aR 20 0), (3, aI (nI i))] [] h := by
  obtain ⟨r, h1, h2, e1, e2, hI2⟩ := S.2.2.2.2.2.2.2.2.2.2.2.2.2.2.2.2.2.2.2.2.2.2.2.2.1  h hI
  refine l_aload_n dL_law_928 rfl ?_
  refine lc_114 (ct_X5_undo  _) e1 (by decide) (Nat.le_of_ble_eq_true rfl) dL_law_929 ?_
  refine l_aload_n dL_law_932 rfl ?_
  refine lc_117 (ct_X6_undo  _) e2 (by decide) (Nat.le_of_ble_eq_true rfl) dL_law_933 ?_
  refine l_icmp_eq (tgt := 1450) dL_law_936 (by decide) (fun _ => k h2 hI2) (fun q => absurd rfl q)
theorem law_25 {b L : Nat} {xs : Nat → Int32} {Inv : Hp → Prop} (S : LawStp Inv) {i : Nat} (hi : i + 6 ≤ L) (hL : L ≤ 384) {h : Hp} (hI : Inv h) (k : ∀ h2, Inv h2 → LJ b L xs 1450 [(0, aR 99 0), (1, aR 0 0), (2, aR 20 0), (3, aI (nI i))] [] h2) : LJ b L xs 941 [(0, aR 99 0), (1, aR 0 0), (2, aR 20 0), (3, aI (nI i))] [] h := by
  obtain ⟨r, h1, h2, e1, e2, hI2⟩ := S.2.2.2.2.2.2.2.2.2.2.2.2.2.2.2.2.2.2.2.2.2.2.2.2.2.1 (xs (Int32.toNatClampNeg (nI i + 1))) (xs (Int32.toNatClampNeg (nI i + 2))) h hI
  refine l_aload_n dL_law_941 rfl ?_
  refine l_aload_n dL_law_942 rfl ?_
  refine l_iload_n dL_law_943 rfl ?_
  refine l_iconst (v := (1 : Int32)) dL_law_944 (by decide) ?_
  refine l_iadd dL_law_945 ?_
  refine l_sld (vp_inb (i := i) (k := 1) (by omega) hL) dL_law_946 ?_
  refine l_aload_n dL_law_947 rfl ?_
  refine l_iload_n dL_law_948 rfl ?_
  refine l_iconst (v := (2 : Int32)) dL_law_949 (by decide) ?_
  refine l_iadd dL_law_950 ?_
  refine l_sld (vp_inb (i := i) (k := 2) (by omega) hL) dL_law_951 ?_
  refine lc_118 (ct_X5_ahead _ _ _) e1 (by decide) (Nat.le_of_ble_eq_true rfl) dL_law_952 ?_
  refine l_aload_n dL_law_955 rfl ?_
  refine l_aload_n dL_law_956 rfl ?_
  refine l_iload_n dL_law_957 rfl ?_
  refine l_iconst (v := (1 : Int32)) dL_law_958 (by decide) ?_
  refine l_iadd dL_law_959 ?_
  refine l_sld (vp_inb (i := i) (k := 1) (by omega) hL) dL_law_960 ?_
  refine l_aload_n dL_law_961 rfl ?_
  refine l_iload_n dL_law_962 rfl ?_
  refine l_iconst (v := (2 : Int32)) dL_law_963 (by decide) ?_
  refine l_iadd dL_law_964 ?_
  refine l_sld (vp_inb (i := i) (k := 2) (by omega) hL) dL_law_965 ?_
  refine lc_121 (ct_X6_ahead _ _ _) e2 (by decide) (Nat.le_of_ble_eq_true rfl) dL_law_966 ?_
  refine l_icmp_eq (tgt := 1450) dL_law_969 (by decide) (fun _ => k h2 hI2) (fun q => absurd rfl q)
theorem law_26 {b L : Nat} {xs : Nat → Int32} {Inv : Hp → Prop} (S : LawStp Inv) {i : Nat} (hi : i + 6 ≤ L) (hL : L ≤ 384) {h : Hp} (hI : Inv h) (k : ∀ h2, Inv h2 → LJ b L xs 1450 [(0, aR 99 0), (1, aR 0 0), (2, aR 20 0), (3, aI (nI i))] [] h2) : LJ b L xs 974 [(0, aR 99 0), (1, aR 0 0), (2, aR 20 0), (3, aI (nI i))] [] h := by
  obtain ⟨r, h1, h2, e1, e2, hI2⟩ := S.2.2.2.2.2.2.2.2.2.2.2.2.2.2.2.2.2.2.2.2.2.2.2.2.2.2.1 (xs (Int32.toNatClampNeg (nI i + 1))) h hI
  refine l_aload_n dL_law_974 rfl ?_
  refine l_aload_n dL_law_975 rfl ?_
  refine l_iload_n dL_law_976 rfl ?_
  refine l_iconst (v := (1 : Int32)) dL_law_977 (by decide) ?_
  refine l_iadd dL_law_978 ?_
  refine l_sld (vp_inb (i := i) (k := 1) (by omega) hL) dL_law_979 ?_
  refine lc_122 (ct_X5_rests _ _) e1 (by decide) (Nat.le_of_ble_eq_true rfl) dL_law_980 ?_
  refine l_aload_n dL_law_983 rfl ?_
  refine l_aload_n dL_law_984 rfl ?_
  refine l_iload_n dL_law_985 rfl ?_
  refine l_iconst (v := (1 : Int32)) dL_law_986 (by decide) ?_
  refine l_iadd dL_law_987 ?_
  refine l_sld (vp_inb (i := i) (k := 1) (by omega) hL) dL_law_988 ?_
  refine lc_125 (ct_X6_rests _ _) e2 (by decide) (Nat.le_of_ble_eq_true rfl) dL_law_989 ?_
  refine l_icmp_eq (tgt := 1450) dL_law_992 (by decide) (fun _ => k h2 hI2) (fun q => absurd rfl q)
theorem law_27 {b L : Nat} {xs : Nat → Int32} {Inv : Hp → Prop} (S : LawStp Inv) {i : Nat} (hi : i + 6 ≤ L) (hL : L ≤ 384) {h : Hp} (hI : Inv h) (k : ∀ h2, Inv h2 → LJ b L xs 1450 [(0, aR 99 0), (1, aR 0 0), (2, aR 20 0), (3, aI (nI i))] [] h2) : LJ b L xs 997 [(0, aR 99 0), (1, aR 0 0), (2, aR 20 0), (3, aI (nI i))] [] h := by
  obtain ⟨r, h1, h2, e1, e2, hI2⟩ := S.2.2.2.2.2.2.2.2.2.2.2.2.2.2.2.2.2.2.2.2.2.2.2.2.2.2.2.1 (xs (Int32.toNatClampNeg (nI i + 1))) h hI
  refine l_aload_n dL_law_997 rfl ?_
  refine l_aload_n dL_law_998 rfl ?_
  refine l_iload_n dL_law_999 rfl ?_
  refine l_iconst (v := (1 : Int32)) dL_law_1000 (by decide) ?_
  refine l_iadd dL_law_1001 ?_
  refine l_sld (vp_inb (i := i) (k := 1) (by omega) hL) dL_law_1002 ?_
  refine lc_126 (ct_X5_props _ _) e1 (by decide) (Nat.le_of_ble_eq_true rfl) dL_law_1003 ?_
  refine l_aload_n dL_law_1006 rfl ?_
  refine l_aload_n dL_law_1007 rfl ?_
  refine l_iload_n dL_law_1008 rfl ?_
  refine l_iconst (v := (1 : Int32)) dL_law_1009 (by decide) ?_
  refine l_iadd dL_law_1010 ?_
  refine l_sld (vp_inb (i := i) (k := 1) (by omega) hL) dL_law_1011 ?_
  refine lc_129 (ct_X6_props _ _) e2 (by decide) (Nat.le_of_ble_eq_true rfl) dL_law_1012 ?_
  refine l_icmp_eq (tgt := 1450) dL_law_1015 (by decide) (fun _ => k h2 hI2) (fun q => absurd rfl q)
theorem law_28 {b L : Nat} {xs : Nat → Int32} {Inv : Hp → Prop} (S : LawStp Inv) {i : Nat} (hi : i + 6 ≤ L) (hL : L ≤ 384) {h : Hp} (hI : Inv h) (k : ∀ h2, Inv h2 → LJ b L xs 1450 [(0, aR 99 0), (1, aR 0 0), (2, aR 20 0), (3, aI (nI i))] [] h2) : LJ b L xs 1020 [(0, aR 99 0), (1, aR 0 0), (2, aR 20 0), (3, aI (nI i))] [] h := by
  obtain ⟨r, h1, h2, e1, e2, hI2⟩ := S.2.2.2.2.2.2.2.2.2.2.2.2.2.2.2.2.2.2.2.2.2.2.2.2.2.2.2.2.1 (xs (Int32.toNatClampNeg (nI i + 1))) (xs (Int32.toNatClampNeg (nI i + 2))) (xs (Int32.toNatClampNeg (nI i + 3))) (xs (Int32.toNatClampNeg (nI i + 4))) h hI
  refine l_aload_n dL_law_1020 rfl ?_
  refine l_aload_n dL_law_1021 rfl ?_
  refine l_iload_n dL_law_1022 rfl ?_
  refine l_iconst (v := (1 : Int32)) dL_law_1023 (by decide) ?_
  refine l_iadd dL_law_1024 ?_
  refine l_sld (vp_inb (i := i) (k := 1) (by omega) hL) dL_law_1025 ?_
  refine l_aload_n dL_law_1026 rfl ?_
  refine l_iload_n dL_law_1027 rfl ?_
  refine l_iconst (v := (2 : Int32)) dL_law_1028 (by decide) ?_
  refine l_iadd dL_law_1029 ?_
  refine l_sld (vp_inb (i := i) (k := 2) (by omega) hL) dL_law_1030 ?_
  refine l_aload_n dL_law_1031 rfl ?_
  refine l_iload_n dL_law_1032 rfl ?_
  refine l_iconst (v := (3 : Int32)) dL_law_1033 (by decide) ?_
  refine l_iadd dL_law_1034 ?_
  refine l_sld (vp_inb (i := i) (k := 3) (by omega) hL) dL_law_1035 ?_
  refine l_aload_n dL_law_1036 rfl ?_
  refine l_iload_n dL_law_1037 rfl ?_
  refine l_iconst (v := (4 : Int32)) dL_law_1038 (by decide) ?_
  refine l_iadd dL_law_1039 ?_
  refine l_sld (vp_inb (i := i) (k := 4) (by omega) hL) dL_law_1040 ?_
  refine lc_130 (ct_X5_set _ _ _ _ _) e1 (by decide) (Nat.le_of_ble_eq_true rfl) dL_law_1041 ?_
  refine l_aload_n dL_law_1044 rfl ?_
  refine l_aload_n dL_law_1045 rfl ?_
  refine l_iload_n dL_law_1046 rfl ?_
  refine l_iconst (v := (1 : Int32)) dL_law_1047 (by decide) ?_
  refine l_iadd dL_law_1048 ?_
  refine l_sld (vp_inb (i := i) (k := 1) (by omega) hL) dL_law_1049 ?_
  refine l_aload_n dL_law_1050 rfl ?_
  refine l_iload_n dL_law_1051 rfl ?_
  refine l_iconst (v := (2 : Int32)) dL_law_1052 (by decide) ?_
  refine l_iadd dL_law_1053 ?_
  refine l_sld (vp_inb (i := i) (k := 2) (by omega) hL) dL_law_1054 ?_
  refine l_aload_n dL_law_1055 rfl ?_
  refine l_iload_n dL_law_1056 rfl ?_
  refine l_iconst (v := (3 : Int32)) dL_law_1057 (by decide) ?_
  refine l_iadd dL_law_1058 ?_
  refine l_sld (vp_inb (i := i) (k := 3) (by omega) hL) dL_law_1059 ?_
  refine l_aload_n dL_law_1060 rfl ?_
  refine l_iload_n dL_law_1061 rfl ?_
  refine l_iconst (v := (4 : Int32)) dL_law_1062 (by decide) ?_
  refine l_iadd dL_law_1063 ?_
  refine l_sld (vp_inb (i := i) (k := 4) (by omega) hL) dL_law_1064 ?_
  refine lc_134 (ct_X6_set _ _ _ _ _) e2 (by decide) (Nat.le_of_ble_eq_true rfl) dL_law_1065 ?_
  refine l_icmp_eq (tgt := 1450) dL_law_1068 (by decide) (fun _ => k h2 hI2) (fun q => absurd rfl q)
theorem law_29 {b L : Nat} {xs : Nat → Int32} {Inv : Hp → Prop} (S : LawStp Inv) {i : Nat} (hi : i + 6 ≤ L) (hL : L ≤ 384) {h : Hp} (hI : Inv h) (k : ∀ h2, Inv h2 → LJ b L xs 1450 [(0, aR 99 0), (1, aR 0 0), (2, aR 20 0), (3, aI (nI i))] [] h2) : LJ b L xs 1073 [(0, aR 99 0), (1, aR 0 0), (2, aR 20 0), (3, aI (nI i))] [] h := by
  obtain ⟨r, h1, h2, e1, e2, hI2⟩ := S.2.2.2.2.2.2.2.2.2.2.2.2.2.2.2.2.2.2.2.2.2.2.2.2.2.2.2.2.2.1  h hI
  refine l_aload_n dL_law_1073 rfl ?_
  refine lc_135 (ct_X5_soon  _) e1 (by decide) (Nat.le_of_ble_eq_true rfl) dL_law_1074 ?_
  refine l_aload_n dL_law_1077 rfl ?_
  refine lc_138 (ct_X6_soon  _) e2 (by decide) (Nat.le_of_ble_eq_true rfl) dL_law_1078 ?_
  refine l_icmp_eq (tgt := 1450) dL_law_1081 (by decide) (fun _ => k h2 hI2) (fun q => absurd rfl q)
theorem law_30 {b L : Nat} {xs : Nat → Int32} {Inv : Hp → Prop} (S : LawStp Inv) {i : Nat} (hi : i + 6 ≤ L) (hL : L ≤ 384) {h : Hp} (hI : Inv h) (k : ∀ h2, Inv h2 → LJ b L xs 1450 [(0, aR 99 0), (1, aR 0 0), (2, aR 20 0), (3, aI (nI i))] [] h2) : LJ b L xs 1086 [(0, aR 99 0), (1, aR 0 0), (2, aR 20 0), (3, aI (nI i))] [] h := by
  obtain ⟨r, h1, h2, e1, e2, hI2⟩ := S.2.2.2.2.2.2.2.2.2.2.2.2.2.2.2.2.2.2.2.2.2.2.2.2.2.2.2.2.2.2.1 (xs (Int32.toNatClampNeg (nI i + 1))) (xs (Int32.toNatClampNeg (nI i + 2))) h hI
  refine l_aload_n dL_law_1086 rfl ?_
  refine l_aload_n dL_law_1087 rfl ?_
  refine l_iload_n dL_law_1088 rfl ?_
  refine l_iconst (v := (1 : Int32)) dL_law_1089 (by decide) ?_
  refine l_iadd dL_law_1090 ?_
  refine l_sld (vp_inb (i := i) (k := 1) (by omega) hL) dL_law_1091 ?_
  refine l_aload_n dL_law_1092 rfl ?_
  refine l_iload_n dL_law_1093 rfl ?_
  refine l_iconst (v := (2 : Int32)) dL_law_1094 (by decide) ?_
  refine l_iadd dL_law_1095 ?_
  refine l_sld (vp_inb (i := i) (k := 2) (by omega) hL) dL_law_1096 ?_
  refine lc_139 (ct_X5_owes _ _ _) e1 (by decide) (Nat.le_of_ble_eq_true rfl) dL_law_1097 ?_
  refine l_aload_n dL_law_1100 rfl ?_
  refine l_aload_n dL_law_1101 rfl ?_
  refine l_iload_n dL_law_1102 rfl ?_
  refine l_iconst (v := (1 : Int32)) dL_law_1103 (by decide) ?_
  refine l_iadd dL_law_1104 ?_
  refine l_sld (vp_inb (i := i) (k := 1) (by omega) hL) dL_law_1105 ?_
  refine l_aload_n dL_law_1106 rfl ?_
  refine l_iload_n dL_law_1107 rfl ?_
  refine l_iconst (v := (2 : Int32)) dL_law_1108 (by decide) ?_
  refine l_iadd dL_law_1109 ?_
  refine l_sld (vp_inb (i := i) (k := 2) (by omega) hL) dL_law_1110 ?_
  refine lc_142 (ct_X6_owes _ _ _) e2 (by decide) (Nat.le_of_ble_eq_true rfl) dL_law_1111 ?_
  refine l_icmp_eq (tgt := 1450) dL_law_1114 (by decide) (fun _ => k h2 hI2) (fun q => absurd rfl q)
theorem law_31 {b L : Nat} {xs : Nat → Int32} {Inv : Hp → Prop} (S : LawStp Inv) {i : Nat} (hi : i + 6 ≤ L) (hL : L ≤ 384) {h : Hp} (hI : Inv h) (k : ∀ h2, Inv h2 → LJ b L xs 1450 [(0, aR 99 0), (1, aR 0 0), (2, aR 20 0), (3, aI (nI i))] [] h2) : LJ b L xs 1119 [(0, aR 99 0), (1, aR 0 0), (2, aR 20 0), (3, aI (nI i))] [] h := by
  obtain ⟨r, h1, h2, e1, e2, hI2⟩ := S.2.2.2.2.2.2.2.2.2.2.2.2.2.2.2.2.2.2.2.2.2.2.2.2.2.2.2.2.2.2.2.1  h hI
  refine l_aload_n dL_law_1119 rfl ?_
  refine lc_143 (ct_X5_rich  _) e1 (by decide) (Nat.le_of_ble_eq_true rfl) dL_law_1120 ?_
  refine l_aload_n dL_law_1123 rfl ?_
  refine lc_146 (ct_X6_rich  _) e2 (by decide) (Nat.le_of_ble_eq_true rfl) dL_law_1124 ?_
  refine l_icmp_eq (tgt := 1450) dL_law_1127 (by decide) (fun _ => k h2 hI2) (fun q => absurd rfl q)
theorem law_32 {b L : Nat} {xs : Nat → Int32} {Inv : Hp → Prop} (S : LawStp Inv) {i : Nat} (hi : i + 6 ≤ L) (hL : L ≤ 384) {h : Hp} (hI : Inv h) (k : ∀ h2, Inv h2 → LJ b L xs 1450 [(0, aR 99 0), (1, aR 0 0), (2, aR 20 0), (3, aI (nI i))] [] h2) : LJ b L xs 1132 [(0, aR 99 0), (1, aR 0 0), (2, aR 20 0), (3, aI (nI i))] [] h := by
  obtain ⟨r, h1, h2, e1, e2, hI2⟩ := S.2.2.2.2.2.2.2.2.2.2.2.2.2.2.2.2.2.2.2.2.2.2.2.2.2.2.2.2.2.2.2.2.1 (xs (Int32.toNatClampNeg (nI i + 1))) h hI
  refine l_aload_n dL_law_1132 rfl ?_
  refine l_aload_n dL_law_1133 rfl ?_
  refine l_iload_n dL_law_1134 rfl ?_
  refine l_iconst (v := (1 : Int32)) dL_law_1135 (by decide) ?_
  refine l_iadd dL_law_1136 ?_
  refine l_sld (vp_inb (i := i) (k := 1) (by omega) hL) dL_law_1137 ?_
  refine lc_147 (ct_X5_alone _ _) e1 (by decide) (Nat.le_of_ble_eq_true rfl) dL_law_1138 ?_
  refine l_aload_n dL_law_1141 rfl ?_
  refine l_aload_n dL_law_1142 rfl ?_
  refine l_iload_n dL_law_1143 rfl ?_
  refine l_iconst (v := (1 : Int32)) dL_law_1144 (by decide) ?_
  refine l_iadd dL_law_1145 ?_
  refine l_sld (vp_inb (i := i) (k := 1) (by omega) hL) dL_law_1146 ?_
  refine lc_150 (ct_X6_alone _ _) e2 (by decide) (Nat.le_of_ble_eq_true rfl) dL_law_1147 ?_
  refine l_icmp_eq (tgt := 1450) dL_law_1150 (by decide) (fun _ => k h2 hI2) (fun q => absurd rfl q)
theorem law_33 {b L : Nat} {xs : Nat → Int32} {Inv : Hp → Prop} (S : LawStp Inv) {i : Nat} (hi : i + 6 ≤ L) (hL : L ≤ 384) {h : Hp} (hI : Inv h) (k : ∀ h2, Inv h2 → LJ b L xs 1450 [(0, aR 99 0), (1, aR 0 0), (2, aR 20 0), (3, aI (nI i))] [] h2) : LJ b L xs 1155 [(0, aR 99 0), (1, aR 0 0), (2, aR 20 0), (3, aI (nI i))] [] h := by
  obtain ⟨r, h1, h2, e1, e2, hI2⟩ := S.2.2.2.2.2.2.2.2.2.2.2.2.2.2.2.2.2.2.2.2.2.2.2.2.2.2.2.2.2.2.2.2.2.1 (xs (Int32.toNatClampNeg (nI i + 1))) h hI
  refine l_aload_n dL_law_1155 rfl ?_
  refine l_aload_n dL_law_1156 rfl ?_
  refine l_iload_n dL_law_1157 rfl ?_
  refine l_iconst (v := (1 : Int32)) dL_law_1158 (by decide) ?_
  refine l_iadd dL_law_1159 ?_
  refine l_sld (vp_inb (i := i) (k := 1) (by omega) hL) dL_law_1160 ?_
  refine lc_151 (ct_X5_few _ _) e1 (by decide) (Nat.le_of_ble_eq_true rfl) dL_law_1161 ?_
  refine l_aload_n dL_law_1164 rfl ?_
  refine l_aload_n dL_law_1165 rfl ?_
  refine l_iload_n dL_law_1166 rfl ?_
  refine l_iconst (v := (1 : Int32)) dL_law_1167 (by decide) ?_
  refine l_iadd dL_law_1168 ?_
  refine l_sld (vp_inb (i := i) (k := 1) (by omega) hL) dL_law_1169 ?_
  refine lc_154 (ct_X6_few _ _) e2 (by decide) (Nat.le_of_ble_eq_true rfl) dL_law_1170 ?_
  refine l_icmp_eq (tgt := 1450) dL_law_1173 (by decide) (fun _ => k h2 hI2) (fun q => absurd rfl q)
theorem law_34 {b L : Nat} {xs : Nat → Int32} {Inv : Hp → Prop} (S : LawStp Inv) {i : Nat} (hi : i + 6 ≤ L) (hL : L ≤ 384) {h : Hp} (hI : Inv h) (k : ∀ h2, Inv h2 → LJ b L xs 1450 [(0, aR 99 0), (1, aR 0 0), (2, aR 20 0), (3, aI (nI i))] [] h2) : LJ b L xs 1178 [(0, aR 99 0), (1, aR 0 0), (2, aR 20 0), (3, aI (nI i))] [] h := by
  obtain ⟨r, h1, h2, e1, e2, hI2⟩ := S.2.2.2.2.2.2.2.2.2.2.2.2.2.2.2.2.2.2.2.2.2.2.2.2.2.2.2.2.2.2.2.2.2.2.1 (xs (Int32.toNatClampNeg (nI i + 1))) h hI
  refine l_aload_n dL_law_1178 rfl ?_
  refine l_aload_n dL_law_1179 rfl ?_
  refine l_iload_n dL_law_1180 rfl ?_
  refine l_iconst (v := (1 : Int32)) dL_law_1181 (by decide) ?_
  refine l_iadd dL_law_1182 ?_
  refine l_sld (vp_inb (i := i) (k := 1) (by omega) hL) dL_law_1183 ?_
  refine lc_155 (ct_X5_moved _ _) e1 (by decide) (Nat.le_of_ble_eq_true rfl) dL_law_1184 ?_
  refine l_aload_n dL_law_1187 rfl ?_
  refine l_aload_n dL_law_1188 rfl ?_
  refine l_iload_n dL_law_1189 rfl ?_
  refine l_iconst (v := (1 : Int32)) dL_law_1190 (by decide) ?_
  refine l_iadd dL_law_1191 ?_
  refine l_sld (vp_inb (i := i) (k := 1) (by omega) hL) dL_law_1192 ?_
  refine lc_158 (ct_X6_moved _ _) e2 (by decide) (Nat.le_of_ble_eq_true rfl) dL_law_1193 ?_
  refine l_icmp_eq (tgt := 1450) dL_law_1196 (by decide) (fun _ => k h2 hI2) (fun q => absurd rfl q)
theorem law_35 {b L : Nat} {xs : Nat → Int32} {Inv : Hp → Prop} (S : LawStp Inv) {i : Nat} (hi : i + 6 ≤ L) (hL : L ≤ 384) {h : Hp} (hI : Inv h) (k : ∀ h2, Inv h2 → LJ b L xs 1450 [(0, aR 99 0), (1, aR 0 0), (2, aR 20 0), (3, aI (nI i))] [] h2) : LJ b L xs 1201 [(0, aR 99 0), (1, aR 0 0), (2, aR 20 0), (3, aI (nI i))] [] h := by
  obtain ⟨r, h1, h2, e1, e2, hI2⟩ := S.2.2.2.2.2.2.2.2.2.2.2.2.2.2.2.2.2.2.2.2.2.2.2.2.2.2.2.2.2.2.2.2.2.2.2.1 (xs (Int32.toNatClampNeg (nI i + 1))) (xs (Int32.toNatClampNeg (nI i + 2))) h hI
  refine l_aload_n dL_law_1201 rfl ?_
  refine l_aload_n dL_law_1202 rfl ?_
  refine l_iload_n dL_law_1203 rfl ?_
  refine l_iconst (v := (1 : Int32)) dL_law_1204 (by decide) ?_
  refine l_iadd dL_law_1205 ?_
  refine l_sld (vp_inb (i := i) (k := 1) (by omega) hL) dL_law_1206 ?_
  refine l_aload_n dL_law_1207 rfl ?_
  refine l_iload_n dL_law_1208 rfl ?_
  refine l_iconst (v := (2 : Int32)) dL_law_1209 (by decide) ?_
  refine l_iadd dL_law_1210 ?_
  refine l_sld (vp_inb (i := i) (k := 2) (by omega) hL) dL_law_1211 ?_
  refine lc_159 (ct_X5_frost _ _ _) e1 (by decide) (Nat.le_of_ble_eq_true rfl) dL_law_1212 ?_
  refine l_aload_n dL_law_1215 rfl ?_
  refine l_aload_n dL_law_1216 rfl ?_
  refine l_iload_n dL_law_1217 rfl ?_
  refine l_iconst (v := (1 : Int32)) dL_law_1218 (by decide) ?_
  refine l_iadd dL_law_1219 ?_
  refine l_sld (vp_inb (i := i) (k := 1) (by omega) hL) dL_law_1220 ?_
  refine l_aload_n dL_law_1221 rfl ?_
  refine l_iload_n dL_law_1222 rfl ?_
  refine l_iconst (v := (2 : Int32)) dL_law_1223 (by decide) ?_
  refine l_iadd dL_law_1224 ?_
  refine l_sld (vp_inb (i := i) (k := 2) (by omega) hL) dL_law_1225 ?_
  refine lc_162 (ct_X6_frost _ _ _) e2 (by decide) (Nat.le_of_ble_eq_true rfl) dL_law_1226 ?_
  refine l_icmp_eq (tgt := 1450) dL_law_1229 (by decide) (fun _ => k h2 hI2) (fun q => absurd rfl q)
theorem law_36 {b L : Nat} {xs : Nat → Int32} {Inv : Hp → Prop} (S : LawStp Inv) {i : Nat} (hi : i + 6 ≤ L) (hL : L ≤ 384) {h : Hp} (hI : Inv h) (k : ∀ h2, Inv h2 → LJ b L xs 1450 [(0, aR 99 0), (1, aR 0 0), (2, aR 20 0), (3, aI (nI i))] [] h2) : LJ b L xs 1234 [(0, aR 99 0), (1, aR 0 0), (2, aR 20 0), (3, aI (nI i))] [] h := by
  obtain ⟨r, h1, h2, e1, e2, hI2⟩ := S.2.2.2.2.2.2.2.2.2.2.2.2.2.2.2.2.2.2.2.2.2.2.2.2.2.2.2.2.2.2.2.2.2.2.2.2.1 (xs (Int32.toNatClampNeg (nI i + 1))) (xs (Int32.toNatClampNeg (nI i + 2))) h hI
  refine l_aload_n dL_law_1234 rfl ?_
  refine l_aload_n dL_law_1235 rfl ?_
  refine l_iload_n dL_law_1236 rfl ?_
  refine l_iconst (v := (1 : Int32)) dL_law_1237 (by decide) ?_
  refine l_iadd dL_law_1238 ?_
  refine l_sld (vp_inb (i := i) (k := 1) (by omega) hL) dL_law_1239 ?_
  refine l_aload_n dL_law_1240 rfl ?_
  refine l_iload_n dL_law_1241 rfl ?_
  refine l_iconst (v := (2 : Int32)) dL_law_1242 (by decide) ?_
  refine l_iadd dL_law_1243 ?_
  refine l_sld (vp_inb (i := i) (k := 2) (by omega) hL) dL_law_1244 ?_
  refine lc_163 (ct_X5_odds _ _ _) e1 (by decide) (Nat.le_of_ble_eq_true rfl) dL_law_1245 ?_
  refine l_aload_n dL_law_1248 rfl ?_
  refine l_aload_n dL_law_1249 rfl ?_
  refine l_iload_n dL_law_1250 rfl ?_
  refine l_iconst (v := (1 : Int32)) dL_law_1251 (by decide) ?_
  refine l_iadd dL_law_1252 ?_
  refine l_sld (vp_inb (i := i) (k := 1) (by omega) hL) dL_law_1253 ?_
  refine l_aload_n dL_law_1254 rfl ?_
  refine l_iload_n dL_law_1255 rfl ?_
  refine l_iconst (v := (2 : Int32)) dL_law_1256 (by decide) ?_
  refine l_iadd dL_law_1257 ?_
  refine l_sld (vp_inb (i := i) (k := 2) (by omega) hL) dL_law_1258 ?_
  refine lc_166 (ct_X6_odds _ _ _) e2 (by decide) (Nat.le_of_ble_eq_true rfl) dL_law_1259 ?_
  refine l_icmp_eq (tgt := 1450) dL_law_1262 (by decide) (fun _ => k h2 hI2) (fun q => absurd rfl q)
theorem law_37 {b L : Nat} {xs : Nat → Int32} {Inv : Hp → Prop} (S : LawStp Inv) {i : Nat} (hi : i + 6 ≤ L) (hL : L ≤ 384) {h : Hp} (hI : Inv h) (k : ∀ h2, Inv h2 → LJ b L xs 1450 [(0, aR 99 0), (1, aR 0 0), (2, aR 20 0), (3, aI (nI i))] [] h2) : LJ b L xs 1267 [(0, aR 99 0), (1, aR 0 0), (2, aR 20 0), (3, aI (nI i))] [] h := by
  obtain ⟨r, h1, h2, e1, e2, hI2⟩ := S.2.2.2.2.2.2.2.2.2.2.2.2.2.2.2.2.2.2.2.2.2.2.2.2.2.2.2.2.2.2.2.2.2.2.2.2.2.1 (xs (Int32.toNatClampNeg (nI i + 1))) h hI
  refine l_aload_n dL_law_1267 rfl ?_
  refine l_aload_n dL_law_1268 rfl ?_
  refine l_iload_n dL_law_1269 rfl ?_
  refine l_iconst (v := (1 : Int32)) dL_law_1270 (by decide) ?_
  refine l_iadd dL_law_1271 ?_
  refine l_sld (vp_inb (i := i) (k := 1) (by omega) hL) dL_law_1272 ?_
  refine lc_167 (ct_X5_go _ _) e1 (by decide) (Nat.le_of_ble_eq_true rfl) dL_law_1273 ?_
  refine l_aload_n dL_law_1276 rfl ?_
  refine l_aload_n dL_law_1277 rfl ?_
  refine l_iload_n dL_law_1278 rfl ?_
  refine l_iconst (v := (1 : Int32)) dL_law_1279 (by decide) ?_
  refine l_iadd dL_law_1280 ?_
  refine l_sld (vp_inb (i := i) (k := 1) (by omega) hL) dL_law_1281 ?_
  refine lc_170 (ct_X6_go _ _) e2 (by decide) (Nat.le_of_ble_eq_true rfl) dL_law_1282 ?_
  refine l_icmp_eq (tgt := 1450) dL_law_1285 (by decide) (fun _ => k h2 hI2) (fun q => absurd rfl q)
theorem law_38 {b L : Nat} {xs : Nat → Int32} {Inv : Hp → Prop} (S : LawStp Inv) {i : Nat} (hi : i + 6 ≤ L) (hL : L ≤ 384) {h : Hp} (hI : Inv h) (k : ∀ h2, Inv h2 → LJ b L xs 1450 [(0, aR 99 0), (1, aR 0 0), (2, aR 20 0), (3, aI (nI i))] [] h2) : LJ b L xs 1290 [(0, aR 99 0), (1, aR 0 0), (2, aR 20 0), (3, aI (nI i))] [] h := by
  obtain ⟨r, h1, h2, e1, e2, hI2⟩ := S.2.2.2.2.2.2.2.2.2.2.2.2.2.2.2.2.2.2.2.2.2.2.2.2.2.2.2.2.2.2.2.2.2.2.2.2.2.2.1 (xs (Int32.toNatClampNeg (nI i + 1))) h hI
  refine l_aload_n dL_law_1290 rfl ?_
  refine l_aload_n dL_law_1291 rfl ?_
  refine l_iload_n dL_law_1292 rfl ?_
  refine l_iconst (v := (1 : Int32)) dL_law_1293 (by decide) ?_
  refine l_iadd dL_law_1294 ?_
  refine l_sld (vp_inb (i := i) (k := 1) (by omega) hL) dL_law_1295 ?_
  refine lc_171 (ct_X5_keep _ _) e1 (by decide) (Nat.le_of_ble_eq_true rfl) dL_law_1296 ?_
  refine l_aload_n dL_law_1299 rfl ?_
  refine l_aload_n dL_law_1300 rfl ?_
  refine l_iload_n dL_law_1301 rfl ?_
  refine l_iconst (v := (1 : Int32)) dL_law_1302 (by decide) ?_
  refine l_iadd dL_law_1303 ?_
  refine l_sld (vp_inb (i := i) (k := 1) (by omega) hL) dL_law_1304 ?_
  refine lc_174 (ct_X6_keep _ _) e2 (by decide) (Nat.le_of_ble_eq_true rfl) dL_law_1305 ?_
  refine l_icmp_eq (tgt := 1450) dL_law_1308 (by decide) (fun _ => k h2 hI2) (fun q => absurd rfl q)
theorem law_39 {b L : Nat} {xs : Nat → Int32} {Inv : Hp → Prop} (S : LawStp Inv) {i : Nat} (hi : i + 6 ≤ L) (hL : L ≤ 384) {h : Hp} (hI : Inv h) (k : ∀ h2, Inv h2 → LJ b L xs 1450 [(0, aR 99 0), (1, aR 0 0), (2, aR 20 0), (3, aI (nI i))] [] h2) : LJ b L xs 1313 [(0, aR 99 0), (1, aR 0 0), (2, aR 20 0), (3, aI (nI i))] [] h := by
  obtain ⟨r, h1, h2, e1, e2, hI2⟩ := S.2.2.2.2.2.2.2.2.2.2.2.2.2.2.2.2.2.2.2.2.2.2.2.2.2.2.2.2.2.2.2.2.2.2.2.2.2.2.2.1 (xs (Int32.toNatClampNeg (nI i + 1))) h hI
  refine l_aload_n dL_law_1313 rfl ?_
  refine l_aload_n dL_law_1314 rfl ?_
  refine l_iload_n dL_law_1315 rfl ?_
  refine l_iconst (v := (1 : Int32)) dL_law_1316 (by decide) ?_
  refine l_iadd dL_law_1317 ?_
  refine l_sld (vp_inb (i := i) (k := 1) (by omega) hL) dL_law_1318 ?_
  refine lc_175 (ct_X5_on _ _) e1 (by decide) (Nat.le_of_ble_eq_true rfl) dL_law_1319 ?_
  refine l_aload_n dL_law_1322 rfl ?_
  refine l_aload_n dL_law_1323 rfl ?_
  refine l_iload_n dL_law_1324 rfl ?_
  refine l_iconst (v := (1 : Int32)) dL_law_1325 (by decide) ?_
  refine l_iadd dL_law_1326 ?_
  refine l_sld (vp_inb (i := i) (k := 1) (by omega) hL) dL_law_1327 ?_
  refine lc_178 (ct_X6_on _ _) e2 (by decide) (Nat.le_of_ble_eq_true rfl) dL_law_1328 ?_
  refine l_icmp_eq (tgt := 1450) dL_law_1331 (by decide) (fun _ => k h2 hI2) (fun q => absurd rfl q)
theorem law_40 {b L : Nat} {xs : Nat → Int32} {Inv : Hp → Prop} (S : LawStp Inv) {i : Nat} (hi : i + 6 ≤ L) (hL : L ≤ 384) {h : Hp} (hI : Inv h) (k : ∀ h2, Inv h2 → LJ b L xs 1450 [(0, aR 99 0), (1, aR 0 0), (2, aR 20 0), (3, aI (nI i))] [] h2) : LJ b L xs 1336 [(0, aR 99 0), (1, aR 0 0), (2, aR 20 0), (3, aI (nI i))] [] h := by
  obtain ⟨r, h1, h2, e1, e2, hI2⟩ := S.2.2.2.2.2.2.2.2.2.2.2.2.2.2.2.2.2.2.2.2.2.2.2.2.2.2.2.2.2.2.2.2.2.2.2.2.2.2.2.2.1  h hI
  refine l_aload_n dL_law_1336 rfl ?_
  refine lc_179 (ct_X5_asked  _) e1 (by decide) (Nat.le_of_ble_eq_true rfl) dL_law_1337 ?_
  refine l_aload_n dL_law_1340 rfl ?_
  refine lc_182 (ct_X6_asked  _) e2 (by decide) (Nat.le_of_ble_eq_true rfl) dL_law_1341 ?_
  refine l_icmp_eq (tgt := 1450) dL_law_1344 (by decide) (fun _ => k h2 hI2) (fun q => absurd rfl q)
theorem law_41 {b L : Nat} {xs : Nat → Int32} {Inv : Hp → Prop} (S : LawStp Inv) {i : Nat} (hi : i + 6 ≤ L) (hL : L ≤ 384) {h : Hp} (hI : Inv h) (k : ∀ h2, Inv h2 → LJ b L xs 1450 [(0, aR 99 0), (1, aR 0 0), (2, aR 20 0), (3, aI (nI i))] [] h2) : LJ b L xs 1349 [(0, aR 99 0), (1, aR 0 0), (2, aR 20 0), (3, aI (nI i))] [] h := by
  obtain ⟨r, h1, h2, e1, e2, hI2⟩ := S.2.2.2.2.2.2.2.2.2.2.2.2.2.2.2.2.2.2.2.2.2.2.2.2.2.2.2.2.2.2.2.2.2.2.2.2.2.2.2.2.2.1  h hI
  refine l_aload_n dL_law_1349 rfl ?_
  refine lc_183 (ct_X5_upper  _) e1 (by decide) (Nat.le_of_ble_eq_true rfl) dL_law_1350 ?_
  refine l_aload_n dL_law_1353 rfl ?_
  refine lc_187 (ct_X6_upper  _) e2 (by decide) (Nat.le_of_ble_eq_true rfl) dL_law_1354 ?_
  refine l_lcmp dL_law_1357 ?_
  refine l_if_eq (tgt := 1450) dL_law_1358 (by decide) (fun _ => k h2 hI2) (fun q => absurd (by unfold lg_cmp; rw [if_neg (by rw [gt_iff_lt]; exact Int64.lt_irrefl), if_pos rfl]) q)
theorem law_42 {b L : Nat} {xs : Nat → Int32} {Inv : Hp → Prop} (S : LawStp Inv) {i : Nat} (hi : i + 6 ≤ L) (hL : L ≤ 384) {h : Hp} (hI : Inv h) (k : ∀ h2, Inv h2 → LJ b L xs 1450 [(0, aR 99 0), (1, aR 0 0), (2, aR 20 0), (3, aI (nI i))] [] h2) : LJ b L xs 1363 [(0, aR 99 0), (1, aR 0 0), (2, aR 20 0), (3, aI (nI i))] [] h := by
  obtain ⟨r, h1, h2, e1, e2, hI2⟩ := S.2.2.2.2.2.2.2.2.2.2.2.2.2.2.2.2.2.2.2.2.2.2.2.2.2.2.2.2.2.2.2.2.2.2.2.2.2.2.2.2.2.2.1  h hI
  refine l_aload_n dL_law_1363 rfl ?_
  refine lc_188 (ct_X5_lower  _) e1 (by decide) (Nat.le_of_ble_eq_true rfl) dL_law_1364 ?_
  refine l_aload_n dL_law_1367 rfl ?_
  refine lc_191 (ct_X6_lower  _) e2 (by decide) (Nat.le_of_ble_eq_true rfl) dL_law_1368 ?_
  refine l_lcmp dL_law_1371 ?_
  refine l_if_eq (tgt := 1450) dL_law_1372 (by decide) (fun _ => k h2 hI2) (fun q => absurd (by unfold lg_cmp; rw [if_neg (by rw [gt_iff_lt]; exact Int64.lt_irrefl), if_pos rfl]) q)
theorem law_43 {b L : Nat} {xs : Nat → Int32} {Inv : Hp → Prop} (S : LawStp Inv) {i : Nat} (hi : i + 6 ≤ L) (hL : L ≤ 384) {h : Hp} (hI : Inv h) (k : ∀ h2, Inv h2 → LJ b L xs 1450 [(0, aR 99 0), (1, aR 0 0), (2, aR 20 0), (3, aI (nI i))] [] h2) : LJ b L xs 1377 [(0, aR 99 0), (1, aR 0 0), (2, aR 20 0), (3, aI (nI i))] [] h := by
  obtain ⟨r, h1, h2, e1, e2, hI2⟩ := S.2.2.2.2.2.2.2.2.2.2.2.2.2.2.2.2.2.2.2.2.2.2.2.2.2.2.2.2.2.2.2.2.2.2.2.2.2.2.2.2.2.2.2.1 (xs (Int32.toNatClampNeg (nI i + 1))) h hI
  refine l_aload_n dL_law_1377 rfl ?_
  refine l_aload_n dL_law_1378 rfl ?_
  refine l_iload_n dL_law_1379 rfl ?_
  refine l_iconst (v := (1 : Int32)) dL_law_1380 (by decide) ?_
  refine l_iadd dL_law_1381 ?_
  refine l_sld (vp_inb (i := i) (k := 1) (by omega) hL) dL_law_1382 ?_
  refine lc_192 (ct_X5_count _ _) e1 (by decide) (Nat.le_of_ble_eq_true rfl) dL_law_1383 ?_
  refine l_aload_n dL_law_1386 rfl ?_
  refine l_aload_n dL_law_1387 rfl ?_
  refine l_iload_n dL_law_1388 rfl ?_
  refine l_iconst (v := (1 : Int32)) dL_law_1389 (by decide) ?_
  refine l_iadd dL_law_1390 ?_
  refine l_sld (vp_inb (i := i) (k := 1) (by omega) hL) dL_law_1391 ?_
  refine lc_195 (ct_X6_count _ _) e2 (by decide) (Nat.le_of_ble_eq_true rfl) dL_law_1392 ?_
  refine l_icmp_eq (tgt := 1450) dL_law_1395 (by decide) (fun _ => k h2 hI2) (fun q => absurd rfl q)
theorem law_44 {b L : Nat} {xs : Nat → Int32} {Inv : Hp → Prop} (S : LawStp Inv) {i : Nat} (hi : i + 6 ≤ L) (hL : L ≤ 384) {h : Hp} (hI : Inv h) (k : ∀ h2, Inv h2 → LJ b L xs 1450 [(0, aR 99 0), (1, aR 0 0), (2, aR 20 0), (3, aI (nI i))] [] h2) : LJ b L xs 1400 [(0, aR 99 0), (1, aR 0 0), (2, aR 20 0), (3, aI (nI i))] [] h := by
  obtain ⟨r, h1, h2, e1, e2, hI2⟩ := S.2.2.2.2.2.2.2.2.2.2.2.2.2.2.2.2.2.2.2.2.2.2.2.2.2.2.2.2.2.2.2.2.2.2.2.2.2.2.2.2.2.2.2.2.1  h hI
  refine l_aload_n dL_law_1400 rfl ?_
  refine lc_196 (ct_X5_finding  _) e1 (by decide) (Nat.le_of_ble_eq_true rfl) dL_law_1401 ?_
  refine l_aload_n dL_law_1404 rfl ?_
  refine lc_199 (ct_X6_finding  _) e2 (by decide) (Nat.le_of_ble_eq_true rfl) dL_law_1405 ?_
  refine l_icmp_eq (tgt := 1450) dL_law_1408 (by decide) (fun _ => k h2 hI2) (fun q => absurd rfl q)
theorem law_45 {b L : Nat} {xs : Nat → Int32} {Inv : Hp → Prop} (S : LawStp Inv) {i : Nat} (hi : i + 6 ≤ L) (hL : L ≤ 384) {h : Hp} (hI : Inv h) (k : ∀ h2, Inv h2 → LJ b L xs 1450 [(0, aR 99 0), (1, aR 0 0), (2, aR 20 0), (3, aI (nI i))] [] h2) : LJ b L xs 1413 [(0, aR 99 0), (1, aR 0 0), (2, aR 20 0), (3, aI (nI i))] [] h := by
  obtain ⟨r, h1, h2, e1, e2, hI2⟩ := S.2.2.2.2.2.2.2.2.2.2.2.2.2.2.2.2.2.2.2.2.2.2.2.2.2.2.2.2.2.2.2.2.2.2.2.2.2.2.2.2.2.2.2.2.2.1 (xs (Int32.toNatClampNeg (nI i + 1))) h hI
  refine l_aload_n dL_law_1413 rfl ?_
  refine l_aload_n dL_law_1414 rfl ?_
  refine l_iload_n dL_law_1415 rfl ?_
  refine l_iconst (v := (1 : Int32)) dL_law_1416 (by decide) ?_
  refine l_iadd dL_law_1417 ?_
  refine l_sld (vp_inb (i := i) (k := 1) (by omega) hL) dL_law_1418 ?_
  refine lc_200 (ct_X5_findings _ _) e1 (by decide) (Nat.le_of_ble_eq_true rfl) dL_law_1419 ?_
  refine l_aload_n dL_law_1422 rfl ?_
  refine l_aload_n dL_law_1423 rfl ?_
  refine l_iload_n dL_law_1424 rfl ?_
  refine l_iconst (v := (1 : Int32)) dL_law_1425 (by decide) ?_
  refine l_iadd dL_law_1426 ?_
  refine l_sld (vp_inb (i := i) (k := 1) (by omega) hL) dL_law_1427 ?_
  refine lc_203 (ct_X6_findings _ _) e2 (by decide) (Nat.le_of_ble_eq_true rfl) dL_law_1428 ?_
  refine l_icmp_eq (tgt := 1450) dL_law_1431 (by decide) (fun _ => k h2 hI2) (fun q => absurd rfl q)
theorem law_46 {b L : Nat} {xs : Nat → Int32} {Inv : Hp → Prop} (S : LawStp Inv) {i : Nat} (hi : i + 6 ≤ L) (hL : L ≤ 384) {h : Hp} (hI : Inv h) (k : ∀ h2, Inv h2 → LJ b L xs 1450 [(0, aR 99 0), (1, aR 0 0), (2, aR 20 0), (3, aI (nI i))] [] h2) : LJ b L xs 1436 [(0, aR 99 0), (1, aR 0 0), (2, aR 20 0), (3, aI (nI i))] [] h := by
  obtain ⟨r, h1, h2, e1, e2, hI2⟩ := S.2.2.2.2.2.2.2.2.2.2.2.2.2.2.2.2.2.2.2.2.2.2.2.2.2.2.2.2.2.2.2.2.2.2.2.2.2.2.2.2.2.2.2.2.2.2  h hI
  refine l_aload_n dL_law_1436 rfl ?_
  refine lc_204 (ct_X5_digest  _) e1 (by decide) (Nat.le_of_ble_eq_true rfl) dL_law_1437 ?_
  refine l_aload_n dL_law_1440 rfl ?_
  refine lc_207 (ct_X6_digest  _) e2 (by decide) (Nat.le_of_ble_eq_true rfl) dL_law_1441 ?_
  refine l_lcmp dL_law_1444 ?_
  refine l_if_eq (tgt := 1450) dL_law_1445 (by decide) (fun _ => k h2 hI2) (fun q => absurd (by unfold lg_cmp; rw [if_neg (by rw [gt_iff_lt]; exact Int64.lt_irrefl), if_pos rfl]) q)
set_option maxRecDepth 20000 in
theorem law_loop {b L : Nat} {xs : Nat → Int32} {Inv : Hp → Prop} (S : LawStp Inv) (hL : L ≤ 384) : ∀ (n i : Nat) (h : Hp), i ≤ 390 → 400 ≤ i + n → Inv h → LJ b L xs 18 [(0, aR 99 0), (1, aR 0 0), (2, aR 20 0), (3, aI (nI i))] [] h := by
  intro n
  induction n with
  | zero =>
    intro i h h1 h2
    omega
  | succ n ih =>
    intro i h h1 h2 hI
    refine l_iload_n dL_law_18 rfl ?_
    refine l_aload_n dL_law_19 rfl ?_
    refine l_slen dL_law_20 ?_
    refine l_bipush (v := (6 : Int32)) dL_law_21 (by decide) ?_
    refine l_isub dL_law_23 ?_
    refine l_icmp_gt (tgt := 1456) dL_law_24 (by decide) (fun q => ?_) (fun q => ?_)
    · refine l_iconst (v := (1 : Int32)) dL_law_1456 (by decide) ?_
      exact l_ret dL_law_1457
    · have hi : i + 6 ≤ L := law_lt h1 hL q
      have nx : ∀ h2, Inv h2 → LJ b L xs 1450 [(0, aR 99 0), (1, aR 0 0), (2, aR 20 0), (3, aI (nI i))] [] h2 := by
        intro h2 hI2
        refine l_iinc (v := (6 : Int32)) dL_law_1450 rfl (by decide) (by decide) ?_
        refine l_goto (tgt := 18) dL_law_1453 (by decide) ?_
        rw [show nI i + 6 = nI (i + 6) from nI_add i 6]
        exact l_weak rfl (ih (i + 6) h2 (by omega) (by omega) hI2)
      refine l_aload_n dL_law_27 rfl ?_
      refine l_iload_n dL_law_28 rfl ?_
      refine l_sld (vp_in_nI (by omega) (by omega)) dL_law_29 ?_
      refine l_bipush (v := (63 : Int32)) dL_law_30 (by decide) ?_
      refine l_iand dL_law_32 ?_
      generalize (xs (Int32.toNatClampNeg (nI i)) &&& 63) = x
      by_cases c0 : x = (0 : Int32)
      · exact l_tsIn (tgt := 236) (off := 203) dL_law_33 (by rw [c0]; decide) (by rw [c0]; decide) (by rw [c0]; rfl) (by decide) (law_0 S hi hL hI nx)
      by_cases c1 : x = (1 : Int32)
      · exact l_tsIn (tgt := 269) (off := 236) dL_law_33 (by rw [c1]; decide) (by rw [c1]; decide) (by rw [c1]; rfl) (by decide) (law_1 S hi hL hI nx)
      by_cases c2 : x = (2 : Int32)
      · exact l_tsIn (tgt := 312) (off := 279) dL_law_33 (by rw [c2]; decide) (by rw [c2]; decide) (by rw [c2]; rfl) (by decide) (law_2 S hi hL hI nx)
      by_cases c3 : x = (3 : Int32)
      · exact l_tsIn (tgt := 345) (off := 312) dL_law_33 (by rw [c3]; decide) (by rw [c3]; decide) (by rw [c3]; rfl) (by decide) (law_3 S hi hL hI nx)
      by_cases c4 : x = (4 : Int32)
      · exact l_tsIn (tgt := 368) (off := 335) dL_law_33 (by rw [c4]; decide) (by rw [c4]; decide) (by rw [c4]; rfl) (by decide) (law_4 S hi hL hI nx)
      by_cases c5 : x = (5 : Int32)
      · exact l_tsIn (tgt := 431) (off := 398) dL_law_33 (by rw [c5]; decide) (by rw [c5]; decide) (by rw [c5]; rfl) (by decide) (law_5 S hi hL hI nx)
      by_cases c6 : x = (6 : Int32)
      · exact l_tsIn (tgt := 454) (off := 421) dL_law_33 (by rw [c6]; decide) (by rw [c6]; decide) (by rw [c6]; rfl) (by decide) (law_6 S hi hL hI nx)
      by_cases c7 : x = (7 : Int32)
      · exact l_tsIn (tgt := 487) (off := 454) dL_law_33 (by rw [c7]; decide) (by rw [c7]; decide) (by rw [c7]; rfl) (by decide) (law_7 S hi hL hI nx)
      by_cases c8 : x = (8 : Int32)
      · exact l_tsIn (tgt := 530) (off := 497) dL_law_33 (by rw [c8]; decide) (by rw [c8]; decide) (by rw [c8]; rfl) (by decide) (law_8 S hi hL hI nx)
      by_cases c9 : x = (9 : Int32)
      · exact l_tsIn (tgt := 553) (off := 520) dL_law_33 (by rw [c9]; decide) (by rw [c9]; decide) (by rw [c9]; rfl) (by decide) (law_9 S hi hL hI nx)
      by_cases c10 : x = (10 : Int32)
      · exact l_tsIn (tgt := 576) (off := 543) dL_law_33 (by rw [c10]; decide) (by rw [c10]; decide) (by rw [c10]; rfl) (by decide) (law_10 S hi hL hI nx)
      by_cases c11 : x = (11 : Int32)
      · exact l_tsIn (tgt := 609) (off := 576) dL_law_33 (by rw [c11]; decide) (by rw [c11]; decide) (by rw [c11]; rfl) (by decide) (law_11 S hi hL hI nx)
      by_cases c12 : x = (12 : Int32)
      · exact l_tsIn (tgt := 642) (off := 609) dL_law_33 (by rw [c12]; decide) (by rw [c12]; decide) (by rw [c12]; rfl) (by decide) (law_12 S hi hL hI nx)
      by_cases c13 : x = (13 : Int32)
      · exact l_tsIn (tgt := 675) (off := 642) dL_law_33 (by rw [c13]; decide) (by rw [c13]; decide) (by rw [c13]; rfl) (by decide) (law_13 S hi hL hI nx)
      by_cases c14 : x = (14 : Int32)
      · exact l_tsIn (tgt := 708) (off := 675) dL_law_33 (by rw [c14]; decide) (by rw [c14]; decide) (by rw [c14]; rfl) (by decide) (law_14 S hi hL hI nx)
      by_cases c15 : x = (15 : Int32)
      · exact l_tsIn (tgt := 741) (off := 708) dL_law_33 (by rw [c15]; decide) (by rw [c15]; decide) (by rw [c15]; rfl) (by decide) (law_15 S hi hL hI nx)
      by_cases c16 : x = (16 : Int32)
      · exact l_tsIn (tgt := 774) (off := 741) dL_law_33 (by rw [c16]; decide) (by rw [c16]; decide) (by rw [c16]; rfl) (by decide) (law_16 S hi hL hI nx)
      by_cases c17 : x = (17 : Int32)
      · exact l_tsIn (tgt := 797) (off := 764) dL_law_33 (by rw [c17]; decide) (by rw [c17]; decide) (by rw [c17]; rfl) (by decide) (law_17 S hi hL hI nx)
      by_cases c18 : x = (18 : Int32)
      · exact l_tsIn (tgt := 810) (off := 777) dL_law_33 (by rw [c18]; decide) (by rw [c18]; decide) (by rw [c18]; rfl) (by decide) (law_18 S hi hL hI nx)
      by_cases c19 : x = (19 : Int32)
      · exact l_tsIn (tgt := 833) (off := 800) dL_law_33 (by rw [c19]; decide) (by rw [c19]; decide) (by rw [c19]; rfl) (by decide) (law_19 S hi hL hI nx)
      by_cases c20 : x = (20 : Int32)
      · exact l_tsIn (tgt := 856) (off := 823) dL_law_33 (by rw [c20]; decide) (by rw [c20]; decide) (by rw [c20]; rfl) (by decide) (law_20 S hi hL hI nx)
      by_cases c21 : x = (21 : Int32)
      · exact l_tsIn (tgt := 869) (off := 836) dL_law_33 (by rw [c21]; decide) (by rw [c21]; decide) (by rw [c21]; rfl) (by decide) (law_21 S hi hL hI nx)
      by_cases c22 : x = (22 : Int32)
      · exact l_tsIn (tgt := 892) (off := 859) dL_law_33 (by rw [c22]; decide) (by rw [c22]; decide) (by rw [c22]; rfl) (by decide) (law_22 S hi hL hI nx)
      by_cases c23 : x = (23 : Int32)
      · exact l_tsIn (tgt := 915) (off := 882) dL_law_33 (by rw [c23]; decide) (by rw [c23]; decide) (by rw [c23]; rfl) (by decide) (law_23 S hi hL hI nx)
      by_cases c24 : x = (24 : Int32)
      · exact l_tsIn (tgt := 928) (off := 895) dL_law_33 (by rw [c24]; decide) (by rw [c24]; decide) (by rw [c24]; rfl) (by decide) (law_24 S hi hL hI nx)
      by_cases c25 : x = (25 : Int32)
      · exact l_tsIn (tgt := 941) (off := 908) dL_law_33 (by rw [c25]; decide) (by rw [c25]; decide) (by rw [c25]; rfl) (by decide) (law_25 S hi hL hI nx)
      by_cases c26 : x = (26 : Int32)
      · exact l_tsIn (tgt := 974) (off := 941) dL_law_33 (by rw [c26]; decide) (by rw [c26]; decide) (by rw [c26]; rfl) (by decide) (law_26 S hi hL hI nx)
      by_cases c27 : x = (27 : Int32)
      · exact l_tsIn (tgt := 997) (off := 964) dL_law_33 (by rw [c27]; decide) (by rw [c27]; decide) (by rw [c27]; rfl) (by decide) (law_27 S hi hL hI nx)
      by_cases c28 : x = (28 : Int32)
      · exact l_tsIn (tgt := 1020) (off := 987) dL_law_33 (by rw [c28]; decide) (by rw [c28]; decide) (by rw [c28]; rfl) (by decide) (law_28 S hi hL hI nx)
      by_cases c29 : x = (29 : Int32)
      · exact l_tsIn (tgt := 1073) (off := 1040) dL_law_33 (by rw [c29]; decide) (by rw [c29]; decide) (by rw [c29]; rfl) (by decide) (law_29 S hi hL hI nx)
      by_cases c30 : x = (30 : Int32)
      · exact l_tsIn (tgt := 1086) (off := 1053) dL_law_33 (by rw [c30]; decide) (by rw [c30]; decide) (by rw [c30]; rfl) (by decide) (law_30 S hi hL hI nx)
      by_cases c31 : x = (31 : Int32)
      · exact l_tsIn (tgt := 1119) (off := 1086) dL_law_33 (by rw [c31]; decide) (by rw [c31]; decide) (by rw [c31]; rfl) (by decide) (law_31 S hi hL hI nx)
      by_cases c32 : x = (32 : Int32)
      · exact l_tsIn (tgt := 1132) (off := 1099) dL_law_33 (by rw [c32]; decide) (by rw [c32]; decide) (by rw [c32]; rfl) (by decide) (law_32 S hi hL hI nx)
      by_cases c33 : x = (33 : Int32)
      · exact l_tsIn (tgt := 1155) (off := 1122) dL_law_33 (by rw [c33]; decide) (by rw [c33]; decide) (by rw [c33]; rfl) (by decide) (law_33 S hi hL hI nx)
      by_cases c34 : x = (34 : Int32)
      · exact l_tsIn (tgt := 1178) (off := 1145) dL_law_33 (by rw [c34]; decide) (by rw [c34]; decide) (by rw [c34]; rfl) (by decide) (law_34 S hi hL hI nx)
      by_cases c35 : x = (35 : Int32)
      · exact l_tsIn (tgt := 1201) (off := 1168) dL_law_33 (by rw [c35]; decide) (by rw [c35]; decide) (by rw [c35]; rfl) (by decide) (law_35 S hi hL hI nx)
      by_cases c36 : x = (36 : Int32)
      · exact l_tsIn (tgt := 1234) (off := 1201) dL_law_33 (by rw [c36]; decide) (by rw [c36]; decide) (by rw [c36]; rfl) (by decide) (law_36 S hi hL hI nx)
      by_cases c37 : x = (37 : Int32)
      · exact l_tsIn (tgt := 1267) (off := 1234) dL_law_33 (by rw [c37]; decide) (by rw [c37]; decide) (by rw [c37]; rfl) (by decide) (law_37 S hi hL hI nx)
      by_cases c38 : x = (38 : Int32)
      · exact l_tsIn (tgt := 1290) (off := 1257) dL_law_33 (by rw [c38]; decide) (by rw [c38]; decide) (by rw [c38]; rfl) (by decide) (law_38 S hi hL hI nx)
      by_cases c39 : x = (39 : Int32)
      · exact l_tsIn (tgt := 1313) (off := 1280) dL_law_33 (by rw [c39]; decide) (by rw [c39]; decide) (by rw [c39]; rfl) (by decide) (law_39 S hi hL hI nx)
      by_cases c40 : x = (40 : Int32)
      · exact l_tsIn (tgt := 1336) (off := 1303) dL_law_33 (by rw [c40]; decide) (by rw [c40]; decide) (by rw [c40]; rfl) (by decide) (law_40 S hi hL hI nx)
      by_cases c41 : x = (41 : Int32)
      · exact l_tsIn (tgt := 1349) (off := 1316) dL_law_33 (by rw [c41]; decide) (by rw [c41]; decide) (by rw [c41]; rfl) (by decide) (law_41 S hi hL hI nx)
      by_cases c42 : x = (42 : Int32)
      · exact l_tsIn (tgt := 1363) (off := 1330) dL_law_33 (by rw [c42]; decide) (by rw [c42]; decide) (by rw [c42]; rfl) (by decide) (law_42 S hi hL hI nx)
      by_cases c43 : x = (43 : Int32)
      · exact l_tsIn (tgt := 1377) (off := 1344) dL_law_33 (by rw [c43]; decide) (by rw [c43]; decide) (by rw [c43]; rfl) (by decide) (law_43 S hi hL hI nx)
      by_cases c44 : x = (44 : Int32)
      · exact l_tsIn (tgt := 1400) (off := 1367) dL_law_33 (by rw [c44]; decide) (by rw [c44]; decide) (by rw [c44]; rfl) (by decide) (law_44 S hi hL hI nx)
      by_cases c45 : x = (45 : Int32)
      · exact l_tsIn (tgt := 1413) (off := 1380) dL_law_33 (by rw [c45]; decide) (by rw [c45]; decide) (by rw [c45]; rfl) (by decide) (law_45 S hi hL hI nx)
      by_cases c46 : x = (46 : Int32)
      · exact l_tsIn (tgt := 1436) (off := 1403) dL_law_33 (by rw [c46]; decide) (by rw [c46]; decide) (by rw [c46]; rfl) (by decide) (law_46 S hi hL hI nx)
      refine l_tsOut (tgt := 1450) dL_law_33 ?_ (by decide) (nx h hI)
      by_cases z1 : x.toInt < 0
      · exact Or.inl z1
      · refine Or.inr (Int.not_le.mp (fun z2 => ?_))
        have z3 : x = Int32.ofInt x.toInt := (Int32.ofInt_toInt x).symm
        generalize x.toInt = z at z1 z2 z3
        rcases (show z = 0 ∨ z = 1 ∨ z = 2 ∨ z = 3 ∨ z = 4 ∨ z = 5 ∨ z = 6 ∨ z = 7 ∨ z = 8 ∨ z = 9 ∨ z = 10 ∨ z = 11 ∨ z = 12 ∨ z = 13 ∨ z = 14 ∨ z = 15 ∨ z = 16 ∨ z = 17 ∨ z = 18 ∨ z = 19 ∨ z = 20 ∨ z = 21 ∨ z = 22 ∨ z = 23 ∨ z = 24 ∨ z = 25 ∨ z = 26 ∨ z = 27 ∨ z = 28 ∨ z = 29 ∨ z = 30 ∨ z = 31 ∨ z = 32 ∨ z = 33 ∨ z = 34 ∨ z = 35 ∨ z = 36 ∨ z = 37 ∨ z = 38 ∨ z = 39 ∨ z = 40 ∨ z = 41 ∨ z = 42 ∨ z = 43 ∨ z = 44 ∨ z = 45 ∨ z = 46 by omega) with rfl | rfl | rfl | rfl | rfl | rfl | rfl | rfl | rfl | rfl | rfl | rfl | rfl | rfl | rfl | rfl | rfl | rfl | rfl | rfl | rfl | rfl | rfl | rfl | rfl | rfl | rfl | rfl | rfl | rfl | rfl | rfl | rfl | rfl | rfl | rfl | rfl | rfl | rfl | rfl | rfl | rfl | rfl | rfl | rfl | rfl | rfl
        · exact c0 (z3.trans (by decide))
        · exact c1 (z3.trans (by decide))
        · exact c2 (z3.trans (by decide))
        · exact c3 (z3.trans (by decide))
        · exact c4 (z3.trans (by decide))
        · exact c5 (z3.trans (by decide))
        · exact c6 (z3.trans (by decide))
        · exact c7 (z3.trans (by decide))
        · exact c8 (z3.trans (by decide))
        · exact c9 (z3.trans (by decide))
        · exact c10 (z3.trans (by decide))
        · exact c11 (z3.trans (by decide))
        · exact c12 (z3.trans (by decide))
        · exact c13 (z3.trans (by decide))
        · exact c14 (z3.trans (by decide))
        · exact c15 (z3.trans (by decide))
        · exact c16 (z3.trans (by decide))
        · exact c17 (z3.trans (by decide))
        · exact c18 (z3.trans (by decide))
        · exact c19 (z3.trans (by decide))
        · exact c20 (z3.trans (by decide))
        · exact c21 (z3.trans (by decide))
        · exact c22 (z3.trans (by decide))
        · exact c23 (z3.trans (by decide))
        · exact c24 (z3.trans (by decide))
        · exact c25 (z3.trans (by decide))
        · exact c26 (z3.trans (by decide))
        · exact c27 (z3.trans (by decide))
        · exact c28 (z3.trans (by decide))
        · exact c29 (z3.trans (by decide))
        · exact c30 (z3.trans (by decide))
        · exact c31 (z3.trans (by decide))
        · exact c32 (z3.trans (by decide))
        · exact c33 (z3.trans (by decide))
        · exact c34 (z3.trans (by decide))
        · exact c35 (z3.trans (by decide))
        · exact c36 (z3.trans (by decide))
        · exact c37 (z3.trans (by decide))
        · exact c38 (z3.trans (by decide))
        · exact c39 (z3.trans (by decide))
        · exact c40 (z3.trans (by decide))
        · exact c41 (z3.trans (by decide))
        · exact c42 (z3.trans (by decide))
        · exact c43 (z3.trans (by decide))
        · exact c44 (z3.trans (by decide))
        · exact c45 (z3.trans (by decide))
        · exact c46 (z3.trans (by decide))
