set_option maxRecDepth 20000 in
theorem w_X4_settle_b69  (a0 : Nat) (s0 : Int32) (h_a0 : a0 < cnt 11) (h : Hp) : J encI RX4 cX4_settle 7 (some .boolean) 4 69 [(0, aR 11 a0)] [aI s0] h (f_X4_settle_b69  a0 s0 h) := by
  unfold f_X4_settle_b69
  refine j_istore dX4_settle_69 (by decide) ?_
  refine j_iload dX4_settle_71 rfl ?_
  refine j_if_ne (tgt := 80) dX4_settle_73 (by decide) (fun c1 => ?_) (fun c1 => ?_)
  · refine j_iload dX4_settle_80 rfl ?_
    exact j_gd (fun q2 => j_zret q2 dX4_settle_82)
  · refine j_aload_n dX4_settle_76 rfl ?_
    refine jc_X4_182 (ct_X4_removeLast _ h_a0 _) (by decide) h_a0 (Nat.le_of_ble_eq_true rfl) dX4_settle_77 (fun v3 h4 e5 => ?_)
    refine j_iload dX4_settle_80 rfl ?_
    exact j_gd (fun q6 => j_zret q6 dX4_settle_82)
set_option maxRecDepth 20000 in
theorem ct_X4_settle (a0 : Nat) (a1 : Int32) (a2 : Int32) (a3 : Int32) (a4 : Int32) (h_a0 : a0 < cnt 11) (h : Hp) : Ct encI yX4_settle cX4_settle 7 (some .boolean) 4 [aR 11 a0, aI a1, aI a2, aI a3, aI a4] h (f_X4_settle a0 a1 a2 a3 a4 h) := by
  refine ct_of [(0, aR 11 a0), (1, aI a1), (2, aI a2), (3, aI a3), (4, aI a4)] (by decide) (fun _ => rfl) (fun _ => Nat.le_of_ble_eq_true rfl) ?_
  show J encI RX4 cX4_settle 7 (some .boolean) 4 0 [(0, aR 11 a0), (1, aI a1), (2, aI a2), (3, aI a3), (4, aI a4)] [] h (f_X4_settle a0 a1 a2 a3 a4 h)
  unfold f_X4_settle
  refine j_aload_n dX4_settle_0 rfl ?_
  refine jg_X4_39 h_a0 dX4_settle_1 ?_
  refine j_bipush (v := (14 : Int32)) dX4_settle_4 (by decide) ?_
  refine j_icmp_ge (tgt := 19) dX4_settle_6 (by decide) (fun c1 => ?_) (fun c1 => ?_)
  · refine j_iconst (v := (0 : Int32)) dX4_settle_19 (by decide) ?_
    exact j_zret (Or.inl rfl) dX4_settle_20
  · refine j_aload_n dX4_settle_9 rfl ?_
    refine j_iconst (v := (0 : Int32)) dX4_settle_10 (by decide) ?_
    refine j_iload_n dX4_settle_11 rfl ?_
    refine j_iload_n dX4_settle_12 rfl ?_
    refine jc_X4_172 (ct_X4_hasRoom _ _ _ _ h_a0 _) (by decide) h_a0 (Nat.le_of_ble_eq_true rfl) dX4_settle_13 (fun v2 h3 e4 => ?_)
    refine j_if_ne (tgt := 21) dX4_settle_16 (by decide) (fun c5 => ?_) (fun c5 => ?_)
    · refine j_aload_n dX4_settle_21 rfl ?_
      refine j_iconst (v := (0 : Int32)) dX4_settle_22 (by decide) ?_
      refine j_iload_n dX4_settle_23 rfl ?_
      refine j_iload_n dX4_settle_24 rfl ?_
      refine jc_X4_176 (ct_X4_add _ _ _ _ h_a0 _) (by decide) h_a0 (Nat.le_of_ble_eq_true rfl) dX4_settle_25 (fun v6 h7 e8 => ?_)
      refine j_aload_n dX4_settle_28 rfl ?_
      refine jg_X4_39 h_a0 dX4_settle_29 ?_
      refine j_iconst (v := (1 : Int32)) dX4_settle_32 (by decide) ?_
      refine j_isub dX4_settle_33 ?_
      refine j_istore dX4_settle_34 (by decide) ?_
      refine j_aload_n dX4_settle_36 rfl ?_
      refine jg_X4_11 h_a0 dX4_settle_37 ?_
      refine j_iload dX4_settle_40 rfl ?_
      refine ja_12 h_a0 dX4_settle_42 (fun q9 z10 => ?_)
      refine j_iload_n dX4_settle_43 rfl ?_
      refine j_iload dX4_settle_44 rfl ?_
      refine j_bipush (v := (-9 : Int32)) dX4_settle_46 (by decide) ?_
      refine jc_X4_179 (ct_X0_setMarks _ _ _ _ z10 _) (by decide) z10 (Nat.le_of_ble_eq_true rfl) dX4_settle_48 (fun v11 h12 e13 => ?_)
      refine j_aload_n dX4_settle_51 rfl ?_
      refine jc_X4_109 (ct_X4_standingNow _ h_a0 _) (by decide) h_a0 (Nat.le_of_ble_eq_true rfl) dX4_settle_52 (fun v14 h15 e16 => ?_)
      refine j_iload dX4_settle_55 rfl ?_
      refine j_ishr dX4_settle_57 ?_
      refine j_iconst (v := (1 : Int32)) dX4_settle_58 (by decide) ?_
      refine j_iand dX4_settle_59 ?_
      refine j_iconst (v := (1 : Int32)) dX4_settle_60 (by decide) ?_
      refine j_icmp_ne (tgt := 68) dX4_settle_61 (by decide) (fun c17 => ?_) (fun c17 => ?_)
      · refine j_iconst (v := (0 : Int32)) dX4_settle_68 (by decide) ?_
        exact j_weak rfl (w_X4_settle_b69  _ _ h_a0 _)
      · refine j_iconst (v := (1 : Int32)) dX4_settle_64 (by decide) ?_
        refine j_goto (tgt := 69) dX4_settle_65 (by decide) ?_
        exact j_weak rfl (w_X4_settle_b69  _ _ h_a0 _)
    · refine j_iconst (v := (0 : Int32)) dX4_settle_19 (by decide) ?_
      exact j_zret (Or.inl rfl) dX4_settle_20
set_option maxRecDepth 20000 in
theorem ct_X5_frost (a1 : Int32) (a2 : Int32)  (h : Hp) : Ct encI yX5_frost cX5_frost 6 (some .int) 4 [aR 0 0, aI a1, aI a2] h (f_X5_frost a1 a2 h) := by
  refine ct_of [(0, aR 0 0), (1, aI a1), (2, aI a2)] (by decide) (fun _ => rfl) (fun _ => Nat.le_of_ble_eq_true rfl) ?_
  show J encI RX5 cX5_frost 6 (some .int) 4 0 [(0, aR 0 0), (1, aI a1), (2, aI a2)] [] h (f_X5_frost a1 a2 h)
  unfold f_X5_frost
  refine j_iload_n dX5_frost_0 rfl ?_
  refine j_iconst (v := (1 : Int32)) dX5_frost_1 (by decide) ?_
  refine j_icmp_lt (tgt := 18) dX5_frost_2 (by decide) (fun c1 => ?_) (fun c1 => ?_)
  · refine j_iconst (v := (-1 : Int32)) dX5_frost_18 (by decide) ?_
    exact j_iret dX5_frost_19
  · refine j_iload_n dX5_frost_5 rfl ?_
    refine j_ldc (v := (2147483647 : Int32)) dX5_frost_6 (gt_m 684 rfl rfl) ?_
    refine j_icmp_ge (tgt := 18) dX5_frost_8 (by decide) (fun c2 => ?_) (fun c2 => ?_)
    · refine j_iconst (v := (-1 : Int32)) dX5_frost_18 (by decide) ?_
      exact j_iret dX5_frost_19
    · refine j_iload_n dX5_frost_11 rfl ?_
      refine jc_X5_243 (ct_X5_isTwelfth _  _) (by decide) (Nat.le_of_ble_eq_true rfl) dX5_frost_12 (fun v3 h4 e5 => ?_)
      refine j_if_ne (tgt := 20) dX5_frost_15 (by decide) (fun c6 => ?_) (fun c6 => ?_)
      · refine j_aload_n dX5_frost_20 rfl ?_
        refine jg_X5_33 z_0 dX5_frost_21 ?_
        refine jc_X5_150 (ct_X4_standingNow _ (Nat.le_of_ble_eq_true rfl) _) (by decide) (Nat.le_of_ble_eq_true rfl) (Nat.le_of_ble_eq_true rfl) dX5_frost_24 (fun v7 h8 e9 => ?_)
        refine j_istore_n dX5_frost_27 (by decide) ?_
        refine j_aload_n dX5_frost_28 rfl ?_
        refine jg_X5_33 z_0 dX5_frost_29 ?_
        refine j_iload_n dX5_frost_32 rfl ?_
        refine j_iload_n dX5_frost_33 rfl ?_
        refine jc_X5_246 (ct_X4_crack _ _ _ (Nat.le_of_ble_eq_true rfl) _) (by decide) (Nat.le_of_ble_eq_true rfl) (Nat.le_of_ble_eq_true rfl) dX5_frost_34 (fun v10 h11 e12 => ?_)
        refine j_istore dX5_frost_37 (by decide) ?_
        refine j_iload_n dX5_frost_39 rfl ?_
        refine j_aload_n dX5_frost_40 rfl ?_
        refine jg_X5_33 z_0 dX5_frost_41 ?_
        refine jc_X5_150 (ct_X4_standingNow _ (Nat.le_of_ble_eq_true rfl) _) (by decide) (Nat.le_of_ble_eq_true rfl) (Nat.le_of_ble_eq_true rfl) dX5_frost_44 (fun v13 h14 e15 => ?_)
        refine j_iconst (v := (-1 : Int32)) dX5_frost_47 (by decide) ?_
        refine j_ixor dX5_frost_48 ?_
        refine j_iand dX5_frost_49 ?_
        refine j_istore dX5_frost_50 (by decide) ?_
        refine j_aload_n dX5_frost_52 rfl ?_
        refine jg_X5_33 z_0 dX5_frost_53 ?_
        refine j_iload dX5_frost_56 rfl ?_
        refine jc_X5_249 (ct_X4_takeOut _ _ (Nat.le_of_ble_eq_true rfl) _) (by decide) (Nat.le_of_ble_eq_true rfl) (Nat.le_of_ble_eq_true rfl) dX5_frost_58 (fun v16 h17 e18 => ?_)
        refine j_aload_n dX5_frost_61 rfl ?_
        refine j_iload dX5_frost_62 rfl ?_
        refine jp_X5_68 z_0 dX5_frost_64 ?_
        refine j_iload dX5_frost_67 rfl ?_
        exact j_iret dX5_frost_69
      · refine j_iconst (v := (-1 : Int32)) dX5_frost_18 (by decide) ?_
        exact j_iret dX5_frost_19
set_option maxRecDepth 20000 in
theorem w_X5_go_b32  : ∀ (n : Nat) (a1 : Int32) (a2 : Int32)  (h : Hp), J encI RX5 cX5_go 3 (some .int) 4 32 [(0, aR 0 0), (1, aI a1), (2, aI a2)] [] h (f_X5_go_b32  n a1 a2 h) := by
  intro n
  induction n with
  | zero =>
    intros
    exact j_none
  | succ n hk32 =>
    intro a1 a2  h
    show J encI RX5 cX5_go 3 (some .int) 4 32 [(0, aR 0 0), (1, aI a1), (2, aI a2)] [] h (f_X5_go_b32_body  (f_X5_go_b32  n) a1 a2 h)
    unfold f_X5_go_b32_body
    refine j_iload_n dX5_go_32 rfl ?_
    refine j_iload_n dX5_go_33 rfl ?_
    refine j_icmp_ge (tgt := 63) dX5_go_34 (by decide) (fun c1 => ?_) (fun c1 => ?_)
    · refine j_aload_n dX5_go_63 rfl ?_
      refine jg_X5_33 z_0 dX5_go_64 ?_
      refine jg_X5_168 (Nat.le_of_ble_eq_true rfl) dX5_go_67 ?_
      refine jc_X5_160 (ct_J6_bitCount _  _) (by decide) (Nat.le_of_ble_eq_true rfl) dX5_go_70 (fun v2 h3 e4 => ?_)
      exact j_iret dX5_go_73
    · refine j_aload_n dX5_go_37 rfl ?_
      refine jg_X5_33 z_0 dX5_go_38 ?_
      refine j_dup dX5_go_41 rfl ?_
      refine jg_X5_267 (Nat.le_of_ble_eq_true rfl) dX5_go_42 ?_
      refine j_iconst (v := (1 : Int32)) dX5_go_45 (by decide) ?_
      refine j_iadd dX5_go_46 ?_
      refine jp_X5_267 (Nat.le_of_ble_eq_true rfl) dX5_go_47 ?_
      refine j_aload_n dX5_go_50 rfl ?_
      refine jg_X5_33 z_0 dX5_go_51 ?_
      refine jc_X5_270 (ct_X4_growVine _ (Nat.le_of_ble_eq_true rfl) _) (by decide) (Nat.le_of_ble_eq_true rfl) (Nat.le_of_ble_eq_true rfl) dX5_go_54 (fun v5 h6 e7 => ?_)
      refine j_iinc (v := (1 : Int32)) dX5_go_57 rfl (by decide) (by decide) ?_
      refine j_goto (tgt := 32) dX5_go_60 (by decide) ?_
      exact j_weak rfl (hk32 _ _  _)
set_option maxRecDepth 20000 in
theorem ct_X5_go (a1 : Int32)  (h : Hp) : Ct encI yX5_go cX5_go 3 (some .int) 4 [aR 0 0, aI a1] h (f_X5_go a1 h) := by
  refine ct_of [(0, aR 0 0), (1, aI a1)] (by decide) (fun _ => rfl) (fun _ => Nat.le_of_ble_eq_true rfl) ?_
  show J encI RX5 cX5_go 3 (some .int) 4 0 [(0, aR 0 0), (1, aI a1)] [] h (f_X5_go a1 h)
  unfold f_X5_go
  refine j_iload_n dX5_go_0 rfl ?_
  refine j_if_lt (tgt := 10) dX5_go_1 (by decide) (fun c1 => ?_) (fun c1 => ?_)
  · refine j_iconst (v := (-1 : Int32)) dX5_go_10 (by decide) ?_
    exact j_iret dX5_go_11
  · refine j_iload_n dX5_go_4 rfl ?_
    refine j_bipush (v := (20 : Int32)) dX5_go_5 (by decide) ?_
    refine j_icmp_le (tgt := 12) dX5_go_7 (by decide) (fun c2 => ?_) (fun c2 => ?_)
    · refine j_aload_n dX5_go_12 rfl ?_
      refine jg_X5_33 z_0 dX5_go_13 ?_
      refine jg_X5_267 (Nat.le_of_ble_eq_true rfl) dX5_go_16 ?_
      refine j_iload_n dX5_go_19 rfl ?_
      refine j_iadd dX5_go_20 ?_
      refine j_sipush (v := (1000 : Int32)) dX5_go_21 (by decide) ?_
      refine j_icmp_le (tgt := 30) dX5_go_24 (by decide) (fun c3 => ?_) (fun c3 => ?_)
      · refine j_iconst (v := (0 : Int32)) dX5_go_30 (by decide) ?_
        refine j_istore_n dX5_go_31 (by decide) ?_
        exact j_weak rfl (w_X5_go_b32  _ _ _  _)
      · refine j_bipush (v := (-6 : Int32)) dX5_go_27 (by decide) ?_
        exact j_iret dX5_go_29
    · refine j_iconst (v := (-1 : Int32)) dX5_go_10 (by decide) ?_
      exact j_iret dX5_go_11
set_option maxRecDepth 20000 in
theorem ct_X5_keep (a1 : Int32)  (h : Hp) : Ct encI yX5_keep cX5_keep 2 (some .int) 4 [aR 0 0, aI a1] h (f_X5_keep a1 h) := by
  refine ct_of [(0, aR 0 0), (1, aI a1)] (by decide) (fun _ => rfl) (fun _ => Nat.le_of_ble_eq_true rfl) ?_
  show J encI RX5 cX5_keep 2 (some .int) 4 0 [(0, aR 0 0), (1, aI a1)] [] h (f_X5_keep a1 h)
  unfold f_X5_keep
  refine j_iload_n dX5_keep_0 rfl ?_
  refine jc_X5_239 (ct_X5_isPlace _  _) (by decide) (Nat.le_of_ble_eq_true rfl) dX5_keep_1 (fun v1 h2 e3 => ?_)
  refine j_if_ne (tgt := 9) dX5_keep_4 (by decide) (fun c4 => ?_) (fun c4 => ?_)
  · refine j_aload_n dX5_keep_9 rfl ?_
    refine jg_X5_33 z_0 dX5_keep_10 ?_
    refine jg_X5_106 (Nat.le_of_ble_eq_true rfl) dX5_keep_13 ?_
    refine j_if_ne (tgt := 22) dX5_keep_16 (by decide) (fun c5 => ?_) (fun c5 => ?_)
    · refine j_aload_n dX5_keep_22 rfl ?_
      refine jg_X5_37 z_0 dX5_keep_23 ?_
      refine j_iload_n dX5_keep_26 rfl ?_
      refine ja_18 z_18 dX5_keep_27 (fun q6 z7 => ?_)
      refine j_aload_n dX5_keep_28 rfl ?_
      refine jg_X5_33 z_0 dX5_keep_29 ?_
      refine jc_X5_102 (ct_X4_become _ _ z7 (Nat.le_of_ble_eq_true rfl) _) (by decide) z7 (Nat.le_of_ble_eq_true rfl) dX5_keep_32 (fun v8 h9 e10 => ?_)
      refine j_aload_n dX5_keep_35 rfl ?_
      refine jg_X5_33 z_0 dX5_keep_36 ?_
      refine jg_X5_154 (Nat.le_of_ble_eq_true rfl) dX5_keep_39 ?_
      refine jc_X5_160 (ct_J6_bitCount _  _) (by decide) (Nat.le_of_ble_eq_true rfl) dX5_keep_42 (fun v11 h12 e13 => ?_)
      exact j_iret dX5_keep_45
    · refine j_bipush (v := (-4 : Int32)) dX5_keep_19 (by decide) ?_
      exact j_iret dX5_keep_21
  · refine j_iconst (v := (-1 : Int32)) dX5_keep_7 (by decide) ?_
    exact j_iret dX5_keep_8
set_option maxRecDepth 20000 in
theorem ct_X5_odds (a1 : Int32) (a2 : Int32)  (h : Hp) : Ct encI yX5_odds cX5_odds 5 (some .int) 4 [aR 0 0, aI a1, aI a2] h (f_X5_odds a1 a2 h) := by
  refine ct_of [(0, aR 0 0), (1, aI a1), (2, aI a2)] (by decide) (fun _ => rfl) (fun _ => Nat.le_of_ble_eq_true rfl) ?_
  show J encI RX5 cX5_odds 5 (some .int) 4 0 [(0, aR 0 0), (1, aI a1), (2, aI a2)] [] h (f_X5_odds a1 a2 h)
  unfold f_X5_odds
  refine j_aload_n dX5_odds_0 rfl ?_
  refine jg_X5_33 z_0 dX5_odds_1 ?_
  refine j_iload_n dX5_odds_4 rfl ?_
  refine jc_X5_113 (ct_X4_has _ _ (Nat.le_of_ble_eq_true rfl) _) (by decide) (Nat.le_of_ble_eq_true rfl) (Nat.le_of_ble_eq_true rfl) dX5_odds_5 (fun v1 h2 e3 => ?_)
  refine j_if_eq (tgt := 18) dX5_odds_8 (by decide) (fun c4 => ?_) (fun c4 => ?_)
  · refine j_iconst (v := (-1 : Int32)) dX5_odds_18 (by decide) ?_
    exact j_iret dX5_odds_19
  · refine j_iload_n dX5_odds_11 rfl ?_
    refine jc_X5_243 (ct_X5_isTwelfth _  _) (by decide) (Nat.le_of_ble_eq_true rfl) dX5_odds_12 (fun v5 h6 e7 => ?_)
    refine j_if_ne (tgt := 20) dX5_odds_15 (by decide) (fun c8 => ?_) (fun c8 => ?_)
    · refine j_aload_n dX5_odds_20 rfl ?_
      refine jg_X5_33 z_0 dX5_odds_21 ?_
      refine j_iload_n dX5_odds_24 rfl ?_
      refine jc_X5_120 (ct_X4_isIn _ _ (Nat.le_of_ble_eq_true rfl) _) (by decide) (Nat.le_of_ble_eq_true rfl) (Nat.le_of_ble_eq_true rfl) dX5_odds_25 (fun v9 h10 e11 => ?_)
      refine j_if_ne (tgt := 37) dX5_odds_28 (by decide) (fun c12 => ?_) (fun c12 => ?_)
      · refine j_aload_n dX5_odds_37 rfl ?_
        refine jg_X5_33 z_0 dX5_odds_38 ?_
        refine j_iload_n dX5_odds_41 rfl ?_
        refine jc_X5_252 (ct_X4_allBeneath _ _ (Nat.le_of_ble_eq_true rfl) _) (by decide) (Nat.le_of_ble_eq_true rfl) (Nat.le_of_ble_eq_true rfl) dX5_odds_42 (fun v13 h14 e15 => ?_)
        refine j_istore_n dX5_odds_45 (by decide) ?_
        refine j_iload_n dX5_odds_46 rfl ?_
        refine jc_X5_160 (ct_J6_bitCount _  _) (by decide) (Nat.le_of_ble_eq_true rfl) dX5_odds_47 (fun v16 h17 e18 => ?_)
        refine j_istore dX5_odds_50 (by decide) ?_
        refine j_iload dX5_odds_52 rfl ?_
        refine j_bipush (v := (9 : Int32)) dX5_odds_54 (by decide) ?_
        refine j_icmp_le (tgt := 62) dX5_odds_56 (by decide) (fun c19 => ?_) (fun c19 => ?_)
        · refine j_aload_n dX5_odds_62 rfl ?_
          refine j_aload_n dX5_odds_63 rfl ?_
          refine jg_X5_33 z_0 dX5_odds_64 ?_
          refine j_iload_n dX5_odds_67 rfl ?_
          refine j_iload_n dX5_odds_68 rfl ?_
          refine j_iload_n dX5_odds_69 rfl ?_
          refine jc_X5_255 (ct_X4_chances _ _ _ _ (Nat.le_of_ble_eq_true rfl) _) (by decide) (Nat.le_of_ble_eq_true rfl) (Nat.le_of_ble_eq_true rfl) dX5_odds_70 (fun v20 h21 e22 => ?_)
          refine j_bipush (v := (12 : Int32)) dX5_odds_73 (by decide) ?_
          refine j_iload dX5_odds_75 rfl ?_
          refine jc_X5_259 (ct_X5_power _ _  _) (by decide) (Nat.le_of_ble_eq_true rfl) dX5_odds_77 (fun v23 h24 e25 => ?_)
          refine jc_X5_263 (ct_X5_tellFraction _ _  _) (by decide) z_0 (Nat.le_of_ble_eq_true rfl) dX5_odds_80 (fun v26 h27 e28 => ?_)
          refine j_iconst (v := (1 : Int32)) dX5_odds_83 (by decide) ?_
          exact j_iret dX5_odds_84
        · refine j_bipush (v := (-6 : Int32)) dX5_odds_59 (by decide) ?_
          exact j_iret dX5_odds_61
      · refine j_aload_n dX5_odds_31 rfl ?_
        refine j_iconst (v := (1 : Int32)) dX5_odds_32 (by decide) ?_
        refine jc_X5_53 (ct_X5_refuse _  _) (by decide) z_0 (Nat.le_of_ble_eq_true rfl) dX5_odds_33 (fun v29 h30 e31 => ?_)
        exact j_iret dX5_odds_36
    · refine j_iconst (v := (-1 : Int32)) dX5_odds_18 (by decide) ?_
      exact j_iret dX5_odds_19
set_option maxRecDepth 20000 in
theorem ct_X5_on (a1 : Int32)  (h : Hp) : Ct encI yX5_on cX5_on 2 (some .int) 4 [aR 0 0, aI a1] h (f_X5_on a1 h) := by
  refine ct_of [(0, aR 0 0), (1, aI a1)] (by decide) (fun _ => rfl) (fun _ => Nat.le_of_ble_eq_true rfl) ?_
  show J encI RX5 cX5_on 2 (some .int) 4 0 [(0, aR 0 0), (1, aI a1)] [] h (f_X5_on a1 h)
  unfold f_X5_on
  refine j_iload_n dX5_on_0 rfl ?_
  refine jc_X5_239 (ct_X5_isPlace _  _) (by decide) (Nat.le_of_ble_eq_true rfl) dX5_on_1 (fun v1 h2 e3 => ?_)
  refine j_if_ne (tgt := 9) dX5_on_4 (by decide) (fun c4 => ?_) (fun c4 => ?_)
  · refine j_aload_n dX5_on_9 rfl ?_
    refine jg_X5_37 z_0 dX5_on_10 ?_
    refine j_iload_n dX5_on_13 rfl ?_
    refine ja_18 z_18 dX5_on_14 (fun q5 z6 => ?_)
    refine jg_X5_106 z6 dX5_on_15 ?_
    refine j_if_ne (tgt := 27) dX5_on_18 (by decide) (fun c7 => ?_) (fun c7 => ?_)
    · refine j_aload_n dX5_on_27 rfl ?_
      refine jg_X5_33 z_0 dX5_on_28 ?_
      refine j_aload_n dX5_on_31 rfl ?_
      refine jg_X5_37 z_0 dX5_on_32 ?_
      refine j_iload_n dX5_on_35 rfl ?_
      refine ja_18 z_18 dX5_on_36 (fun q8 z9 => ?_)
      refine jc_X5_102 (ct_X4_become _ _ (Nat.le_of_ble_eq_true rfl) z9 _) (by decide) (Nat.le_of_ble_eq_true rfl) (Nat.le_of_ble_eq_true rfl) dX5_on_37 (fun v10 h11 e12 => ?_)
      refine j_aload_n dX5_on_40 rfl ?_
      refine jg_X5_33 z_0 dX5_on_41 ?_
      refine jg_X5_154 (Nat.le_of_ble_eq_true rfl) dX5_on_44 ?_
      refine jc_X5_160 (ct_J6_bitCount _  _) (by decide) (Nat.le_of_ble_eq_true rfl) dX5_on_47 (fun v13 h14 e15 => ?_)
      exact j_iret dX5_on_50
    · refine j_aload_n dX5_on_21 rfl ?_
      refine j_iconst (v := (1 : Int32)) dX5_on_22 (by decide) ?_
      refine jc_X5_53 (ct_X5_refuse _  _) (by decide) z_0 (Nat.le_of_ble_eq_true rfl) dX5_on_23 (fun v16 h17 e18 => ?_)
      exact j_iret dX5_on_26
  · refine j_iconst (v := (-1 : Int32)) dX5_on_7 (by decide) ?_
    exact j_iret dX5_on_8
set_option maxRecDepth 20000 in
theorem ct_X5_rests (a1 : Int32)  (h : Hp) : Ct encI yX5_rests cX5_rests 3 (some .int) 4 [aR 0 0, aI a1] h (f_X5_rests a1 h) := by
  refine ct_of [(0, aR 0 0), (1, aI a1)] (by decide) (fun _ => rfl) (fun _ => Nat.le_of_ble_eq_true rfl) ?_
  show J encI RX5 cX5_rests 3 (some .int) 4 0 [(0, aR 0 0), (1, aI a1)] [] h (f_X5_rests a1 h)
  unfold f_X5_rests
  refine j_aload_n dX5_rests_0 rfl ?_
  refine jg_X5_33 z_0 dX5_rests_1 ?_
  refine j_iload_n dX5_rests_4 rfl ?_
  refine jc_X5_113 (ct_X4_has _ _ (Nat.le_of_ble_eq_true rfl) _) (by decide) (Nat.le_of_ble_eq_true rfl) (Nat.le_of_ble_eq_true rfl) dX5_rests_5 (fun v1 h2 e3 => ?_)
  refine j_if_ne (tgt := 13) dX5_rests_8 (by decide) (fun c4 => ?_) (fun c4 => ?_)
  · refine j_aload_n dX5_rests_13 rfl ?_
    refine jg_X5_33 z_0 dX5_rests_14 ?_
    refine j_iload_n dX5_rests_17 rfl ?_
    refine jc_X5_120 (ct_X4_isIn _ _ (Nat.le_of_ble_eq_true rfl) _) (by decide) (Nat.le_of_ble_eq_true rfl) (Nat.le_of_ble_eq_true rfl) dX5_rests_18 (fun v5 h6 e7 => ?_)
    refine j_if_ne (tgt := 30) dX5_rests_21 (by decide) (fun c8 => ?_) (fun c8 => ?_)
    · refine j_aload_n dX5_rests_30 rfl ?_
      refine jg_X5_33 z_0 dX5_rests_31 ?_
      refine jg_X5_123 (Nat.le_of_ble_eq_true rfl) dX5_rests_34 ?_
      refine j_iload_n dX5_rests_37 rfl ?_
      refine ja_12 (Nat.le_of_ble_eq_true rfl) dX5_rests_38 (fun q9 z10 => ?_)
      refine j_astore_n dX5_rests_39 (by decide) ?_
      refine j_aload_n dX5_rests_40 rfl ?_
      refine j_aload_n dX5_rests_41 rfl ?_
      refine jg_X5_33 z_0 dX5_rests_42 ?_
      refine j_aload_n dX5_rests_45 rfl ?_
      refine jg_X5_206 z10 dX5_rests_46 ?_
      refine j_iconst (v := (1 : Int32)) dX5_rests_49 (by decide) ?_
      refine j_iadd dX5_rests_50 ?_
      refine j_aload_n dX5_rests_51 rfl ?_
      refine jg_X5_209 z10 dX5_rests_52 ?_
      refine j_aload_n dX5_rests_55 rfl ?_
      refine jg_X5_33 z_0 dX5_rests_56 ?_
      refine jg_X5_154 (Nat.le_of_ble_eq_true rfl) dX5_rests_59 ?_
      refine jc_X5_212 (ct_X4_over _ _ _ _ (Nat.le_of_ble_eq_true rfl) _) (by decide) (Nat.le_of_ble_eq_true rfl) (Nat.le_of_ble_eq_true rfl) dX5_rests_62 (fun v11 h12 e13 => ?_)
      refine jp_X5_68 z_0 dX5_rests_65 ?_
      refine j_aload_n dX5_rests_68 rfl ?_
      refine jg_X5_33 z_0 dX5_rests_69 ?_
      refine j_aload_n dX5_rests_72 rfl ?_
      refine jg_X5_206 z10 dX5_rests_73 ?_
      refine j_iconst (v := (1 : Int32)) dX5_rests_76 (by decide) ?_
      refine j_isub dX5_rests_77 ?_
      refine j_aload_n dX5_rests_78 rfl ?_
      refine jg_X5_209 z10 dX5_rests_79 ?_
      refine j_aload_n dX5_rests_82 rfl ?_
      refine jg_X5_33 z_0 dX5_rests_83 ?_
      refine jc_X5_150 (ct_X4_standingNow _ (Nat.le_of_ble_eq_true rfl) _) (by decide) (Nat.le_of_ble_eq_true rfl) (Nat.le_of_ble_eq_true rfl) dX5_rests_86 (fun v14 h15 e16 => ?_)
      refine jc_X5_212 (ct_X4_over _ _ _ _ (Nat.le_of_ble_eq_true rfl) _) (by decide) (Nat.le_of_ble_eq_true rfl) (Nat.le_of_ble_eq_true rfl) dX5_rests_89 (fun v17 h18 e19 => ?_)
      exact j_iret dX5_rests_92
    · refine j_aload_n dX5_rests_24 rfl ?_
      refine j_iconst (v := (1 : Int32)) dX5_rests_25 (by decide) ?_
      refine jc_X5_53 (ct_X5_refuse _  _) (by decide) z_0 (Nat.le_of_ble_eq_true rfl) dX5_rests_26 (fun v20 h21 e22 => ?_)
      exact j_iret dX5_rests_29
  · refine j_iconst (v := (-1 : Int32)) dX5_rests_11 (by decide) ?_
    exact j_iret dX5_rests_12
set_option maxRecDepth 20000 in
theorem ct_X5_stands   (h : Hp) : Ct encI yX5_stands cX5_stands 2 (some .int) 4 [aR 0 0] h (f_X5_stands  h) := by
  refine ct_of [(0, aR 0 0)] (by decide) (fun _ => rfl) (fun _ => Nat.le_of_ble_eq_true rfl) ?_
  show J encI RX5 cX5_stands 2 (some .int) 4 0 [(0, aR 0 0)] [] h (f_X5_stands  h)
  unfold f_X5_stands
  refine j_aload_n dX5_stands_0 rfl ?_
  refine jg_X5_33 z_0 dX5_stands_1 ?_
  refine jc_X5_150 (ct_X4_standingNow _ (Nat.le_of_ble_eq_true rfl) _) (by decide) (Nat.le_of_ble_eq_true rfl) (Nat.le_of_ble_eq_true rfl) dX5_stands_4 (fun v1 h2 e3 => ?_)
  refine j_istore_n dX5_stands_7 (by decide) ?_
  refine j_aload_n dX5_stands_8 rfl ?_
  refine j_aload_n dX5_stands_9 rfl ?_
  refine jg_X5_33 z_0 dX5_stands_10 ?_
  refine jg_X5_154 (Nat.le_of_ble_eq_true rfl) dX5_stands_13 ?_
  refine j_iload_n dX5_stands_16 rfl ?_
  refine j_iconst (v := (-1 : Int32)) dX5_stands_17 (by decide) ?_
  refine j_ixor dX5_stands_18 ?_
  refine j_iand dX5_stands_19 ?_
  refine jp_X5_68 z_0 dX5_stands_20 ?_
  refine j_iload_n dX5_stands_23 rfl ?_
  exact j_iret dX5_stands_24
set_option maxRecDepth 20000 in
theorem ct_X5_undo   (h : Hp) : Ct encI yX5_undo cX5_undo 2 (some .int) 4 [aR 0 0] h (f_X5_undo  h) := by
  refine ct_of [(0, aR 0 0)] (by decide) (fun _ => rfl) (fun _ => Nat.le_of_ble_eq_true rfl) ?_
  show J encI RX5 cX5_undo 2 (some .int) 4 0 [(0, aR 0 0)] [] h (f_X5_undo  h)
  unfold f_X5_undo
  refine j_aload_n dX5_undo_0 rfl ?_
  refine jg_X5_33 z_0 dX5_undo_1 ?_
  refine jc_X5_193 (ct_X4_lastDrawn _ (Nat.le_of_ble_eq_true rfl) _) (by decide) (Nat.le_of_ble_eq_true rfl) (Nat.le_of_ble_eq_true rfl) dX5_undo_4 (fun v1 h2 e3 => ?_)
  refine j_istore_n dX5_undo_7 (by decide) ?_
  refine j_iload_n dX5_undo_8 rfl ?_
  refine j_bipush (v := (-9 : Int32)) dX5_undo_9 (by decide) ?_
  refine j_icmp_eq (tgt := 25) dX5_undo_11 (by decide) (fun c4 => ?_) (fun c4 => ?_)
  · refine j_bipush (v := (-4 : Int32)) dX5_undo_25 (by decide) ?_
    exact j_iret dX5_undo_27
  · refine j_aload_n dX5_undo_14 rfl ?_
    refine jg_X5_33 z_0 dX5_undo_15 ?_
    refine j_iload_n dX5_undo_18 rfl ?_
    refine jc_X5_196 (ct_X4_canComeBack _ _ (Nat.le_of_ble_eq_true rfl) _) (by decide) (Nat.le_of_ble_eq_true rfl) (Nat.le_of_ble_eq_true rfl) dX5_undo_19 (fun v5 h6 e7 => ?_)
    refine j_if_ne (tgt := 28) dX5_undo_22 (by decide) (fun c8 => ?_) (fun c8 => ?_)
    · refine j_aload_n dX5_undo_28 rfl ?_
      refine jg_X5_33 z_0 dX5_undo_29 ?_
      refine j_iload_n dX5_undo_32 rfl ?_
      refine jc_X5_199 (ct_X4_comeBack _ _ (Nat.le_of_ble_eq_true rfl) _) (by decide) (Nat.le_of_ble_eq_true rfl) (Nat.le_of_ble_eq_true rfl) dX5_undo_33 (fun v9 h10 e11 => ?_)
      refine j_iload_n dX5_undo_36 rfl ?_
      exact j_iret dX5_undo_37
    · refine j_bipush (v := (-4 : Int32)) dX5_undo_25 (by decide) ?_
      exact j_iret dX5_undo_27
set_option maxRecDepth 20000 in
theorem w_X5_wedge_b125  (a3 : Int32)  (h : Hp) : J encI RX5 cX5_wedge 4 (some .int) 4 125 [(0, aR 0 0), (3, aI a3)] [] h (f_X5_wedge_b125  a3 h) := by
  unfold f_X5_wedge_b125
  refine j_aload_n dX5_wedge_125 rfl ?_
  refine jg_X5_33 z_0 dX5_wedge_126 ?_
  refine j_aload_n dX5_wedge_129 rfl ?_
  refine jg_X5_33 z_0 dX5_wedge_130 ?_
  refine jg_X5_147 (Nat.le_of_ble_eq_true rfl) dX5_wedge_133 ?_
  refine j_iload_n dX5_wedge_136 rfl ?_
  refine j_ixor dX5_wedge_137 ?_
  refine jp_X5_147 (Nat.le_of_ble_eq_true rfl) dX5_wedge_138 ?_
  refine j_aload_n dX5_wedge_141 rfl ?_
  refine jg_X5_33 z_0 dX5_wedge_142 ?_
  refine jg_X5_147 (Nat.le_of_ble_eq_true rfl) dX5_wedge_145 ?_
  refine jc_X5_160 (ct_J6_bitCount _  _) (by decide) (Nat.le_of_ble_eq_true rfl) dX5_wedge_148 (fun v1 h2 e3 => ?_)
  exact j_iret dX5_wedge_151
set_option maxRecDepth 20000 in
theorem w_X5_wedge_b103  (a2 : Int32) (a3 : Int32)  (h : Hp) : J encI RX5 cX5_wedge 4 (some .int) 4 103 [(0, aR 0 0), (2, aI a2), (3, aI a3)] [] h (f_X5_wedge_b103  a2 a3 h) := by
  unfold f_X5_wedge_b103
  refine j_iload_n dX5_wedge_103 rfl ?_
  refine j_iconst (v := (1 : Int32)) dX5_wedge_104 (by decide) ?_
  refine j_icmp_ne (tgt := 125) dX5_wedge_105 (by decide) (fun c1 => ?_) (fun c1 => ?_)
  · exact j_weak rfl (w_X5_wedge_b125  _  _)
  · refine j_aload_n dX5_wedge_108 rfl ?_
    refine jg_X5_33 z_0 dX5_wedge_109 ?_
    refine jg_X5_147 (Nat.le_of_ble_eq_true rfl) dX5_wedge_112 ?_
    refine jc_X5_160 (ct_J6_bitCount _  _) (by decide) (Nat.le_of_ble_eq_true rfl) dX5_wedge_115 (fun v2 h3 e4 => ?_)
    refine j_iconst (v := (4 : Int32)) dX5_wedge_118 (by decide) ?_
    refine j_icmp_lt (tgt := 125) dX5_wedge_119 (by decide) (fun c5 => ?_) (fun c5 => ?_)
    · exact j_weak rfl (w_X5_wedge_b125  _  _)
    · refine j_bipush (v := (-2 : Int32)) dX5_wedge_122 (by decide) ?_
      exact j_iret dX5_wedge_124
set_option maxRecDepth 20000 in
theorem ct_X5_wedge (a1 : Int32) (a2 : Int32)  (h : Hp) : Ct encI yX5_wedge cX5_wedge 4 (some .int) 4 [aR 0 0, aI a1, aI a2] h (f_X5_wedge a1 a2 h) := by
  refine ct_of [(0, aR 0 0), (1, aI a1), (2, aI a2)] (by decide) (fun _ => rfl) (fun _ => Nat.le_of_ble_eq_true rfl) ?_
  show J encI RX5 cX5_wedge 4 (some .int) 4 0 [(0, aR 0 0), (1, aI a1), (2, aI a2)] [] h (f_X5_wedge a1 a2 h)
  unfold f_X5_wedge
  refine j_aload_n dX5_wedge_0 rfl ?_
  refine jg_X5_33 z_0 dX5_wedge_1 ?_
  refine j_iload_n dX5_wedge_4 rfl ?_
  refine jc_X5_113 (ct_X4_has _ _ (Nat.le_of_ble_eq_true rfl) _) (by decide) (Nat.le_of_ble_eq_true rfl) (Nat.le_of_ble_eq_true rfl) dX5_wedge_5 (fun v1 h2 e3 => ?_)
  refine j_if_eq (tgt := 20) dX5_wedge_8 (by decide) (fun c4 => ?_) (fun c4 => ?_)
  · refine j_iconst (v := (-1 : Int32)) dX5_wedge_20 (by decide) ?_
    exact j_iret dX5_wedge_21
  · refine j_iload_n dX5_wedge_11 rfl ?_
    refine j_if_lt (tgt := 20) dX5_wedge_12 (by decide) (fun c5 => ?_) (fun c5 => ?_)
    · refine j_iconst (v := (-1 : Int32)) dX5_wedge_20 (by decide) ?_
      exact j_iret dX5_wedge_21
    · refine j_iload_n dX5_wedge_15 rfl ?_
      refine j_iconst (v := (1 : Int32)) dX5_wedge_16 (by decide) ?_
      refine j_icmp_le (tgt := 22) dX5_wedge_17 (by decide) (fun c6 => ?_) (fun c6 => ?_)
      · refine j_aload_n dX5_wedge_22 rfl ?_
        refine jg_X5_33 z_0 dX5_wedge_23 ?_
        refine j_iload_n dX5_wedge_26 rfl ?_
        refine jc_X5_120 (ct_X4_isIn _ _ (Nat.le_of_ble_eq_true rfl) _) (by decide) (Nat.le_of_ble_eq_true rfl) (Nat.le_of_ble_eq_true rfl) dX5_wedge_27 (fun v7 h8 e9 => ?_)
        refine j_if_ne (tgt := 39) dX5_wedge_30 (by decide) (fun c10 => ?_) (fun c10 => ?_)
        · refine j_iconst (v := (1 : Int32)) dX5_wedge_39 (by decide) ?_
          refine j_iload_n dX5_wedge_40 rfl ?_
          refine j_ishl dX5_wedge_41 ?_
          refine j_istore_n dX5_wedge_42 (by decide) ?_
          refine j_aload_n dX5_wedge_43 rfl ?_
          refine jg_X5_33 z_0 dX5_wedge_44 ?_
          refine jg_X5_147 (Nat.le_of_ble_eq_true rfl) dX5_wedge_47 ?_
          refine j_iload_n dX5_wedge_50 rfl ?_
          refine j_ishr dX5_wedge_51 ?_
          refine j_iconst (v := (1 : Int32)) dX5_wedge_52 (by decide) ?_
          refine j_iand dX5_wedge_53 ?_
          refine j_iload_n dX5_wedge_54 rfl ?_
          refine j_icmp_ne (tgt := 61) dX5_wedge_55 (by decide) (fun c11 => ?_) (fun c11 => ?_)
          · refine j_iload_n dX5_wedge_61 rfl ?_
            refine j_if_ne (tgt := 103) dX5_wedge_62 (by decide) (fun c12 => ?_) (fun c12 => ?_)
            · exact j_weak rfl (w_X5_wedge_b103  _ _  _)
            · refine j_aload_n dX5_wedge_65 rfl ?_
              refine jg_X5_33 z_0 dX5_wedge_66 ?_
              refine jc_X5_150 (ct_X4_standingNow _ (Nat.le_of_ble_eq_true rfl) _) (by decide) (Nat.le_of_ble_eq_true rfl) (Nat.le_of_ble_eq_true rfl) dX5_wedge_69 (fun v13 h14 e15 => ?_)
              refine j_aload_n dX5_wedge_72 rfl ?_
              refine jg_X5_33 z_0 dX5_wedge_73 ?_
              refine j_aload_n dX5_wedge_76 rfl ?_
              refine jg_X5_33 z_0 dX5_wedge_77 ?_
              refine jg_X5_154 (Nat.le_of_ble_eq_true rfl) dX5_wedge_80 ?_
              refine j_aload_n dX5_wedge_83 rfl ?_
              refine jg_X5_33 z_0 dX5_wedge_84 ?_
              refine jg_X5_147 (Nat.le_of_ble_eq_true rfl) dX5_wedge_87 ?_
              refine j_iload_n dX5_wedge_90 rfl ?_
              refine j_iconst (v := (-1 : Int32)) dX5_wedge_91 (by decide) ?_
              refine j_ixor dX5_wedge_92 ?_
              refine j_iand dX5_wedge_93 ?_
              refine jc_X5_157 (ct_X4_standing _ _ _ (Nat.le_of_ble_eq_true rfl) _) (by decide) (Nat.le_of_ble_eq_true rfl) (Nat.le_of_ble_eq_true rfl) dX5_wedge_94 (fun v16 h17 e18 => ?_)
              refine j_icmp_eq (tgt := 103) dX5_wedge_97 (by decide) (fun c19 => ?_) (fun c19 => ?_)
              · exact j_weak rfl (w_X5_wedge_b103  _ _  _)
              · refine j_bipush (v := (-4 : Int32)) dX5_wedge_100 (by decide) ?_
                exact j_iret dX5_wedge_102
          · refine j_bipush (v := (-4 : Int32)) dX5_wedge_58 (by decide) ?_
            exact j_iret dX5_wedge_60
        · refine j_aload_n dX5_wedge_33 rfl ?_
          refine j_iconst (v := (1 : Int32)) dX5_wedge_34 (by decide) ?_
          refine jc_X5_53 (ct_X5_refuse _  _) (by decide) z_0 (Nat.le_of_ble_eq_true rfl) dX5_wedge_35 (fun v20 h21 e22 => ?_)
          exact j_iret dX5_wedge_38
      · refine j_iconst (v := (-1 : Int32)) dX5_wedge_20 (by decide) ?_
        exact j_iret dX5_wedge_21
set_option maxRecDepth 20000 in
theorem ct_X6_fault (a1 : Int32)  (h : Hp) : Ct encI yX6_fault cX6_fault 3 (some .int) 4 [aR 20 0, aI a1] h (f_X6_fault a1 h) := by
  refine ct_of [(0, aR 20 0), (1, aI a1)] (by decide) (fun _ => rfl) (fun _ => Nat.le_of_ble_eq_true rfl) ?_
  show J encI RX6 cX6_fault 3 (some .int) 4 0 [(0, aR 20 0), (1, aI a1)] [] h (f_X6_fault a1 h)
  unfold f_X6_fault
  refine j_aload_n dX6_fault_0 rfl ?_
  refine j_iload_n dX6_fault_1 rfl ?_
  refine jc_X6_83 (ct_X6_askedText _  _) (by decide) z_20 (Nat.le_of_ble_eq_true rfl) dX6_fault_2 (fun v1 h2 e3 => ?_)
  refine j_istore_n dX6_fault_5 (by decide) ?_
  refine j_iload_n dX6_fault_6 rfl ?_
  refine j_if_ge (tgt := 14) dX6_fault_7 (by decide) (fun c4 => ?_) (fun c4 => ?_)
  · refine j_aload_n dX6_fault_14 rfl ?_
    refine j_iload_n dX6_fault_15 rfl ?_
    refine jc_X6_123 (ct_X6_goesOn _  _) (by decide) z_20 (Nat.le_of_ble_eq_true rfl) dX6_fault_16 (fun v5 h6 e7 => ?_)
    exact j_iret dX6_fault_19
  · refine j_iload_n dX6_fault_10 rfl ?_
    refine j_goto (tgt := 19) dX6_fault_11 (by decide) ?_
    exact j_iret dX6_fault_19
set_option maxRecDepth 20000 in
theorem ct_X6_lay (a1 : Int32) (a2 : Int32) (a3 : Int32)  (h : Hp) : Ct encI yX6_lay cX6_lay 5 (some .int) 4 [aR 20 0, aI a1, aI a2, aI a3] h (f_X6_lay a1 a2 a3 h) := by
  refine ct_of [(0, aR 20 0), (1, aI a1), (2, aI a2), (3, aI a3)] (by decide) (fun _ => rfl) (fun _ => Nat.le_of_ble_eq_true rfl) ?_
  show J encI RX6 cX6_lay 5 (some .int) 4 0 [(0, aR 20 0), (1, aI a1), (2, aI a2), (3, aI a3)] [] h (f_X6_lay a1 a2 a3 h)
  unfold f_X6_lay
  refine j_aload_n dX6_lay_0 rfl ?_
  refine j_iload_n dX6_lay_1 rfl ?_
  refine j_iload_n dX6_lay_2 rfl ?_
  refine jc_X6_80 (ct_X6_at _ _  _) (by decide) z_20 (Nat.le_of_ble_eq_true rfl) dX6_lay_3 (fun v1 h2 e3 => ?_)
  refine j_istore dX6_lay_6 (by decide) ?_
  refine j_iload dX6_lay_8 rfl ?_
  refine j_if_ge (tgt := 16) dX6_lay_10 (by decide) (fun c4 => ?_) (fun c4 => ?_)
  · refine j_aload_n dX6_lay_16 rfl ?_
    refine j_iload_n dX6_lay_17 rfl ?_
    refine j_iload_n dX6_lay_18 rfl ?_
    refine j_iload_n dX6_lay_19 rfl ?_
    refine jc_X6_66 (ct_X6_setRow _ _ _  _) (by decide) z_20 (Nat.le_of_ble_eq_true rfl) dX6_lay_20 (fun v5 h6 e7 => ?_)
    refine j_iconst (v := (1 : Int32)) dX6_lay_23 (by decide) ?_
    exact j_iret dX6_lay_24
  · refine j_iload dX6_lay_13 rfl ?_
    exact j_iret dX6_lay_15
set_option maxRecDepth 20000 in
theorem w_X6_mayLie_b116  (s0 : Int32)  (h : Hp) : J encI RX6 cX6_mayLie 4 (some .boolean) 4 116 [(0, aR 20 0)] [aI s0] h (f_X6_mayLie_b116  s0 h) := by
  unfold f_X6_mayLie_b116
  refine j_istore_n dX6_mayLie_116 (by decide) ?_
  refine j_aload_n dX6_mayLie_117 rfl ?_
  refine j_dup dX6_mayLie_118 rfl ?_
  refine jg_X6_129 z_20 dX6_mayLie_119 ?_
  refine j_iconst (v := (1 : Int32)) dX6_mayLie_122 (by decide) ?_
  refine j_isub dX6_mayLie_123 ?_
  refine jp_X6_129 z_20 dX6_mayLie_124 ?_
  refine j_iload_n dX6_mayLie_127 rfl ?_
  exact j_gd (fun q1 => j_zret q1 dX6_mayLie_128)
set_option maxRecDepth 20000 in
theorem w_X6_mayLie_b115    (h : Hp) : J encI RX6 cX6_mayLie 4 (some .boolean) 4 115 [(0, aR 20 0)] [] h (f_X6_mayLie_b115   h) := by
  unfold f_X6_mayLie_b115
  refine j_iconst (v := (0 : Int32)) dX6_mayLie_115 (by decide) ?_
  exact j_weak rfl (w_X6_mayLie_b116  _  _)
set_option maxRecDepth 20000 in
theorem w_X6_mayLie_b58  (s0 : Int32)  (h : Hp) : J encI RX6 cX6_mayLie 4 (some .boolean) 4 58 [(0, aR 20 0)] [aI s0] h (f_X6_mayLie_b58  s0 h) := by
  unfold f_X6_mayLie_b58
  refine j_istore_n dX6_mayLie_58 (by decide) ?_
  refine j_aload_n dX6_mayLie_59 rfl ?_
  refine j_dup dX6_mayLie_60 rfl ?_
  refine jg_X6_129 z_20 dX6_mayLie_61 ?_
  refine j_iconst (v := (1 : Int32)) dX6_mayLie_64 (by decide) ?_
  refine j_iadd dX6_mayLie_65 ?_
  refine jp_X6_129 z_20 dX6_mayLie_66 ?_
  refine j_iload_n dX6_mayLie_69 rfl ?_
  refine j_if_eq (tgt := 115) dX6_mayLie_70 (by decide) (fun c1 => ?_) (fun c1 => ?_)
  · exact j_weak rfl (w_X6_mayLie_b115    _)
  · refine j_aload_n dX6_mayLie_73 rfl ?_
    refine j_aload_n dX6_mayLie_74 rfl ?_
    refine jg_X6_132 z_20 dX6_mayLie_75 ?_
    refine j_iconst (v := (1 : Int32)) dX6_mayLie_78 (by decide) ?_
    refine j_aload_n dX6_mayLie_79 rfl ?_
    refine jg_X6_129 z_20 dX6_mayLie_80 ?_
    refine j_iconst (v := (1 : Int32)) dX6_mayLie_83 (by decide) ?_
    refine j_isub dX6_mayLie_84 ?_
    refine j_ishl dX6_mayLie_85 ?_
    refine j_ior dX6_mayLie_86 ?_
    refine j_aload_n dX6_mayLie_87 rfl ?_
    refine jg_X6_135 z_20 dX6_mayLie_88 ?_
    refine j_aload_n dX6_mayLie_91 rfl ?_
    refine jg_X6_138 z_20 dX6_mayLie_92 ?_
    refine j_ior dX6_mayLie_95 ?_
    refine jc_X6_168 (ct_X6_standing _ _  _) (by decide) z_20 (Nat.le_of_ble_eq_true rfl) dX6_mayLie_96 (fun v2 h3 e4 => ?_)
    refine j_aload_n dX6_mayLie_99 rfl ?_
    refine jg_X6_129 z_20 dX6_mayLie_100 ?_
    refine j_iconst (v := (1 : Int32)) dX6_mayLie_103 (by decide) ?_
    refine j_isub dX6_mayLie_104 ?_
    refine jc_X6_150 (ct_X6_has _ _  _) (by decide) (Nat.le_of_ble_eq_true rfl) dX6_mayLie_105 (fun v5 h6 e7 => ?_)
    refine j_if_eq (tgt := 115) dX6_mayLie_108 (by decide) (fun c8 => ?_) (fun c8 => ?_)
    · exact j_weak rfl (w_X6_mayLie_b115    _)
    · refine j_iconst (v := (1 : Int32)) dX6_mayLie_111 (by decide) ?_
      refine j_goto (tgt := 116) dX6_mayLie_112 (by decide) ?_
      exact j_weak rfl (w_X6_mayLie_b116  _  _)
set_option maxRecDepth 20000 in
theorem ct_X6_mayLie (a1 : Int32) (a2 : Int32)  (h : Hp) : Ct encI yX6_mayLie cX6_mayLie 4 (some .boolean) 4 [aR 20 0, aI a1, aI a2] h (f_X6_mayLie a1 a2 h) := by
  refine ct_of [(0, aR 20 0), (1, aI a1), (2, aI a2)] (by decide) (fun _ => rfl) (fun _ => Nat.le_of_ble_eq_true rfl) ?_
  show J encI RX6 cX6_mayLie 4 (some .boolean) 4 0 [(0, aR 20 0), (1, aI a1), (2, aI a2)] [] h (f_X6_mayLie a1 a2 h)
  unfold f_X6_mayLie
  refine j_iload_n dX6_mayLie_0 rfl ?_
  refine j_iconst (v := (2 : Int32)) dX6_mayLie_1 (by decide) ?_
  refine j_iadd dX6_mayLie_2 ?_
  refine j_aload_n dX6_mayLie_3 rfl ?_
  refine jg_X6_126 z_20 dX6_mayLie_4 ?_
  refine j_icmp_le (tgt := 12) dX6_mayLie_7 (by decide) (fun c1 => ?_) (fun c1 => ?_)
  · refine j_aload_n dX6_mayLie_12 rfl ?_
    refine j_aload_n dX6_mayLie_13 rfl ?_
    refine jg_X6_129 z_20 dX6_mayLie_14 ?_
    refine j_iconst (v := (0 : Int32)) dX6_mayLie_17 (by decide) ?_
    refine j_iconst (v := (0 : Int32)) dX6_mayLie_18 (by decide) ?_
    refine jc_X6_101 (ct_X6_write _ _ _  _) (by decide) z_20 (Nat.le_of_ble_eq_true rfl) dX6_mayLie_19 (fun v2 h3 e4 => ?_)
    refine j_aload_n dX6_mayLie_22 rfl ?_
    refine j_aload_n dX6_mayLie_23 rfl ?_
    refine jg_X6_129 z_20 dX6_mayLie_24 ?_
    refine j_iconst (v := (1 : Int32)) dX6_mayLie_27 (by decide) ?_
    refine j_iload_n dX6_mayLie_28 rfl ?_
    refine jc_X6_101 (ct_X6_write _ _ _  _) (by decide) z_20 (Nat.le_of_ble_eq_true rfl) dX6_mayLie_29 (fun v5 h6 e7 => ?_)
    refine j_aload_n dX6_mayLie_32 rfl ?_
    refine j_aload_n dX6_mayLie_33 rfl ?_
    refine jg_X6_129 z_20 dX6_mayLie_34 ?_
    refine j_iconst (v := (2 : Int32)) dX6_mayLie_37 (by decide) ?_
    refine j_iload_n dX6_mayLie_38 rfl ?_
    refine jc_X6_101 (ct_X6_write _ _ _  _) (by decide) z_20 (Nat.le_of_ble_eq_true rfl) dX6_mayLie_39 (fun v8 h9 e10 => ?_)
    refine j_aload_n dX6_mayLie_42 rfl ?_
    refine j_aload_n dX6_mayLie_43 rfl ?_
    refine jg_X6_129 z_20 dX6_mayLie_44 ?_
    refine jc_X6_201 (ct_X6_isTaken _  _) (by decide) z_20 (Nat.le_of_ble_eq_true rfl) dX6_mayLie_47 (fun v11 h12 e13 => ?_)
    refine j_if_ne (tgt := 57) dX6_mayLie_50 (by decide) (fun c14 => ?_) (fun c14 => ?_)
    · refine j_iconst (v := (0 : Int32)) dX6_mayLie_57 (by decide) ?_
      exact j_weak rfl (w_X6_mayLie_b58  _  _)
    · refine j_iconst (v := (1 : Int32)) dX6_mayLie_53 (by decide) ?_
      refine j_goto (tgt := 58) dX6_mayLie_54 (by decide) ?_
      exact j_weak rfl (w_X6_mayLie_b58  _  _)
  · refine j_iconst (v := (0 : Int32)) dX6_mayLie_10 (by decide) ?_
    exact j_zret (Or.inl rfl) dX6_mayLie_11
set_option maxRecDepth 20000 in
theorem ct_X6_standingNow (a1 : Int32)  (h : Hp) : Ct encI yX6_standingNow cX6_standingNow 2 (some .int) 4 [aR 20 0, aI a1] h (f_X6_standingNow a1 h) := by
  refine ct_of [(0, aR 20 0), (1, aI a1)] (by decide) (fun _ => rfl) (fun _ => Nat.le_of_ble_eq_true rfl) ?_
  show J encI RX6 cX6_standingNow 2 (some .int) 4 0 [(0, aR 20 0), (1, aI a1)] [] h (f_X6_standingNow a1 h)
  unfold f_X6_standingNow
  refine j_aload_n dX6_standingNow_0 rfl ?_
  refine j_aload_n dX6_standingNow_1 rfl ?_
  refine jg_X6_132 z_20 dX6_standingNow_2 ?_
  refine j_iload_n dX6_standingNow_5 rfl ?_
  refine j_iconst (v := (-1 : Int32)) dX6_standingNow_6 (by decide) ?_
  refine j_ixor dX6_standingNow_7 ?_
  refine j_iand dX6_standingNow_8 ?_
  refine j_aload_n dX6_standingNow_9 rfl ?_
  refine jg_X6_135 z_20 dX6_standingNow_10 ?_
  refine j_aload_n dX6_standingNow_13 rfl ?_
  refine jg_X6_138 z_20 dX6_standingNow_14 ?_
  refine j_ior dX6_standingNow_17 ?_
  refine jc_X6_168 (ct_X6_standing _ _  _) (by decide) z_20 (Nat.le_of_ble_eq_true rfl) dX6_standingNow_18 (fun v1 h2 e3 => ?_)
  exact j_iret dX6_standingNow_21
set_option maxRecDepth 20000 in
theorem ct_X6_undo   (h : Hp) : Ct encI yX6_undo cX6_undo 2 (some .int) 4 [aR 20 0] h (f_X6_undo  h) := by
  refine ct_of [(0, aR 20 0)] (by decide) (fun _ => rfl) (fun _ => Nat.le_of_ble_eq_true rfl) ?_
  show J encI RX6 cX6_undo 2 (some .int) 4 0 [(0, aR 20 0)] [] h (f_X6_undo  h)
  unfold f_X6_undo
  refine j_aload_n dX6_undo_0 rfl ?_
  refine jg_X6_147 z_20 dX6_undo_1 ?_
  refine j_if_ne (tgt := 10) dX6_undo_4 (by decide) (fun c1 => ?_) (fun c1 => ?_)
  · refine j_aload_n dX6_undo_10 rfl ?_
    refine jg_X6_35 z_20 dX6_undo_11 ?_
    refine j_aload_n dX6_undo_14 rfl ?_
    refine jg_X6_147 z_20 dX6_undo_15 ?_
    refine j_iconst (v := (1 : Int32)) dX6_undo_18 (by decide) ?_
    refine j_isub dX6_undo_19 ?_
    refine j_iald (ic_28 _) z_28 dX6_undo_20 (fun q2 => ?_)
    refine j_istore_n dX6_undo_21 (by decide) ?_
    refine j_aload_n dX6_undo_22 rfl ?_
    refine j_iload_n dX6_undo_23 rfl ?_
    refine jc_X6_201 (ct_X6_isTaken _  _) (by decide) z_20 (Nat.le_of_ble_eq_true rfl) dX6_undo_24 (fun v3 h4 e5 => ?_)
    refine j_if_ne (tgt := 58) dX6_undo_27 (by decide) (fun c6 => ?_) (fun c6 => ?_)
    · refine j_bipush (v := (-4 : Int32)) dX6_undo_58 (by decide) ?_
      exact j_iret dX6_undo_60
    · refine j_aload_n dX6_undo_30 rfl ?_
      refine j_aload_n dX6_undo_31 rfl ?_
      refine jg_X6_132 z_20 dX6_undo_32 ?_
      refine j_iconst (v := (1 : Int32)) dX6_undo_35 (by decide) ?_
      refine j_iload_n dX6_undo_36 rfl ?_
      refine j_ishl dX6_undo_37 ?_
      refine j_ior dX6_undo_38 ?_
      refine j_aload_n dX6_undo_39 rfl ?_
      refine jg_X6_135 z_20 dX6_undo_40 ?_
      refine j_aload_n dX6_undo_43 rfl ?_
      refine jg_X6_138 z_20 dX6_undo_44 ?_
      refine j_ior dX6_undo_47 ?_
      refine jc_X6_168 (ct_X6_standing _ _  _) (by decide) z_20 (Nat.le_of_ble_eq_true rfl) dX6_undo_48 (fun v7 h8 e9 => ?_)
      refine j_iload_n dX6_undo_51 rfl ?_
      refine jc_X6_150 (ct_X6_has _ _  _) (by decide) (Nat.le_of_ble_eq_true rfl) dX6_undo_52 (fun v10 h11 e12 => ?_)
      refine j_if_ne (tgt := 61) dX6_undo_55 (by decide) (fun c13 => ?_) (fun c13 => ?_)
      · refine j_aload_n dX6_undo_61 rfl ?_
        refine j_dup dX6_undo_62 rfl ?_
        refine jg_X6_132 z_20 dX6_undo_63 ?_
        refine j_iconst (v := (1 : Int32)) dX6_undo_66 (by decide) ?_
        refine j_iload_n dX6_undo_67 rfl ?_
        refine j_ishl dX6_undo_68 ?_
        refine j_ior dX6_undo_69 ?_
        refine jp_X6_132 z_20 dX6_undo_70 ?_
        refine j_aload_n dX6_undo_73 rfl ?_
        refine j_dup dX6_undo_74 rfl ?_
        refine jg_X6_147 z_20 dX6_undo_75 ?_
        refine j_iconst (v := (1 : Int32)) dX6_undo_78 (by decide) ?_
        refine j_isub dX6_undo_79 ?_
        refine jp_X6_147 z_20 dX6_undo_80 ?_
        refine j_iload_n dX6_undo_83 rfl ?_
        exact j_iret dX6_undo_84
      · refine j_bipush (v := (-4 : Int32)) dX6_undo_58 (by decide) ?_
        exact j_iret dX6_undo_60
  · refine j_bipush (v := (-4 : Int32)) dX6_undo_7 (by decide) ?_
    exact j_iret dX6_undo_9
set_option maxRecDepth 20000 in
theorem w_X6_wall_b109  : ∀ (n : Nat) (a3 : Int32)  (h : Hp), J encI RX6 cX6_wall 4 (some .int) 4 109 [(0, aR 20 0), (3, aI a3)] [] h (f_X6_wall_b109  n a3 h) := by
  intro n
  induction n with
  | zero =>
    intros
    exact j_none
  | succ n hk109 =>
    intro a3  h
    show J encI RX6 cX6_wall 4 (some .int) 4 109 [(0, aR 20 0), (3, aI a3)] [] h (f_X6_wall_b109_body  (f_X6_wall_b109  n) a3 h)
    unfold f_X6_wall_b109_body
    refine j_iload_n dX6_wall_109 rfl ?_
    refine j_iconst (v := (3 : Int32)) dX6_wall_110 (by decide) ?_
    refine j_icmp_ge (tgt := 131) dX6_wall_111 (by decide) (fun c1 => ?_) (fun c1 => ?_)
    · refine j_aload_n dX6_wall_131 rfl ?_
      refine jg_X6_129 z_20 dX6_wall_132 ?_
      exact j_iret dX6_wall_135
    · refine j_aload_n dX6_wall_114 rfl ?_
      refine jg_X6_38 z_20 dX6_wall_115 ?_
      refine j_bipush (v := (120 : Int32)) dX6_wall_118 (by decide) ?_
      refine j_iload_n dX6_wall_120 rfl ?_
      refine j_imul dX6_wall_121 ?_
      refine j_bipush (v := (-9 : Int32)) dX6_wall_122 (by decide) ?_
      refine j_iast (ic_29 _) z_29 dX6_wall_124 (fun q2 => ?_)
      refine j_iinc (v := (1 : Int32)) dX6_wall_125 rfl (by decide) (by decide) ?_
      refine j_goto (tgt := 109) dX6_wall_128 (by decide) ?_
      exact j_weak rfl (hk109 _  _)
set_option maxRecDepth 20000 in
theorem w_X6_wall_b43  : ∀ (n : Nat) (a3 : Int32)  (h : Hp), J encI RX6 cX6_wall 4 (some .int) 4 43 [(0, aR 20 0), (3, aI a3)] [] h (f_X6_wall_b43  n a3 h) := by
  intro n
  induction n with
  | zero =>
    intros
    exact j_none
  | succ n hk43 =>
    intro a3  h
    show J encI RX6 cX6_wall 4 (some .int) 4 43 [(0, aR 20 0), (3, aI a3)] [] h (f_X6_wall_b43_body  (f_X6_wall_b43  n) a3 h)
    unfold f_X6_wall_b43_body
    refine j_iload_n dX6_wall_43 rfl ?_
    refine j_bipush (v := (98 : Int32)) dX6_wall_44 (by decide) ?_
    refine j_icmp_ge (tgt := 70) dX6_wall_46 (by decide) (fun c1 => ?_) (fun c1 => ?_)
    · refine j_aload_n dX6_wall_70 rfl ?_
      refine j_iconst (v := (1 : Int32)) dX6_wall_71 (by decide) ?_
      refine j_aload_n dX6_wall_72 rfl ?_
      refine jg_X6_129 z_20 dX6_wall_73 ?_
      refine j_ishl dX6_wall_76 ?_
      refine j_iconst (v := (1 : Int32)) dX6_wall_77 (by decide) ?_
      refine j_isub dX6_wall_78 ?_
      refine jp_X6_132 z_20 dX6_wall_79 ?_
      refine j_aload_n dX6_wall_82 rfl ?_
      refine j_iconst (v := (0 : Int32)) dX6_wall_83 (by decide) ?_
      refine jp_X6_135 z_20 dX6_wall_84 ?_
      refine j_aload_n dX6_wall_87 rfl ?_
      refine j_iconst (v := (0 : Int32)) dX6_wall_88 (by decide) ?_
      refine jp_X6_138 z_20 dX6_wall_89 ?_
      refine j_aload_n dX6_wall_92 rfl ?_
      refine j_iconst (v := (0 : Int32)) dX6_wall_93 (by decide) ?_
      refine jp_X6_141 z_20 dX6_wall_94 ?_
      refine j_aload_n dX6_wall_97 rfl ?_
      refine j_iconst (v := (0 : Int32)) dX6_wall_98 (by decide) ?_
      refine jp_X6_144 z_20 dX6_wall_99 ?_
      refine j_aload_n dX6_wall_102 rfl ?_
      refine j_iconst (v := (0 : Int32)) dX6_wall_103 (by decide) ?_
      refine jp_X6_147 z_20 dX6_wall_104 ?_
      refine j_iconst (v := (0 : Int32)) dX6_wall_107 (by decide) ?_
      refine j_istore_n dX6_wall_108 (by decide) ?_
      exact j_weak rfl (w_X6_wall_b109  _ _  _)
    · refine j_aload_n dX6_wall_49 rfl ?_
      refine jg_X6_32 z_20 dX6_wall_50 ?_
      refine j_iload_n dX6_wall_53 rfl ?_
      refine j_aload_n dX6_wall_54 rfl ?_
      refine jg_X6_32 z_20 dX6_wall_55 ?_
      refine j_bipush (v := (98 : Int32)) dX6_wall_58 (by decide) ?_
      refine j_iload_n dX6_wall_60 rfl ?_
      refine j_iadd dX6_wall_61 ?_
      refine j_iald (ic_27 _) z_27 dX6_wall_62 (fun q2 => ?_)
      refine j_iast (ic_27 _) z_27 dX6_wall_63 (fun q3 => ?_)
      refine j_iinc (v := (1 : Int32)) dX6_wall_64 rfl (by decide) (by decide) ?_
      refine j_goto (tgt := 43) dX6_wall_67 (by decide) ?_
      exact j_weak rfl (hk43 _  _)
set_option maxRecDepth 20000 in
theorem ct_X6_wall (a1 : Int32)  (h : Hp) : Ct encI yX6_wall cX6_wall 4 (some .int) 4 [aR 20 0, aI a1] h (f_X6_wall a1 h) := by
  refine ct_of [(0, aR 20 0), (1, aI a1)] (by decide) (fun _ => rfl) (fun _ => Nat.le_of_ble_eq_true rfl) ?_
  show J encI RX6 cX6_wall 4 (some .int) 4 0 [(0, aR 20 0), (1, aI a1)] [] h (f_X6_wall a1 h)
  unfold f_X6_wall
  refine j_aload_n dX6_wall_0 rfl ?_
  refine j_iload_n dX6_wall_1 rfl ?_
  refine jc_X6_83 (ct_X6_askedText _  _) (by decide) z_20 (Nat.le_of_ble_eq_true rfl) dX6_wall_2 (fun v1 h2 e3 => ?_)
  refine j_istore_n dX6_wall_5 (by decide) ?_
  refine j_iload_n dX6_wall_6 rfl ?_
  refine j_if_ge (tgt := 12) dX6_wall_7 (by decide) (fun c4 => ?_) (fun c4 => ?_)
  · refine j_aload_n dX6_wall_12 rfl ?_
    refine j_iload_n dX6_wall_13 rfl ?_
    refine jc_X6_123 (ct_X6_goesOn _  _) (by decide) z_20 (Nat.le_of_ble_eq_true rfl) dX6_wall_14 (fun v5 h6 e7 => ?_)
    refine j_bipush (v := (-9 : Int32)) dX6_wall_17 (by decide) ?_
    refine j_icmp_eq (tgt := 25) dX6_wall_19 (by decide) (fun c8 => ?_) (fun c8 => ?_)
    · refine j_aload_n dX6_wall_25 rfl ?_
      refine j_aload_n dX6_wall_26 rfl ?_
      refine jg_X6_98 z_20 dX6_wall_27 ?_
      refine jp_X6_126 z_20 dX6_wall_30 ?_
      refine j_aload_n dX6_wall_33 rfl ?_
      refine j_aload_n dX6_wall_34 rfl ?_
      refine jg_X6_107 z_20 dX6_wall_35 ?_
      refine jp_X6_129 z_20 dX6_wall_38 ?_
      refine j_iconst (v := (0 : Int32)) dX6_wall_41 (by decide) ?_
      refine j_istore_n dX6_wall_42 (by decide) ?_
      exact j_weak rfl (w_X6_wall_b43  _ _  _)
    · refine j_bipush (v := (-4 : Int32)) dX6_wall_22 (by decide) ?_
      exact j_iret dX6_wall_24
  · refine j_iload_n dX6_wall_10 rfl ?_
    exact j_iret dX6_wall_11
set_option maxRecDepth 20000 in
theorem w_X1_read_b40  : ∀ (n : Nat) (a3 : Int32)  (h : Hp), J encI RX1 cX1_read 4 (some .int) 5 40 [(0, aR 9 0), (3, aI a3)] [] h (f_X1_read_b40  n a3 h) := by
  intro n
  induction n with
  | zero =>
    intros
    exact j_none
  | succ n hk40 =>
    intro a3  h
    show J encI RX1 cX1_read 4 (some .int) 5 40 [(0, aR 9 0), (3, aI a3)] [] h (f_X1_read_b40_body  (f_X1_read_b40  n) a3 h)
    unfold f_X1_read_b40_body
    refine j_iload_n dX1_read_40 rfl ?_
    refine j_bipush (v := (14 : Int32)) dX1_read_41 (by decide) ?_
    refine j_icmp_gt (tgt := 82) dX1_read_43 (by decide) (fun c1 => ?_) (fun c1 => ?_)
    · refine j_aload_n dX1_read_82 rfl ?_
      refine jg_X1_26 z_9 dX1_read_83 ?_
      exact j_iret dX1_read_86
    · refine j_aload_n dX1_read_46 rfl ?_
      refine jc_X1_32 (ct_X1_skipBlanks   _) (by decide) z_9 (Nat.le_of_ble_eq_true rfl) dX1_read_47 (fun v2 h3 e4 => ?_)
      refine j_aload_n dX1_read_50 rfl ?_
      refine jg_X1_26 z_9 dX1_read_51 ?_
      refine j_aload_n dX1_read_54 rfl ?_
      refine jg_X1_22 z_9 dX1_read_55 ?_
      refine j_icmp_lt (tgt := 64) dX1_read_58 (by decide) (fun c5 => ?_) (fun c5 => ?_)
      · refine j_aload_n dX1_read_64 rfl ?_
        refine jc_X1_39 (ct_X1_readBrick   _) (by decide) z_9 (Nat.le_of_ble_eq_true rfl) dX1_read_65 (fun v6 h7 e8 => ?_)
        refine j_if_ne (tgt := 76) dX1_read_68 (by decide) (fun c9 => ?_) (fun c9 => ?_)
        · refine j_iinc (v := (1 : Int32)) dX1_read_76 rfl (by decide) (by decide) ?_
          refine j_goto (tgt := 40) dX1_read_79 (by decide) ?_
          exact j_weak rfl (hk40 _  _)
        · refine j_aload_n dX1_read_71 rfl ?_
          refine jg_X1_26 z_9 dX1_read_72 ?_
          exact j_iret dX1_read_75
      · refine j_bipush (v := (-9 : Int32)) dX1_read_61 (by decide) ?_
        exact j_iret dX1_read_63
set_option maxRecDepth 20000 in
theorem ct_X1_read (a1 : Nat) (a2 : Int32) (h_a1 : a1 < cnt 7) (h : Hp) : Ct encI yX1_read cX1_read 4 (some .int) 5 [aR 9 0, aR 7 a1, aI a2] h (f_X1_read a1 a2 h) := by
  refine ct_of [(0, aR 9 0), (1, aR 7 a1), (2, aI a2)] (by decide) (fun _ => rfl) (fun _ => Nat.le_of_ble_eq_true rfl) ?_
  show J encI RX1 cX1_read 4 (some .int) 5 0 [(0, aR 9 0), (1, aR 7 a1), (2, aI a2)] [] h (f_X1_read a1 a2 h)
  unfold f_X1_read
  refine j_aload_n dX1_read_0 rfl ?_
  refine j_aload_n dX1_read_1 rfl ?_
  refine jp_X1_18 z_9 dX1_read_2 ?_
  refine j_aload_n dX1_read_5 rfl ?_
  refine j_iload_n dX1_read_6 rfl ?_
  refine jp_X1_22 z_9 dX1_read_7 ?_
  refine j_aload_n dX1_read_10 rfl ?_
  refine j_iconst (v := (0 : Int32)) dX1_read_11 (by decide) ?_
  refine jp_X1_26 z_9 dX1_read_12 ?_
  refine j_aload_n dX1_read_15 rfl ?_
  refine jg_X1_12 z_9 dX1_read_16 ?_
  refine jc_X1_29 (ct_X4_clear _ (Nat.le_of_ble_eq_true rfl) _) (by decide) (Nat.le_of_ble_eq_true rfl) (Nat.le_of_ble_eq_true rfl) dX1_read_19 (fun v1 h2 e3 => ?_)
  refine j_aload_n dX1_read_22 rfl ?_
  refine jc_X1_32 (ct_X1_skipBlanks   _) (by decide) z_9 (Nat.le_of_ble_eq_true rfl) dX1_read_23 (fun v4 h5 e6 => ?_)
  refine j_aload_n dX1_read_26 rfl ?_
  refine jc_X1_35 (ct_X1_readWidth   _) (by decide) z_9 (Nat.le_of_ble_eq_true rfl) dX1_read_27 (fun v7 h8 e9 => ?_)
  refine j_if_ne (tgt := 38) dX1_read_30 (by decide) (fun c10 => ?_) (fun c10 => ?_)
  · refine j_iconst (v := (0 : Int32)) dX1_read_38 (by decide) ?_
    refine j_istore_n dX1_read_39 (by decide) ?_
    exact j_weak rfl (w_X1_read_b40  _ _  _)
  · refine j_aload_n dX1_read_33 rfl ?_
    refine jg_X1_26 z_9 dX1_read_34 ?_
    exact j_iret dX1_read_37
set_option maxRecDepth 20000 in
theorem ct_X4_isLoose (a0 : Nat) (a1 : Int32) (h_a0 : a0 < cnt 11) (h : Hp) : Ct encI yX4_isLoose cX4_isLoose 2 (some .boolean) 5 [aR 11 a0, aI a1] h (f_X4_isLoose a0 a1 h) := by
  refine ct_of [(0, aR 11 a0), (1, aI a1)] (by decide) (fun _ => rfl) (fun _ => Nat.le_of_ble_eq_true rfl) ?_
  show J encI RX4 cX4_isLoose 2 (some .boolean) 5 0 [(0, aR 11 a0), (1, aI a1)] [] h (f_X4_isLoose a0 a1 h)
  unfold f_X4_isLoose
  refine j_aload_n dX4_isLoose_0 rfl ?_
  refine j_iload_n dX4_isLoose_1 rfl ?_
  refine jc_X4_165 (ct_X4_hasVine _ _ h_a0 _) (by decide) h_a0 (Nat.le_of_ble_eq_true rfl) dX4_isLoose_2 (fun v1 h2 e3 => ?_)
  refine j_if_ne (tgt := 22) dX4_isLoose_5 (by decide) (fun c4 => ?_) (fun c4 => ?_)
  · refine j_iconst (v := (0 : Int32)) dX4_isLoose_22 (by decide) ?_
    exact j_zret (Or.inl rfl) dX4_isLoose_23
  · refine j_aload_n dX4_isLoose_8 rfl ?_
    refine j_iconst (v := (1 : Int32)) dX4_isLoose_9 (by decide) ?_
    refine j_iload_n dX4_isLoose_10 rfl ?_
    refine j_ishl dX4_isLoose_11 ?_
    refine jc_X4_112 (ct_X4_fallsOf _ _ h_a0 _) (by decide) h_a0 (Nat.le_of_ble_eq_true rfl) dX4_isLoose_12 (fun v5 h6 e7 => ?_)
    refine j_if_ne (tgt := 22) dX4_isLoose_15 (by decide) (fun c8 => ?_) (fun c8 => ?_)
    · refine j_iconst (v := (0 : Int32)) dX4_isLoose_22 (by decide) ?_
      exact j_zret (Or.inl rfl) dX4_isLoose_23
    · refine j_iconst (v := (1 : Int32)) dX4_isLoose_18 (by decide) ?_
      refine j_goto (tgt := 23) dX4_isLoose_19 (by decide) ?_
      exact j_zret (Or.inr rfl) dX4_isLoose_23
set_option maxRecDepth 20000 in
theorem w_X4_isSoonDrawn_b33  (a0 : Nat) (s0 : Int32) (h_a0 : a0 < cnt 11) (h : Hp) : J encI RX4 cX4_isSoonDrawn 4 (some .boolean) 5 33 [(0, aR 11 a0)] [aI s0] h (f_X4_isSoonDrawn_b33  a0 s0 h) := by
  unfold f_X4_isSoonDrawn_b33
  refine j_istore_n dX4_isSoonDrawn_33 (by decide) ?_
  refine j_aload_n dX4_isSoonDrawn_34 rfl ?_
  refine jc_X4_182 (ct_X4_removeLast _ h_a0 _) (by decide) h_a0 (Nat.le_of_ble_eq_true rfl) dX4_isSoonDrawn_35 (fun v1 h2 e3 => ?_)
  refine j_iload_n dX4_isSoonDrawn_38 rfl ?_
  exact j_gd (fun q4 => j_zret q4 dX4_isSoonDrawn_39)
set_option maxRecDepth 20000 in
theorem ct_X4_isSoonDrawn (a0 : Nat) (a1 : Int32) (a2 : Int32) (h_a0 : a0 < cnt 11) (h : Hp) : Ct encI yX4_isSoonDrawn cX4_isSoonDrawn 4 (some .boolean) 5 [aR 11 a0, aI a1, aI a2] h (f_X4_isSoonDrawn a0 a1 a2 h) := by
  refine ct_of [(0, aR 11 a0), (1, aI a1), (2, aI a2)] (by decide) (fun _ => rfl) (fun _ => Nat.le_of_ble_eq_true rfl) ?_
  show J encI RX4 cX4_isSoonDrawn 4 (some .boolean) 5 0 [(0, aR 11 a0), (1, aI a1), (2, aI a2)] [] h (f_X4_isSoonDrawn a0 a1 a2 h)
  unfold f_X4_isSoonDrawn
  refine j_aload_n dX4_isSoonDrawn_0 rfl ?_
  refine j_iload_n dX4_isSoonDrawn_1 rfl ?_
  refine j_iload_n dX4_isSoonDrawn_2 rfl ?_
  refine j_iconst (v := (0 : Int32)) dX4_isSoonDrawn_3 (by decide) ?_
  refine j_iconst (v := (1 : Int32)) dX4_isSoonDrawn_4 (by decide) ?_
  refine jc_X4_185 (ct_X4_settle _ _ _ _ _ h_a0 _) (by decide) h_a0 (Nat.le_of_ble_eq_true rfl) dX4_isSoonDrawn_5 (fun v1 h2 e3 => ?_)
  refine j_if_ne (tgt := 13) dX4_isSoonDrawn_8 (by decide) (fun c4 => ?_) (fun c4 => ?_)
  · refine j_aload_n dX4_isSoonDrawn_13 rfl ?_
    refine j_iconst (v := (1 : Int32)) dX4_isSoonDrawn_14 (by decide) ?_
    refine j_aload_n dX4_isSoonDrawn_15 rfl ?_
    refine jg_X4_39 h_a0 dX4_isSoonDrawn_16 ?_
    refine j_iconst (v := (1 : Int32)) dX4_isSoonDrawn_19 (by decide) ?_
    refine j_isub dX4_isSoonDrawn_20 ?_
    refine j_ishl dX4_isSoonDrawn_21 ?_
    refine jc_X4_112 (ct_X4_fallsOf _ _ h_a0 _) (by decide) h_a0 (Nat.le_of_ble_eq_true rfl) dX4_isSoonDrawn_22 (fun v5 h6 e7 => ?_)
    refine j_if_ne (tgt := 32) dX4_isSoonDrawn_25 (by decide) (fun c8 => ?_) (fun c8 => ?_)
    · refine j_iconst (v := (0 : Int32)) dX4_isSoonDrawn_32 (by decide) ?_
      exact j_weak rfl (w_X4_isSoonDrawn_b33  _ _ h_a0 _)
    · refine j_iconst (v := (1 : Int32)) dX4_isSoonDrawn_28 (by decide) ?_
      refine j_goto (tgt := 33) dX4_isSoonDrawn_29 (by decide) ?_
      exact j_weak rfl (w_X4_isSoonDrawn_b33  _ _ h_a0 _)
  · refine j_iconst (v := (0 : Int32)) dX4_isSoonDrawn_11 (by decide) ?_
    exact j_zret (Or.inl rfl) dX4_isSoonDrawn_12
set_option maxRecDepth 20000 in
theorem ct_X4_loadOf (a0 : Nat) (a1 : Int32) (h_a0 : a0 < cnt 11) (h : Hp) : Ct encI yX4_loadOf cX4_loadOf 2 (some .int) 5 [aR 11 a0, aI a1] h (f_X4_loadOf a0 a1 h) := by
  refine ct_of [(0, aR 11 a0), (1, aI a1)] (by decide) (fun _ => rfl) (fun _ => Nat.le_of_ble_eq_true rfl) ?_
  show J encI RX4 cX4_loadOf 2 (some .int) 5 0 [(0, aR 11 a0), (1, aI a1)] [] h (f_X4_loadOf a0 a1 h)
  unfold f_X4_loadOf
  refine j_aload_n dX4_loadOf_0 rfl ?_
  refine j_iconst (v := (1 : Int32)) dX4_loadOf_1 (by decide) ?_
  refine j_iload_n dX4_loadOf_2 rfl ?_
  refine j_ishl dX4_loadOf_3 ?_
  refine jc_X4_112 (ct_X4_fallsOf _ _ h_a0 _) (by decide) h_a0 (Nat.le_of_ble_eq_true rfl) dX4_loadOf_4 (fun v1 h2 e3 => ?_)
  refine jc_X4_115 (ct_J6_bitCount _  _) (by decide) (Nat.le_of_ble_eq_true rfl) dX4_loadOf_7 (fun v4 h5 e6 => ?_)
  exact j_iret dX4_loadOf_10
set_option maxRecDepth 20000 in
theorem w_X5_ahead_b112 (kont75 : Int32 → Int32 → Int32 → Int32 → Hp → Option (Int32 × Hp)) (hk75 : ∀ (a2 : Int32) (a3 : Int32) (a4 : Int32) (a5 : Int32)  (h : Hp), J encI RX5 cX5_ahead 6 (some .int) 5 75 [(0, aR 0 0), (2, aI a2), (3, aI a3), (4, aI a4), (5, aI a5)] [] h (kont75 a2 a3 a4 a5 h)) (a2 : Int32) (a3 : Int32) (a5 : Int32) (s0 : Int32) (s1 : Int32)  (h : Hp) : J encI RX5 cX5_ahead 6 (some .int) 5 112 [(0, aR 0 0), (2, aI a2), (3, aI a3), (5, aI a5)] [aI s1, aI s0] h (f_X5_ahead_b112 kont75 a2 a3 a5 s0 s1 h) := by
  unfold f_X5_ahead_b112
  refine j_ior dX5_ahead_112 ?_
  refine j_istore dX5_ahead_113 (by decide) ?_
  refine j_iinc (v := (1 : Int32)) dX5_ahead_115 rfl (by decide) (by decide) ?_
  refine j_goto (tgt := 75) dX5_ahead_118 (by decide) ?_
  exact j_weak rfl (hk75 _ _ _ _  _)
set_option maxRecDepth 20000 in
theorem w_X5_ahead_b75  : ∀ (n : Nat) (a2 : Int32) (a3 : Int32) (a4 : Int32) (a5 : Int32)  (h : Hp), J encI RX5 cX5_ahead 6 (some .int) 5 75 [(0, aR 0 0), (2, aI a2), (3, aI a3), (4, aI a4), (5, aI a5)] [] h (f_X5_ahead_b75  n a2 a3 a4 a5 h) := by
  intro n
  induction n with
  | zero =>
    intros
    exact j_none
  | succ n hk75 =>
    intro a2 a3 a4 a5  h
    show J encI RX5 cX5_ahead 6 (some .int) 5 75 [(0, aR 0 0), (2, aI a2), (3, aI a3), (4, aI a4), (5, aI a5)] [] h (f_X5_ahead_b75_body  (f_X5_ahead_b75  n) a2 a3 a4 a5 h)
    unfold f_X5_ahead_b75_body
    refine j_iload dX5_ahead_75 rfl ?_
    refine j_aload_n dX5_ahead_77 rfl ?_
    refine jg_X5_33 z_0 dX5_ahead_78 ?_
    refine jg_X5_110 (Nat.le_of_ble_eq_true rfl) dX5_ahead_81 ?_
    refine j_icmp_ge (tgt := 121) dX5_ahead_84 (by decide) (fun c1 => ?_) (fun c1 => ?_)
    · refine j_aload_n dX5_ahead_121 rfl ?_
      refine jg_X5_10 z_0 dX5_ahead_122 ?_
      refine j_iload_n dX5_ahead_125 rfl ?_
      refine j_iload_n dX5_ahead_126 rfl ?_
      refine jc_X5_160 (ct_J6_bitCount _  _) (by decide) (Nat.le_of_ble_eq_true rfl) dX5_ahead_127 (fun v2 h3 e4 => ?_)
      refine jc_X5_57 (ct_X2_begin _ _  _) (by decide) z_1 (Nat.le_of_ble_eq_true rfl) dX5_ahead_130 (fun v5 h6 e7 => ?_)
      refine j_aload_n dX5_ahead_133 rfl ?_
      refine jg_X5_33 z_0 dX5_ahead_134 ?_
      refine j_iload_n dX5_ahead_137 rfl ?_
      refine j_aload_n dX5_ahead_138 rfl ?_
      refine jg_X5_10 z_0 dX5_ahead_139 ?_
      refine jg_X5_64 z_1 dX5_ahead_142 ?_
      refine j_iload_n dX5_ahead_145 rfl ?_
      refine ja_2 z_2 dX5_ahead_146 (fun q8 z9 => ?_)
      refine jc_X5_202 (ct_X4_listFromTop _ _ _ (Nat.le_of_ble_eq_true rfl) z9 _) (by decide) (Nat.le_of_ble_eq_true rfl) (Nat.le_of_ble_eq_true rfl) dX5_ahead_147 (fun v10 h11 e12 => ?_)
      refine j_aload_n dX5_ahead_150 rfl ?_
      refine j_iload dX5_ahead_151 rfl ?_
      refine jp_X5_68 z_0 dX5_ahead_153 ?_
      refine j_aload_n dX5_ahead_156 rfl ?_
      refine jg_X5_10 z_0 dX5_ahead_157 ?_
      refine jg_X5_61 z_1 dX5_ahead_160 ?_
      refine j_iload_n dX5_ahead_163 rfl ?_
      refine j_iald (ic_4 _) z_4 dX5_ahead_164 (fun q13 => ?_)
      exact j_iret dX5_ahead_165
    · refine j_iload dX5_ahead_87 rfl ?_
      refine j_iload_n dX5_ahead_89 rfl ?_
      refine j_iload dX5_ahead_90 rfl ?_
      refine j_ishr dX5_ahead_92 ?_
      refine j_iconst (v := (1 : Int32)) dX5_ahead_93 (by decide) ?_
      refine j_iand dX5_ahead_94 ?_
      refine j_iconst (v := (1 : Int32)) dX5_ahead_95 (by decide) ?_
      refine j_icmp_ne (tgt := 111) dX5_ahead_96 (by decide) (fun c14 => ?_) (fun c14 => ?_)
      · refine j_iconst (v := (0 : Int32)) dX5_ahead_111 (by decide) ?_
        exact j_weak rfl (w_X5_ahead_b112 _ hk75 _ _ _ _ _  _)
      · refine j_aload_n dX5_ahead_99 rfl ?_
        refine jg_X5_33 z_0 dX5_ahead_100 ?_
        refine j_iload dX5_ahead_103 rfl ?_
        refine jc_X5_180 (ct_X4_askedToDraw _ _ (Nat.le_of_ble_eq_true rfl) _) (by decide) (Nat.le_of_ble_eq_true rfl) (Nat.le_of_ble_eq_true rfl) dX5_ahead_105 (fun v15 h16 e17 => ?_)
        refine j_goto (tgt := 112) dX5_ahead_108 (by decide) ?_
        exact j_weak rfl (w_X5_ahead_b112 _ hk75 _ _ _ _ _  _)
set_option maxRecDepth 20000 in
theorem ct_X5_ahead (a1 : Int32) (a2 : Int32)  (h : Hp) : Ct encI yX5_ahead cX5_ahead 6 (some .int) 5 [aR 0 0, aI a1, aI a2] h (f_X5_ahead a1 a2 h) := by
  refine ct_of [(0, aR 0 0), (1, aI a1), (2, aI a2)] (by decide) (fun _ => rfl) (fun _ => Nat.le_of_ble_eq_true rfl) ?_
  show J encI RX5 cX5_ahead 6 (some .int) 5 0 [(0, aR 0 0), (1, aI a1), (2, aI a2)] [] h (f_X5_ahead a1 a2 h)
  unfold f_X5_ahead
  refine j_aload_n dX5_ahead_0 rfl ?_
  refine jg_X5_33 z_0 dX5_ahead_1 ?_
  refine j_iload_n dX5_ahead_4 rfl ?_
  refine jc_X5_113 (ct_X4_has _ _ (Nat.le_of_ble_eq_true rfl) _) (by decide) (Nat.le_of_ble_eq_true rfl) (Nat.le_of_ble_eq_true rfl) dX5_ahead_5 (fun v1 h2 e3 => ?_)
  refine j_if_eq (tgt := 18) dX5_ahead_8 (by decide) (fun c4 => ?_) (fun c4 => ?_)
  · refine j_iconst (v := (-1 : Int32)) dX5_ahead_18 (by decide) ?_
    exact j_iret dX5_ahead_19
  · refine j_iload_n dX5_ahead_11 rfl ?_
    refine jc_X5_49 (ct_X5_isRow _  _) (by decide) (Nat.le_of_ble_eq_true rfl) dX5_ahead_12 (fun v5 h6 e7 => ?_)
    refine j_if_ne (tgt := 20) dX5_ahead_15 (by decide) (fun c8 => ?_) (fun c8 => ?_)
    · refine j_aload_n dX5_ahead_20 rfl ?_
      refine jg_X5_33 z_0 dX5_ahead_21 ?_
      refine j_iload_n dX5_ahead_24 rfl ?_
      refine jc_X5_120 (ct_X4_isIn _ _ (Nat.le_of_ble_eq_true rfl) _) (by decide) (Nat.le_of_ble_eq_true rfl) (Nat.le_of_ble_eq_true rfl) dX5_ahead_25 (fun v9 h10 e11 => ?_)
      refine j_if_ne (tgt := 37) dX5_ahead_28 (by decide) (fun c12 => ?_) (fun c12 => ?_)
      · refine j_aload_n dX5_ahead_37 rfl ?_
        refine jg_X5_33 z_0 dX5_ahead_38 ?_
        refine j_iload_n dX5_ahead_41 rfl ?_
        refine jc_X5_165 (ct_X4_hasVine _ _ (Nat.le_of_ble_eq_true rfl) _) (by decide) (Nat.le_of_ble_eq_true rfl) (Nat.le_of_ble_eq_true rfl) dX5_ahead_42 (fun v13 h14 e15 => ?_)
        refine j_if_eq (tgt := 51) dX5_ahead_45 (by decide) (fun c16 => ?_) (fun c16 => ?_)
        · refine j_aload_n dX5_ahead_51 rfl ?_
          refine jg_X5_33 z_0 dX5_ahead_52 ?_
          refine j_iconst (v := (1 : Int32)) dX5_ahead_55 (by decide) ?_
          refine j_iload_n dX5_ahead_56 rfl ?_
          refine j_ishl dX5_ahead_57 ?_
          refine jc_X5_174 (ct_X4_fallsOf _ _ (Nat.le_of_ble_eq_true rfl) _) (by decide) (Nat.le_of_ble_eq_true rfl) (Nat.le_of_ble_eq_true rfl) dX5_ahead_58 (fun v17 h18 e19 => ?_)
          refine j_istore_n dX5_ahead_61 (by decide) ?_
          refine j_aload_n dX5_ahead_62 rfl ?_
          refine jg_X5_33 z_0 dX5_ahead_63 ?_
          refine j_iload_n dX5_ahead_66 rfl ?_
          refine jc_X5_180 (ct_X4_askedToDraw _ _ (Nat.le_of_ble_eq_true rfl) _) (by decide) (Nat.le_of_ble_eq_true rfl) (Nat.le_of_ble_eq_true rfl) dX5_ahead_67 (fun v20 h21 e22 => ?_)
          refine j_istore dX5_ahead_70 (by decide) ?_
          refine j_iconst (v := (0 : Int32)) dX5_ahead_72 (by decide) ?_
          refine j_istore dX5_ahead_73 (by decide) ?_
          exact j_weak rfl (w_X5_ahead_b75  _ _ _ _ _  _)
        · refine j_bipush (v := (-4 : Int32)) dX5_ahead_48 (by decide) ?_
          exact j_iret dX5_ahead_50
      · refine j_aload_n dX5_ahead_31 rfl ?_
        refine j_iconst (v := (1 : Int32)) dX5_ahead_32 (by decide) ?_
        refine jc_X5_53 (ct_X5_refuse _  _) (by decide) z_0 (Nat.le_of_ble_eq_true rfl) dX5_ahead_33 (fun v23 h24 e25 => ?_)
        exact j_iret dX5_ahead_36
    · refine j_iconst (v := (-1 : Int32)) dX5_ahead_18 (by decide) ?_
      exact j_iret dX5_ahead_19
set_option maxRecDepth 20000 in
theorem ct_X5_falls (a1 : Int32)  (h : Hp) : Ct encI yX5_falls cX5_falls 2 (some .int) 5 [aR 0 0, aI a1] h (f_X5_falls a1 h) := by
  refine ct_of [(0, aR 0 0), (1, aI a1)] (by decide) (fun _ => rfl) (fun _ => Nat.le_of_ble_eq_true rfl) ?_
  show J encI RX5 cX5_falls 2 (some .int) 5 0 [(0, aR 0 0), (1, aI a1)] [] h (f_X5_falls a1 h)
  unfold f_X5_falls
  refine j_aload_n dX5_falls_0 rfl ?_
  refine jg_X5_33 z_0 dX5_falls_1 ?_
  refine j_iload_n dX5_falls_4 rfl ?_
  refine jc_X5_171 (ct_X4_hasAll _ _ (Nat.le_of_ble_eq_true rfl) _) (by decide) (Nat.le_of_ble_eq_true rfl) (Nat.le_of_ble_eq_true rfl) dX5_falls_5 (fun v1 h2 e3 => ?_)
  refine j_if_ne (tgt := 13) dX5_falls_8 (by decide) (fun c4 => ?_) (fun c4 => ?_)
  · refine j_iload_n dX5_falls_13 rfl ?_
    refine j_aload_n dX5_falls_14 rfl ?_
    refine jg_X5_33 z_0 dX5_falls_15 ?_
    refine jg_X5_154 (Nat.le_of_ble_eq_true rfl) dX5_falls_18 ?_
    refine j_iconst (v := (-1 : Int32)) dX5_falls_21 (by decide) ?_
    refine j_ixor dX5_falls_22 ?_
    refine j_iand dX5_falls_23 ?_
    refine j_if_eq (tgt := 33) dX5_falls_24 (by decide) (fun c5 => ?_) (fun c5 => ?_)
    · refine j_aload_n dX5_falls_33 rfl ?_
      refine jg_X5_33 z_0 dX5_falls_34 ?_
      refine j_iload_n dX5_falls_37 rfl ?_
      refine jc_X5_174 (ct_X4_fallsOf _ _ (Nat.le_of_ble_eq_true rfl) _) (by decide) (Nat.le_of_ble_eq_true rfl) (Nat.le_of_ble_eq_true rfl) dX5_falls_38 (fun v6 h7 e8 => ?_)
      exact j_iret dX5_falls_41
    · refine j_aload_n dX5_falls_27 rfl ?_
      refine j_iconst (v := (1 : Int32)) dX5_falls_28 (by decide) ?_
      refine jc_X5_53 (ct_X5_refuse _  _) (by decide) z_0 (Nat.le_of_ble_eq_true rfl) dX5_falls_29 (fun v9 h10 e11 => ?_)
      exact j_iret dX5_falls_32
  · refine j_iconst (v := (-1 : Int32)) dX5_falls_11 (by decide) ?_
    exact j_iret dX5_falls_12
set_option maxRecDepth 20000 in
theorem ct_X5_mark (a1 : Int32) (a2 : Int32)  (h : Hp) : Ct encI yX5_mark cX5_mark 3 (some .int) 5 [aR 0 0, aI a1, aI a2] h (f_X5_mark a1 a2 h) := by
  refine ct_of [(0, aR 0 0), (1, aI a1), (2, aI a2)] (by decide) (fun _ => rfl) (fun _ => Nat.le_of_ble_eq_true rfl) ?_
  show J encI RX5 cX5_mark 3 (some .int) 5 0 [(0, aR 0 0), (1, aI a1), (2, aI a2)] [] h (f_X5_mark a1 a2 h)
  unfold f_X5_mark
  refine j_aload_n dX5_mark_0 rfl ?_
  refine jg_X5_33 z_0 dX5_mark_1 ?_
  refine j_iload_n dX5_mark_4 rfl ?_
  refine jc_X5_113 (ct_X4_has _ _ (Nat.le_of_ble_eq_true rfl) _) (by decide) (Nat.le_of_ble_eq_true rfl) (Nat.le_of_ble_eq_true rfl) dX5_mark_5 (fun v1 h2 e3 => ?_)
  refine j_if_eq (tgt := 21) dX5_mark_8 (by decide) (fun c4 => ?_) (fun c4 => ?_)
  · refine j_iconst (v := (-1 : Int32)) dX5_mark_21 (by decide) ?_
    exact j_iret dX5_mark_22
  · refine j_iload_n dX5_mark_11 rfl ?_
    refine j_iconst (v := (1 : Int32)) dX5_mark_12 (by decide) ?_
    refine j_icmp_lt (tgt := 21) dX5_mark_13 (by decide) (fun c5 => ?_) (fun c5 => ?_)
    · refine j_iconst (v := (-1 : Int32)) dX5_mark_21 (by decide) ?_
      exact j_iret dX5_mark_22
    · refine j_iload_n dX5_mark_16 rfl ?_
      refine j_iconst (v := (5 : Int32)) dX5_mark_17 (by decide) ?_
      refine j_icmp_le (tgt := 23) dX5_mark_18 (by decide) (fun c6 => ?_) (fun c6 => ?_)
      · refine j_aload_n dX5_mark_23 rfl ?_
        refine jg_X5_33 z_0 dX5_mark_24 ?_
        refine j_iload_n dX5_mark_27 rfl ?_
        refine jc_X5_120 (ct_X4_isIn _ _ (Nat.le_of_ble_eq_true rfl) _) (by decide) (Nat.le_of_ble_eq_true rfl) (Nat.le_of_ble_eq_true rfl) dX5_mark_28 (fun v7 h8 e9 => ?_)
        refine j_if_ne (tgt := 40) dX5_mark_31 (by decide) (fun c10 => ?_) (fun c10 => ?_)
        · refine j_aload_n dX5_mark_40 rfl ?_
          refine jg_X5_33 z_0 dX5_mark_41 ?_
          refine jg_X5_123 (Nat.le_of_ble_eq_true rfl) dX5_mark_44 ?_
          refine j_iload_n dX5_mark_47 rfl ?_
          refine ja_12 (Nat.le_of_ble_eq_true rfl) dX5_mark_48 (fun q11 z12 => ?_)
          refine j_iload_n dX5_mark_49 rfl ?_
          refine jc_X5_127 (ct_X0_isOf _ _ z12 _) (by decide) z12 (Nat.le_of_ble_eq_true rfl) dX5_mark_50 (fun v13 h14 e15 => ?_)
          refine j_if_ne (tgt := 62) dX5_mark_53 (by decide) (fun c16 => ?_) (fun c16 => ?_)
          · refine j_aload_n dX5_mark_62 rfl ?_
            refine jg_X5_33 z_0 dX5_mark_63 ?_
            refine j_iload_n dX5_mark_66 rfl ?_
            refine j_iload_n dX5_mark_67 rfl ?_
            refine jc_X5_132 (ct_X4_markOf _ _ _ (Nat.le_of_ble_eq_true rfl) _) (by decide) (Nat.le_of_ble_eq_true rfl) (Nat.le_of_ble_eq_true rfl) dX5_mark_68 (fun v17 h18 e19 => ?_)
            exact j_iret dX5_mark_71
          · refine j_aload_n dX5_mark_56 rfl ?_
            refine j_iconst (v := (3 : Int32)) dX5_mark_57 (by decide) ?_
            refine jc_X5_53 (ct_X5_refuse _  _) (by decide) z_0 (Nat.le_of_ble_eq_true rfl) dX5_mark_58 (fun v20 h21 e22 => ?_)
            exact j_iret dX5_mark_61
        · refine j_aload_n dX5_mark_34 rfl ?_
          refine j_iconst (v := (1 : Int32)) dX5_mark_35 (by decide) ?_
          refine jc_X5_53 (ct_X5_refuse _  _) (by decide) z_0 (Nat.le_of_ble_eq_true rfl) dX5_mark_36 (fun v23 h24 e25 => ?_)
          exact j_iret dX5_mark_39
      · refine j_iconst (v := (-1 : Int32)) dX5_mark_21 (by decide) ?_
        exact j_iret dX5_mark_22
set_option maxRecDepth 20000 in
theorem ct_X5_props (a1 : Int32)  (h : Hp) : Ct encI yX5_props cX5_props 2 (some .int) 5 [aR 0 0, aI a1] h (f_X5_props a1 h) := by
  refine ct_of [(0, aR 0 0), (1, aI a1)] (by decide) (fun _ => rfl) (fun _ => Nat.le_of_ble_eq_true rfl) ?_
  show J encI RX5 cX5_props 2 (some .int) 5 0 [(0, aR 0 0), (1, aI a1)] [] h (f_X5_props a1 h)
  unfold f_X5_props
  refine j_aload_n dX5_props_0 rfl ?_
  refine jg_X5_33 z_0 dX5_props_1 ?_
  refine j_iload_n dX5_props_4 rfl ?_
  refine jc_X5_113 (ct_X4_has _ _ (Nat.le_of_ble_eq_true rfl) _) (by decide) (Nat.le_of_ble_eq_true rfl) (Nat.le_of_ble_eq_true rfl) dX5_props_5 (fun v1 h2 e3 => ?_)
  refine j_if_ne (tgt := 13) dX5_props_8 (by decide) (fun c4 => ?_) (fun c4 => ?_)
  · refine j_aload_n dX5_props_13 rfl ?_
    refine jg_X5_33 z_0 dX5_props_14 ?_
    refine j_iload_n dX5_props_17 rfl ?_
    refine jc_X5_120 (ct_X4_isIn _ _ (Nat.le_of_ble_eq_true rfl) _) (by decide) (Nat.le_of_ble_eq_true rfl) (Nat.le_of_ble_eq_true rfl) dX5_props_18 (fun v5 h6 e7 => ?_)
    refine j_if_ne (tgt := 30) dX5_props_21 (by decide) (fun c8 => ?_) (fun c8 => ?_)
    · refine j_aload_n dX5_props_30 rfl ?_
      refine j_aload_n dX5_props_31 rfl ?_
      refine jg_X5_33 z_0 dX5_props_32 ?_
      refine j_iload_n dX5_props_35 rfl ?_
      refine jc_X5_216 (ct_X4_propsOf _ _ (Nat.le_of_ble_eq_true rfl) _) (by decide) (Nat.le_of_ble_eq_true rfl) (Nat.le_of_ble_eq_true rfl) dX5_props_36 (fun v9 h10 e11 => ?_)
      refine jp_X5_68 z_0 dX5_props_39 ?_
      refine j_aload_n dX5_props_42 rfl ?_
      refine jg_X5_68 z_0 dX5_props_43 ?_
      refine jc_X5_160 (ct_J6_bitCount _  _) (by decide) (Nat.le_of_ble_eq_true rfl) dX5_props_46 (fun v12 h13 e14 => ?_)
      exact j_iret dX5_props_49
    · refine j_aload_n dX5_props_24 rfl ?_
      refine j_iconst (v := (1 : Int32)) dX5_props_25 (by decide) ?_
      refine jc_X5_53 (ct_X5_refuse _  _) (by decide) z_0 (Nat.le_of_ble_eq_true rfl) dX5_props_26 (fun v15 h16 e17 => ?_)
      exact j_iret dX5_props_29
  · refine j_iconst (v := (-1 : Int32)) dX5_props_11 (by decide) ?_
    exact j_iret dX5_props_12
set_option maxRecDepth 20000 in
theorem ct_X5_set (a1 : Int32) (a2 : Int32) (a3 : Int32) (a4 : Int32)  (h : Hp) : Ct encI yX5_set cX5_set 5 (some .int) 5 [aR 0 0, aI a1, aI a2, aI a3, aI a4] h (f_X5_set a1 a2 a3 a4 h) := by
  refine ct_of [(0, aR 0 0), (1, aI a1), (2, aI a2), (3, aI a3), (4, aI a4)] (by decide) (fun _ => rfl) (fun _ => Nat.le_of_ble_eq_true rfl) ?_
  show J encI RX5 cX5_set 5 (some .int) 5 0 [(0, aR 0 0), (1, aI a1), (2, aI a2), (3, aI a3), (4, aI a4)] [] h (f_X5_set a1 a2 a3 a4 h)
  unfold f_X5_set
  refine j_iload_n dX5_set_0 rfl ?_
  refine j_if_lt (tgt := 20) dX5_set_1 (by decide) (fun c1 => ?_) (fun c1 => ?_)
  · refine j_iconst (v := (-1 : Int32)) dX5_set_20 (by decide) ?_
    exact j_iret dX5_set_21
  · refine j_iload_n dX5_set_4 rfl ?_
    refine j_bipush (v := (6 : Int32)) dX5_set_5 (by decide) ?_
    refine j_icmp_ge (tgt := 20) dX5_set_7 (by decide) (fun c2 => ?_) (fun c2 => ?_)
    · refine j_iconst (v := (-1 : Int32)) dX5_set_20 (by decide) ?_
      exact j_iret dX5_set_21
    · refine j_iload_n dX5_set_10 rfl ?_
      refine j_if_lt (tgt := 20) dX5_set_11 (by decide) (fun c3 => ?_) (fun c3 => ?_)
      · refine j_iconst (v := (-1 : Int32)) dX5_set_20 (by decide) ?_
        exact j_iret dX5_set_21
      · refine j_iload_n dX5_set_14 rfl ?_
        refine j_bipush (v := (9 : Int32)) dX5_set_15 (by decide) ?_
        refine j_icmp_lt (tgt := 22) dX5_set_17 (by decide) (fun c4 => ?_) (fun c4 => ?_)
        · refine j_iload_n dX5_set_22 rfl ?_
          refine jc_X5_135 (ct_X5_isPerson _  _) (by decide) (Nat.le_of_ble_eq_true rfl) dX5_set_23 (fun v5 h6 e7 => ?_)
          refine j_if_eq (tgt := 43) dX5_set_26 (by decide) (fun c8 => ?_) (fun c8 => ?_)
          · refine j_iconst (v := (-1 : Int32)) dX5_set_43 (by decide) ?_
            exact j_iret dX5_set_44
          · refine j_iload dX5_set_29 rfl ?_
            refine jc_X5_135 (ct_X5_isPerson _  _) (by decide) (Nat.le_of_ble_eq_true rfl) dX5_set_31 (fun v9 h10 e11 => ?_)
            refine j_if_eq (tgt := 43) dX5_set_34 (by decide) (fun c12 => ?_) (fun c12 => ?_)
            · refine j_iconst (v := (-1 : Int32)) dX5_set_43 (by decide) ?_
              exact j_iret dX5_set_44
            · refine j_iload_n dX5_set_37 rfl ?_
              refine j_iload dX5_set_38 rfl ?_
              refine j_icmp_ne (tgt := 45) dX5_set_40 (by decide) (fun c13 => ?_) (fun c13 => ?_)
              · refine j_aload_n dX5_set_45 rfl ?_
                refine jg_X5_33 z_0 dX5_set_46 ?_
                refine jg_X5_110 (Nat.le_of_ble_eq_true rfl) dX5_set_49 ?_
                refine j_bipush (v := (14 : Int32)) dX5_set_52 (by decide) ?_
                refine j_icmp_lt (tgt := 60) dX5_set_54 (by decide) (fun c14 => ?_) (fun c14 => ?_)
                · refine j_aload_n dX5_set_60 rfl ?_
                  refine jg_X5_33 z_0 dX5_set_61 ?_
                  refine jg_X5_106 (Nat.le_of_ble_eq_true rfl) dX5_set_64 ?_
                  refine j_if_eq (tgt := 85) dX5_set_67 (by decide) (fun c15 => ?_) (fun c15 => ?_)
                  · refine j_bipush (v := (-4 : Int32)) dX5_set_85 (by decide) ?_
                    exact j_iret dX5_set_87
                  · refine j_aload_n dX5_set_70 rfl ?_
                    refine jg_X5_33 z_0 dX5_set_71 ?_
                    refine j_iload_n dX5_set_74 rfl ?_
                    refine j_iload_n dX5_set_75 rfl ?_
                    refine j_iload_n dX5_set_76 rfl ?_
                    refine j_iload dX5_set_77 rfl ?_
                    refine jc_X5_219 (ct_X4_settle _ _ _ _ _ (Nat.le_of_ble_eq_true rfl) _) (by decide) (Nat.le_of_ble_eq_true rfl) (Nat.le_of_ble_eq_true rfl) dX5_set_79 (fun v16 h17 e18 => ?_)
                    refine j_if_ne (tgt := 88) dX5_set_82 (by decide) (fun c19 => ?_) (fun c19 => ?_)
                    · refine j_aload_n dX5_set_88 rfl ?_
                      refine jg_X5_33 z_0 dX5_set_89 ?_
                      refine jg_X5_110 (Nat.le_of_ble_eq_true rfl) dX5_set_92 ?_
                      refine j_iconst (v := (1 : Int32)) dX5_set_95 (by decide) ?_
                      refine j_isub dX5_set_96 ?_
                      exact j_iret dX5_set_97
                    · refine j_bipush (v := (-4 : Int32)) dX5_set_85 (by decide) ?_
                      exact j_iret dX5_set_87
                · refine j_bipush (v := (-2 : Int32)) dX5_set_57 (by decide) ?_
                  exact j_iret dX5_set_59
              · refine j_iconst (v := (-1 : Int32)) dX5_set_43 (by decide) ?_
                exact j_iret dX5_set_44
        · refine j_iconst (v := (-1 : Int32)) dX5_set_20 (by decide) ?_
          exact j_iret dX5_set_21
set_option maxRecDepth 20000 in
theorem ct_X6_fallsOf (a1 : Int32)  (h : Hp) : Ct encI yX6_fallsOf cX6_fallsOf 2 (some .int) 5 [aR 20 0, aI a1] h (f_X6_fallsOf a1 h) := by
  refine ct_of [(0, aR 20 0), (1, aI a1)] (by decide) (fun _ => rfl) (fun _ => Nat.le_of_ble_eq_true rfl) ?_
  show J encI RX6 cX6_fallsOf 2 (some .int) 5 0 [(0, aR 20 0), (1, aI a1)] [] h (f_X6_fallsOf a1 h)
  unfold f_X6_fallsOf
  refine j_aload_n dX6_fallsOf_0 rfl ?_
  refine j_iconst (v := (0 : Int32)) dX6_fallsOf_1 (by decide) ?_
  refine jc_X6_171 (ct_X6_standingNow _  _) (by decide) z_20 (Nat.le_of_ble_eq_true rfl) dX6_fallsOf_2 (fun v1 h2 e3 => ?_)
  refine j_aload_n dX6_fallsOf_5 rfl ?_
  refine j_iload_n dX6_fallsOf_6 rfl ?_
  refine jc_X6_171 (ct_X6_standingNow _  _) (by decide) z_20 (Nat.le_of_ble_eq_true rfl) dX6_fallsOf_7 (fun v4 h5 e6 => ?_)
  refine j_iconst (v := (-1 : Int32)) dX6_fallsOf_10 (by decide) ?_
  refine j_ixor dX6_fallsOf_11 ?_
  refine j_iand dX6_fallsOf_12 ?_
  refine j_iload_n dX6_fallsOf_13 rfl ?_
  refine j_iconst (v := (-1 : Int32)) dX6_fallsOf_14 (by decide) ?_
  refine j_ixor dX6_fallsOf_15 ?_
  refine j_iand dX6_fallsOf_16 ?_
  exact j_iret dX6_fallsOf_17
set_option maxRecDepth 20000 in
theorem w_X6_frost_b110 (kont38 : Int32 → Int32 → Int64 → Int32 → Int32 → Hp → Option (Int32 × Hp)) (hk38 : ∀ (a2 : Int32) (a3 : Int32) (a4 : Int64) (a6 : Int32) (a7 : Int32)  (h : Hp), J encI RX6 cX6_frost 8 (some .int) 5 38 [(0, aR 20 0), (2, aI a2), (3, aI a3), (4, aL a4), (6, aI a6), (7, aI a7)] [] h (kont38 a2 a3 a4 a6 a7 h)) (a2 : Int32) (a3 : Int32) (a4 : Int64) (a6 : Int32) (a7 : Int32)  (h : Hp) : J encI RX6 cX6_frost 8 (some .int) 5 110 [(0, aR 20 0), (2, aI a2), (3, aI a3), (4, aL a4), (6, aI a6), (7, aI a7)] [] h (f_X6_frost_b110 kont38 a2 a3 a4 a6 a7 h) := by
  unfold f_X6_frost_b110
  refine j_iinc (v := (1 : Int32)) dX6_frost_110 rfl (by decide) (by decide) ?_
  refine j_goto (tgt := 38) dX6_frost_113 (by decide) ?_
  exact j_weak rfl (hk38 _ _ _ _ _  _)
set_option maxRecDepth 20000 in
theorem w_X6_frost_b38  : ∀ (n : Nat) (a2 : Int32) (a3 : Int32) (a4 : Int64) (a6 : Int32) (a7 : Int32)  (h : Hp), J encI RX6 cX6_frost 8 (some .int) 5 38 [(0, aR 20 0), (2, aI a2), (3, aI a3), (4, aL a4), (6, aI a6), (7, aI a7)] [] h (f_X6_frost_b38  n a2 a3 a4 a6 a7 h) := by
  intro n
  induction n with
  | zero =>
    intros
    exact j_none
  | succ n hk38 =>
    intro a2 a3 a4 a6 a7  h
    show J encI RX6 cX6_frost 8 (some .int) 5 38 [(0, aR 20 0), (2, aI a2), (3, aI a3), (4, aL a4), (6, aI a6), (7, aI a7)] [] h (f_X6_frost_b38_body  (f_X6_frost_b38  n) a2 a3 a4 a6 a7 h)
    unfold f_X6_frost_b38_body
    refine j_iload dX6_frost_38 rfl ?_
    refine j_aload_n dX6_frost_40 rfl ?_
    refine jg_X6_129 z_20 dX6_frost_41 ?_
    refine j_icmp_ge (tgt := 116) dX6_frost_44 (by decide) (fun c1 => ?_) (fun c1 => ?_)
    · refine j_iload_n dX6_frost_116 rfl ?_
      refine j_aload_n dX6_frost_117 rfl ?_
      refine j_iconst (v := (0 : Int32)) dX6_frost_118 (by decide) ?_
      refine jc_X6_171 (ct_X6_standingNow _  _) (by decide) z_20 (Nat.le_of_ble_eq_true rfl) dX6_frost_119 (fun v2 h3 e4 => ?_)
      refine j_iconst (v := (-1 : Int32)) dX6_frost_122 (by decide) ?_
      refine j_ixor dX6_frost_123 ?_
      refine j_iand dX6_frost_124 ?_
      refine j_istore dX6_frost_125 (by decide) ?_
      refine j_aload_n dX6_frost_127 rfl ?_
      refine j_dup dX6_frost_128 rfl ?_
      refine jg_X6_132 z_20 dX6_frost_129 ?_
      refine j_iload dX6_frost_132 rfl ?_
      refine j_iconst (v := (-1 : Int32)) dX6_frost_134 (by decide) ?_
      refine j_ixor dX6_frost_135 ?_
      refine j_iand dX6_frost_136 ?_
      refine jp_X6_132 z_20 dX6_frost_137 ?_
      refine j_aload_n dX6_frost_140 rfl ?_
      refine j_dup dX6_frost_141 rfl ?_
      refine jg_X6_135 z_20 dX6_frost_142 ?_
      refine j_aload_n dX6_frost_145 rfl ?_
      refine jg_X6_132 z_20 dX6_frost_146 ?_
      refine j_iand dX6_frost_149 ?_
      refine jp_X6_135 z_20 dX6_frost_150 ?_
      refine j_aload_n dX6_frost_153 rfl ?_
      refine j_iload dX6_frost_154 rfl ?_
      refine j_iload dX6_frost_156 rfl ?_
      refine jc_X6_77 (ct_X6_ask _ _  _) (by decide) z_20 (Nat.le_of_ble_eq_true rfl) dX6_frost_158 (fun v5 h6 e7 => ?_)
      exact j_iret dX6_frost_161
    · refine j_aload_n dX6_frost_47 rfl ?_
      refine jg_X6_132 z_20 dX6_frost_48 ?_
      refine j_iload dX6_frost_51 rfl ?_
      refine jc_X6_150 (ct_X6_has _ _  _) (by decide) (Nat.le_of_ble_eq_true rfl) dX6_frost_53 (fun v8 h9 e10 => ?_)
      refine j_if_eq (tgt := 110) dX6_frost_56 (by decide) (fun c11 => ?_) (fun c11 => ?_)
      · exact j_weak rfl (w_X6_frost_b110 _ hk38 _ _ _ _ _  _)
      · refine j_ldc2 (v := (48271 : Int64)) dX6_frost_59 (gt_m 1194 rfl rfl) ?_
        refine j_lload dX6_frost_62 rfl ?_
        refine j_lmul dX6_frost_64 ?_
        refine j_ldc2 (v := (2147483647 : Int64)) dX6_frost_65 (gt_m 1195 rfl rfl) ?_
        refine j_gd (fun n12 => ?_)
        refine j_lrem dX6_frost_68 n12 ?_
        refine j_lstore dX6_frost_69 (by decide) ?_
        refine j_lload dX6_frost_71 rfl ?_
        refine j_ldc2 (v := (12 : Int64)) dX6_frost_73 (gt_m 1196 rfl rfl) ?_
        refine j_gd (fun n13 => ?_)
        refine j_lrem dX6_frost_76 n13 ?_
        refine j_iload_n dX6_frost_77 rfl ?_
        refine j_i2l dX6_frost_78 ?_
        refine j_lcmp dX6_frost_79 ?_
        refine j_if_ge (tgt := 110) dX6_frost_80 (by decide) (fun c14 => ?_) (fun c14 => ?_)
        · exact j_weak rfl (w_X6_frost_b110 _ hk38 _ _ _ _ _  _)
        · refine j_aload_n dX6_frost_83 rfl ?_
          refine j_iload dX6_frost_84 rfl ?_
          refine j_iconst (v := (0 : Int32)) dX6_frost_86 (by decide) ?_
          refine jc_X6_89 (ct_X6_of _ _  _) (by decide) z_20 (Nat.le_of_ble_eq_true rfl) dX6_frost_87 (fun v15 h16 e17 => ?_)
          refine j_if_ne (tgt := 110) dX6_frost_90 (by decide) (fun c18 => ?_) (fun c18 => ?_)
          · exact j_weak rfl (w_X6_frost_b110 _ hk38 _ _ _ _ _  _)
          · refine j_aload_n dX6_frost_93 rfl ?_
            refine j_iload dX6_frost_94 rfl ?_
            refine j_iconst (v := (0 : Int32)) dX6_frost_96 (by decide) ?_
            refine j_iconst (v := (1 : Int32)) dX6_frost_97 (by decide) ?_
            refine jc_X6_101 (ct_X6_write _ _ _  _) (by decide) z_20 (Nat.le_of_ble_eq_true rfl) dX6_frost_98 (fun v19 h20 e21 => ?_)
            refine j_iload dX6_frost_101 rfl ?_
            refine j_iconst (v := (1 : Int32)) dX6_frost_103 (by decide) ?_
            refine j_iload dX6_frost_104 rfl ?_
            refine j_ishl dX6_frost_106 ?_
            refine j_ior dX6_frost_107 ?_
            refine j_istore dX6_frost_108 (by decide) ?_
            exact j_weak rfl (w_X6_frost_b110 _ hk38 _ _ _ _ _  _)
set_option maxRecDepth 20000 in
theorem ct_X6_frost (a1 : Int32) (a2 : Int32)  (h : Hp) : Ct encI yX6_frost cX6_frost 8 (some .int) 5 [aR 20 0, aI a1, aI a2] h (f_X6_frost a1 a2 h) := by
  refine ct_of [(0, aR 20 0), (1, aI a1), (2, aI a2)] (by decide) (fun _ => rfl) (fun _ => Nat.le_of_ble_eq_true rfl) ?_
  show J encI RX6 cX6_frost 8 (some .int) 5 0 [(0, aR 20 0), (1, aI a1), (2, aI a2)] [] h (f_X6_frost a1 a2 h)
  unfold f_X6_frost
  refine j_iload_n dX6_frost_0 rfl ?_
  refine j_iconst (v := (1 : Int32)) dX6_frost_1 (by decide) ?_
  refine j_ldc (v := (2147483646 : Int32)) dX6_frost_2 (gt_m 1193 rfl rfl) ?_
  refine jc_X6_51 (ct_X6_in _ _ _  _) (by decide) (Nat.le_of_ble_eq_true rfl) dX6_frost_4 (fun v1 h2 e3 => ?_)
  refine j_if_eq (tgt := 20) dX6_frost_7 (by decide) (fun c4 => ?_) (fun c4 => ?_)
  · refine j_iconst (v := (-1 : Int32)) dX6_frost_20 (by decide) ?_
    exact j_iret dX6_frost_21
  · refine j_iload_n dX6_frost_10 rfl ?_
    refine j_iconst (v := (0 : Int32)) dX6_frost_11 (by decide) ?_
    refine j_bipush (v := (12 : Int32)) dX6_frost_12 (by decide) ?_
    refine jc_X6_51 (ct_X6_in _ _ _  _) (by decide) (Nat.le_of_ble_eq_true rfl) dX6_frost_14 (fun v5 h6 e7 => ?_)
    refine j_if_ne (tgt := 22) dX6_frost_17 (by decide) (fun c8 => ?_) (fun c8 => ?_)
    · refine j_aload_n dX6_frost_22 rfl ?_
      refine j_iconst (v := (0 : Int32)) dX6_frost_23 (by decide) ?_
      refine jc_X6_171 (ct_X6_standingNow _  _) (by decide) z_20 (Nat.le_of_ble_eq_true rfl) dX6_frost_24 (fun v9 h10 e11 => ?_)
      refine j_istore_n dX6_frost_27 (by decide) ?_
      refine j_iload_n dX6_frost_28 rfl ?_
      refine j_i2l dX6_frost_29 ?_
      refine j_lstore dX6_frost_30 (by decide) ?_
      refine j_iconst (v := (0 : Int32)) dX6_frost_32 (by decide) ?_
      refine j_istore dX6_frost_33 (by decide) ?_
      refine j_iconst (v := (0 : Int32)) dX6_frost_35 (by decide) ?_
      refine j_istore dX6_frost_36 (by decide) ?_
      exact j_weak rfl (w_X6_frost_b38  _ _ _ _ _ _  _)
    · refine j_iconst (v := (-1 : Int32)) dX6_frost_20 (by decide) ?_
      exact j_iret dX6_frost_21
set_option maxRecDepth 20000 in
theorem w_X6_marked_b47 (kont13 : Int32 → Int32 → Int32 → Int32 → Int32 → Hp → Option (Int32 × Hp)) (hk13 : ∀ (a1 : Int32) (a2 : Int32) (a3 : Int32) (a4 : Int32) (a5 : Int32)  (h : Hp), J encI RX6 cX6_marked 7 (some .int) 5 13 [(0, aR 20 0), (1, aI a1), (2, aI a2), (3, aI a3), (4, aI a4), (5, aI a5)] [] h (kont13 a1 a2 a3 a4 a5 h)) (a1 : Int32) (a2 : Int32) (a3 : Int32) (a5 : Int32) (s0 : Int32)  (h : Hp) : J encI RX6 cX6_marked 7 (some .int) 5 47 [(0, aR 20 0), (1, aI a1), (2, aI a2), (3, aI a3), (5, aI a5)] [aI s0] h (f_X6_marked_b47 kont13 a1 a2 a3 a5 s0 h) := by
  unfold f_X6_marked_b47
  refine j_istore dX6_marked_47 (by decide) ?_
  refine j_iinc (v := (1 : Int32)) dX6_marked_49 rfl (by decide) (by decide) ?_
  refine j_goto (tgt := 13) dX6_marked_52 (by decide) ?_
  exact j_weak rfl (hk13 _ _ _ _ _  _)
set_option maxRecDepth 20000 in
theorem w_X6_marked_b106 (kont61 : Int32 → Int32 → Int32 → Int32 → Int32 → Int32 → Hp → Option (Int32 × Hp)) (hk61 : ∀ (a1 : Int32) (a2 : Int32) (a3 : Int32) (a4 : Int32) (a5 : Int32) (a6 : Int32)  (h : Hp), J encI RX6 cX6_marked 7 (some .int) 5 61 [(0, aR 20 0), (1, aI a1), (2, aI a2), (3, aI a3), (4, aI a4), (5, aI a5), (6, aI a6)] [] h (kont61 a1 a2 a3 a4 a5 a6 h)) (a1 : Int32) (a2 : Int32) (a3 : Int32) (a4 : Int32) (a6 : Int32) (s0 : Int32) (s1 : Int32)  (h : Hp) : J encI RX6 cX6_marked 7 (some .int) 5 106 [(0, aR 20 0), (1, aI a1), (2, aI a2), (3, aI a3), (4, aI a4), (6, aI a6)] [aI s1, aI s0] h (f_X6_marked_b106 kont61 a1 a2 a3 a4 a6 s0 s1 h) := by
  unfold f_X6_marked_b106
  refine j_iadd dX6_marked_106 ?_
  refine j_istore dX6_marked_107 (by decide) ?_
  refine j_iinc (v := (1 : Int32)) dX6_marked_109 rfl (by decide) (by decide) ?_
  refine j_goto (tgt := 61) dX6_marked_112 (by decide) ?_
  exact j_weak rfl (hk61 _ _ _ _ _ _  _)
set_option maxRecDepth 20000 in
theorem w_X6_marked_b101 (kont61 : Int32 → Int32 → Int32 → Int32 → Int32 → Int32 → Hp → Option (Int32 × Hp)) (hk61 : ∀ (a1 : Int32) (a2 : Int32) (a3 : Int32) (a4 : Int32) (a5 : Int32) (a6 : Int32)  (h : Hp), J encI RX6 cX6_marked 7 (some .int) 5 61 [(0, aR 20 0), (1, aI a1), (2, aI a2), (3, aI a3), (4, aI a4), (5, aI a5), (6, aI a6)] [] h (kont61 a1 a2 a3 a4 a5 a6 h)) (a1 : Int32) (a2 : Int32) (a3 : Int32) (a4 : Int32) (a6 : Int32) (s0 : Int32)  (h : Hp) : J encI RX6 cX6_marked 7 (some .int) 5 101 [(0, aR 20 0), (1, aI a1), (2, aI a2), (3, aI a3), (4, aI a4), (6, aI a6)] [aI s0] h (f_X6_marked_b101 kont61 a1 a2 a3 a4 a6 s0 h) := by
  unfold f_X6_marked_b101
  refine j_iconst (v := (1 : Int32)) dX6_marked_101 (by decide) ?_
  refine j_goto (tgt := 106) dX6_marked_102 (by decide) ?_
  exact j_weak rfl (w_X6_marked_b106 _ hk61 _ _ _ _ _ _ _  _)
set_option maxRecDepth 20000 in
theorem w_X6_marked_b105 (kont61 : Int32 → Int32 → Int32 → Int32 → Int32 → Int32 → Hp → Option (Int32 × Hp)) (hk61 : ∀ (a1 : Int32) (a2 : Int32) (a3 : Int32) (a4 : Int32) (a5 : Int32) (a6 : Int32)  (h : Hp), J encI RX6 cX6_marked 7 (some .int) 5 61 [(0, aR 20 0), (1, aI a1), (2, aI a2), (3, aI a3), (4, aI a4), (5, aI a5), (6, aI a6)] [] h (kont61 a1 a2 a3 a4 a5 a6 h)) (a1 : Int32) (a2 : Int32) (a3 : Int32) (a4 : Int32) (a6 : Int32) (s0 : Int32)  (h : Hp) : J encI RX6 cX6_marked 7 (some .int) 5 105 [(0, aR 20 0), (1, aI a1), (2, aI a2), (3, aI a3), (4, aI a4), (6, aI a6)] [aI s0] h (f_X6_marked_b105 kont61 a1 a2 a3 a4 a6 s0 h) := by
  unfold f_X6_marked_b105
  refine j_iconst (v := (0 : Int32)) dX6_marked_105 (by decide) ?_
  exact j_weak rfl (w_X6_marked_b106 _ hk61 _ _ _ _ _ _ _  _)
set_option maxRecDepth 20000 in
theorem w_X6_marked_b61  : ∀ (n : Nat) (a1 : Int32) (a2 : Int32) (a3 : Int32) (a4 : Int32) (a5 : Int32) (a6 : Int32)  (h : Hp), J encI RX6 cX6_marked 7 (some .int) 5 61 [(0, aR 20 0), (1, aI a1), (2, aI a2), (3, aI a3), (4, aI a4), (5, aI a5), (6, aI a6)] [] h (f_X6_marked_b61  n a1 a2 a3 a4 a5 a6 h) := by
  intro n
  induction n with
  | zero =>
    intros
    exact j_none
  | succ n hk61 =>
    intro a1 a2 a3 a4 a5 a6  h
    show J encI RX6 cX6_marked 7 (some .int) 5 61 [(0, aR 20 0), (1, aI a1), (2, aI a2), (3, aI a3), (4, aI a4), (5, aI a5), (6, aI a6)] [] h (f_X6_marked_b61_body  (f_X6_marked_b61  n) a1 a2 a3 a4 a5 a6 h)
    unfold f_X6_marked_b61_body
    refine j_iload dX6_marked_61 rfl ?_
    refine j_aload_n dX6_marked_63 rfl ?_
    refine jg_X6_129 z_20 dX6_marked_64 ?_
    refine j_icmp_ge (tgt := 115) dX6_marked_67 (by decide) (fun c1 => ?_) (fun c1 => ?_)
    · refine j_iload_n dX6_marked_115 rfl ?_
      refine j_if (fun c2 => ?_) (fun c2 => ?_)
      · refine j_tsIn (tgt := 148) (off := 32) dX6_marked_116 (by rw [c2]; decide) (by rw [c2]; decide) (by rw [c2]; rfl) (by decide) ?_
        refine j_aload_n dX6_marked_148 rfl ?_
        refine j_iload_n dX6_marked_149 rfl ?_
        refine j_iload_n dX6_marked_150 rfl ?_
        refine jc_X6_159 (ct_X6_restsOn _ _  _) (by decide) z_20 (Nat.le_of_ble_eq_true rfl) dX6_marked_151 (fun v3 h4 e5 => ?_)
        refine jc_X6_174 (ct_X6_sizeOf _  _) (by decide) (Nat.le_of_ble_eq_true rfl) dX6_marked_154 (fun v6 h7 e8 => ?_)
        exact j_iret dX6_marked_157
      refine j_if (fun c9 => ?_) (fun c9 => ?_)
      · refine j_tsIn (tgt := 158) (off := 42) dX6_marked_116 (by rw [c9]; decide) (by rw [c9]; decide) (by rw [c9]; rfl) (by decide) ?_
        refine j_aload_n dX6_marked_158 rfl ?_
        refine j_iload_n dX6_marked_159 rfl ?_
        refine j_iconst (v := (4 : Int32)) dX6_marked_160 (by decide) ?_
        refine jc_X6_89 (ct_X6_of _ _  _) (by decide) z_20 (Nat.le_of_ble_eq_true rfl) dX6_marked_161 (fun v10 h11 e12 => ?_)
        exact j_iret dX6_marked_164
      refine j_if (fun c13 => ?_) (fun c13 => ?_)
      · refine j_tsIn (tgt := 165) (off := 49) dX6_marked_116 (by rw [c13]; decide) (by rw [c13]; decide) (by rw [c13]; rfl) (by decide) ?_
        refine j_iload dX6_marked_165 rfl ?_
        exact j_iret dX6_marked_167
      refine j_if (fun c14 => ?_) (fun c14 => ?_)
      · refine j_tsIn (tgt := 168) (off := 52) dX6_marked_116 (by rw [c14]; decide) (by rw [c14]; decide) (by rw [c14]; rfl) (by decide) ?_
        refine j_aload_n dX6_marked_168 rfl ?_
        refine j_iload_n dX6_marked_169 rfl ?_
        refine j_iload_n dX6_marked_170 rfl ?_
        refine jc_X6_159 (ct_X6_restsOn _ _  _) (by decide) z_20 (Nat.le_of_ble_eq_true rfl) dX6_marked_171 (fun v15 h16 e17 => ?_)
        refine j_iconst (v := (1 : Int32)) dX6_marked_174 (by decide) ?_
        refine j_ishr dX6_marked_175 ?_
        refine j_iconst (v := (1 : Int32)) dX6_marked_176 (by decide) ?_
        refine j_iand dX6_marked_177 ?_
        exact j_iret dX6_marked_178
      refine j_tsG (tgt := 179) dX6_marked_116 ?_ (by decide) ?_
      · have hts : ∀ z : Int, 1 ≤ z → z ≤ 4 → (a2) = Int32.ofInt z → (#[32, 42, 49, 52] : Array Int)[(z - 1).toNat]? = some 63 := by
          intro z z1 z2 z3
          rcases (show z = 1 ∨ z = 2 ∨ z = 3 ∨ z = 4 by omega) with rfl | rfl | rfl | rfl
          · exact absurd (z3.trans (by decide)) c2
          · exact absurd (z3.trans (by decide)) c9
          · exact absurd (z3.trans (by decide)) c13
          · exact absurd (z3.trans (by decide)) c14
        exact ts_all hts
      · refine j_iload dX6_marked_179 rfl ?_
        exact j_iret dX6_marked_181
    · refine j_iload dX6_marked_70 rfl ?_
      refine j_iload_n dX6_marked_72 rfl ?_
      refine j_iload dX6_marked_73 rfl ?_
      refine jc_X6_150 (ct_X6_has _ _  _) (by decide) (Nat.le_of_ble_eq_true rfl) dX6_marked_75 (fun v18 h19 e20 => ?_)
      refine j_if_eq (tgt := 105) dX6_marked_78 (by decide) (fun c21 => ?_) (fun c21 => ?_)
      · exact j_weak rfl (w_X6_marked_b105 _ hk61 _ _ _ _ _ _  _)
      · refine j_aload_n dX6_marked_81 rfl ?_
        refine j_iload dX6_marked_82 rfl ?_
        refine j_iload_n dX6_marked_84 rfl ?_
        refine jc_X6_162 (ct_X6_touches _ _  _) (by decide) z_20 (Nat.le_of_ble_eq_true rfl) dX6_marked_85 (fun v22 h23 e24 => ?_)
        refine j_if_ne (tgt := 101) dX6_marked_88 (by decide) (fun c25 => ?_) (fun c25 => ?_)
        · exact j_weak rfl (w_X6_marked_b101 _ hk61 _ _ _ _ _ _  _)
        · refine j_aload_n dX6_marked_91 rfl ?_
          refine j_iload_n dX6_marked_92 rfl ?_
          refine j_iload dX6_marked_93 rfl ?_
          refine jc_X6_162 (ct_X6_touches _ _  _) (by decide) z_20 (Nat.le_of_ble_eq_true rfl) dX6_marked_95 (fun v26 h27 e28 => ?_)
          refine j_if_eq (tgt := 105) dX6_marked_98 (by decide) (fun c29 => ?_) (fun c29 => ?_)
          · exact j_weak rfl (w_X6_marked_b105 _ hk61 _ _ _ _ _ _  _)
          · exact j_weak rfl (w_X6_marked_b101 _ hk61 _ _ _ _ _ _  _)
set_option maxRecDepth 20000 in
theorem w_X6_marked_b13  : ∀ (n : Nat) (a1 : Int32) (a2 : Int32) (a3 : Int32) (a4 : Int32) (a5 : Int32)  (h : Hp), J encI RX6 cX6_marked 7 (some .int) 5 13 [(0, aR 20 0), (1, aI a1), (2, aI a2), (3, aI a3), (4, aI a4), (5, aI a5)] [] h (f_X6_marked_b13  n a1 a2 a3 a4 a5 h) := by
  intro n
  induction n with
  | zero =>
    intros
    exact j_none
  | succ n hk13 =>
    intro a1 a2 a3 a4 a5  h
    show J encI RX6 cX6_marked 7 (some .int) 5 13 [(0, aR 20 0), (1, aI a1), (2, aI a2), (3, aI a3), (4, aI a4), (5, aI a5)] [] h (f_X6_marked_b13_body  (f_X6_marked_b13  n) a1 a2 a3 a4 a5 h)
    unfold f_X6_marked_b13_body
    refine j_iload dX6_marked_13 rfl ?_
    refine j_iconst (v := (3 : Int32)) dX6_marked_15 (by decide) ?_
    refine j_icmp_ge (tgt := 55) dX6_marked_16 (by decide) (fun c1 => ?_) (fun c1 => ?_)
    · refine j_iconst (v := (0 : Int32)) dX6_marked_55 (by decide) ?_
      refine j_istore dX6_marked_56 (by decide) ?_
      refine j_iconst (v := (0 : Int32)) dX6_marked_58 (by decide) ?_
      refine j_istore dX6_marked_59 (by decide) ?_
      exact j_weak rfl (w_X6_marked_b61  _ _ _ _ _ _ _  _)
    · refine j_aload_n dX6_marked_19 rfl ?_
      refine j_iload_n dX6_marked_20 rfl ?_
      refine j_iconst (v := (3 : Int32)) dX6_marked_21 (by decide) ?_
      refine j_iload dX6_marked_22 rfl ?_
      refine j_iadd dX6_marked_24 ?_
      refine jc_X6_89 (ct_X6_of _ _  _) (by decide) z_20 (Nat.le_of_ble_eq_true rfl) dX6_marked_25 (fun v2 h3 e4 => ?_)
      refine j_iload dX6_marked_28 rfl ?_
      refine j_icmp_le (tgt := 45) dX6_marked_30 (by decide) (fun c5 => ?_) (fun c5 => ?_)
      · refine j_iload dX6_marked_45 rfl ?_
        exact j_weak rfl (w_X6_marked_b47 _ hk13 _ _ _ _ _  _)
      · refine j_aload_n dX6_marked_33 rfl ?_
        refine j_iload_n dX6_marked_34 rfl ?_
        refine j_iconst (v := (3 : Int32)) dX6_marked_35 (by decide) ?_
        refine j_iload dX6_marked_36 rfl ?_
        refine j_iadd dX6_marked_38 ?_
        refine jc_X6_89 (ct_X6_of _ _  _) (by decide) z_20 (Nat.le_of_ble_eq_true rfl) dX6_marked_39 (fun v6 h7 e8 => ?_)
        refine j_goto (tgt := 47) dX6_marked_42 (by decide) ?_
        exact j_weak rfl (w_X6_marked_b47 _ hk13 _ _ _ _ _  _)
set_option maxRecDepth 20000 in
theorem ct_X6_marked (a1 : Int32) (a2 : Int32)  (h : Hp) : Ct encI yX6_marked cX6_marked 7 (some .int) 5 [aR 20 0, aI a1, aI a2] h (f_X6_marked a1 a2 h) := by
  refine ct_of [(0, aR 20 0), (1, aI a1), (2, aI a2)] (by decide) (fun _ => rfl) (fun _ => Nat.le_of_ble_eq_true rfl) ?_
  show J encI RX6 cX6_marked 7 (some .int) 5 0 [(0, aR 20 0), (1, aI a1), (2, aI a2)] [] h (f_X6_marked a1 a2 h)
  unfold f_X6_marked
  refine j_aload_n dX6_marked_0 rfl ?_
  refine j_iconst (v := (0 : Int32)) dX6_marked_1 (by decide) ?_
  refine jc_X6_171 (ct_X6_standingNow _  _) (by decide) z_20 (Nat.le_of_ble_eq_true rfl) dX6_marked_2 (fun v1 h2 e3 => ?_)
  refine j_istore_n dX6_marked_5 (by decide) ?_
  refine j_bipush (v := (-9 : Int32)) dX6_marked_6 (by decide) ?_
  refine j_istore dX6_marked_8 (by decide) ?_
  refine j_iconst (v := (0 : Int32)) dX6_marked_10 (by decide) ?_
  refine j_istore dX6_marked_11 (by decide) ?_
  exact j_weak rfl (w_X6_marked_b13  _ _ _ _ _ _  _)
set_option maxRecDepth 20000 in
theorem w_X6_odds_b85 (kont38 : Int32 → Int32 → Int32 → Int32 → Hp → Option (Int32 × Hp)) (hk38 : ∀ (a1 : Int32) (a2 : Int32) (a4 : Int32) (a5 : Int32)  (h : Hp), J encI RX6 cX6_odds 14 (some .int) 5 38 [(0, aR 20 0), (1, aI a1), (2, aI a2), (4, aI a4), (5, aI a5)] [] h (kont38 a1 a2 a4 a5 h)) (a1 : Int32) (a2 : Int32) (a5 : Int32) (s0 : Int32) (s1 : Int32)  (h : Hp) : J encI RX6 cX6_odds 14 (some .int) 5 85 [(0, aR 20 0), (1, aI a1), (2, aI a2), (5, aI a5)] [aI s1, aI s0] h (f_X6_odds_b85 kont38 a1 a2 a5 s0 s1 h) := by
  unfold f_X6_odds_b85
  refine j_ior dX6_odds_85 ?_
  refine j_istore dX6_odds_86 (by decide) ?_
  refine j_iinc (v := (1 : Int32)) dX6_odds_88 rfl (by decide) (by decide) ?_
  refine j_goto (tgt := 38) dX6_odds_91 (by decide) ?_
  exact j_weak rfl (hk38 _ _ _ _  _)
set_option maxRecDepth 20000 in
theorem w_X6_odds_b84 (kont38 : Int32 → Int32 → Int32 → Int32 → Hp → Option (Int32 × Hp)) (hk38 : ∀ (a1 : Int32) (a2 : Int32) (a4 : Int32) (a5 : Int32)  (h : Hp), J encI RX6 cX6_odds 14 (some .int) 5 38 [(0, aR 20 0), (1, aI a1), (2, aI a2), (4, aI a4), (5, aI a5)] [] h (kont38 a1 a2 a4 a5 h)) (a1 : Int32) (a2 : Int32) (a5 : Int32) (s0 : Int32)  (h : Hp) : J encI RX6 cX6_odds 14 (some .int) 5 84 [(0, aR 20 0), (1, aI a1), (2, aI a2), (5, aI a5)] [aI s0] h (f_X6_odds_b84 kont38 a1 a2 a5 s0 h) := by
  unfold f_X6_odds_b84
  refine j_iconst (v := (0 : Int32)) dX6_odds_84 (by decide) ?_
  exact j_weak rfl (w_X6_odds_b85 _ hk38 _ _ _ _ _  _)
set_option maxRecDepth 20000 in
theorem w_X6_odds_b226 (kont144 : Int32 → Int32 → Int32 → Int64 → Int64 → Int32 → Hp → Option (Int32 × Hp)) (hk144 : ∀ (a1 : Int32) (a2 : Int32) (a4 : Int32) (a6 : Int64) (a8 : Int64) (a10 : Int32)  (h : Hp), J encI RX6 cX6_odds 14 (some .int) 5 144 [(0, aR 20 0), (1, aI a1), (2, aI a2), (4, aI a4), (6, aL a6), (8, aL a8), (10, aI a10)] [] h (kont144 a1 a2 a4 a6 a8 a10 h)) (kont180 : Int32 → Int32 → Int32 → Int64 → Int64 → Int32 → Int64 → Int32 → Hp → Option (Int32 × Hp)) (hk180 : ∀ (a1 : Int32) (a2 : Int32) (a4 : Int32) (a6 : Int64) (a8 : Int64) (a10 : Int32) (a11 : Int64) (a13 : Int32)  (h : Hp), J encI RX6 cX6_odds 14 (some .int) 5 180 [(0, aR 20 0), (1, aI a1), (2, aI a2), (4, aI a4), (6, aL a6), (8, aL a8), (10, aI a10), (11, aL a11), (13, aI a13)] [] h (kont180 a1 a2 a4 a6 a8 a10 a11 a13 h)) (a1 : Int32) (a2 : Int32) (a4 : Int32) (a6 : Int64) (a8 : Int64) (a10 : Int32) (a13 : Int32) (s0 : Int64) (s1 : Int64)  (h : Hp) : J encI RX6 cX6_odds 14 (some .int) 5 226 [(0, aR 20 0), (1, aI a1), (2, aI a2), (4, aI a4), (6, aL a6), (8, aL a8), (10, aI a10), (13, aI a13)] [aL s1, aL s0] h (f_X6_odds_b226 kont144 kont180 a1 a2 a4 a6 a8 a10 a13 s0 s1 h) := by
  unfold f_X6_odds_b226
  refine j_lmul dX6_odds_226 ?_
  refine j_lstore dX6_odds_227 (by decide) ?_
  refine j_iinc (v := (1 : Int32)) dX6_odds_229 rfl (by decide) (by decide) ?_
  refine j_goto (tgt := 180) dX6_odds_232 (by decide) ?_
  exact j_weak rfl (hk180 _ _ _ _ _ _ _ _  _)
set_option maxRecDepth 20000 in
theorem w_X6_odds_b242 (kont144 : Int32 → Int32 → Int32 → Int64 → Int64 → Int32 → Hp → Option (Int32 × Hp)) (hk144 : ∀ (a1 : Int32) (a2 : Int32) (a4 : Int32) (a6 : Int64) (a8 : Int64) (a10 : Int32)  (h : Hp), J encI RX6 cX6_odds 14 (some .int) 5 144 [(0, aR 20 0), (1, aI a1), (2, aI a2), (4, aI a4), (6, aL a6), (8, aL a8), (10, aI a10)] [] h (kont144 a1 a2 a4 a6 a8 a10 h)) (a1 : Int32) (a2 : Int32) (a4 : Int32) (a6 : Int64) (a8 : Int64) (a10 : Int32)  (h : Hp) : J encI RX6 cX6_odds 14 (some .int) 5 242 [(0, aR 20 0), (1, aI a1), (2, aI a2), (4, aI a4), (6, aL a6), (8, aL a8), (10, aI a10)] [] h (f_X6_odds_b242 kont144 a1 a2 a4 a6 a8 a10 h) := by
  unfold f_X6_odds_b242
  refine j_iinc (v := (1 : Int32)) dX6_odds_242 rfl (by decide) (by decide) ?_
  refine j_goto (tgt := 144) dX6_odds_245 (by decide) ?_
  exact j_weak rfl (hk144 _ _ _ _ _ _  _)
set_option maxRecDepth 20000 in
theorem w_X6_odds_b180 (kont144 : Int32 → Int32 → Int32 → Int64 → Int64 → Int32 → Hp → Option (Int32 × Hp)) (hk144 : ∀ (a1 : Int32) (a2 : Int32) (a4 : Int32) (a6 : Int64) (a8 : Int64) (a10 : Int32)  (h : Hp), J encI RX6 cX6_odds 14 (some .int) 5 144 [(0, aR 20 0), (1, aI a1), (2, aI a2), (4, aI a4), (6, aL a6), (8, aL a8), (10, aI a10)] [] h (kont144 a1 a2 a4 a6 a8 a10 h)) : ∀ (n : Nat) (a1 : Int32) (a2 : Int32) (a4 : Int32) (a6 : Int64) (a8 : Int64) (a10 : Int32) (a11 : Int64) (a13 : Int32)  (h : Hp), J encI RX6 cX6_odds 14 (some .int) 5 180 [(0, aR 20 0), (1, aI a1), (2, aI a2), (4, aI a4), (6, aL a6), (8, aL a8), (10, aI a10), (11, aL a11), (13, aI a13)] [] h (f_X6_odds_b180 kont144 n a1 a2 a4 a6 a8 a10 a11 a13 h) := by
  intro n
  induction n with
  | zero =>
    intros
    exact j_none
  | succ n hk180 =>
    intro a1 a2 a4 a6 a8 a10 a11 a13  h
    show J encI RX6 cX6_odds 14 (some .int) 5 180 [(0, aR 20 0), (1, aI a1), (2, aI a2), (4, aI a4), (6, aL a6), (8, aL a8), (10, aI a10), (11, aL a11), (13, aI a13)] [] h (f_X6_odds_b180_body kont144 (f_X6_odds_b180 kont144 n) a1 a2 a4 a6 a8 a10 a11 a13 h)
    unfold f_X6_odds_b180_body
    refine j_iload dX6_odds_180 rfl ?_
    refine j_aload_n dX6_odds_182 rfl ?_
    refine jg_X6_129 z_20 dX6_odds_183 ?_
    refine j_icmp_ge (tgt := 235) dX6_odds_186 (by decide) (fun c1 => ?_) (fun c1 => ?_)
    · refine j_lload dX6_odds_235 rfl ?_
      refine j_lload dX6_odds_237 rfl ?_
      refine j_ladd dX6_odds_239 ?_
      refine j_lstore dX6_odds_240 (by decide) ?_
      exact j_weak rfl (w_X6_odds_b242 _ hk144 _ _ _ _ _ _  _)
    · refine j_lload dX6_odds_189 rfl ?_
      refine j_iload dX6_odds_191 rfl ?_
      refine j_iload dX6_odds_193 rfl ?_
      refine jc_X6_150 (ct_X6_has _ _  _) (by decide) (Nat.le_of_ble_eq_true rfl) dX6_odds_195 (fun v2 h3 e4 => ?_)
      refine j_if_ne (tgt := 205) dX6_odds_198 (by decide) (fun c5 => ?_) (fun c5 => ?_)
      · refine j_iload dX6_odds_205 rfl ?_
        refine j_iload dX6_odds_207 rfl ?_
        refine jc_X6_150 (ct_X6_has _ _  _) (by decide) (Nat.le_of_ble_eq_true rfl) dX6_odds_209 (fun v6 h7 e8 => ?_)
        refine j_if_eq (tgt := 220) dX6_odds_212 (by decide) (fun c9 => ?_) (fun c9 => ?_)
        · refine j_ldc2 (v := (12 : Int64)) dX6_odds_220 (gt_m 1196 rfl rfl) ?_
          refine j_iload_n dX6_odds_223 rfl ?_
          refine j_i2l dX6_odds_224 ?_
          refine j_lsub dX6_odds_225 ?_
          exact j_weak rfl (w_X6_odds_b226 _ hk144 _ hk180 _ _ _ _ _ _ _ _ _  _)
        · refine j_iload_n dX6_odds_215 rfl ?_
          refine j_i2l dX6_odds_216 ?_
          refine j_goto (tgt := 226) dX6_odds_217 (by decide) ?_
          exact j_weak rfl (w_X6_odds_b226 _ hk144 _ hk180 _ _ _ _ _ _ _ _ _  _)
      · refine j_lconst (v := (1 : Int64)) dX6_odds_201 (by decide) ?_
        refine j_goto (tgt := 226) dX6_odds_202 (by decide) ?_
        exact j_weak rfl (w_X6_odds_b226 _ hk144 _ hk180 _ _ _ _ _ _ _ _ _  _)
set_option maxRecDepth 20000 in
theorem w_X6_odds_b144  : ∀ (n : Nat) (a1 : Int32) (a2 : Int32) (a4 : Int32) (a6 : Int64) (a8 : Int64) (a10 : Int32)  (h : Hp), J encI RX6 cX6_odds 14 (some .int) 5 144 [(0, aR 20 0), (1, aI a1), (2, aI a2), (4, aI a4), (6, aL a6), (8, aL a8), (10, aI a10)] [] h (f_X6_odds_b144  n a1 a2 a4 a6 a8 a10 h) := by
  intro n
  induction n with
  | zero =>
    intros
    exact j_none
  | succ n hk144 =>
    intro a1 a2 a4 a6 a8 a10  h
    show J encI RX6 cX6_odds 14 (some .int) 5 144 [(0, aR 20 0), (1, aI a1), (2, aI a2), (4, aI a4), (6, aL a6), (8, aL a8), (10, aI a10)] [] h (f_X6_odds_b144_body  (f_X6_odds_b144  n) a1 a2 a4 a6 a8 a10 h)
    unfold f_X6_odds_b144_body
    refine j_iload dX6_odds_144 rfl ?_
    refine j_iload dX6_odds_146 rfl ?_
    refine j_icmp_gt (tgt := 248) dX6_odds_148 (by decide) (fun c1 => ?_) (fun c1 => ?_)
    · refine j_aload_n dX6_odds_248 rfl ?_
      refine j_lload dX6_odds_249 rfl ?_
      refine j_lload dX6_odds_251 rfl ?_
      refine j_iconst (v := (1 : Int32)) dX6_odds_253 (by decide) ?_
      refine jc_X6_220 (ct_X6_part _ _ _  _) (by decide) z_20 (Nat.le_of_ble_eq_true rfl) dX6_odds_254 (fun v2 h3 e4 => ?_)
      exact j_iret dX6_odds_257
    · refine j_iload dX6_odds_151 rfl ?_
      refine j_iload dX6_odds_153 rfl ?_
      refine j_iconst (v := (-1 : Int32)) dX6_odds_155 (by decide) ?_
      refine j_ixor dX6_odds_156 ?_
      refine j_iand dX6_odds_157 ?_
      refine j_if_ne (tgt := 242) dX6_odds_158 (by decide) (fun c5 => ?_) (fun c5 => ?_)
      · exact j_weak rfl (w_X6_odds_b242 _ hk144 _ _ _ _ _ _  _)
      · refine j_aload_n dX6_odds_161 rfl ?_
        refine j_iload dX6_odds_162 rfl ?_
        refine jc_X6_171 (ct_X6_standingNow _  _) (by decide) z_20 (Nat.le_of_ble_eq_true rfl) dX6_odds_164 (fun v6 h7 e8 => ?_)
        refine j_iload_n dX6_odds_167 rfl ?_
        refine jc_X6_150 (ct_X6_has _ _  _) (by decide) (Nat.le_of_ble_eq_true rfl) dX6_odds_168 (fun v9 h10 e11 => ?_)
        refine j_if_eq (tgt := 242) dX6_odds_171 (by decide) (fun c12 => ?_) (fun c12 => ?_)
        · exact j_weak rfl (w_X6_odds_b242 _ hk144 _ _ _ _ _ _  _)
        · refine j_lconst (v := (1 : Int64)) dX6_odds_174 (by decide) ?_
          refine j_lstore dX6_odds_175 (by decide) ?_
          refine j_iconst (v := (0 : Int32)) dX6_odds_177 (by decide) ?_
          refine j_istore dX6_odds_178 (by decide) ?_
          exact j_weak rfl (w_X6_odds_b180 _ hk144 _ _ _ _ _ _ _ _ _  _)
set_option maxRecDepth 20000 in
theorem w_X6_odds_b117  : ∀ (n : Nat) (a1 : Int32) (a2 : Int32) (a4 : Int32) (a5 : Int32) (a6 : Int64) (a8 : Int32)  (h : Hp), J encI RX6 cX6_odds 14 (some .int) 5 117 [(0, aR 20 0), (1, aI a1), (2, aI a2), (4, aI a4), (5, aI a5), (6, aL a6), (8, aI a8)] [] h (f_X6_odds_b117  n a1 a2 a4 a5 a6 a8 h) := by
  intro n
  induction n with
  | zero =>
    intros
    exact j_none
  | succ n hk117 =>
    intro a1 a2 a4 a5 a6 a8  h
    show J encI RX6 cX6_odds 14 (some .int) 5 117 [(0, aR 20 0), (1, aI a1), (2, aI a2), (4, aI a4), (5, aI a5), (6, aL a6), (8, aI a8)] [] h (f_X6_odds_b117_body  (f_X6_odds_b117  n) a1 a2 a4 a5 a6 a8 h)
    unfold f_X6_odds_b117_body
    refine j_iload dX6_odds_117 rfl ?_
    refine j_iload dX6_odds_119 rfl ?_
    refine j_icmp_ge (tgt := 138) dX6_odds_121 (by decide) (fun c1 => ?_) (fun c1 => ?_)
    · refine j_lconst (v := (0 : Int64)) dX6_odds_138 (by decide) ?_
      refine j_lstore dX6_odds_139 (by decide) ?_
      refine j_iconst (v := (0 : Int32)) dX6_odds_141 (by decide) ?_
      refine j_istore dX6_odds_142 (by decide) ?_
      exact j_weak rfl (w_X6_odds_b144  _ _ _ _ _ _ _  _)
    · refine j_lload dX6_odds_124 rfl ?_
      refine j_ldc2 (v := (12 : Int64)) dX6_odds_126 (gt_m 1196 rfl rfl) ?_
      refine j_lmul dX6_odds_129 ?_
      refine j_lstore dX6_odds_130 (by decide) ?_
      refine j_iinc (v := (1 : Int32)) dX6_odds_132 rfl (by decide) (by decide) ?_
      refine j_goto (tgt := 117) dX6_odds_135 (by decide) ?_
      exact j_weak rfl (hk117 _ _ _ _ _ _  _)
set_option maxRecDepth 20000 in
theorem w_X6_odds_b38  : ∀ (n : Nat) (a1 : Int32) (a2 : Int32) (a4 : Int32) (a5 : Int32)  (h : Hp), J encI RX6 cX6_odds 14 (some .int) 5 38 [(0, aR 20 0), (1, aI a1), (2, aI a2), (4, aI a4), (5, aI a5)] [] h (f_X6_odds_b38  n a1 a2 a4 a5 h) := by
  intro n
  induction n with
  | zero =>
    intros
    exact j_none
  | succ n hk38 =>
    intro a1 a2 a4 a5  h
    show J encI RX6 cX6_odds 14 (some .int) 5 38 [(0, aR 20 0), (1, aI a1), (2, aI a2), (4, aI a4), (5, aI a5)] [] h (f_X6_odds_b38_body  (f_X6_odds_b38  n) a1 a2 a4 a5 h)
    unfold f_X6_odds_b38_body
    refine j_iload dX6_odds_38 rfl ?_
    refine j_aload_n dX6_odds_40 rfl ?_
    refine jg_X6_129 z_20 dX6_odds_41 ?_
    refine j_icmp_ge (tgt := 94) dX6_odds_44 (by decide) (fun c1 => ?_) (fun c1 => ?_)
    · refine j_iload dX6_odds_94 rfl ?_
      refine jc_X6_174 (ct_X6_sizeOf _  _) (by decide) (Nat.le_of_ble_eq_true rfl) dX6_odds_96 (fun v2 h3 e4 => ?_)
      refine j_istore dX6_odds_99 (by decide) ?_
      refine j_iload dX6_odds_101 rfl ?_
      refine j_bipush (v := (9 : Int32)) dX6_odds_103 (by decide) ?_
      refine j_icmp_le (tgt := 111) dX6_odds_105 (by decide) (fun c5 => ?_) (fun c5 => ?_)
      · refine j_lconst (v := (1 : Int64)) dX6_odds_111 (by decide) ?_
        refine j_lstore dX6_odds_112 (by decide) ?_
        refine j_iconst (v := (0 : Int32)) dX6_odds_114 (by decide) ?_
        refine j_istore dX6_odds_115 (by decide) ?_
        exact j_weak rfl (w_X6_odds_b117  _ _ _ _ _ _ _  _)
      · refine j_bipush (v := (-6 : Int32)) dX6_odds_108 (by decide) ?_
        exact j_iret dX6_odds_110
    · refine j_iload dX6_odds_47 rfl ?_
      refine j_aload_n dX6_odds_49 rfl ?_
      refine jg_X6_132 z_20 dX6_odds_50 ?_
      refine j_iload dX6_odds_53 rfl ?_
      refine jc_X6_150 (ct_X6_has _ _  _) (by decide) (Nat.le_of_ble_eq_true rfl) dX6_odds_55 (fun v6 h7 e8 => ?_)
      refine j_if_eq (tgt := 84) dX6_odds_58 (by decide) (fun c9 => ?_) (fun c9 => ?_)
      · exact j_weak rfl (w_X6_odds_b84 _ hk38 _ _ _ _  _)
      · refine j_aload_n dX6_odds_61 rfl ?_
        refine j_iload dX6_odds_62 rfl ?_
        refine j_iconst (v := (1 : Int32)) dX6_odds_64 (by decide) ?_
        refine jc_X6_89 (ct_X6_of _ _  _) (by decide) z_20 (Nat.le_of_ble_eq_true rfl) dX6_odds_65 (fun v10 h11 e12 => ?_)
        refine j_aload_n dX6_odds_68 rfl ?_
        refine j_iload_n dX6_odds_69 rfl ?_
        refine j_iconst (v := (1 : Int32)) dX6_odds_70 (by decide) ?_
        refine jc_X6_89 (ct_X6_of _ _  _) (by decide) z_20 (Nat.le_of_ble_eq_true rfl) dX6_odds_71 (fun v13 h14 e15 => ?_)
        refine j_icmp_ge (tgt := 84) dX6_odds_74 (by decide) (fun c16 => ?_) (fun c16 => ?_)
        · exact j_weak rfl (w_X6_odds_b84 _ hk38 _ _ _ _  _)
        · refine j_iconst (v := (1 : Int32)) dX6_odds_77 (by decide) ?_
          refine j_iload dX6_odds_78 rfl ?_
          refine j_ishl dX6_odds_80 ?_
          refine j_goto (tgt := 85) dX6_odds_81 (by decide) ?_
          exact j_weak rfl (w_X6_odds_b85 _ hk38 _ _ _ _ _  _)
set_option maxRecDepth 20000 in
theorem ct_X6_odds (a1 : Int32) (a2 : Int32)  (h : Hp) : Ct encI yX6_odds cX6_odds 14 (some .int) 5 [aR 20 0, aI a1, aI a2] h (f_X6_odds a1 a2 h) := by
  refine ct_of [(0, aR 20 0), (1, aI a1), (2, aI a2)] (by decide) (fun _ => rfl) (fun _ => Nat.le_of_ble_eq_true rfl) ?_
  show J encI RX6 cX6_odds 14 (some .int) 5 0 [(0, aR 20 0), (1, aI a1), (2, aI a2)] [] h (f_X6_odds a1 a2 h)
  unfold f_X6_odds
  refine j_aload_n dX6_odds_0 rfl ?_
  refine j_iload_n dX6_odds_1 rfl ?_
  refine jc_X6_153 (ct_X6_isBrick _  _) (by decide) z_20 (Nat.le_of_ble_eq_true rfl) dX6_odds_2 (fun v1 h2 e3 => ?_)
  refine j_if_eq (tgt := 18) dX6_odds_5 (by decide) (fun c4 => ?_) (fun c4 => ?_)
  · refine j_iconst (v := (-1 : Int32)) dX6_odds_18 (by decide) ?_
    exact j_iret dX6_odds_19
  · refine j_iload_n dX6_odds_8 rfl ?_
    refine j_iconst (v := (0 : Int32)) dX6_odds_9 (by decide) ?_
    refine j_bipush (v := (12 : Int32)) dX6_odds_10 (by decide) ?_
    refine jc_X6_51 (ct_X6_in _ _ _  _) (by decide) (Nat.le_of_ble_eq_true rfl) dX6_odds_12 (fun v5 h6 e7 => ?_)
    refine j_if_ne (tgt := 20) dX6_odds_15 (by decide) (fun c8 => ?_) (fun c8 => ?_)
    · refine j_aload_n dX6_odds_20 rfl ?_
      refine j_iload_n dX6_odds_21 rfl ?_
      refine jc_X6_183 (ct_X6_askedIn _  _) (by decide) z_20 (Nat.le_of_ble_eq_true rfl) dX6_odds_22 (fun v9 h10 e11 => ?_)
      refine j_istore_n dX6_odds_25 (by decide) ?_
      refine j_iload_n dX6_odds_26 rfl ?_
      refine j_if_ge (tgt := 32) dX6_odds_27 (by decide) (fun c12 => ?_) (fun c12 => ?_)
      · refine j_iconst (v := (0 : Int32)) dX6_odds_32 (by decide) ?_
        refine j_istore dX6_odds_33 (by decide) ?_
        refine j_iconst (v := (0 : Int32)) dX6_odds_35 (by decide) ?_
        refine j_istore dX6_odds_36 (by decide) ?_
        exact j_weak rfl (w_X6_odds_b38  _ _ _ _ _  _)
      · refine j_iload_n dX6_odds_30 rfl ?_
        exact j_iret dX6_odds_31
    · refine j_iconst (v := (-1 : Int32)) dX6_odds_18 (by decide) ?_
      exact j_iret dX6_odds_19
set_option maxRecDepth 20000 in
theorem w_X6_rests_b106 (kont20 : Int32 → Int32 → Int32 → Int32 → Hp → Option (Int32 × Hp)) (hk20 : ∀ (a1 : Int32) (a3 : Int32) (a4 : Int32) (a5 : Int32)  (h : Hp), J encI RX6 cX6_rests 6 (some .int) 5 20 [(0, aR 20 0), (1, aI a1), (3, aI a3), (4, aI a4), (5, aI a5)] [] h (kont20 a1 a3 a4 a5 h)) (a1 : Int32) (a3 : Int32) (a5 : Int32) (s0 : Int32) (s1 : Int32)  (h : Hp) : J encI RX6 cX6_rests 6 (some .int) 5 106 [(0, aR 20 0), (1, aI a1), (3, aI a3), (5, aI a5)] [aI s1, aI s0] h (f_X6_rests_b106 kont20 a1 a3 a5 s0 s1 h) := by
  unfold f_X6_rests_b106
  refine j_ior dX6_rests_106 ?_
  refine j_istore dX6_rests_107 (by decide) ?_
  refine j_iinc (v := (1 : Int32)) dX6_rests_109 rfl (by decide) (by decide) ?_
  refine j_goto (tgt := 20) dX6_rests_112 (by decide) ?_
  exact j_weak rfl (hk20 _ _ _ _  _)
set_option maxRecDepth 20000 in
theorem w_X6_rests_b105 (kont20 : Int32 → Int32 → Int32 → Int32 → Hp → Option (Int32 × Hp)) (hk20 : ∀ (a1 : Int32) (a3 : Int32) (a4 : Int32) (a5 : Int32)  (h : Hp), J encI RX6 cX6_rests 6 (some .int) 5 20 [(0, aR 20 0), (1, aI a1), (3, aI a3), (4, aI a4), (5, aI a5)] [] h (kont20 a1 a3 a4 a5 h)) (a1 : Int32) (a3 : Int32) (a5 : Int32) (s0 : Int32)  (h : Hp) : J encI RX6 cX6_rests 6 (some .int) 5 105 [(0, aR 20 0), (1, aI a1), (3, aI a3), (5, aI a5)] [aI s0] h (f_X6_rests_b105 kont20 a1 a3 a5 s0 h) := by
  unfold f_X6_rests_b105
  refine j_iconst (v := (0 : Int32)) dX6_rests_105 (by decide) ?_
  exact j_weak rfl (w_X6_rests_b106 _ hk20 _ _ _ _ _  _)
set_option maxRecDepth 20000 in
theorem w_X6_rests_b66 (kont20 : Int32 → Int32 → Int32 → Int32 → Hp → Option (Int32 × Hp)) (hk20 : ∀ (a1 : Int32) (a3 : Int32) (a4 : Int32) (a5 : Int32)  (h : Hp), J encI RX6 cX6_rests 6 (some .int) 5 20 [(0, aR 20 0), (1, aI a1), (3, aI a3), (4, aI a4), (5, aI a5)] [] h (kont20 a1 a3 a4 a5 h)) (a1 : Int32) (a4 : Int32) (a5 : Int32) (s0 : Int32) (s1 : Int32)  (h : Hp) : J encI RX6 cX6_rests 6 (some .int) 5 66 [(0, aR 20 0), (1, aI a1), (4, aI a4), (5, aI a5)] [aI s1, aI s0] h (f_X6_rests_b66 kont20 a1 a4 a5 s0 s1 h) := by
  unfold f_X6_rests_b66
  refine j_ior dX6_rests_66 ?_
  refine j_istore_n dX6_rests_67 (by decide) ?_
  refine j_iload dX6_rests_68 rfl ?_
  refine j_aload_n dX6_rests_70 rfl ?_
  refine j_iload dX6_rests_71 rfl ?_
  refine j_iconst (v := (1 : Int32)) dX6_rests_73 (by decide) ?_
  refine jc_X6_89 (ct_X6_of _ _  _) (by decide) z_20 (Nat.le_of_ble_eq_true rfl) dX6_rests_74 (fun v1 h2 e3 => ?_)
  refine j_aload_n dX6_rests_77 rfl ?_
  refine j_iload_n dX6_rests_78 rfl ?_
  refine j_iconst (v := (1 : Int32)) dX6_rests_79 (by decide) ?_
  refine jc_X6_89 (ct_X6_of _ _  _) (by decide) z_20 (Nat.le_of_ble_eq_true rfl) dX6_rests_80 (fun v4 h5 e6 => ?_)
  refine j_iconst (v := (1 : Int32)) dX6_rests_83 (by decide) ?_
  refine j_iadd dX6_rests_84 ?_
  refine j_icmp_ne (tgt := 105) dX6_rests_85 (by decide) (fun c7 => ?_) (fun c7 => ?_)
  · exact j_weak rfl (w_X6_rests_b105 _ hk20 _ _ _ _  _)
  · refine j_aload_n dX6_rests_88 rfl ?_
    refine j_iload dX6_rests_89 rfl ?_
    refine j_iload_n dX6_rests_91 rfl ?_
    refine jc_X6_110 (ct_X6_over _ _  _) (by decide) z_20 (Nat.le_of_ble_eq_true rfl) dX6_rests_92 (fun v8 h9 e10 => ?_)
    refine j_if_eq (tgt := 105) dX6_rests_95 (by decide) (fun c11 => ?_) (fun c11 => ?_)
    · exact j_weak rfl (w_X6_rests_b105 _ hk20 _ _ _ _  _)
    · refine j_iconst (v := (1 : Int32)) dX6_rests_98 (by decide) ?_
      refine j_iload dX6_rests_99 rfl ?_
      refine j_ishl dX6_rests_101 ?_
      refine j_goto (tgt := 106) dX6_rests_102 (by decide) ?_
      exact j_weak rfl (w_X6_rests_b106 _ hk20 _ _ _ _ _  _)
set_option maxRecDepth 20000 in
theorem w_X6_rests_b65 (kont20 : Int32 → Int32 → Int32 → Int32 → Hp → Option (Int32 × Hp)) (hk20 : ∀ (a1 : Int32) (a3 : Int32) (a4 : Int32) (a5 : Int32)  (h : Hp), J encI RX6 cX6_rests 6 (some .int) 5 20 [(0, aR 20 0), (1, aI a1), (3, aI a3), (4, aI a4), (5, aI a5)] [] h (kont20 a1 a3 a4 a5 h)) (a1 : Int32) (a4 : Int32) (a5 : Int32) (s0 : Int32)  (h : Hp) : J encI RX6 cX6_rests 6 (some .int) 5 65 [(0, aR 20 0), (1, aI a1), (4, aI a4), (5, aI a5)] [aI s0] h (f_X6_rests_b65 kont20 a1 a4 a5 s0 h) := by
  unfold f_X6_rests_b65
  refine j_iconst (v := (0 : Int32)) dX6_rests_65 (by decide) ?_
  exact j_weak rfl (w_X6_rests_b66 _ hk20 _ _ _ _ _  _)
set_option maxRecDepth 20000 in
theorem w_X6_rests_b20  : ∀ (n : Nat) (a1 : Int32) (a3 : Int32) (a4 : Int32) (a5 : Int32)  (h : Hp), J encI RX6 cX6_rests 6 (some .int) 5 20 [(0, aR 20 0), (1, aI a1), (3, aI a3), (4, aI a4), (5, aI a5)] [] h (f_X6_rests_b20  n a1 a3 a4 a5 h) := by
  intro n
  induction n with
  | zero =>
    intros
    exact j_none
  | succ n hk20 =>
    intro a1 a3 a4 a5  h
    show J encI RX6 cX6_rests 6 (some .int) 5 20 [(0, aR 20 0), (1, aI a1), (3, aI a3), (4, aI a4), (5, aI a5)] [] h (f_X6_rests_b20_body  (f_X6_rests_b20  n) a1 a3 a4 a5 h)
    unfold f_X6_rests_b20_body
    refine j_iload dX6_rests_20 rfl ?_
    refine j_aload_n dX6_rests_22 rfl ?_
    refine jg_X6_129 z_20 dX6_rests_23 ?_
    refine j_icmp_ge (tgt := 115) dX6_rests_26 (by decide) (fun c1 => ?_) (fun c1 => ?_)
    · refine j_aload_n dX6_rests_115 rfl ?_
      refine j_iload dX6_rests_116 rfl ?_
      refine j_aload_n dX6_rests_118 rfl ?_
      refine jg_X6_132 z_20 dX6_rests_119 ?_
      refine j_iand dX6_rests_122 ?_
      refine j_iload_n dX6_rests_123 rfl ?_
      refine j_aload_n dX6_rests_124 rfl ?_
      refine j_iconst (v := (0 : Int32)) dX6_rests_125 (by decide) ?_
      refine jc_X6_171 (ct_X6_standingNow _  _) (by decide) z_20 (Nat.le_of_ble_eq_true rfl) dX6_rests_126 (fun v2 h3 e4 => ?_)
      refine j_iand dX6_rests_129 ?_
      refine jc_X6_77 (ct_X6_ask _ _  _) (by decide) z_20 (Nat.le_of_ble_eq_true rfl) dX6_rests_130 (fun v5 h6 e7 => ?_)
      exact j_iret dX6_rests_133
    · refine j_iload_n dX6_rests_29 rfl ?_
      refine j_aload_n dX6_rests_30 rfl ?_
      refine j_iload dX6_rests_31 rfl ?_
      refine j_iconst (v := (1 : Int32)) dX6_rests_33 (by decide) ?_
      refine jc_X6_89 (ct_X6_of _ _  _) (by decide) z_20 (Nat.le_of_ble_eq_true rfl) dX6_rests_34 (fun v8 h9 e10 => ?_)
      refine j_aload_n dX6_rests_37 rfl ?_
      refine j_iload_n dX6_rests_38 rfl ?_
      refine j_iconst (v := (1 : Int32)) dX6_rests_39 (by decide) ?_
      refine jc_X6_89 (ct_X6_of _ _  _) (by decide) z_20 (Nat.le_of_ble_eq_true rfl) dX6_rests_40 (fun v11 h12 e13 => ?_)
      refine j_iconst (v := (1 : Int32)) dX6_rests_43 (by decide) ?_
      refine j_isub dX6_rests_44 ?_
      refine j_icmp_ne (tgt := 65) dX6_rests_45 (by decide) (fun c14 => ?_) (fun c14 => ?_)
      · exact j_weak rfl (w_X6_rests_b65 _ hk20 _ _ _ _  _)
      · refine j_aload_n dX6_rests_48 rfl ?_
        refine j_iload dX6_rests_49 rfl ?_
        refine j_iload_n dX6_rests_51 rfl ?_
        refine jc_X6_110 (ct_X6_over _ _  _) (by decide) z_20 (Nat.le_of_ble_eq_true rfl) dX6_rests_52 (fun v15 h16 e17 => ?_)
        refine j_if_eq (tgt := 65) dX6_rests_55 (by decide) (fun c18 => ?_) (fun c18 => ?_)
        · exact j_weak rfl (w_X6_rests_b65 _ hk20 _ _ _ _  _)
        · refine j_iconst (v := (1 : Int32)) dX6_rests_58 (by decide) ?_
          refine j_iload dX6_rests_59 rfl ?_
          refine j_ishl dX6_rests_61 ?_
          refine j_goto (tgt := 66) dX6_rests_62 (by decide) ?_
          exact j_weak rfl (w_X6_rests_b66 _ hk20 _ _ _ _ _  _)
set_option maxRecDepth 20000 in
theorem ct_X6_rests (a1 : Int32)  (h : Hp) : Ct encI yX6_rests cX6_rests 6 (some .int) 5 [aR 20 0, aI a1] h (f_X6_rests a1 h) := by
  refine ct_of [(0, aR 20 0), (1, aI a1)] (by decide) (fun _ => rfl) (fun _ => Nat.le_of_ble_eq_true rfl) ?_
  show J encI RX6 cX6_rests 6 (some .int) 5 0 [(0, aR 20 0), (1, aI a1)] [] h (f_X6_rests a1 h)
  unfold f_X6_rests
  refine j_aload_n dX6_rests_0 rfl ?_
  refine j_iload_n dX6_rests_1 rfl ?_
  refine jc_X6_183 (ct_X6_askedIn _  _) (by decide) z_20 (Nat.le_of_ble_eq_true rfl) dX6_rests_2 (fun v1 h2 e3 => ?_)
  refine j_istore_n dX6_rests_5 (by decide) ?_
  refine j_iload_n dX6_rests_6 rfl ?_
  refine j_if_ge (tgt := 12) dX6_rests_7 (by decide) (fun c4 => ?_) (fun c4 => ?_)
  · refine j_iconst (v := (0 : Int32)) dX6_rests_12 (by decide) ?_
    refine j_istore_n dX6_rests_13 (by decide) ?_
    refine j_iconst (v := (0 : Int32)) dX6_rests_14 (by decide) ?_
    refine j_istore dX6_rests_15 (by decide) ?_
    refine j_iconst (v := (0 : Int32)) dX6_rests_17 (by decide) ?_
    refine j_istore dX6_rests_18 (by decide) ?_
    exact j_weak rfl (w_X6_rests_b20  _ _ _ _ _  _)
  · refine j_iload_n dX6_rests_10 rfl ?_
    exact j_iret dX6_rests_11
set_option maxRecDepth 20000 in
theorem ct_X6_set (a1 : Int32) (a2 : Int32) (a3 : Int32) (a4 : Int32)  (h : Hp) : Ct encI yX6_set cX6_set 5 (some .int) 5 [aR 20 0, aI a1, aI a2, aI a3, aI a4] h (f_X6_set a1 a2 a3 a4 h) := by
  refine ct_of [(0, aR 20 0), (1, aI a1), (2, aI a2), (3, aI a3), (4, aI a4)] (by decide) (fun _ => rfl) (fun _ => Nat.le_of_ble_eq_true rfl) ?_
  show J encI RX6 cX6_set 5 (some .int) 5 0 [(0, aR 20 0), (1, aI a1), (2, aI a2), (3, aI a3), (4, aI a4)] [] h (f_X6_set a1 a2 a3 a4 h)
  unfold f_X6_set
  refine j_iload_n dX6_set_0 rfl ?_
  refine j_iconst (v := (0 : Int32)) dX6_set_1 (by decide) ?_
  refine j_iconst (v := (5 : Int32)) dX6_set_2 (by decide) ?_
  refine jc_X6_51 (ct_X6_in _ _ _  _) (by decide) (Nat.le_of_ble_eq_true rfl) dX6_set_3 (fun v1 h2 e3 => ?_)
  refine j_if_eq (tgt := 40) dX6_set_6 (by decide) (fun c4 => ?_) (fun c4 => ?_)
  · refine j_iconst (v := (-1 : Int32)) dX6_set_40 (by decide) ?_
    exact j_iret dX6_set_41
  · refine j_iload_n dX6_set_9 rfl ?_
    refine j_iconst (v := (0 : Int32)) dX6_set_10 (by decide) ?_
    refine j_bipush (v := (8 : Int32)) dX6_set_11 (by decide) ?_
    refine jc_X6_51 (ct_X6_in _ _ _  _) (by decide) (Nat.le_of_ble_eq_true rfl) dX6_set_13 (fun v5 h6 e7 => ?_)
    refine j_if_eq (tgt := 40) dX6_set_16 (by decide) (fun c8 => ?_) (fun c8 => ?_)
    · refine j_iconst (v := (-1 : Int32)) dX6_set_40 (by decide) ?_
      exact j_iret dX6_set_41
    · refine j_iload_n dX6_set_19 rfl ?_
      refine jc_X6_180 (ct_X6_isOne _  _) (by decide) (Nat.le_of_ble_eq_true rfl) dX6_set_20 (fun v9 h10 e11 => ?_)
      refine j_if_eq (tgt := 40) dX6_set_23 (by decide) (fun c12 => ?_) (fun c12 => ?_)
      · refine j_iconst (v := (-1 : Int32)) dX6_set_40 (by decide) ?_
        exact j_iret dX6_set_41
      · refine j_iload dX6_set_26 rfl ?_
        refine jc_X6_180 (ct_X6_isOne _  _) (by decide) (Nat.le_of_ble_eq_true rfl) dX6_set_28 (fun v13 h14 e15 => ?_)
        refine j_if_eq (tgt := 40) dX6_set_31 (by decide) (fun c16 => ?_) (fun c16 => ?_)
        · refine j_iconst (v := (-1 : Int32)) dX6_set_40 (by decide) ?_
          exact j_iret dX6_set_41
        · refine j_iload_n dX6_set_34 rfl ?_
          refine j_iload dX6_set_35 rfl ?_
          refine j_icmp_ne (tgt := 42) dX6_set_37 (by decide) (fun c17 => ?_) (fun c17 => ?_)
          · refine j_aload_n dX6_set_42 rfl ?_
            refine jg_X6_129 z_20 dX6_set_43 ?_
            refine j_bipush (v := (14 : Int32)) dX6_set_46 (by decide) ?_
            refine j_icmp_ne (tgt := 54) dX6_set_48 (by decide) (fun c18 => ?_) (fun c18 => ?_)
            · refine j_aload_n dX6_set_54 rfl ?_
              refine jg_X6_126 z_20 dX6_set_55 ?_
              refine j_if_eq (tgt := 70) dX6_set_58 (by decide) (fun c19 => ?_) (fun c19 => ?_)
              · refine j_bipush (v := (-4 : Int32)) dX6_set_70 (by decide) ?_
                exact j_iret dX6_set_72
              · refine j_aload_n dX6_set_61 rfl ?_
                refine j_iload_n dX6_set_62 rfl ?_
                refine j_iload_n dX6_set_63 rfl ?_
                refine jc_X6_207 (ct_X6_mayLie _ _  _) (by decide) z_20 (Nat.le_of_ble_eq_true rfl) dX6_set_64 (fun v20 h21 e22 => ?_)
                refine j_if_ne (tgt := 73) dX6_set_67 (by decide) (fun c23 => ?_) (fun c23 => ?_)
                · refine j_aload_n dX6_set_73 rfl ?_
                  refine j_aload_n dX6_set_74 rfl ?_
                  refine jg_X6_129 z_20 dX6_set_75 ?_
                  refine j_iconst (v := (3 : Int32)) dX6_set_78 (by decide) ?_
                  refine j_iload_n dX6_set_79 rfl ?_
                  refine jc_X6_101 (ct_X6_write _ _ _  _) (by decide) z_20 (Nat.le_of_ble_eq_true rfl) dX6_set_80 (fun v24 h25 e26 => ?_)
                  refine j_aload_n dX6_set_83 rfl ?_
                  refine j_aload_n dX6_set_84 rfl ?_
                  refine jg_X6_129 z_20 dX6_set_85 ?_
                  refine j_iconst (v := (4 : Int32)) dX6_set_88 (by decide) ?_
                  refine j_iload dX6_set_89 rfl ?_
                  refine jc_X6_101 (ct_X6_write _ _ _  _) (by decide) z_20 (Nat.le_of_ble_eq_true rfl) dX6_set_91 (fun v27 h28 e29 => ?_)
                  refine j_aload_n dX6_set_94 rfl ?_
                  refine j_aload_n dX6_set_95 rfl ?_
                  refine jg_X6_129 z_20 dX6_set_96 ?_
                  refine j_iconst (v := (5 : Int32)) dX6_set_99 (by decide) ?_
                  refine j_bipush (v := (-9 : Int32)) dX6_set_100 (by decide) ?_
                  refine jc_X6_101 (ct_X6_write _ _ _  _) (by decide) z_20 (Nat.le_of_ble_eq_true rfl) dX6_set_102 (fun v30 h31 e32 => ?_)
                  refine j_aload_n dX6_set_105 rfl ?_
                  refine j_aload_n dX6_set_106 rfl ?_
                  refine jg_X6_129 z_20 dX6_set_107 ?_
                  refine j_bipush (v := (6 : Int32)) dX6_set_110 (by decide) ?_
                  refine j_bipush (v := (-9 : Int32)) dX6_set_112 (by decide) ?_
                  refine jc_X6_101 (ct_X6_write _ _ _  _) (by decide) z_20 (Nat.le_of_ble_eq_true rfl) dX6_set_114 (fun v33 h34 e35 => ?_)
                  refine j_aload_n dX6_set_117 rfl ?_
                  refine j_dup dX6_set_118 rfl ?_
                  refine jg_X6_132 z_20 dX6_set_119 ?_
                  refine j_iconst (v := (1 : Int32)) dX6_set_122 (by decide) ?_
                  refine j_aload_n dX6_set_123 rfl ?_
                  refine jg_X6_129 z_20 dX6_set_124 ?_
                  refine j_ishl dX6_set_127 ?_
                  refine j_ior dX6_set_128 ?_
                  refine jp_X6_132 z_20 dX6_set_129 ?_
                  refine j_aload_n dX6_set_132 rfl ?_
                  refine j_dup dX6_set_133 rfl ?_
                  refine jg_X6_129 z_20 dX6_set_134 ?_
                  refine j_iconst (v := (1 : Int32)) dX6_set_137 (by decide) ?_
                  refine j_iadd dX6_set_138 ?_
                  refine jp_X6_129 z_20 dX6_set_139 ?_
                  refine j_aload_n dX6_set_142 rfl ?_
                  refine jg_X6_129 z_20 dX6_set_143 ?_
                  refine j_iconst (v := (1 : Int32)) dX6_set_146 (by decide) ?_
                  refine j_isub dX6_set_147 ?_
                  exact j_iret dX6_set_148
                · refine j_bipush (v := (-4 : Int32)) dX6_set_70 (by decide) ?_
                  exact j_iret dX6_set_72
            · refine j_bipush (v := (-2 : Int32)) dX6_set_51 (by decide) ?_
              exact j_iret dX6_set_53
          · refine j_iconst (v := (-1 : Int32)) dX6_set_40 (by decide) ?_
            exact j_iret dX6_set_41
set_option maxRecDepth 20000 in
theorem w_X6_soon_b169 (kont17 : Int32 → Int32 → Int32 → Hp → Option (Int32 × Hp)) (hk17 : ∀ (a1 : Int32) (a2 : Int32) (a3 : Int32)  (h : Hp), J encI RX6 cX6_soon 8 (some .int) 5 17 [(0, aR 20 0), (1, aI a1), (2, aI a2), (3, aI a3)] [] h (kont17 a1 a2 a3 h)) (kont35 : Int32 → Int32 → Int32 → Int32 → Hp → Option (Int32 × Hp)) (hk35 : ∀ (a1 : Int32) (a2 : Int32) (a3 : Int32) (a4 : Int32)  (h : Hp), J encI RX6 cX6_soon 8 (some .int) 5 35 [(0, aR 20 0), (1, aI a1), (2, aI a2), (3, aI a3), (4, aI a4)] [] h (kont35 a1 a2 a3 a4 h)) (a1 : Int32) (a2 : Int32) (a3 : Int32) (a4 : Int32)  (h : Hp) : J encI RX6 cX6_soon 8 (some .int) 5 169 [(0, aR 20 0), (1, aI a1), (2, aI a2), (3, aI a3), (4, aI a4)] [] h (f_X6_soon_b169 kont17 kont35 a1 a2 a3 a4 h) := by
  unfold f_X6_soon_b169
  refine j_iinc (v := (1 : Int32)) dX6_soon_169 rfl (by decide) (by decide) ?_
  refine j_goto (tgt := 35) dX6_soon_172 (by decide) ?_
  exact j_weak rfl (hk35 _ _ _ _  _)
set_option maxRecDepth 20000 in
theorem w_X6_soon_b167 (kont17 : Int32 → Int32 → Int32 → Hp → Option (Int32 × Hp)) (hk17 : ∀ (a1 : Int32) (a2 : Int32) (a3 : Int32)  (h : Hp), J encI RX6 cX6_soon 8 (some .int) 5 17 [(0, aR 20 0), (1, aI a1), (2, aI a2), (3, aI a3)] [] h (kont17 a1 a2 a3 h)) (kont35 : Int32 → Int32 → Int32 → Int32 → Hp → Option (Int32 × Hp)) (hk35 : ∀ (a1 : Int32) (a2 : Int32) (a3 : Int32) (a4 : Int32)  (h : Hp), J encI RX6 cX6_soon 8 (some .int) 5 35 [(0, aR 20 0), (1, aI a1), (2, aI a2), (3, aI a3), (4, aI a4)] [] h (kont35 a1 a2 a3 a4 h)) (a1 : Int32) (a3 : Int32) (a4 : Int32) (s0 : Int32) (s1 : Int32)  (h : Hp) : J encI RX6 cX6_soon 8 (some .int) 5 167 [(0, aR 20 0), (1, aI a1), (3, aI a3), (4, aI a4)] [aI s1, aI s0] h (f_X6_soon_b167 kont17 kont35 a1 a3 a4 s0 s1 h) := by
  unfold f_X6_soon_b167
  refine j_iadd dX6_soon_167 ?_
  refine j_istore_n dX6_soon_168 (by decide) ?_
  exact j_weak rfl (w_X6_soon_b169 _ hk17 _ hk35 _ _ _ _  _)
set_option maxRecDepth 20000 in
theorem w_X6_soon_b155 (kont17 : Int32 → Int32 → Int32 → Hp → Option (Int32 × Hp)) (hk17 : ∀ (a1 : Int32) (a2 : Int32) (a3 : Int32)  (h : Hp), J encI RX6 cX6_soon 8 (some .int) 5 17 [(0, aR 20 0), (1, aI a1), (2, aI a2), (3, aI a3)] [] h (kont17 a1 a2 a3 h)) (kont35 : Int32 → Int32 → Int32 → Int32 → Hp → Option (Int32 × Hp)) (hk35 : ∀ (a1 : Int32) (a2 : Int32) (a3 : Int32) (a4 : Int32)  (h : Hp), J encI RX6 cX6_soon 8 (some .int) 5 35 [(0, aR 20 0), (1, aI a1), (2, aI a2), (3, aI a3), (4, aI a4)] [] h (kont35 a1 a2 a3 a4 h)) (a2 : Int32) (a3 : Int32) (a4 : Int32) (a7 : Int32) (s0 : Int32)  (h : Hp) : J encI RX6 cX6_soon 8 (some .int) 5 155 [(0, aR 20 0), (2, aI a2), (3, aI a3), (4, aI a4), (7, aI a7)] [aI s0] h (f_X6_soon_b155 kont17 kont35 a2 a3 a4 a7 s0 h) := by
  unfold f_X6_soon_b155
  refine j_istore_n dX6_soon_155 (by decide) ?_
  refine j_iload_n dX6_soon_156 rfl ?_
  refine j_iload dX6_soon_157 rfl ?_
  refine j_if_eq (tgt := 166) dX6_soon_159 (by decide) (fun c1 => ?_) (fun c1 => ?_)
  · refine j_iconst (v := (0 : Int32)) dX6_soon_166 (by decide) ?_
    exact j_weak rfl (w_X6_soon_b167 _ hk17 _ hk35 _ _ _ _ _  _)
  · refine j_iconst (v := (1 : Int32)) dX6_soon_162 (by decide) ?_
    refine j_goto (tgt := 167) dX6_soon_163 (by decide) ?_
    exact j_weak rfl (w_X6_soon_b167 _ hk17 _ hk35 _ _ _ _ _  _)
set_option maxRecDepth 20000 in
theorem w_X6_soon_b154 (kont17 : Int32 → Int32 → Int32 → Hp → Option (Int32 × Hp)) (hk17 : ∀ (a1 : Int32) (a2 : Int32) (a3 : Int32)  (h : Hp), J encI RX6 cX6_soon 8 (some .int) 5 17 [(0, aR 20 0), (1, aI a1), (2, aI a2), (3, aI a3)] [] h (kont17 a1 a2 a3 h)) (kont35 : Int32 → Int32 → Int32 → Int32 → Hp → Option (Int32 × Hp)) (hk35 : ∀ (a1 : Int32) (a2 : Int32) (a3 : Int32) (a4 : Int32)  (h : Hp), J encI RX6 cX6_soon 8 (some .int) 5 35 [(0, aR 20 0), (1, aI a1), (2, aI a2), (3, aI a3), (4, aI a4)] [] h (kont35 a1 a2 a3 a4 h)) (a1 : Int32) (a2 : Int32) (a3 : Int32) (a4 : Int32) (a7 : Int32)  (h : Hp) : J encI RX6 cX6_soon 8 (some .int) 5 154 [(0, aR 20 0), (1, aI a1), (2, aI a2), (3, aI a3), (4, aI a4), (7, aI a7)] [] h (f_X6_soon_b154 kont17 kont35 a1 a2 a3 a4 a7 h) := by
  unfold f_X6_soon_b154
  refine j_iload_n dX6_soon_154 rfl ?_
  exact j_weak rfl (w_X6_soon_b155 _ hk17 _ hk35 _ _ _ _ _  _)
set_option maxRecDepth 20000 in
theorem w_X6_soon_b133 (kont17 : Int32 → Int32 → Int32 → Hp → Option (Int32 × Hp)) (hk17 : ∀ (a1 : Int32) (a2 : Int32) (a3 : Int32)  (h : Hp), J encI RX6 cX6_soon 8 (some .int) 5 17 [(0, aR 20 0), (1, aI a1), (2, aI a2), (3, aI a3)] [] h (kont17 a1 a2 a3 h)) (kont35 : Int32 → Int32 → Int32 → Int32 → Hp → Option (Int32 × Hp)) (hk35 : ∀ (a1 : Int32) (a2 : Int32) (a3 : Int32) (a4 : Int32)  (h : Hp), J encI RX6 cX6_soon 8 (some .int) 5 35 [(0, aR 20 0), (1, aI a1), (2, aI a2), (3, aI a3), (4, aI a4)] [] h (kont35 a1 a2 a3 a4 h)) (a1 : Int32) (a2 : Int32) (a3 : Int32) (a4 : Int32) (s0 : Int32)  (h : Hp) : J encI RX6 cX6_soon 8 (some .int) 5 133 [(0, aR 20 0), (1, aI a1), (2, aI a2), (3, aI a3), (4, aI a4)] [aI s0] h (f_X6_soon_b133 kont17 kont35 a1 a2 a3 a4 s0 h) := by
  unfold f_X6_soon_b133
  refine j_istore dX6_soon_133 (by decide) ?_
  refine j_iload dX6_soon_135 rfl ?_
  refine j_if_eq (tgt := 154) dX6_soon_137 (by decide) (fun c1 => ?_) (fun c1 => ?_)
  · exact j_weak rfl (w_X6_soon_b154 _ hk17 _ hk35 _ _ _ _ _  _)
  · refine j_iload_n dX6_soon_140 rfl ?_
    refine j_if_ne (tgt := 154) dX6_soon_141 (by decide) (fun c2 => ?_) (fun c2 => ?_)
    · exact j_weak rfl (w_X6_soon_b154 _ hk17 _ hk35 _ _ _ _ _  _)
    · refine j_bipush (v := (10 : Int32)) dX6_soon_144 (by decide) ?_
      refine j_iload_n dX6_soon_146 rfl ?_
      refine j_imul dX6_soon_147 ?_
      refine j_iload dX6_soon_148 rfl ?_
      refine j_iadd dX6_soon_150 ?_
      refine j_goto (tgt := 155) dX6_soon_151 (by decide) ?_
      exact j_weak rfl (w_X6_soon_b155 _ hk17 _ hk35 _ _ _ _ _  _)
set_option maxRecDepth 20000 in
theorem w_X6_soon_b35 (kont17 : Int32 → Int32 → Int32 → Hp → Option (Int32 × Hp)) (hk17 : ∀ (a1 : Int32) (a2 : Int32) (a3 : Int32)  (h : Hp), J encI RX6 cX6_soon 8 (some .int) 5 17 [(0, aR 20 0), (1, aI a1), (2, aI a2), (3, aI a3)] [] h (kont17 a1 a2 a3 h)) : ∀ (n : Nat) (a1 : Int32) (a2 : Int32) (a3 : Int32) (a4 : Int32)  (h : Hp), J encI RX6 cX6_soon 8 (some .int) 5 35 [(0, aR 20 0), (1, aI a1), (2, aI a2), (3, aI a3), (4, aI a4)] [] h (f_X6_soon_b35 kont17 n a1 a2 a3 a4 h) := by
  intro n
  induction n with
  | zero =>
    intros
    exact j_none
  | succ n hk35 =>
    intro a1 a2 a3 a4  h
    show J encI RX6 cX6_soon 8 (some .int) 5 35 [(0, aR 20 0), (1, aI a1), (2, aI a2), (3, aI a3), (4, aI a4)] [] h (f_X6_soon_b35_body kont17 (f_X6_soon_b35 kont17 n) a1 a2 a3 a4 h)
    unfold f_X6_soon_b35_body
    refine j_iload dX6_soon_35 rfl ?_
    refine j_aload_n dX6_soon_37 rfl ?_
    refine jg_X6_126 z_20 dX6_soon_38 ?_
    refine j_icmp_ge (tgt := 175) dX6_soon_41 (by decide) (fun c1 => ?_) (fun c1 => ?_)
    · refine j_iinc (v := (1 : Int32)) dX6_soon_175 rfl (by decide) (by decide) ?_
      refine j_goto (tgt := 17) dX6_soon_178 (by decide) ?_
      exact j_weak rfl (hk17 _ _ _  _)
    · refine j_aload_n dX6_soon_44 rfl ?_
      refine j_iload_n dX6_soon_45 rfl ?_
      refine j_iload dX6_soon_46 rfl ?_
      refine jc_X6_207 (ct_X6_mayLie _ _  _) (by decide) z_20 (Nat.le_of_ble_eq_true rfl) dX6_soon_48 (fun v2 h3 e4 => ?_)
      refine j_if_eq (tgt := 169) dX6_soon_51 (by decide) (fun c5 => ?_) (fun c5 => ?_)
      · exact j_weak rfl (w_X6_soon_b169 _ hk17 _ hk35 _ _ _ _  _)
      · refine j_aload_n dX6_soon_54 rfl ?_
        refine j_iconst (v := (0 : Int32)) dX6_soon_55 (by decide) ?_
        refine jc_X6_171 (ct_X6_standingNow _  _) (by decide) z_20 (Nat.le_of_ble_eq_true rfl) dX6_soon_56 (fun v6 h7 e8 => ?_)
        refine j_istore dX6_soon_59 (by decide) ?_
        refine j_aload_n dX6_soon_61 rfl ?_
        refine j_dup dX6_soon_62 rfl ?_
        refine jg_X6_129 z_20 dX6_soon_63 ?_
        refine j_iconst (v := (1 : Int32)) dX6_soon_66 (by decide) ?_
        refine j_iadd dX6_soon_67 ?_
        refine jp_X6_129 z_20 dX6_soon_68 ?_
        refine j_aload_n dX6_soon_71 rfl ?_
        refine j_aload_n dX6_soon_72 rfl ?_
        refine jg_X6_132 z_20 dX6_soon_73 ?_
        refine j_iconst (v := (1 : Int32)) dX6_soon_76 (by decide) ?_
        refine j_aload_n dX6_soon_77 rfl ?_
        refine jg_X6_129 z_20 dX6_soon_78 ?_
        refine j_iconst (v := (1 : Int32)) dX6_soon_81 (by decide) ?_
        refine j_isub dX6_soon_82 ?_
        refine j_ishl dX6_soon_83 ?_
        refine j_ior dX6_soon_84 ?_
        refine j_aload_n dX6_soon_85 rfl ?_
        refine jg_X6_135 z_20 dX6_soon_86 ?_
        refine j_aload_n dX6_soon_89 rfl ?_
        refine jg_X6_138 z_20 dX6_soon_90 ?_
        refine j_ior dX6_soon_93 ?_
        refine jc_X6_168 (ct_X6_standing _ _  _) (by decide) z_20 (Nat.le_of_ble_eq_true rfl) dX6_soon_94 (fun v9 h10 e11 => ?_)
        refine j_istore dX6_soon_97 (by decide) ?_
        refine j_aload_n dX6_soon_99 rfl ?_
        refine j_dup dX6_soon_100 rfl ?_
        refine jg_X6_129 z_20 dX6_soon_101 ?_
        refine j_iconst (v := (1 : Int32)) dX6_soon_104 (by decide) ?_
        refine j_isub dX6_soon_105 ?_
        refine jp_X6_129 z_20 dX6_soon_106 ?_
        refine j_iload dX6_soon_109 rfl ?_
        refine j_iload dX6_soon_111 rfl ?_
        refine j_iconst (v := (-1 : Int32)) dX6_soon_113 (by decide) ?_
        refine j_ixor dX6_soon_114 ?_
        refine j_iand dX6_soon_115 ?_
        refine j_iconst (v := (1 : Int32)) dX6_soon_116 (by decide) ?_
        refine j_aload_n dX6_soon_117 rfl ?_
        refine jg_X6_129 z_20 dX6_soon_118 ?_
        refine j_ishl dX6_soon_121 ?_
        refine j_iconst (v := (-1 : Int32)) dX6_soon_122 (by decide) ?_
        refine j_ixor dX6_soon_123 ?_
        refine j_iand dX6_soon_124 ?_
        refine j_if_ne (tgt := 132) dX6_soon_125 (by decide) (fun c12 => ?_) (fun c12 => ?_)
        · refine j_iconst (v := (0 : Int32)) dX6_soon_132 (by decide) ?_
          exact j_weak rfl (w_X6_soon_b133 _ hk17 _ hk35 _ _ _ _ _  _)
        · refine j_iconst (v := (1 : Int32)) dX6_soon_128 (by decide) ?_
          refine j_goto (tgt := 133) dX6_soon_129 (by decide) ?_
          exact j_weak rfl (w_X6_soon_b133 _ hk17 _ hk35 _ _ _ _ _  _)
set_option maxRecDepth 20000 in
theorem w_X6_soon_b181  (a1 : Int32) (a2 : Int32)  (h : Hp) : J encI RX6 cX6_soon 8 (some .int) 5 181 [(0, aR 20 0), (1, aI a1), (2, aI a2)] [] h (f_X6_soon_b181  a1 a2 h) := by
  unfold f_X6_soon_b181
  refine j_iload_n dX6_soon_181 rfl ?_
  refine j_bipush (v := (-9 : Int32)) dX6_soon_182 (by decide) ?_
  refine j_icmp_ne (tgt := 192) dX6_soon_184 (by decide) (fun c1 => ?_) (fun c1 => ?_)
  · refine j_aload_n dX6_soon_192 rfl ?_
    refine j_iload_n dX6_soon_193 rfl ?_
    refine j_iload_n dX6_soon_194 rfl ?_
    refine jc_X6_77 (ct_X6_ask _ _  _) (by decide) z_20 (Nat.le_of_ble_eq_true rfl) dX6_soon_195 (fun v2 h3 e4 => ?_)
    exact j_iret dX6_soon_198
  · refine j_bipush (v := (-9 : Int32)) dX6_soon_187 (by decide) ?_
    refine j_goto (tgt := 198) dX6_soon_189 (by decide) ?_
    exact j_iret dX6_soon_198
set_option maxRecDepth 20000 in
theorem w_X6_soon_b17  : ∀ (n : Nat) (a1 : Int32) (a2 : Int32) (a3 : Int32)  (h : Hp), J encI RX6 cX6_soon 8 (some .int) 5 17 [(0, aR 20 0), (1, aI a1), (2, aI a2), (3, aI a3)] [] h (f_X6_soon_b17  n a1 a2 a3 h) := by
  intro n
  induction n with
  | zero =>
    intros
    exact j_none
  | succ n hk17 =>
    intro a1 a2 a3  h
    show J encI RX6 cX6_soon 8 (some .int) 5 17 [(0, aR 20 0), (1, aI a1), (2, aI a2), (3, aI a3)] [] h (f_X6_soon_b17_body  (f_X6_soon_b17  n) a1 a2 a3 h)
    unfold f_X6_soon_b17_body
    refine j_iload_n dX6_soon_17 rfl ?_
    refine j_bipush (v := (6 : Int32)) dX6_soon_18 (by decide) ?_
    refine j_icmp_ge (tgt := 181) dX6_soon_20 (by decide) (fun c1 => ?_) (fun c1 => ?_)
    · exact j_weak rfl (w_X6_soon_b181  _ _  _)
    · refine j_aload_n dX6_soon_23 rfl ?_
      refine jg_X6_129 z_20 dX6_soon_24 ?_
      refine j_bipush (v := (14 : Int32)) dX6_soon_27 (by decide) ?_
      refine j_icmp_ge (tgt := 181) dX6_soon_29 (by decide) (fun c2 => ?_) (fun c2 => ?_)
      · exact j_weak rfl (w_X6_soon_b181  _ _  _)
      · refine j_iconst (v := (0 : Int32)) dX6_soon_32 (by decide) ?_
        refine j_istore dX6_soon_33 (by decide) ?_
        exact j_weak rfl (w_X6_soon_b35 _ hk17 _ _ _ _ _  _)
set_option maxRecDepth 20000 in
theorem ct_X6_soon   (h : Hp) : Ct encI yX6_soon cX6_soon 8 (some .int) 5 [aR 20 0] h (f_X6_soon  h) := by
  refine ct_of [(0, aR 20 0)] (by decide) (fun _ => rfl) (fun _ => Nat.le_of_ble_eq_true rfl) ?_
  show J encI RX6 cX6_soon 8 (some .int) 5 0 [(0, aR 20 0)] [] h (f_X6_soon  h)
  unfold f_X6_soon
  refine j_aload_n dX6_soon_0 rfl ?_
  refine jg_X6_126 z_20 dX6_soon_1 ?_
  refine j_if_ne (tgt := 10) dX6_soon_4 (by decide) (fun c1 => ?_) (fun c1 => ?_)
  · refine j_bipush (v := (-9 : Int32)) dX6_soon_10 (by decide) ?_
    refine j_istore_n dX6_soon_12 (by decide) ?_
    refine j_iconst (v := (0 : Int32)) dX6_soon_13 (by decide) ?_
    refine j_istore_n dX6_soon_14 (by decide) ?_
    refine j_iconst (v := (0 : Int32)) dX6_soon_15 (by decide) ?_
    refine j_istore_n dX6_soon_16 (by decide) ?_
    exact j_weak rfl (w_X6_soon_b17  _ _ _ _  _)
  · refine j_bipush (v := (-4 : Int32)) dX6_soon_7 (by decide) ?_
    exact j_iret dX6_soon_9
set_option maxRecDepth 20000 in
theorem ct_X6_stands   (h : Hp) : Ct encI yX6_stands cX6_stands 2 (some .int) 5 [aR 20 0] h (f_X6_stands  h) := by
  refine ct_of [(0, aR 20 0)] (by decide) (fun _ => rfl) (fun _ => Nat.le_of_ble_eq_true rfl) ?_
  show J encI RX6 cX6_stands 2 (some .int) 5 0 [(0, aR 20 0)] [] h (f_X6_stands  h)
  unfold f_X6_stands
  refine j_aload_n dX6_stands_0 rfl ?_
  refine j_iconst (v := (0 : Int32)) dX6_stands_1 (by decide) ?_
  refine jc_X6_171 (ct_X6_standingNow _  _) (by decide) z_20 (Nat.le_of_ble_eq_true rfl) dX6_stands_2 (fun v1 h2 e3 => ?_)
  refine j_istore_n dX6_stands_5 (by decide) ?_
  refine j_aload_n dX6_stands_6 rfl ?_
  refine j_aload_n dX6_stands_7 rfl ?_
  refine jg_X6_132 z_20 dX6_stands_8 ?_
  refine j_iload_n dX6_stands_11 rfl ?_
  refine j_iconst (v := (-1 : Int32)) dX6_stands_12 (by decide) ?_
  refine j_ixor dX6_stands_13 ?_
  refine j_iand dX6_stands_14 ?_
  refine j_iload_n dX6_stands_15 rfl ?_
  refine jc_X6_77 (ct_X6_ask _ _  _) (by decide) z_20 (Nat.le_of_ble_eq_true rfl) dX6_stands_16 (fun v4 h5 e6 => ?_)
  exact j_iret dX6_stands_19
set_option maxRecDepth 20000 in
theorem w_X6_wedge_b108  (a4 : Int32)  (h : Hp) : J encI RX6 cX6_wedge 5 (some .int) 5 108 [(0, aR 20 0), (4, aI a4)] [] h (f_X6_wedge_b108  a4 h) := by
  unfold f_X6_wedge_b108
  refine j_aload_n dX6_wedge_108 rfl ?_
  refine j_iload dX6_wedge_109 rfl ?_
  refine jp_X6_135 z_20 dX6_wedge_111 ?_
  refine j_aload_n dX6_wedge_114 rfl ?_
  refine jg_X6_135 z_20 dX6_wedge_115 ?_
  refine jc_X6_174 (ct_X6_sizeOf _  _) (by decide) (Nat.le_of_ble_eq_true rfl) dX6_wedge_118 (fun v1 h2 e3 => ?_)
  exact j_iret dX6_wedge_121
set_option maxRecDepth 20000 in
theorem w_X6_wedge_b89  (a2 : Int32) (a4 : Int32)  (h : Hp) : J encI RX6 cX6_wedge 5 (some .int) 5 89 [(0, aR 20 0), (2, aI a2), (4, aI a4)] [] h (f_X6_wedge_b89  a2 a4 h) := by
  unfold f_X6_wedge_b89
  refine j_iload_n dX6_wedge_89 rfl ?_
  refine j_iconst (v := (1 : Int32)) dX6_wedge_90 (by decide) ?_
  refine j_icmp_ne (tgt := 108) dX6_wedge_91 (by decide) (fun c1 => ?_) (fun c1 => ?_)
  · exact j_weak rfl (w_X6_wedge_b108  _  _)
  · refine j_aload_n dX6_wedge_94 rfl ?_
    refine jg_X6_135 z_20 dX6_wedge_95 ?_
    refine jc_X6_174 (ct_X6_sizeOf _  _) (by decide) (Nat.le_of_ble_eq_true rfl) dX6_wedge_98 (fun v2 h3 e4 => ?_)
    refine j_iconst (v := (4 : Int32)) dX6_wedge_101 (by decide) ?_
    refine j_icmp_ne (tgt := 108) dX6_wedge_102 (by decide) (fun c5 => ?_) (fun c5 => ?_)
    · exact j_weak rfl (w_X6_wedge_b108  _  _)
    · refine j_bipush (v := (-2 : Int32)) dX6_wedge_105 (by decide) ?_
      exact j_iret dX6_wedge_107
set_option maxRecDepth 20000 in
theorem ct_X6_wedge (a1 : Int32) (a2 : Int32)  (h : Hp) : Ct encI yX6_wedge cX6_wedge 5 (some .int) 5 [aR 20 0, aI a1, aI a2] h (f_X6_wedge a1 a2 h) := by
  refine ct_of [(0, aR 20 0), (1, aI a1), (2, aI a2)] (by decide) (fun _ => rfl) (fun _ => Nat.le_of_ble_eq_true rfl) ?_
  show J encI RX6 cX6_wedge 5 (some .int) 5 0 [(0, aR 20 0), (1, aI a1), (2, aI a2)] [] h (f_X6_wedge a1 a2 h)
  unfold f_X6_wedge
  refine j_aload_n dX6_wedge_0 rfl ?_
  refine j_iload_n dX6_wedge_1 rfl ?_
  refine jc_X6_153 (ct_X6_isBrick _  _) (by decide) z_20 (Nat.le_of_ble_eq_true rfl) dX6_wedge_2 (fun v1 h2 e3 => ?_)
  refine j_if_eq (tgt := 17) dX6_wedge_5 (by decide) (fun c4 => ?_) (fun c4 => ?_)
  · refine j_iconst (v := (-1 : Int32)) dX6_wedge_17 (by decide) ?_
    exact j_iret dX6_wedge_18
  · refine j_iload_n dX6_wedge_8 rfl ?_
    refine j_iconst (v := (0 : Int32)) dX6_wedge_9 (by decide) ?_
    refine j_iconst (v := (1 : Int32)) dX6_wedge_10 (by decide) ?_
    refine jc_X6_51 (ct_X6_in _ _ _  _) (by decide) (Nat.le_of_ble_eq_true rfl) dX6_wedge_11 (fun v5 h6 e7 => ?_)
    refine j_if_ne (tgt := 19) dX6_wedge_14 (by decide) (fun c8 => ?_) (fun c8 => ?_)
    · refine j_aload_n dX6_wedge_19 rfl ?_
      refine j_iload_n dX6_wedge_20 rfl ?_
      refine jc_X6_183 (ct_X6_askedIn _  _) (by decide) z_20 (Nat.le_of_ble_eq_true rfl) dX6_wedge_21 (fun v9 h10 e11 => ?_)
      refine j_istore_n dX6_wedge_24 (by decide) ?_
      refine j_iload_n dX6_wedge_25 rfl ?_
      refine j_if_ge (tgt := 31) dX6_wedge_26 (by decide) (fun c12 => ?_) (fun c12 => ?_)
      · refine j_aload_n dX6_wedge_31 rfl ?_
        refine jg_X6_135 z_20 dX6_wedge_32 ?_
        refine j_iload_n dX6_wedge_35 rfl ?_
        refine j_ishr dX6_wedge_36 ?_
        refine j_iconst (v := (1 : Int32)) dX6_wedge_37 (by decide) ?_
        refine j_iand dX6_wedge_38 ?_
        refine j_iload_n dX6_wedge_39 rfl ?_
        refine j_icmp_ne (tgt := 46) dX6_wedge_40 (by decide) (fun c13 => ?_) (fun c13 => ?_)
        · refine j_aload_n dX6_wedge_46 rfl ?_
          refine jg_X6_135 z_20 dX6_wedge_47 ?_
          refine j_iconst (v := (1 : Int32)) dX6_wedge_50 (by decide) ?_
          refine j_iload_n dX6_wedge_51 rfl ?_
          refine j_ishl dX6_wedge_52 ?_
          refine j_ixor dX6_wedge_53 ?_
          refine j_istore dX6_wedge_54 (by decide) ?_
          refine j_iload_n dX6_wedge_56 rfl ?_
          refine j_if_ne (tgt := 89) dX6_wedge_57 (by decide) (fun c14 => ?_) (fun c14 => ?_)
          · exact j_weak rfl (w_X6_wedge_b89  _ _  _)
          · refine j_aload_n dX6_wedge_60 rfl ?_
            refine j_iconst (v := (0 : Int32)) dX6_wedge_61 (by decide) ?_
            refine jc_X6_171 (ct_X6_standingNow _  _) (by decide) z_20 (Nat.le_of_ble_eq_true rfl) dX6_wedge_62 (fun v15 h16 e17 => ?_)
            refine j_aload_n dX6_wedge_65 rfl ?_
            refine j_aload_n dX6_wedge_66 rfl ?_
            refine jg_X6_132 z_20 dX6_wedge_67 ?_
            refine j_iload dX6_wedge_70 rfl ?_
            refine j_aload_n dX6_wedge_72 rfl ?_
            refine jg_X6_138 z_20 dX6_wedge_73 ?_
            refine j_ior dX6_wedge_76 ?_
            refine jc_X6_168 (ct_X6_standing _ _  _) (by decide) z_20 (Nat.le_of_ble_eq_true rfl) dX6_wedge_77 (fun v18 h19 e20 => ?_)
            refine j_iconst (v := (-1 : Int32)) dX6_wedge_80 (by decide) ?_
            refine j_ixor dX6_wedge_81 ?_
            refine j_iand dX6_wedge_82 ?_
            refine j_if_eq (tgt := 89) dX6_wedge_83 (by decide) (fun c21 => ?_) (fun c21 => ?_)
            · exact j_weak rfl (w_X6_wedge_b89  _ _  _)
            · refine j_bipush (v := (-4 : Int32)) dX6_wedge_86 (by decide) ?_
              exact j_iret dX6_wedge_88
        · refine j_bipush (v := (-4 : Int32)) dX6_wedge_43 (by decide) ?_
          exact j_iret dX6_wedge_45
      · refine j_iload_n dX6_wedge_29 rfl ?_
        exact j_iret dX6_wedge_30
    · refine j_iconst (v := (-1 : Int32)) dX6_wedge_17 (by decide) ?_
      exact j_iret dX6_wedge_18
set_option maxRecDepth 20000 in
theorem ct_X5_draw (a1 : Int32)  (h : Hp) : Ct encI yX5_draw cX5_draw 2 (some .int) 6 [aR 0 0, aI a1] h (f_X5_draw a1 h) := by
  refine ct_of [(0, aR 0 0), (1, aI a1)] (by decide) (fun _ => rfl) (fun _ => Nat.le_of_ble_eq_true rfl) ?_
  show J encI RX5 cX5_draw 2 (some .int) 6 0 [(0, aR 0 0), (1, aI a1)] [] h (f_X5_draw a1 h)
  unfold f_X5_draw
  refine j_aload_n dX5_draw_0 rfl ?_
  refine jg_X5_33 z_0 dX5_draw_1 ?_
  refine j_iload_n dX5_draw_4 rfl ?_
  refine jc_X5_113 (ct_X4_has _ _ (Nat.le_of_ble_eq_true rfl) _) (by decide) (Nat.le_of_ble_eq_true rfl) (Nat.le_of_ble_eq_true rfl) dX5_draw_5 (fun v1 h2 e3 => ?_)
  refine j_if_ne (tgt := 13) dX5_draw_8 (by decide) (fun c4 => ?_) (fun c4 => ?_)
  · refine j_aload_n dX5_draw_13 rfl ?_
    refine jg_X5_33 z_0 dX5_draw_14 ?_
    refine j_iload_n dX5_draw_17 rfl ?_
    refine jc_X5_120 (ct_X4_isIn _ _ (Nat.le_of_ble_eq_true rfl) _) (by decide) (Nat.le_of_ble_eq_true rfl) (Nat.le_of_ble_eq_true rfl) dX5_draw_18 (fun v5 h6 e7 => ?_)
    refine j_if_ne (tgt := 30) dX5_draw_21 (by decide) (fun c8 => ?_) (fun c8 => ?_)
    · refine j_aload_n dX5_draw_30 rfl ?_
      refine jg_X5_33 z_0 dX5_draw_31 ?_
      refine j_iload_n dX5_draw_34 rfl ?_
      refine jc_X5_183 (ct_X4_isAgreed _ _ (Nat.le_of_ble_eq_true rfl) _) (by decide) (Nat.le_of_ble_eq_true rfl) (Nat.le_of_ble_eq_true rfl) dX5_draw_35 (fun v9 h10 e11 => ?_)
      refine j_if_eq (tgt := 52) dX5_draw_38 (by decide) (fun c12 => ?_) (fun c12 => ?_)
      · refine j_bipush (v := (-4 : Int32)) dX5_draw_52 (by decide) ?_
        exact j_iret dX5_draw_54
      · refine j_aload_n dX5_draw_41 rfl ?_
        refine jg_X5_33 z_0 dX5_draw_42 ?_
        refine j_iload_n dX5_draw_45 rfl ?_
        refine jc_X5_186 (ct_X4_isLoose _ _ (Nat.le_of_ble_eq_true rfl) _) (by decide) (Nat.le_of_ble_eq_true rfl) (Nat.le_of_ble_eq_true rfl) dX5_draw_46 (fun v13 h14 e15 => ?_)
        refine j_if_ne (tgt := 55) dX5_draw_49 (by decide) (fun c16 => ?_) (fun c16 => ?_)
        · refine j_aload_n dX5_draw_55 rfl ?_
          refine jg_X5_33 z_0 dX5_draw_56 ?_
          refine j_iload_n dX5_draw_59 rfl ?_
          refine jc_X5_189 (ct_X4_drawOut _ _ (Nat.le_of_ble_eq_true rfl) _) (by decide) (Nat.le_of_ble_eq_true rfl) (Nat.le_of_ble_eq_true rfl) dX5_draw_60 (fun v17 h18 e19 => ?_)
          refine j_iconst (v := (1 : Int32)) dX5_draw_63 (by decide) ?_
          exact j_iret dX5_draw_64
        · refine j_bipush (v := (-4 : Int32)) dX5_draw_52 (by decide) ?_
          exact j_iret dX5_draw_54
    · refine j_aload_n dX5_draw_24 rfl ?_
      refine j_iconst (v := (1 : Int32)) dX5_draw_25 (by decide) ?_
      refine jc_X5_53 (ct_X5_refuse _  _) (by decide) z_0 (Nat.le_of_ble_eq_true rfl) dX5_draw_26 (fun v20 h21 e22 => ?_)
      exact j_iret dX5_draw_29
  · refine j_iconst (v := (-1 : Int32)) dX5_draw_11 (by decide) ?_
    exact j_iret dX5_draw_12
set_option maxRecDepth 20000 in
theorem ct_X5_fault (a1 : Int32)  (h : Hp) : Ct encI yX5_fault cX5_fault 2 (some .int) 6 [aR 0 0, aI a1] h (f_X5_fault a1 h) := by
  refine ct_of [(0, aR 0 0), (1, aI a1)] (by decide) (fun _ => rfl) (fun _ => Nat.le_of_ble_eq_true rfl) ?_
  show J encI RX5 cX5_fault 2 (some .int) 6 0 [(0, aR 0 0), (1, aI a1)] [] h (f_X5_fault a1 h)
  unfold f_X5_fault
  refine j_iload_n dX5_fault_0 rfl ?_
  refine jc_X5_86 (ct_X5_isText _  _) (by decide) (Nat.le_of_ble_eq_true rfl) dX5_fault_1 (fun v1 h2 e3 => ?_)
  refine j_if_ne (tgt := 9) dX5_fault_4 (by decide) (fun c4 => ?_) (fun c4 => ?_)
  · refine j_aload_n dX5_fault_9 rfl ?_
    refine jg_X5_19 z_0 dX5_fault_10 ?_
    refine jg_X5_90 z_5 dX5_fault_13 ?_
    refine j_iload_n dX5_fault_16 rfl ?_
    refine j_iald (ic_8 _) z_8 dX5_fault_17 (fun q5 => ?_)
    refine j_if_ge (tgt := 27) dX5_fault_18 (by decide) (fun c6 => ?_) (fun c6 => ?_)
    · refine j_aload_n dX5_fault_27 rfl ?_
      refine jg_X5_26 z_0 dX5_fault_28 ?_
      refine j_aload_n dX5_fault_31 rfl ?_
      refine jg_X5_19 z_0 dX5_fault_32 ?_
      refine jg_X5_91 z_5 dX5_fault_35 ?_
      refine j_iload_n dX5_fault_38 rfl ?_
      refine ja_6 z_6 dX5_fault_39 (fun q7 z8 => ?_)
      refine j_aload_n dX5_fault_40 rfl ?_
      refine jg_X5_19 z_0 dX5_fault_41 ?_
      refine jg_X5_90 z_5 dX5_fault_44 ?_
      refine j_iload_n dX5_fault_47 rfl ?_
      refine j_iald (ic_8 _) z_8 dX5_fault_48 (fun q9 => ?_)
      refine jc_X5_95 (ct_X1_read _ _ z8 _) (by decide) z_9 (Nat.le_of_ble_eq_true rfl) dX5_fault_49 (fun v10 h11 e12 => ?_)
      exact j_iret dX5_fault_52
    · refine j_aload_n dX5_fault_21 rfl ?_
      refine j_iconst (v := (1 : Int32)) dX5_fault_22 (by decide) ?_
      refine jc_X5_53 (ct_X5_refuse _  _) (by decide) z_0 (Nat.le_of_ble_eq_true rfl) dX5_fault_23 (fun v13 h14 e15 => ?_)
      exact j_iret dX5_fault_26
  · refine j_iconst (v := (-1 : Int32)) dX5_fault_7 (by decide) ?_
    exact j_iret dX5_fault_8
set_option maxRecDepth 20000 in
theorem w_X5_free_b66 (kont6 : Int32 → Int32 → Int32 → Hp → Option (Int32 × Hp)) (hk6 : ∀ (a1 : Int32) (a2 : Int32) (a3 : Int32)  (h : Hp), J encI RX5 cX5_free 4 (some .int) 6 6 [(0, aR 0 0), (1, aI a1), (2, aI a2), (3, aI a3)] [] h (kont6 a1 a2 a3 h)) (a1 : Int32) (a2 : Int32) (a3 : Int32)  (h : Hp) : J encI RX5 cX5_free 4 (some .int) 6 66 [(0, aR 0 0), (1, aI a1), (2, aI a2), (3, aI a3)] [] h (f_X5_free_b66 kont6 a1 a2 a3 h) := by
  unfold f_X5_free_b66
  refine j_iinc (v := (1 : Int32)) dX5_free_66 rfl (by decide) (by decide) ?_
  refine j_goto (tgt := 6) dX5_free_69 (by decide) ?_
  exact j_weak rfl (hk6 _ _ _  _)
set_option maxRecDepth 20000 in
theorem w_X5_free_b64 (kont6 : Int32 → Int32 → Int32 → Hp → Option (Int32 × Hp)) (hk6 : ∀ (a1 : Int32) (a2 : Int32) (a3 : Int32)  (h : Hp), J encI RX5 cX5_free 4 (some .int) 6 6 [(0, aR 0 0), (1, aI a1), (2, aI a2), (3, aI a3)] [] h (kont6 a1 a2 a3 h)) (a2 : Int32) (a3 : Int32) (s0 : Int32) (s1 : Int32)  (h : Hp) : J encI RX5 cX5_free 4 (some .int) 6 64 [(0, aR 0 0), (2, aI a2), (3, aI a3)] [aI s1, aI s0] h (f_X5_free_b64 kont6 a2 a3 s0 s1 h) := by
  unfold f_X5_free_b64
  refine j_ior dX5_free_64 ?_
  refine j_istore_n dX5_free_65 (by decide) ?_
  exact j_weak rfl (w_X5_free_b66 _ hk6 _ _ _  _)
set_option maxRecDepth 20000 in
theorem w_X5_free_b6  : ∀ (n : Nat) (a1 : Int32) (a2 : Int32) (a3 : Int32)  (h : Hp), J encI RX5 cX5_free 4 (some .int) 6 6 [(0, aR 0 0), (1, aI a1), (2, aI a2), (3, aI a3)] [] h (f_X5_free_b6  n a1 a2 a3 h) := by
  intro n
  induction n with
  | zero =>
    intros
    exact j_none
  | succ n hk6 =>
    intro a1 a2 a3  h
    show J encI RX5 cX5_free 4 (some .int) 6 6 [(0, aR 0 0), (1, aI a1), (2, aI a2), (3, aI a3)] [] h (f_X5_free_b6_body  (f_X5_free_b6  n) a1 a2 a3 h)
    unfold f_X5_free_b6_body
    refine j_iload_n dX5_free_6 rfl ?_
    refine j_aload_n dX5_free_7 rfl ?_
    refine jg_X5_33 z_0 dX5_free_8 ?_
    refine jg_X5_110 (Nat.le_of_ble_eq_true rfl) dX5_free_11 ?_
    refine j_icmp_ge (tgt := 72) dX5_free_14 (by decide) (fun c1 => ?_) (fun c1 => ?_)
    · refine j_aload_n dX5_free_72 rfl ?_
      refine j_iload_n dX5_free_73 rfl ?_
      refine jp_X5_68 z_0 dX5_free_74 ?_
      refine j_iload_n dX5_free_77 rfl ?_
      exact j_iret dX5_free_78
    · refine j_aload_n dX5_free_17 rfl ?_
      refine jg_X5_33 z_0 dX5_free_18 ?_
      refine j_iload_n dX5_free_21 rfl ?_
      refine jc_X5_120 (ct_X4_isIn _ _ (Nat.le_of_ble_eq_true rfl) _) (by decide) (Nat.le_of_ble_eq_true rfl) (Nat.le_of_ble_eq_true rfl) dX5_free_22 (fun v2 h3 e4 => ?_)
      refine j_if_eq (tgt := 66) dX5_free_25 (by decide) (fun c5 => ?_) (fun c5 => ?_)
      · exact j_weak rfl (w_X5_free_b66 _ hk6 _ _ _  _)
      · refine j_aload_n dX5_free_28 rfl ?_
        refine jg_X5_33 z_0 dX5_free_29 ?_
        refine j_iload_n dX5_free_32 rfl ?_
        refine jc_X5_186 (ct_X4_isLoose _ _ (Nat.le_of_ble_eq_true rfl) _) (by decide) (Nat.le_of_ble_eq_true rfl) (Nat.le_of_ble_eq_true rfl) dX5_free_33 (fun v6 h7 e8 => ?_)
        refine j_if_eq (tgt := 66) dX5_free_36 (by decide) (fun c9 => ?_) (fun c9 => ?_)
        · exact j_weak rfl (w_X5_free_b66 _ hk6 _ _ _  _)
        · refine j_iload_n dX5_free_39 rfl ?_
          refine j_iconst (v := (1 : Int32)) dX5_free_40 (by decide) ?_
          refine j_iload_n dX5_free_41 rfl ?_
          refine j_ishl dX5_free_42 ?_
          refine j_ior dX5_free_43 ?_
          refine j_istore_n dX5_free_44 (by decide) ?_
          refine j_iload_n dX5_free_45 rfl ?_
          refine j_aload_n dX5_free_46 rfl ?_
          refine jg_X5_33 z_0 dX5_free_47 ?_
          refine j_iload_n dX5_free_50 rfl ?_
          refine jc_X5_183 (ct_X4_isAgreed _ _ (Nat.le_of_ble_eq_true rfl) _) (by decide) (Nat.le_of_ble_eq_true rfl) (Nat.le_of_ble_eq_true rfl) dX5_free_51 (fun v10 h11 e12 => ?_)
          refine j_if_eq (tgt := 63) dX5_free_54 (by decide) (fun c13 => ?_) (fun c13 => ?_)
          · refine j_iconst (v := (0 : Int32)) dX5_free_63 (by decide) ?_
            exact j_weak rfl (w_X5_free_b64 _ hk6 _ _ _ _  _)
          · refine j_iconst (v := (1 : Int32)) dX5_free_57 (by decide) ?_
            refine j_iload_n dX5_free_58 rfl ?_
            refine j_ishl dX5_free_59 ?_
            refine j_goto (tgt := 64) dX5_free_60 (by decide) ?_
            exact j_weak rfl (w_X5_free_b64 _ hk6 _ _ _ _  _)
set_option maxRecDepth 20000 in
theorem ct_X5_free   (h : Hp) : Ct encI yX5_free cX5_free 4 (some .int) 6 [aR 0 0] h (f_X5_free  h) := by
  refine ct_of [(0, aR 0 0)] (by decide) (fun _ => rfl) (fun _ => Nat.le_of_ble_eq_true rfl) ?_
  show J encI RX5 cX5_free 4 (some .int) 6 0 [(0, aR 0 0)] [] h (f_X5_free  h)
  unfold f_X5_free
  refine j_iconst (v := (0 : Int32)) dX5_free_0 (by decide) ?_
  refine j_istore_n dX5_free_1 (by decide) ?_
  refine j_iconst (v := (0 : Int32)) dX5_free_2 (by decide) ?_
  refine j_istore_n dX5_free_3 (by decide) ?_
  refine j_iconst (v := (0 : Int32)) dX5_free_4 (by decide) ?_
  refine j_istore_n dX5_free_5 (by decide) ?_
  exact j_weak rfl (w_X5_free_b6  _ _ _ _  _)
set_option maxRecDepth 20000 in
theorem w_X5_great_b54 (kont7 : Int32 → Int32 → Int32 → Hp → Option (Int32 × Hp)) (hk7 : ∀ (a1 : Int32) (a2 : Int32) (a3 : Int32)  (h : Hp), J encI RX5 cX5_great 5 (some .int) 6 7 [(0, aR 0 0), (1, aI a1), (2, aI a2), (3, aI a3)] [] h (kont7 a1 a2 a3 h)) (a1 : Int32) (a2 : Int32) (a3 : Int32)  (h : Hp) : J encI RX5 cX5_great 5 (some .int) 6 54 [(0, aR 0 0), (1, aI a1), (2, aI a2), (3, aI a3)] [] h (f_X5_great_b54 kont7 a1 a2 a3 h) := by
  unfold f_X5_great_b54
  refine j_iinc (v := (1 : Int32)) dX5_great_54 rfl (by decide) (by decide) ?_
  refine j_goto (tgt := 7) dX5_great_57 (by decide) ?_
  exact j_weak rfl (hk7 _ _ _  _)
set_option maxRecDepth 20000 in
theorem w_X5_great_b41 (kont7 : Int32 → Int32 → Int32 → Hp → Option (Int32 × Hp)) (hk7 : ∀ (a1 : Int32) (a2 : Int32) (a3 : Int32)  (h : Hp), J encI RX5 cX5_great 5 (some .int) 6 7 [(0, aR 0 0), (1, aI a1), (2, aI a2), (3, aI a3)] [] h (kont7 a1 a2 a3 h)) (a1 : Int32) (a2 : Int32) (a3 : Int32) (s0 : Int32)  (h : Hp) : J encI RX5 cX5_great 5 (some .int) 6 41 [(0, aR 0 0), (1, aI a1), (2, aI a2), (3, aI a3)] [aI s0] h (f_X5_great_b41 kont7 a1 a2 a3 s0 h) := by
  unfold f_X5_great_b41
  refine j_istore dX5_great_41 (by decide) ?_
  refine j_iload dX5_great_43 rfl ?_
  refine j_iload_n dX5_great_45 rfl ?_
  refine j_icmp_le (tgt := 54) dX5_great_46 (by decide) (fun c1 => ?_) (fun c1 => ?_)
  · exact j_weak rfl (w_X5_great_b54 _ hk7 _ _ _  _)
  · refine j_iload dX5_great_49 rfl ?_
    refine j_istore_n dX5_great_51 (by decide) ?_
    refine j_iload_n dX5_great_52 rfl ?_
    refine j_istore_n dX5_great_53 (by decide) ?_
    exact j_weak rfl (w_X5_great_b54 _ hk7 _ _ _  _)
set_option maxRecDepth 20000 in
theorem w_X5_great_b7  : ∀ (n : Nat) (a1 : Int32) (a2 : Int32) (a3 : Int32)  (h : Hp), J encI RX5 cX5_great 5 (some .int) 6 7 [(0, aR 0 0), (1, aI a1), (2, aI a2), (3, aI a3)] [] h (f_X5_great_b7  n a1 a2 a3 h) := by
  intro n
  induction n with
  | zero =>
    intros
    exact j_none
  | succ n hk7 =>
    intro a1 a2 a3  h
    show J encI RX5 cX5_great 5 (some .int) 6 7 [(0, aR 0 0), (1, aI a1), (2, aI a2), (3, aI a3)] [] h (f_X5_great_b7_body  (f_X5_great_b7  n) a1 a2 a3 h)
    unfold f_X5_great_b7_body
    refine j_iload_n dX5_great_7 rfl ?_
    refine j_aload_n dX5_great_8 rfl ?_
    refine jg_X5_33 z_0 dX5_great_9 ?_
    refine jg_X5_110 (Nat.le_of_ble_eq_true rfl) dX5_great_12 ?_
    refine j_icmp_ge (tgt := 60) dX5_great_15 (by decide) (fun c1 => ?_) (fun c1 => ?_)
    · refine j_iload_n dX5_great_60 rfl ?_
      refine j_bipush (v := (-9 : Int32)) dX5_great_61 (by decide) ?_
      refine j_icmp_eq (tgt := 71) dX5_great_63 (by decide) (fun c2 => ?_) (fun c2 => ?_)
      · refine j_iload_n dX5_great_71 rfl ?_
        exact j_iret dX5_great_72
      · refine j_aload_n dX5_great_66 rfl ?_
        refine j_iload_n dX5_great_67 rfl ?_
        refine jp_X5_68 z_0 dX5_great_68 ?_
        refine j_iload_n dX5_great_71 rfl ?_
        exact j_iret dX5_great_72
    · refine j_aload_n dX5_great_18 rfl ?_
      refine jg_X5_33 z_0 dX5_great_19 ?_
      refine j_iload_n dX5_great_22 rfl ?_
      refine jc_X5_120 (ct_X4_isIn _ _ (Nat.le_of_ble_eq_true rfl) _) (by decide) (Nat.le_of_ble_eq_true rfl) (Nat.le_of_ble_eq_true rfl) dX5_great_23 (fun v3 h4 e5 => ?_)
      refine j_if_eq (tgt := 40) dX5_great_26 (by decide) (fun c6 => ?_) (fun c6 => ?_)
      · refine j_iconst (v := (-1 : Int32)) dX5_great_40 (by decide) ?_
        exact j_weak rfl (w_X5_great_b41 _ hk7 _ _ _ _  _)
      · refine j_aload_n dX5_great_29 rfl ?_
        refine jg_X5_33 z_0 dX5_great_30 ?_
        refine j_iload_n dX5_great_33 rfl ?_
        refine jc_X5_177 (ct_X4_loadOf _ _ (Nat.le_of_ble_eq_true rfl) _) (by decide) (Nat.le_of_ble_eq_true rfl) (Nat.le_of_ble_eq_true rfl) dX5_great_34 (fun v7 h8 e9 => ?_)
        refine j_goto (tgt := 41) dX5_great_37 (by decide) ?_
        exact j_weak rfl (w_X5_great_b41 _ hk7 _ _ _ _  _)
set_option maxRecDepth 20000 in
theorem ct_X5_great   (h : Hp) : Ct encI yX5_great cX5_great 5 (some .int) 6 [aR 0 0] h (f_X5_great  h) := by
  refine ct_of [(0, aR 0 0)] (by decide) (fun _ => rfl) (fun _ => Nat.le_of_ble_eq_true rfl) ?_
  show J encI RX5 cX5_great 5 (some .int) 6 0 [(0, aR 0 0)] [] h (f_X5_great  h)
  unfold f_X5_great
  refine j_bipush (v := (-9 : Int32)) dX5_great_0 (by decide) ?_
  refine j_istore_n dX5_great_2 (by decide) ?_
  refine j_iconst (v := (-1 : Int32)) dX5_great_3 (by decide) ?_
  refine j_istore_n dX5_great_4 (by decide) ?_
  refine j_iconst (v := (0 : Int32)) dX5_great_5 (by decide) ?_
  refine j_istore_n dX5_great_6 (by decide) ?_
  exact j_weak rfl (w_X5_great_b7  _ _ _ _  _)
set_option maxRecDepth 20000 in
theorem ct_X5_load (a1 : Int32)  (h : Hp) : Ct encI yX5_load cX5_load 2 (some .int) 6 [aR 0 0, aI a1] h (f_X5_load a1 h) := by
  refine ct_of [(0, aR 0 0), (1, aI a1)] (by decide) (fun _ => rfl) (fun _ => Nat.le_of_ble_eq_true rfl) ?_
  show J encI RX5 cX5_load 2 (some .int) 6 0 [(0, aR 0 0), (1, aI a1)] [] h (f_X5_load a1 h)
  unfold f_X5_load
  refine j_aload_n dX5_load_0 rfl ?_
  refine jg_X5_33 z_0 dX5_load_1 ?_
  refine j_iload_n dX5_load_4 rfl ?_
  refine jc_X5_113 (ct_X4_has _ _ (Nat.le_of_ble_eq_true rfl) _) (by decide) (Nat.le_of_ble_eq_true rfl) (Nat.le_of_ble_eq_true rfl) dX5_load_5 (fun v1 h2 e3 => ?_)
  refine j_if_ne (tgt := 13) dX5_load_8 (by decide) (fun c4 => ?_) (fun c4 => ?_)
  · refine j_aload_n dX5_load_13 rfl ?_
    refine jg_X5_33 z_0 dX5_load_14 ?_
    refine j_iload_n dX5_load_17 rfl ?_
    refine jc_X5_120 (ct_X4_isIn _ _ (Nat.le_of_ble_eq_true rfl) _) (by decide) (Nat.le_of_ble_eq_true rfl) (Nat.le_of_ble_eq_true rfl) dX5_load_18 (fun v5 h6 e7 => ?_)
    refine j_if_ne (tgt := 30) dX5_load_21 (by decide) (fun c8 => ?_) (fun c8 => ?_)
    · refine j_aload_n dX5_load_30 rfl ?_
      refine jg_X5_33 z_0 dX5_load_31 ?_
      refine j_iload_n dX5_load_34 rfl ?_
      refine jc_X5_177 (ct_X4_loadOf _ _ (Nat.le_of_ble_eq_true rfl) _) (by decide) (Nat.le_of_ble_eq_true rfl) (Nat.le_of_ble_eq_true rfl) dX5_load_35 (fun v9 h10 e11 => ?_)
      exact j_iret dX5_load_38
    · refine j_aload_n dX5_load_24 rfl ?_
      refine j_iconst (v := (1 : Int32)) dX5_load_25 (by decide) ?_
      refine jc_X5_53 (ct_X5_refuse _  _) (by decide) z_0 (Nat.le_of_ble_eq_true rfl) dX5_load_26 (fun v12 h13 e14 => ?_)
      exact j_iret dX5_load_29
  · refine j_iconst (v := (-1 : Int32)) dX5_load_11 (by decide) ?_
    exact j_iret dX5_load_12
set_option maxRecDepth 20000 in
theorem w_X5_soon_b68 (kont20 : Int32 → Int32 → Int32 → Hp → Option (Int32 × Hp)) (hk20 : ∀ (a1 : Int32) (a2 : Int32) (a3 : Int32)  (h : Hp), J encI RX5 cX5_soon 5 (some .int) 6 20 [(0, aR 0 0), (1, aI a1), (2, aI a2), (3, aI a3)] [] h (kont20 a1 a2 a3 h)) (kont29 : Int32 → Int32 → Int32 → Int32 → Hp → Option (Int32 × Hp)) (hk29 : ∀ (a1 : Int32) (a2 : Int32) (a3 : Int32) (a4 : Int32)  (h : Hp), J encI RX5 cX5_soon 5 (some .int) 6 29 [(0, aR 0 0), (1, aI a1), (2, aI a2), (3, aI a3), (4, aI a4)] [] h (kont29 a1 a2 a3 a4 h)) (a1 : Int32) (a2 : Int32) (a3 : Int32) (a4 : Int32)  (h : Hp) : J encI RX5 cX5_soon 5 (some .int) 6 68 [(0, aR 0 0), (1, aI a1), (2, aI a2), (3, aI a3), (4, aI a4)] [] h (f_X5_soon_b68 kont20 kont29 a1 a2 a3 a4 h) := by
  unfold f_X5_soon_b68
  refine j_iinc (v := (1 : Int32)) dX5_soon_68 rfl (by decide) (by decide) ?_
  refine j_goto (tgt := 29) dX5_soon_71 (by decide) ?_
  exact j_weak rfl (hk29 _ _ _ _  _)
set_option maxRecDepth 20000 in
theorem w_X5_soon_b64 (kont20 : Int32 → Int32 → Int32 → Hp → Option (Int32 × Hp)) (hk20 : ∀ (a1 : Int32) (a2 : Int32) (a3 : Int32)  (h : Hp), J encI RX5 cX5_soon 5 (some .int) 6 20 [(0, aR 0 0), (1, aI a1), (2, aI a2), (3, aI a3)] [] h (kont20 a1 a2 a3 h)) (kont29 : Int32 → Int32 → Int32 → Int32 → Hp → Option (Int32 × Hp)) (hk29 : ∀ (a1 : Int32) (a2 : Int32) (a3 : Int32) (a4 : Int32)  (h : Hp), J encI RX5 cX5_soon 5 (some .int) 6 29 [(0, aR 0 0), (1, aI a1), (2, aI a2), (3, aI a3), (4, aI a4)] [] h (kont29 a1 a2 a3 a4 h)) (a2 : Int32) (a3 : Int32) (a4 : Int32) (s0 : Int32)  (h : Hp) : J encI RX5 cX5_soon 5 (some .int) 6 64 [(0, aR 0 0), (2, aI a2), (3, aI a3), (4, aI a4)] [aI s0] h (f_X5_soon_b64 kont20 kont29 a2 a3 a4 s0 h) := by
  unfold f_X5_soon_b64
  refine j_istore_n dX5_soon_64 (by decide) ?_
  refine j_iinc (v := (1 : Int32)) dX5_soon_65 rfl (by decide) (by decide) ?_
  exact j_weak rfl (w_X5_soon_b68 _ hk20 _ hk29 _ _ _ _  _)
set_option maxRecDepth 20000 in
theorem w_X5_soon_b29 (kont20 : Int32 → Int32 → Int32 → Hp → Option (Int32 × Hp)) (hk20 : ∀ (a1 : Int32) (a2 : Int32) (a3 : Int32)  (h : Hp), J encI RX5 cX5_soon 5 (some .int) 6 20 [(0, aR 0 0), (1, aI a1), (2, aI a2), (3, aI a3)] [] h (kont20 a1 a2 a3 h)) : ∀ (n : Nat) (a1 : Int32) (a2 : Int32) (a3 : Int32) (a4 : Int32)  (h : Hp), J encI RX5 cX5_soon 5 (some .int) 6 29 [(0, aR 0 0), (1, aI a1), (2, aI a2), (3, aI a3), (4, aI a4)] [] h (f_X5_soon_b29 kont20 n a1 a2 a3 a4 h) := by
  intro n
  induction n with
  | zero =>
    intros
    exact j_none
  | succ n hk29 =>
    intro a1 a2 a3 a4  h
    show J encI RX5 cX5_soon 5 (some .int) 6 29 [(0, aR 0 0), (1, aI a1), (2, aI a2), (3, aI a3), (4, aI a4)] [] h (f_X5_soon_b29_body kont20 (f_X5_soon_b29 kont20 n) a1 a2 a3 a4 h)
    unfold f_X5_soon_b29_body
    refine j_iload dX5_soon_29 rfl ?_
    refine j_bipush (v := (9 : Int32)) dX5_soon_31 (by decide) ?_
    refine j_icmp_ge (tgt := 74) dX5_soon_33 (by decide) (fun c1 => ?_) (fun c1 => ?_)
    · refine j_iinc (v := (1 : Int32)) dX5_soon_74 rfl (by decide) (by decide) ?_
      refine j_goto (tgt := 20) dX5_soon_77 (by decide) ?_
      exact j_weak rfl (hk20 _ _ _  _)
    · refine j_aload_n dX5_soon_36 rfl ?_
      refine jg_X5_33 z_0 dX5_soon_37 ?_
      refine j_iload_n dX5_soon_40 rfl ?_
      refine j_iload dX5_soon_41 rfl ?_
      refine jc_X5_223 (ct_X4_isSoonDrawn _ _ _ (Nat.le_of_ble_eq_true rfl) _) (by decide) (Nat.le_of_ble_eq_true rfl) (Nat.le_of_ble_eq_true rfl) dX5_soon_43 (fun v2 h3 e4 => ?_)
      refine j_if_eq (tgt := 68) dX5_soon_46 (by decide) (fun c5 => ?_) (fun c5 => ?_)
      · exact j_weak rfl (w_X5_soon_b68 _ hk20 _ hk29 _ _ _ _  _)
      · refine j_iload_n dX5_soon_49 rfl ?_
        refine j_if_ne (tgt := 63) dX5_soon_50 (by decide) (fun c6 => ?_) (fun c6 => ?_)
        · refine j_iload_n dX5_soon_63 rfl ?_
          exact j_weak rfl (w_X5_soon_b64 _ hk20 _ hk29 _ _ _ _  _)
        · refine j_bipush (v := (10 : Int32)) dX5_soon_53 (by decide) ?_
          refine j_iload_n dX5_soon_55 rfl ?_
          refine j_imul dX5_soon_56 ?_
          refine j_iload dX5_soon_57 rfl ?_
          refine j_iadd dX5_soon_59 ?_
          refine j_goto (tgt := 64) dX5_soon_60 (by decide) ?_
          exact j_weak rfl (w_X5_soon_b64 _ hk20 _ hk29 _ _ _ _  _)
set_option maxRecDepth 20000 in
theorem w_X5_soon_b20  : ∀ (n : Nat) (a1 : Int32) (a2 : Int32) (a3 : Int32)  (h : Hp), J encI RX5 cX5_soon 5 (some .int) 6 20 [(0, aR 0 0), (1, aI a1), (2, aI a2), (3, aI a3)] [] h (f_X5_soon_b20  n a1 a2 a3 h) := by
  intro n
  induction n with
  | zero =>
    intros
    exact j_none
  | succ n hk20 =>
    intro a1 a2 a3  h
    show J encI RX5 cX5_soon 5 (some .int) 6 20 [(0, aR 0 0), (1, aI a1), (2, aI a2), (3, aI a3)] [] h (f_X5_soon_b20_body  (f_X5_soon_b20  n) a1 a2 a3 h)
    unfold f_X5_soon_b20_body
    refine j_iload_n dX5_soon_20 rfl ?_
    refine j_bipush (v := (6 : Int32)) dX5_soon_21 (by decide) ?_
    refine j_icmp_ge (tgt := 80) dX5_soon_23 (by decide) (fun c1 => ?_) (fun c1 => ?_)
    · refine j_iload_n dX5_soon_80 rfl ?_
      refine j_if_le (tgt := 89) dX5_soon_81 (by decide) (fun c2 => ?_) (fun c2 => ?_)
      · refine j_iload_n dX5_soon_89 rfl ?_
        exact j_iret dX5_soon_90
      · refine j_aload_n dX5_soon_84 rfl ?_
        refine j_iload_n dX5_soon_85 rfl ?_
        refine jp_X5_68 z_0 dX5_soon_86 ?_
        refine j_iload_n dX5_soon_89 rfl ?_
        exact j_iret dX5_soon_90
    · refine j_iconst (v := (0 : Int32)) dX5_soon_26 (by decide) ?_
      refine j_istore dX5_soon_27 (by decide) ?_
      exact j_weak rfl (w_X5_soon_b29 _ hk20 _ _ _ _ _  _)
set_option maxRecDepth 20000 in
theorem ct_X5_soon   (h : Hp) : Ct encI yX5_soon cX5_soon 5 (some .int) 6 [aR 0 0] h (f_X5_soon  h) := by
  refine ct_of [(0, aR 0 0)] (by decide) (fun _ => rfl) (fun _ => Nat.le_of_ble_eq_true rfl) ?_
  show J encI RX5 cX5_soon 5 (some .int) 6 0 [(0, aR 0 0)] [] h (f_X5_soon  h)
  unfold f_X5_soon
  refine j_aload_n dX5_soon_0 rfl ?_
  refine jg_X5_33 z_0 dX5_soon_1 ?_
  refine jg_X5_106 (Nat.le_of_ble_eq_true rfl) dX5_soon_4 ?_
  refine j_if_ne (tgt := 13) dX5_soon_7 (by decide) (fun c1 => ?_) (fun c1 => ?_)
  · refine j_bipush (v := (-9 : Int32)) dX5_soon_13 (by decide) ?_
    refine j_istore_n dX5_soon_15 (by decide) ?_
    refine j_iconst (v := (0 : Int32)) dX5_soon_16 (by decide) ?_
    refine j_istore_n dX5_soon_17 (by decide) ?_
    refine j_iconst (v := (0 : Int32)) dX5_soon_18 (by decide) ?_
    refine j_istore_n dX5_soon_19 (by decide) ?_
    exact j_weak rfl (w_X5_soon_b20  _ _ _ _  _)
  · refine j_bipush (v := (-4 : Int32)) dX5_soon_10 (by decide) ?_
    exact j_iret dX5_soon_12
set_option maxRecDepth 20000 in
theorem w_X5_wall_b76  : ∀ (n : Nat) (a2 : Int32)  (h : Hp), J encI RX5 cX5_wall 3 (some .int) 6 76 [(0, aR 0 0), (2, aI a2)] [] h (f_X5_wall_b76  n a2 h) := by
  intro n
  induction n with
  | zero =>
    intros
    exact j_none
  | succ n hk76 =>
    intro a2  h
    show J encI RX5 cX5_wall 3 (some .int) 6 76 [(0, aR 0 0), (2, aI a2)] [] h (f_X5_wall_b76_body  (f_X5_wall_b76  n) a2 h)
    unfold f_X5_wall_b76_body
    refine j_iload_n dX5_wall_76 rfl ?_
    refine j_iconst (v := (3 : Int32)) dX5_wall_77 (by decide) ?_
    refine j_icmp_ge (tgt := 97) dX5_wall_78 (by decide) (fun c1 => ?_) (fun c1 => ?_)
    · refine j_aload_n dX5_wall_97 rfl ?_
      refine jg_X5_33 z_0 dX5_wall_98 ?_
      refine jg_X5_110 (Nat.le_of_ble_eq_true rfl) dX5_wall_101 ?_
      exact j_iret dX5_wall_104
    · refine j_aload_n dX5_wall_81 rfl ?_
      refine jg_X5_37 z_0 dX5_wall_82 ?_
      refine j_iload_n dX5_wall_85 rfl ?_
      refine ja_18 z_18 dX5_wall_86 (fun q2 z3 => ?_)
      refine j_iconst (v := (0 : Int32)) dX5_wall_87 (by decide) ?_
      refine jp_X5_106 z3 dX5_wall_88 (fun q4 => ?_)
      refine j_iinc (v := (1 : Int32)) dX5_wall_91 rfl (by decide) (by decide) ?_
      refine j_goto (tgt := 76) dX5_wall_94 (by decide) ?_
      exact j_weak rfl (hk76 _  _)
set_option maxRecDepth 20000 in
theorem ct_X5_wall (a1 : Int32)  (h : Hp) : Ct encI yX5_wall cX5_wall 3 (some .int) 6 [aR 0 0, aI a1] h (f_X5_wall a1 h) := by
  refine ct_of [(0, aR 0 0), (1, aI a1)] (by decide) (fun _ => rfl) (fun _ => Nat.le_of_ble_eq_true rfl) ?_
  show J encI RX5 cX5_wall 3 (some .int) 6 0 [(0, aR 0 0), (1, aI a1)] [] h (f_X5_wall a1 h)
  unfold f_X5_wall
  refine j_iload_n dX5_wall_0 rfl ?_
  refine jc_X5_86 (ct_X5_isText _  _) (by decide) (Nat.le_of_ble_eq_true rfl) dX5_wall_1 (fun v1 h2 e3 => ?_)
  refine j_if_ne (tgt := 9) dX5_wall_4 (by decide) (fun c4 => ?_) (fun c4 => ?_)
  · refine j_aload_n dX5_wall_9 rfl ?_
    refine jg_X5_19 z_0 dX5_wall_10 ?_
    refine jg_X5_90 z_5 dX5_wall_13 ?_
    refine j_iload_n dX5_wall_16 rfl ?_
    refine j_iald (ic_8 _) z_8 dX5_wall_17 (fun q5 => ?_)
    refine j_if_ge (tgt := 27) dX5_wall_18 (by decide) (fun c6 => ?_) (fun c6 => ?_)
    · refine j_aload_n dX5_wall_27 rfl ?_
      refine jg_X5_26 z_0 dX5_wall_28 ?_
      refine j_aload_n dX5_wall_31 rfl ?_
      refine jg_X5_19 z_0 dX5_wall_32 ?_
      refine jg_X5_91 z_5 dX5_wall_35 ?_
      refine j_iload_n dX5_wall_38 rfl ?_
      refine ja_6 z_6 dX5_wall_39 (fun q7 z8 => ?_)
      refine j_aload_n dX5_wall_40 rfl ?_
      refine jg_X5_19 z_0 dX5_wall_41 ?_
      refine jg_X5_90 z_5 dX5_wall_44 ?_
      refine j_iload_n dX5_wall_47 rfl ?_
      refine j_iald (ic_8 _) z_8 dX5_wall_48 (fun q9 => ?_)
      refine jc_X5_95 (ct_X1_read _ _ z8 _) (by decide) z_9 (Nat.le_of_ble_eq_true rfl) dX5_wall_49 (fun v10 h11 e12 => ?_)
      refine j_bipush (v := (-9 : Int32)) dX5_wall_52 (by decide) ?_
      refine j_icmp_eq (tgt := 60) dX5_wall_54 (by decide) (fun c13 => ?_) (fun c13 => ?_)
      · refine j_aload_n dX5_wall_60 rfl ?_
        refine jg_X5_33 z_0 dX5_wall_61 ?_
        refine j_aload_n dX5_wall_64 rfl ?_
        refine jg_X5_26 z_0 dX5_wall_65 ?_
        refine jg_X5_99 z_9 dX5_wall_68 ?_
        refine jc_X5_102 (ct_X4_become _ _ (Nat.le_of_ble_eq_true rfl) (Nat.le_of_ble_eq_true rfl) _) (by decide) (Nat.le_of_ble_eq_true rfl) (Nat.le_of_ble_eq_true rfl) dX5_wall_71 (fun v14 h15 e16 => ?_)
        refine j_iconst (v := (0 : Int32)) dX5_wall_74 (by decide) ?_
        refine j_istore_n dX5_wall_75 (by decide) ?_
        exact j_weak rfl (w_X5_wall_b76  _ _  _)
      · refine j_bipush (v := (-4 : Int32)) dX5_wall_57 (by decide) ?_
        exact j_iret dX5_wall_59
    · refine j_aload_n dX5_wall_21 rfl ?_
      refine j_iconst (v := (1 : Int32)) dX5_wall_22 (by decide) ?_
      refine jc_X5_53 (ct_X5_refuse _  _) (by decide) z_0 (Nat.le_of_ble_eq_true rfl) dX5_wall_23 (fun v17 h18 e19 => ?_)
      exact j_iret dX5_wall_26
  · refine j_iconst (v := (-1 : Int32)) dX5_wall_7 (by decide) ?_
    exact j_iret dX5_wall_8
set_option maxRecDepth 20000 in
theorem w_X6_ahead_b176 (kont76 : Int32 → Int32 → Int32 → Int32 → Int32 → Hp → Option (Int32 × Hp)) (hk76 : ∀ (a2 : Int32) (a4 : Int32) (a5 : Int32) (a6 : Int32) (a7 : Int32)  (h : Hp), J encI RX6 cX6_ahead 10 (some .int) 6 76 [(0, aR 20 0), (2, aI a2), (4, aI a4), (5, aI a5), (6, aI a6), (7, aI a7)] [] h (kont76 a2 a4 a5 a6 a7 h)) (kont84 : Int32 → Int32 → Int32 → Int32 → Int32 → Int32 → Hp → Option (Int32 × Hp)) (hk84 : ∀ (a2 : Int32) (a4 : Int32) (a5 : Int32) (a6 : Int32) (a7 : Int32) (a8 : Int32)  (h : Hp), J encI RX6 cX6_ahead 10 (some .int) 6 84 [(0, aR 20 0), (2, aI a2), (4, aI a4), (5, aI a5), (6, aI a6), (7, aI a7), (8, aI a8)] [] h (kont84 a2 a4 a5 a6 a7 a8 h)) (kont92 : Int32 → Int32 → Int32 → Int32 → Int32 → Int32 → Int32 → Hp → Option (Int32 × Hp)) (hk92 : ∀ (a2 : Int32) (a4 : Int32) (a5 : Int32) (a6 : Int32) (a7 : Int32) (a8 : Int32) (a9 : Int32)  (h : Hp), J encI RX6 cX6_ahead 10 (some .int) 6 92 [(0, aR 20 0), (2, aI a2), (4, aI a4), (5, aI a5), (6, aI a6), (7, aI a7), (8, aI a8), (9, aI a9)] [] h (kont92 a2 a4 a5 a6 a7 a8 a9 h)) (a2 : Int32) (a4 : Int32) (a5 : Int32) (a6 : Int32) (a7 : Int32) (a8 : Int32) (a9 : Int32)  (h : Hp) : J encI RX6 cX6_ahead 10 (some .int) 6 176 [(0, aR 20 0), (2, aI a2), (4, aI a4), (5, aI a5), (6, aI a6), (7, aI a7), (8, aI a8), (9, aI a9)] [] h (f_X6_ahead_b176 kont76 kont84 kont92 a2 a4 a5 a6 a7 a8 a9 h) := by
  unfold f_X6_ahead_b176
  refine j_iinc (v := (1 : Int32)) dX6_ahead_176 rfl (by decide) (by decide) ?_
  refine j_goto (tgt := 92) dX6_ahead_179 (by decide) ?_
  exact j_weak rfl (hk92 _ _ _ _ _ _ _  _)
set_option maxRecDepth 20000 in
theorem w_X6_ahead_b150 (kont76 : Int32 → Int32 → Int32 → Int32 → Int32 → Hp → Option (Int32 × Hp)) (hk76 : ∀ (a2 : Int32) (a4 : Int32) (a5 : Int32) (a6 : Int32) (a7 : Int32)  (h : Hp), J encI RX6 cX6_ahead 10 (some .int) 6 76 [(0, aR 20 0), (2, aI a2), (4, aI a4), (5, aI a5), (6, aI a6), (7, aI a7)] [] h (kont76 a2 a4 a5 a6 a7 h)) (kont84 : Int32 → Int32 → Int32 → Int32 → Int32 → Int32 → Hp → Option (Int32 × Hp)) (hk84 : ∀ (a2 : Int32) (a4 : Int32) (a5 : Int32) (a6 : Int32) (a7 : Int32) (a8 : Int32)  (h : Hp), J encI RX6 cX6_ahead 10 (some .int) 6 84 [(0, aR 20 0), (2, aI a2), (4, aI a4), (5, aI a5), (6, aI a6), (7, aI a7), (8, aI a8)] [] h (kont84 a2 a4 a5 a6 a7 a8 h)) (kont92 : Int32 → Int32 → Int32 → Int32 → Int32 → Int32 → Int32 → Hp → Option (Int32 × Hp)) (hk92 : ∀ (a2 : Int32) (a4 : Int32) (a5 : Int32) (a6 : Int32) (a7 : Int32) (a8 : Int32) (a9 : Int32)  (h : Hp), J encI RX6 cX6_ahead 10 (some .int) 6 92 [(0, aR 20 0), (2, aI a2), (4, aI a4), (5, aI a5), (6, aI a6), (7, aI a7), (8, aI a8), (9, aI a9)] [] h (kont92 a2 a4 a5 a6 a7 a8 a9 h)) (a2 : Int32) (a4 : Int32) (a5 : Int32) (a6 : Int32) (a7 : Int32) (a8 : Int32) (a9 : Int32) (s0 : Int32) (s1 : Int32)  (h : Hp) : J encI RX6 cX6_ahead 10 (some .int) 6 150 [(0, aR 20 0), (2, aI a2), (4, aI a4), (5, aI a5), (6, aI a6), (7, aI a7), (8, aI a8), (9, aI a9)] [aI s1, aI s0] h (f_X6_ahead_b150 kont76 kont84 kont92 a2 a4 a5 a6 a7 a8 a9 s0 s1 h) := by
  unfold f_X6_ahead_b150
  refine j_icmp_ne (tgt := 176) dX6_ahead_150 (by decide) (fun c1 => ?_) (fun c1 => ?_)
  · exact j_weak rfl (w_X6_ahead_b176 _ hk76 _ hk84 _ hk92 _ _ _ _ _ _ _  _)
  · refine j_aload_n dX6_ahead_153 rfl ?_
    refine j_iload_n dX6_ahead_154 rfl ?_
    refine j_iload dX6_ahead_155 rfl ?_
    refine j_iload dX6_ahead_157 rfl ?_
    refine jc_X6_66 (ct_X6_setRow _ _ _  _) (by decide) z_20 (Nat.le_of_ble_eq_true rfl) dX6_ahead_159 (fun v2 h3 e4 => ?_)
    refine j_iinc (v := (1 : Int32)) dX6_ahead_162 rfl (by decide) (by decide) ?_
    refine j_iload dX6_ahead_165 rfl ?_
    refine j_aload_n dX6_ahead_167 rfl ?_
    refine j_iload dX6_ahead_168 rfl ?_
    refine jc_X6_195 (ct_X6_asksOf _  _) (by decide) z_20 (Nat.le_of_ble_eq_true rfl) dX6_ahead_170 (fun v5 h6 e7 => ?_)
    refine j_ior dX6_ahead_173 ?_
    refine j_istore dX6_ahead_174 (by decide) ?_
    exact j_weak rfl (w_X6_ahead_b176 _ hk76 _ hk84 _ hk92 _ _ _ _ _ _ _  _)
set_option maxRecDepth 20000 in
theorem w_X6_ahead_b139 (kont76 : Int32 → Int32 → Int32 → Int32 → Int32 → Hp → Option (Int32 × Hp)) (hk76 : ∀ (a2 : Int32) (a4 : Int32) (a5 : Int32) (a6 : Int32) (a7 : Int32)  (h : Hp), J encI RX6 cX6_ahead 10 (some .int) 6 76 [(0, aR 20 0), (2, aI a2), (4, aI a4), (5, aI a5), (6, aI a6), (7, aI a7)] [] h (kont76 a2 a4 a5 a6 a7 h)) (kont84 : Int32 → Int32 → Int32 → Int32 → Int32 → Int32 → Hp → Option (Int32 × Hp)) (hk84 : ∀ (a2 : Int32) (a4 : Int32) (a5 : Int32) (a6 : Int32) (a7 : Int32) (a8 : Int32)  (h : Hp), J encI RX6 cX6_ahead 10 (some .int) 6 84 [(0, aR 20 0), (2, aI a2), (4, aI a4), (5, aI a5), (6, aI a6), (7, aI a7), (8, aI a8)] [] h (kont84 a2 a4 a5 a6 a7 a8 h)) (kont92 : Int32 → Int32 → Int32 → Int32 → Int32 → Int32 → Int32 → Hp → Option (Int32 × Hp)) (hk92 : ∀ (a2 : Int32) (a4 : Int32) (a5 : Int32) (a6 : Int32) (a7 : Int32) (a8 : Int32) (a9 : Int32)  (h : Hp), J encI RX6 cX6_ahead 10 (some .int) 6 92 [(0, aR 20 0), (2, aI a2), (4, aI a4), (5, aI a5), (6, aI a6), (7, aI a7), (8, aI a8), (9, aI a9)] [] h (kont92 a2 a4 a5 a6 a7 a8 a9 h)) (a2 : Int32) (a4 : Int32) (a5 : Int32) (a6 : Int32) (a7 : Int32) (a8 : Int32) (a9 : Int32) (s0 : Int32)  (h : Hp) : J encI RX6 cX6_ahead 10 (some .int) 6 139 [(0, aR 20 0), (2, aI a2), (4, aI a4), (5, aI a5), (6, aI a6), (7, aI a7), (8, aI a8), (9, aI a9)] [aI s0] h (f_X6_ahead_b139 kont76 kont84 kont92 a2 a4 a5 a6 a7 a8 a9 s0 h) := by
  unfold f_X6_ahead_b139
  refine j_iload dX6_ahead_139 rfl ?_
  refine j_iconst (v := (1 : Int32)) dX6_ahead_141 (by decide) ?_
  refine j_icmp_ne (tgt := 149) dX6_ahead_142 (by decide) (fun c1 => ?_) (fun c1 => ?_)
  · refine j_iconst (v := (0 : Int32)) dX6_ahead_149 (by decide) ?_
    exact j_weak rfl (w_X6_ahead_b150 _ hk76 _ hk84 _ hk92 _ _ _ _ _ _ _ _ _  _)
  · refine j_iconst (v := (1 : Int32)) dX6_ahead_145 (by decide) ?_
    refine j_goto (tgt := 150) dX6_ahead_146 (by decide) ?_
    exact j_weak rfl (w_X6_ahead_b150 _ hk76 _ hk84 _ hk92 _ _ _ _ _ _ _ _ _  _)
set_option maxRecDepth 20000 in
theorem w_X6_ahead_b92 (kont76 : Int32 → Int32 → Int32 → Int32 → Int32 → Hp → Option (Int32 × Hp)) (hk76 : ∀ (a2 : Int32) (a4 : Int32) (a5 : Int32) (a6 : Int32) (a7 : Int32)  (h : Hp), J encI RX6 cX6_ahead 10 (some .int) 6 76 [(0, aR 20 0), (2, aI a2), (4, aI a4), (5, aI a5), (6, aI a6), (7, aI a7)] [] h (kont76 a2 a4 a5 a6 a7 h)) (kont84 : Int32 → Int32 → Int32 → Int32 → Int32 → Int32 → Hp → Option (Int32 × Hp)) (hk84 : ∀ (a2 : Int32) (a4 : Int32) (a5 : Int32) (a6 : Int32) (a7 : Int32) (a8 : Int32)  (h : Hp), J encI RX6 cX6_ahead 10 (some .int) 6 84 [(0, aR 20 0), (2, aI a2), (4, aI a4), (5, aI a5), (6, aI a6), (7, aI a7), (8, aI a8)] [] h (kont84 a2 a4 a5 a6 a7 a8 h)) : ∀ (n : Nat) (a2 : Int32) (a4 : Int32) (a5 : Int32) (a6 : Int32) (a7 : Int32) (a8 : Int32) (a9 : Int32)  (h : Hp), J encI RX6 cX6_ahead 10 (some .int) 6 92 [(0, aR 20 0), (2, aI a2), (4, aI a4), (5, aI a5), (6, aI a6), (7, aI a7), (8, aI a8), (9, aI a9)] [] h (f_X6_ahead_b92 kont76 kont84 n a2 a4 a5 a6 a7 a8 a9 h) := by
  intro n
  induction n with
  | zero =>
    intros
    exact j_none
  | succ n hk92 =>
    intro a2 a4 a5 a6 a7 a8 a9  h
    show J encI RX6 cX6_ahead 10 (some .int) 6 92 [(0, aR 20 0), (2, aI a2), (4, aI a4), (5, aI a5), (6, aI a6), (7, aI a7), (8, aI a8), (9, aI a9)] [] h (f_X6_ahead_b92_body kont76 kont84 (f_X6_ahead_b92 kont76 kont84 n) a2 a4 a5 a6 a7 a8 a9 h)
    unfold f_X6_ahead_b92_body
    refine j_iload dX6_ahead_92 rfl ?_
    refine j_aload_n dX6_ahead_94 rfl ?_
    refine jg_X6_129 z_20 dX6_ahead_95 ?_
    refine j_icmp_ge (tgt := 182) dX6_ahead_98 (by decide) (fun c1 => ?_) (fun c1 => ?_)
    · refine j_iinc (v := (-1 : Int32)) dX6_ahead_182 rfl (by decide) (by decide) ?_
      refine j_goto (tgt := 84) dX6_ahead_185 (by decide) ?_
      exact j_weak rfl (hk84 _ _ _ _ _ _  _)
    · refine j_iload dX6_ahead_101 rfl ?_
      refine j_iload dX6_ahead_103 rfl ?_
      refine jc_X6_150 (ct_X6_has _ _  _) (by decide) (Nat.le_of_ble_eq_true rfl) dX6_ahead_105 (fun v2 h3 e4 => ?_)
      refine j_if_eq (tgt := 176) dX6_ahead_108 (by decide) (fun c5 => ?_) (fun c5 => ?_)
      · exact j_weak rfl (w_X6_ahead_b176 _ hk76 _ hk84 _ hk92 _ _ _ _ _ _ _  _)
      · refine j_aload_n dX6_ahead_111 rfl ?_
        refine j_iload dX6_ahead_112 rfl ?_
        refine j_iconst (v := (1 : Int32)) dX6_ahead_114 (by decide) ?_
        refine jc_X6_89 (ct_X6_of _ _  _) (by decide) z_20 (Nat.le_of_ble_eq_true rfl) dX6_ahead_115 (fun v6 h7 e8 => ?_)
        refine j_iload dX6_ahead_118 rfl ?_
        refine j_icmp_ne (tgt := 176) dX6_ahead_120 (by decide) (fun c9 => ?_) (fun c9 => ?_)
        · exact j_weak rfl (w_X6_ahead_b176 _ hk76 _ hk84 _ hk92 _ _ _ _ _ _ _  _)
        · refine j_aload_n dX6_ahead_123 rfl ?_
          refine j_iload dX6_ahead_124 rfl ?_
          refine j_iconst (v := (0 : Int32)) dX6_ahead_126 (by decide) ?_
          refine jc_X6_89 (ct_X6_of _ _  _) (by decide) z_20 (Nat.le_of_ble_eq_true rfl) dX6_ahead_127 (fun v10 h11 e12 => ?_)
          refine j_iconst (v := (5 : Int32)) dX6_ahead_130 (by decide) ?_
          refine j_icmp_ne (tgt := 138) dX6_ahead_131 (by decide) (fun c13 => ?_) (fun c13 => ?_)
          · refine j_iconst (v := (0 : Int32)) dX6_ahead_138 (by decide) ?_
            exact j_weak rfl (w_X6_ahead_b139 _ hk76 _ hk84 _ hk92 _ _ _ _ _ _ _ _  _)
          · refine j_iconst (v := (1 : Int32)) dX6_ahead_134 (by decide) ?_
            refine j_goto (tgt := 139) dX6_ahead_135 (by decide) ?_
            exact j_weak rfl (w_X6_ahead_b139 _ hk76 _ hk84 _ hk92 _ _ _ _ _ _ _ _  _)
