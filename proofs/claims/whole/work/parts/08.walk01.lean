set_option maxRecDepth 20000 in
theorem w_X5_at_b44    (h : Hp) : J encI RX5 cX5_at 3 (some .int) 1 44 [(0, aR 0 0)] [] h (f_X5_at_b44   h) := by
  unfold f_X5_at_b44
  refine j_aload_n dX5_at_44 rfl ?_
  refine j_iconst (v := (2 : Int32)) dX5_at_45 (by decide) ?_
  refine jc_X5_53 (ct_X5_refuse _  _) (by decide) z_0 (Nat.le_of_ble_eq_true rfl) dX5_at_46 (fun v1 h2 e3 => ?_)
  exact j_iret dX5_at_49
set_option maxRecDepth 20000 in
theorem ct_X5_at (a1 : Int32) (a2 : Int32)  (h : Hp) : Ct encI yX5_at cX5_at 3 (some .int) 1 [aR 0 0, aI a1, aI a2] h (f_X5_at a1 a2 h) := by
  refine ct_of [(0, aR 0 0), (1, aI a1), (2, aI a2)] (by decide) (fun _ => rfl) (fun _ => Nat.le_of_ble_eq_true rfl) ?_
  show J encI RX5 cX5_at 3 (some .int) 1 0 [(0, aR 0 0), (1, aI a1), (2, aI a2)] [] h (f_X5_at a1 a2 h)
  unfold f_X5_at
  refine j_iload_n dX5_at_0 rfl ?_
  refine jc_X5_49 (ct_X5_isRow _  _) (by decide) (Nat.le_of_ble_eq_true rfl) dX5_at_1 (fun v1 h2 e3 => ?_)
  refine j_if_ne (tgt := 9) dX5_at_4 (by decide) (fun c4 => ?_) (fun c4 => ?_)
  · refine j_aload_n dX5_at_9 rfl ?_
    refine jg_X5_10 z_0 dX5_at_10 ?_
    refine jg_X5_61 z_1 dX5_at_13 ?_
    refine j_iload_n dX5_at_16 rfl ?_
    refine j_iald (ic_4 _) z_4 dX5_at_17 (fun q5 => ?_)
    refine j_if_ge (tgt := 27) dX5_at_18 (by decide) (fun c6 => ?_) (fun c6 => ?_)
    · refine j_iload_n dX5_at_27 rfl ?_
      refine j_if_lt (tgt := 44) dX5_at_28 (by decide) (fun c7 => ?_) (fun c7 => ?_)
      · exact j_weak rfl (w_X5_at_b44    _)
      · refine j_iload_n dX5_at_31 rfl ?_
        refine j_aload_n dX5_at_32 rfl ?_
        refine jg_X5_10 z_0 dX5_at_33 ?_
        refine jg_X5_61 z_1 dX5_at_36 ?_
        refine j_iload_n dX5_at_39 rfl ?_
        refine j_iald (ic_4 _) z_4 dX5_at_40 (fun q8 => ?_)
        refine j_icmp_lt (tgt := 50) dX5_at_41 (by decide) (fun c9 => ?_) (fun c9 => ?_)
        · refine j_aload_n dX5_at_50 rfl ?_
          refine j_aload_n dX5_at_51 rfl ?_
          refine jg_X5_10 z_0 dX5_at_52 ?_
          refine jg_X5_64 z_1 dX5_at_55 ?_
          refine j_iload_n dX5_at_58 rfl ?_
          refine ja_2 z_2 dX5_at_59 (fun q10 z11 => ?_)
          refine j_iload_n dX5_at_60 rfl ?_
          refine j_iald (ic_3 _) z11 dX5_at_61 (fun q12 => ?_)
          refine jp_X5_68 z_0 dX5_at_62 ?_
          refine j_iconst (v := (1 : Int32)) dX5_at_65 (by decide) ?_
          exact j_iret dX5_at_66
        · exact j_weak rfl (w_X5_at_b44    _)
    · refine j_aload_n dX5_at_21 rfl ?_
      refine j_iconst (v := (1 : Int32)) dX5_at_22 (by decide) ?_
      refine jc_X5_53 (ct_X5_refuse _  _) (by decide) z_0 (Nat.le_of_ble_eq_true rfl) dX5_at_23 (fun v13 h14 e15 => ?_)
      exact j_iret dX5_at_26
  · refine j_iconst (v := (-1 : Int32)) dX5_at_7 (by decide) ?_
    exact j_iret dX5_at_8
set_option maxRecDepth 20000 in
theorem ct_X5_brick (a1 : Int32) (a2 : Int32)  (h : Hp) : Ct encI yX5_brick cX5_brick 3 (some .int) 1 [aR 0 0, aI a1, aI a2] h (f_X5_brick a1 a2 h) := by
  refine ct_of [(0, aR 0 0), (1, aI a1), (2, aI a2)] (by decide) (fun _ => rfl) (fun _ => Nat.le_of_ble_eq_true rfl) ?_
  show J encI RX5 cX5_brick 3 (some .int) 1 0 [(0, aR 0 0), (1, aI a1), (2, aI a2)] [] h (f_X5_brick a1 a2 h)
  unfold f_X5_brick
  refine j_aload_n dX5_brick_0 rfl ?_
  refine jg_X5_33 z_0 dX5_brick_1 ?_
  refine j_iload_n dX5_brick_4 rfl ?_
  refine jc_X5_113 (ct_X4_has _ _ (Nat.le_of_ble_eq_true rfl) _) (by decide) (Nat.le_of_ble_eq_true rfl) (Nat.le_of_ble_eq_true rfl) dX5_brick_5 (fun v1 h2 e3 => ?_)
  refine j_if_eq (tgt := 21) dX5_brick_8 (by decide) (fun c4 => ?_) (fun c4 => ?_)
  · refine j_iconst (v := (-1 : Int32)) dX5_brick_21 (by decide) ?_
    exact j_iret dX5_brick_22
  · refine j_iload_n dX5_brick_11 rfl ?_
    refine j_if_lt (tgt := 21) dX5_brick_12 (by decide) (fun c5 => ?_) (fun c5 => ?_)
    · refine j_iconst (v := (-1 : Int32)) dX5_brick_21 (by decide) ?_
      exact j_iret dX5_brick_22
    · refine j_iload_n dX5_brick_15 rfl ?_
      refine j_bipush (v := (8 : Int32)) dX5_brick_16 (by decide) ?_
      refine j_icmp_le (tgt := 23) dX5_brick_18 (by decide) (fun c6 => ?_) (fun c6 => ?_)
      · refine j_aload_n dX5_brick_23 rfl ?_
        refine j_aload_n dX5_brick_24 rfl ?_
        refine jg_X5_33 z_0 dX5_brick_25 ?_
        refine j_iload_n dX5_brick_28 rfl ?_
        refine j_iload_n dX5_brick_29 rfl ?_
        refine jc_X5_116 (ct_X4_tells _ _ _ (Nat.le_of_ble_eq_true rfl) _) (by decide) (Nat.le_of_ble_eq_true rfl) (Nat.le_of_ble_eq_true rfl) dX5_brick_30 (fun v7 h8 e9 => ?_)
        refine jp_X5_68 z_0 dX5_brick_33 ?_
        refine j_iconst (v := (1 : Int32)) dX5_brick_36 (by decide) ?_
        exact j_iret dX5_brick_37
      · refine j_iconst (v := (-1 : Int32)) dX5_brick_21 (by decide) ?_
        exact j_iret dX5_brick_22
set_option maxRecDepth 20000 in
theorem w_X5_copy_b51    (h : Hp) : J encI RX5 cX5_copy 6 (some .int) 1 51 [(0, aR 0 0)] [] h (f_X5_copy_b51   h) := by
  unfold f_X5_copy_b51
  refine j_aload_n dX5_copy_51 rfl ?_
  refine j_iconst (v := (1 : Int32)) dX5_copy_52 (by decide) ?_
  refine jc_X5_53 (ct_X5_refuse _  _) (by decide) z_0 (Nat.le_of_ble_eq_true rfl) dX5_copy_53 (fun v1 h2 e3 => ?_)
  exact j_iret dX5_copy_56
set_option maxRecDepth 20000 in
theorem w_X5_copy_b86    (h : Hp) : J encI RX5 cX5_copy 6 (some .int) 1 86 [(0, aR 0 0)] [] h (f_X5_copy_b86   h) := by
  unfold f_X5_copy_b86
  refine j_aload_n dX5_copy_86 rfl ?_
  refine j_iconst (v := (2 : Int32)) dX5_copy_87 (by decide) ?_
  refine jc_X5_53 (ct_X5_refuse _  _) (by decide) z_0 (Nat.le_of_ble_eq_true rfl) dX5_copy_88 (fun v1 h2 e3 => ?_)
  exact j_iret dX5_copy_91
set_option maxRecDepth 20000 in
theorem ct_X5_copy (a1 : Int32) (a2 : Int32) (a3 : Int32) (a4 : Int32) (a5 : Int32)  (h : Hp) : Ct encI yX5_copy cX5_copy 6 (some .int) 1 [aR 0 0, aI a1, aI a2, aI a3, aI a4, aI a5] h (f_X5_copy a1 a2 a3 a4 a5 h) := by
  refine ct_of [(0, aR 0 0), (1, aI a1), (2, aI a2), (3, aI a3), (4, aI a4), (5, aI a5)] (by decide) (fun _ => rfl) (fun _ => Nat.le_of_ble_eq_true rfl) ?_
  show J encI RX5 cX5_copy 6 (some .int) 1 0 [(0, aR 0 0), (1, aI a1), (2, aI a2), (3, aI a3), (4, aI a4), (5, aI a5)] [] h (f_X5_copy a1 a2 a3 a4 a5 h)
  unfold f_X5_copy
  refine j_iload_n dX5_copy_0 rfl ?_
  refine jc_X5_49 (ct_X5_isRow _  _) (by decide) (Nat.le_of_ble_eq_true rfl) dX5_copy_1 (fun v1 h2 e3 => ?_)
  refine j_if_eq (tgt := 14) dX5_copy_4 (by decide) (fun c4 => ?_) (fun c4 => ?_)
  · refine j_iconst (v := (-1 : Int32)) dX5_copy_14 (by decide) ?_
    exact j_iret dX5_copy_15
  · refine j_iload_n dX5_copy_7 rfl ?_
    refine jc_X5_49 (ct_X5_isRow _  _) (by decide) (Nat.le_of_ble_eq_true rfl) dX5_copy_8 (fun v5 h6 e7 => ?_)
    refine j_if_ne (tgt := 16) dX5_copy_11 (by decide) (fun c8 => ?_) (fun c8 => ?_)
    · refine j_iload dX5_copy_16 rfl ?_
      refine j_if_ge (tgt := 27) dX5_copy_18 (by decide) (fun c9 => ?_) (fun c9 => ?_)
      · refine j_aload_n dX5_copy_27 rfl ?_
        refine jg_X5_10 z_0 dX5_copy_28 ?_
        refine jg_X5_61 z_1 dX5_copy_31 ?_
        refine j_iload_n dX5_copy_34 rfl ?_
        refine j_iald (ic_4 _) z_4 dX5_copy_35 (fun q10 => ?_)
        refine j_if_lt (tgt := 51) dX5_copy_36 (by decide) (fun c11 => ?_) (fun c11 => ?_)
        · exact j_weak rfl (w_X5_copy_b51    _)
        · refine j_aload_n dX5_copy_39 rfl ?_
          refine jg_X5_10 z_0 dX5_copy_40 ?_
          refine jg_X5_61 z_1 dX5_copy_43 ?_
          refine j_iload_n dX5_copy_46 rfl ?_
          refine j_iald (ic_4 _) z_4 dX5_copy_47 (fun q12 => ?_)
          refine j_if_ge (tgt := 57) dX5_copy_48 (by decide) (fun c13 => ?_) (fun c13 => ?_)
          · refine j_aload_n dX5_copy_57 rfl ?_
            refine jg_X5_10 z_0 dX5_copy_58 ?_
            refine j_iload_n dX5_copy_61 rfl ?_
            refine j_iload_n dX5_copy_62 rfl ?_
            refine j_iload dX5_copy_63 rfl ?_
            refine jc_X5_72 (ct_X2_hasPlaces _ _ _  _) (by decide) z_1 (Nat.le_of_ble_eq_true rfl) dX5_copy_65 (fun v14 h15 e16 => ?_)
            refine j_if_eq (tgt := 86) dX5_copy_68 (by decide) (fun c17 => ?_) (fun c17 => ?_)
            · exact j_weak rfl (w_X5_copy_b86    _)
            · refine j_aload_n dX5_copy_71 rfl ?_
              refine jg_X5_10 z_0 dX5_copy_72 ?_
              refine j_iload_n dX5_copy_75 rfl ?_
              refine j_iload dX5_copy_76 rfl ?_
              refine j_iload dX5_copy_78 rfl ?_
              refine jc_X5_72 (ct_X2_hasPlaces _ _ _  _) (by decide) z_1 (Nat.le_of_ble_eq_true rfl) dX5_copy_80 (fun v18 h19 e20 => ?_)
              refine j_if_ne (tgt := 92) dX5_copy_83 (by decide) (fun c21 => ?_) (fun c21 => ?_)
              · refine j_aload_n dX5_copy_92 rfl ?_
                refine jg_X5_10 z_0 dX5_copy_93 ?_
                refine jg_X5_64 z_1 dX5_copy_96 ?_
                refine j_iload_n dX5_copy_99 rfl ?_
                refine ja_2 z_2 dX5_copy_100 (fun q22 z23 => ?_)
                refine j_iload_n dX5_copy_101 rfl ?_
                refine j_aload_n dX5_copy_102 rfl ?_
                refine jg_X5_10 z_0 dX5_copy_103 ?_
                refine jg_X5_64 z_1 dX5_copy_106 ?_
                refine j_iload_n dX5_copy_109 rfl ?_
                refine ja_2 z_2 dX5_copy_110 (fun q24 z25 => ?_)
                refine j_iload dX5_copy_111 rfl ?_
                refine j_iload dX5_copy_113 rfl ?_
                refine j_acopy z23 z25 (gt_m 294 rfl rfl) (gt_m 296 rfl rfl) (gt_m 295 rfl rfl) (gt_m 54 rfl rfl) (by decide) (by decide) dX5_copy_115 (fun q26 => ?_)
                refine j_iconst (v := (1 : Int32)) dX5_copy_118 (by decide) ?_
                exact j_iret dX5_copy_119
              · exact j_weak rfl (w_X5_copy_b86    _)
          · exact j_weak rfl (w_X5_copy_b51    _)
      · refine j_aload_n dX5_copy_21 rfl ?_
        refine j_iconst (v := (5 : Int32)) dX5_copy_22 (by decide) ?_
        refine jc_X5_53 (ct_X5_refuse _  _) (by decide) z_0 (Nat.le_of_ble_eq_true rfl) dX5_copy_23 (fun v27 h28 e29 => ?_)
        exact j_iret dX5_copy_26
    · refine j_iconst (v := (-1 : Int32)) dX5_copy_14 (by decide) ?_
      exact j_iret dX5_copy_15
set_option maxRecDepth 20000 in
theorem w_X5_hang_b28  (a1 : Int32) (a2 : Int32)  (h : Hp) : J encI RX5 cX5_hang 4 (some .int) 1 28 [(0, aR 0 0), (1, aI a1), (2, aI a2)] [] h (f_X5_hang_b28  a1 a2 h) := by
  unfold f_X5_hang_b28
  refine j_iload_n dX5_hang_28 rfl ?_
  refine j_iload_n dX5_hang_29 rfl ?_
  refine j_icmp_ne (tgt := 35) dX5_hang_30 (by decide) (fun c1 => ?_) (fun c1 => ?_)
  · refine j_aload_n dX5_hang_35 rfl ?_
    refine jg_X5_33 z_0 dX5_hang_36 ?_
    refine jg_X5_123 (Nat.le_of_ble_eq_true rfl) dX5_hang_39 ?_
    refine j_iload_n dX5_hang_42 rfl ?_
    refine ja_12 (Nat.le_of_ble_eq_true rfl) dX5_hang_43 (fun q2 z3 => ?_)
    refine jg_X5_144 z3 dX5_hang_44 ?_
    refine j_istore_n dX5_hang_47 (by decide) ?_
    refine j_aload_n dX5_hang_48 rfl ?_
    refine jg_X5_33 z_0 dX5_hang_49 ?_
    refine jg_X5_123 (Nat.le_of_ble_eq_true rfl) dX5_hang_52 ?_
    refine j_iload_n dX5_hang_55 rfl ?_
    refine ja_12 (Nat.le_of_ble_eq_true rfl) dX5_hang_56 (fun q4 z5 => ?_)
    refine j_iload_n dX5_hang_57 rfl ?_
    refine jp_X5_144 z5 dX5_hang_58 ?_
    refine j_iload_n dX5_hang_61 rfl ?_
    exact j_iret dX5_hang_62
  · refine j_iconst (v := (-1 : Int32)) dX5_hang_33 (by decide) ?_
    exact j_iret dX5_hang_34
set_option maxRecDepth 20000 in
theorem ct_X5_hang (a1 : Int32) (a2 : Int32)  (h : Hp) : Ct encI yX5_hang cX5_hang 4 (some .int) 1 [aR 0 0, aI a1, aI a2] h (f_X5_hang a1 a2 h) := by
  refine ct_of [(0, aR 0 0), (1, aI a1), (2, aI a2)] (by decide) (fun _ => rfl) (fun _ => Nat.le_of_ble_eq_true rfl) ?_
  show J encI RX5 cX5_hang 4 (some .int) 1 0 [(0, aR 0 0), (1, aI a1), (2, aI a2)] [] h (f_X5_hang a1 a2 h)
  unfold f_X5_hang
  refine j_aload_n dX5_hang_0 rfl ?_
  refine jg_X5_33 z_0 dX5_hang_1 ?_
  refine j_iload_n dX5_hang_4 rfl ?_
  refine jc_X5_113 (ct_X4_has _ _ (Nat.le_of_ble_eq_true rfl) _) (by decide) (Nat.le_of_ble_eq_true rfl) (Nat.le_of_ble_eq_true rfl) dX5_hang_5 (fun v1 h2 e3 => ?_)
  refine j_if_eq (tgt := 33) dX5_hang_8 (by decide) (fun c4 => ?_) (fun c4 => ?_)
  · refine j_iconst (v := (-1 : Int32)) dX5_hang_33 (by decide) ?_
    exact j_iret dX5_hang_34
  · refine j_iload_n dX5_hang_11 rfl ?_
    refine j_bipush (v := (-9 : Int32)) dX5_hang_12 (by decide) ?_
    refine j_icmp_eq (tgt := 28) dX5_hang_14 (by decide) (fun c5 => ?_) (fun c5 => ?_)
    · exact j_weak rfl (w_X5_hang_b28  _ _  _)
    · refine j_aload_n dX5_hang_17 rfl ?_
      refine jg_X5_33 z_0 dX5_hang_18 ?_
      refine j_iload_n dX5_hang_21 rfl ?_
      refine jc_X5_113 (ct_X4_has _ _ (Nat.le_of_ble_eq_true rfl) _) (by decide) (Nat.le_of_ble_eq_true rfl) (Nat.le_of_ble_eq_true rfl) dX5_hang_22 (fun v6 h7 e8 => ?_)
      refine j_if_eq (tgt := 33) dX5_hang_25 (by decide) (fun c9 => ?_) (fun c9 => ?_)
      · refine j_iconst (v := (-1 : Int32)) dX5_hang_33 (by decide) ?_
        exact j_iret dX5_hang_34
      · exact j_weak rfl (w_X5_hang_b28  _ _  _)
set_option maxRecDepth 20000 in
theorem w_X5_heir_b26  : ∀ (n : Nat) (a1 : Int32) (a2 : Int32) (a3 : Int32) (a4 : Int32)  (h : Hp), J encI RX5 cX5_heir 5 (some .int) 1 26 [(0, aR 0 0), (1, aI a1), (2, aI a2), (3, aI a3), (4, aI a4)] [] h (f_X5_heir_b26  n a1 a2 a3 a4 h) := by
  intro n
  induction n with
  | zero =>
    intros
    exact j_none
  | succ n hk26 =>
    intro a1 a2 a3 a4  h
    show J encI RX5 cX5_heir 5 (some .int) 1 26 [(0, aR 0 0), (1, aI a1), (2, aI a2), (3, aI a3), (4, aI a4)] [] h (f_X5_heir_b26_body  (f_X5_heir_b26  n) a1 a2 a3 a4 h)
    unfold f_X5_heir_b26_body
    refine j_iload dX5_heir_26 rfl ?_
    refine j_aload_n dX5_heir_28 rfl ?_
    refine jg_X5_33 z_0 dX5_heir_29 ?_
    refine jg_X5_110 (Nat.le_of_ble_eq_true rfl) dX5_heir_32 ?_
    refine j_icmp_ge (tgt := 62) dX5_heir_35 (by decide) (fun c1 => ?_) (fun c1 => ?_)
    · refine j_iload_n dX5_heir_62 rfl ?_
      exact j_iret dX5_heir_63
    · refine j_iload_n dX5_heir_38 rfl ?_
      refine j_aload_n dX5_heir_39 rfl ?_
      refine jg_X5_33 z_0 dX5_heir_40 ?_
      refine jg_X5_123 (Nat.le_of_ble_eq_true rfl) dX5_heir_43 ?_
      refine j_iload dX5_heir_46 rfl ?_
      refine ja_12 (Nat.le_of_ble_eq_true rfl) dX5_heir_48 (fun q2 z3 => ?_)
      refine j_iload_n dX5_heir_49 rfl ?_
      refine j_iload_n dX5_heir_50 rfl ?_
      refine jc_X5_141 (ct_X0_passMarks _ _ _ z3 _) (by decide) z3 (Nat.le_of_ble_eq_true rfl) dX5_heir_51 (fun v4 h5 e6 => ?_)
      refine j_iadd dX5_heir_54 ?_
      refine j_istore_n dX5_heir_55 (by decide) ?_
      refine j_iinc (v := (1 : Int32)) dX5_heir_56 rfl (by decide) (by decide) ?_
      refine j_goto (tgt := 26) dX5_heir_59 (by decide) ?_
      exact j_weak rfl (hk26 _ _ _ _  _)
set_option maxRecDepth 20000 in
theorem ct_X5_heir (a1 : Int32) (a2 : Int32)  (h : Hp) : Ct encI yX5_heir cX5_heir 5 (some .int) 1 [aR 0 0, aI a1, aI a2] h (f_X5_heir a1 a2 h) := by
  refine ct_of [(0, aR 0 0), (1, aI a1), (2, aI a2)] (by decide) (fun _ => rfl) (fun _ => Nat.le_of_ble_eq_true rfl) ?_
  show J encI RX5 cX5_heir 5 (some .int) 1 0 [(0, aR 0 0), (1, aI a1), (2, aI a2)] [] h (f_X5_heir a1 a2 h)
  unfold f_X5_heir
  refine j_iload_n dX5_heir_0 rfl ?_
  refine jc_X5_135 (ct_X5_isPerson _  _) (by decide) (Nat.le_of_ble_eq_true rfl) dX5_heir_1 (fun v1 h2 e3 => ?_)
  refine j_if_eq (tgt := 19) dX5_heir_4 (by decide) (fun c4 => ?_) (fun c4 => ?_)
  · refine j_iconst (v := (-1 : Int32)) dX5_heir_19 (by decide) ?_
    exact j_iret dX5_heir_20
  · refine j_iload_n dX5_heir_7 rfl ?_
    refine jc_X5_135 (ct_X5_isPerson _  _) (by decide) (Nat.le_of_ble_eq_true rfl) dX5_heir_8 (fun v5 h6 e7 => ?_)
    refine j_if_eq (tgt := 19) dX5_heir_11 (by decide) (fun c8 => ?_) (fun c8 => ?_)
    · refine j_iconst (v := (-1 : Int32)) dX5_heir_19 (by decide) ?_
      exact j_iret dX5_heir_20
    · refine j_iload_n dX5_heir_14 rfl ?_
      refine j_iload_n dX5_heir_15 rfl ?_
      refine j_icmp_ne (tgt := 21) dX5_heir_16 (by decide) (fun c9 => ?_) (fun c9 => ?_)
      · refine j_iconst (v := (0 : Int32)) dX5_heir_21 (by decide) ?_
        refine j_istore_n dX5_heir_22 (by decide) ?_
        refine j_iconst (v := (0 : Int32)) dX5_heir_23 (by decide) ?_
        refine j_istore dX5_heir_24 (by decide) ?_
        exact j_weak rfl (w_X5_heir_b26  _ _ _ _ _  _)
      · refine j_iconst (v := (-1 : Int32)) dX5_heir_19 (by decide) ?_
        exact j_iret dX5_heir_20
set_option maxRecDepth 20000 in
theorem w_X5_lay_b44    (h : Hp) : J encI RX5 cX5_lay 4 (some .int) 1 44 [(0, aR 0 0)] [] h (f_X5_lay_b44   h) := by
  unfold f_X5_lay_b44
  refine j_aload_n dX5_lay_44 rfl ?_
  refine j_iconst (v := (2 : Int32)) dX5_lay_45 (by decide) ?_
  refine jc_X5_53 (ct_X5_refuse _  _) (by decide) z_0 (Nat.le_of_ble_eq_true rfl) dX5_lay_46 (fun v1 h2 e3 => ?_)
  exact j_iret dX5_lay_49
set_option maxRecDepth 20000 in
theorem ct_X5_lay (a1 : Int32) (a2 : Int32) (a3 : Int32)  (h : Hp) : Ct encI yX5_lay cX5_lay 4 (some .int) 1 [aR 0 0, aI a1, aI a2, aI a3] h (f_X5_lay a1 a2 a3 h) := by
  refine ct_of [(0, aR 0 0), (1, aI a1), (2, aI a2), (3, aI a3)] (by decide) (fun _ => rfl) (fun _ => Nat.le_of_ble_eq_true rfl) ?_
  show J encI RX5 cX5_lay 4 (some .int) 1 0 [(0, aR 0 0), (1, aI a1), (2, aI a2), (3, aI a3)] [] h (f_X5_lay a1 a2 a3 h)
  unfold f_X5_lay
  refine j_iload_n dX5_lay_0 rfl ?_
  refine jc_X5_49 (ct_X5_isRow _  _) (by decide) (Nat.le_of_ble_eq_true rfl) dX5_lay_1 (fun v1 h2 e3 => ?_)
  refine j_if_ne (tgt := 9) dX5_lay_4 (by decide) (fun c4 => ?_) (fun c4 => ?_)
  · refine j_aload_n dX5_lay_9 rfl ?_
    refine jg_X5_10 z_0 dX5_lay_10 ?_
    refine jg_X5_61 z_1 dX5_lay_13 ?_
    refine j_iload_n dX5_lay_16 rfl ?_
    refine j_iald (ic_4 _) z_4 dX5_lay_17 (fun q5 => ?_)
    refine j_if_ge (tgt := 27) dX5_lay_18 (by decide) (fun c6 => ?_) (fun c6 => ?_)
    · refine j_iload_n dX5_lay_27 rfl ?_
      refine j_if_lt (tgt := 44) dX5_lay_28 (by decide) (fun c7 => ?_) (fun c7 => ?_)
      · exact j_weak rfl (w_X5_lay_b44    _)
      · refine j_iload_n dX5_lay_31 rfl ?_
        refine j_aload_n dX5_lay_32 rfl ?_
        refine jg_X5_10 z_0 dX5_lay_33 ?_
        refine jg_X5_61 z_1 dX5_lay_36 ?_
        refine j_iload_n dX5_lay_39 rfl ?_
        refine j_iald (ic_4 _) z_4 dX5_lay_40 (fun q8 => ?_)
        refine j_icmp_lt (tgt := 50) dX5_lay_41 (by decide) (fun c9 => ?_) (fun c9 => ?_)
        · refine j_aload_n dX5_lay_50 rfl ?_
          refine j_aload_n dX5_lay_51 rfl ?_
          refine jg_X5_10 z_0 dX5_lay_52 ?_
          refine jg_X5_64 z_1 dX5_lay_55 ?_
          refine j_iload_n dX5_lay_58 rfl ?_
          refine ja_2 z_2 dX5_lay_59 (fun q10 z11 => ?_)
          refine j_iload_n dX5_lay_60 rfl ?_
          refine j_iald (ic_3 _) z11 dX5_lay_61 (fun q12 => ?_)
          refine jp_X5_68 z_0 dX5_lay_62 ?_
          refine j_aload_n dX5_lay_65 rfl ?_
          refine jg_X5_10 z_0 dX5_lay_66 ?_
          refine jg_X5_64 z_1 dX5_lay_69 ?_
          refine j_iload_n dX5_lay_72 rfl ?_
          refine ja_2 z_2 dX5_lay_73 (fun q13 z14 => ?_)
          refine j_iload_n dX5_lay_74 rfl ?_
          refine j_iload_n dX5_lay_75 rfl ?_
          refine j_iast (ic_3 _) z14 dX5_lay_76 (fun q15 => ?_)
          refine j_iconst (v := (1 : Int32)) dX5_lay_77 (by decide) ?_
          exact j_iret dX5_lay_78
        · exact j_weak rfl (w_X5_lay_b44    _)
    · refine j_aload_n dX5_lay_21 rfl ?_
      refine j_iconst (v := (1 : Int32)) dX5_lay_22 (by decide) ?_
      refine jc_X5_53 (ct_X5_refuse _  _) (by decide) z_0 (Nat.le_of_ble_eq_true rfl) dX5_lay_23 (fun v16 h17 e18 => ?_)
      exact j_iret dX5_lay_26
  · refine j_iconst (v := (-1 : Int32)) dX5_lay_7 (by decide) ?_
    exact j_iret dX5_lay_8
set_option maxRecDepth 20000 in
theorem ct_X5_mean (a1 : Int32)  (h : Hp) : Ct encI yX5_mean cX5_mean 3 (some .int) 1 [aR 0 0, aI a1] h (f_X5_mean a1 h) := by
  refine ct_of [(0, aR 0 0), (1, aI a1)] (by decide) (fun _ => rfl) (fun _ => Nat.le_of_ble_eq_true rfl) ?_
  show J encI RX5 cX5_mean 3 (some .int) 1 0 [(0, aR 0 0), (1, aI a1)] [] h (f_X5_mean a1 h)
  unfold f_X5_mean
  refine j_iload_n dX5_mean_0 rfl ?_
  refine jc_X5_49 (ct_X5_isRow _  _) (by decide) (Nat.le_of_ble_eq_true rfl) dX5_mean_1 (fun v1 h2 e3 => ?_)
  refine j_if_ne (tgt := 9) dX5_mean_4 (by decide) (fun c4 => ?_) (fun c4 => ?_)
  · refine j_aload_n dX5_mean_9 rfl ?_
    refine jg_X5_10 z_0 dX5_mean_10 ?_
    refine jg_X5_61 z_1 dX5_mean_13 ?_
    refine j_iload_n dX5_mean_16 rfl ?_
    refine j_iald (ic_4 _) z_4 dX5_mean_17 (fun q5 => ?_)
    refine j_istore_n dX5_mean_18 (by decide) ?_
    refine j_iload_n dX5_mean_19 rfl ?_
    refine j_if_ge (tgt := 29) dX5_mean_20 (by decide) (fun c6 => ?_) (fun c6 => ?_)
    · refine j_iload_n dX5_mean_29 rfl ?_
      refine j_if_ne (tgt := 39) dX5_mean_30 (by decide) (fun c7 => ?_) (fun c7 => ?_)
      · refine j_aload_n dX5_mean_39 rfl ?_
        refine j_aload_n dX5_mean_40 rfl ?_
        refine jg_X5_10 z_0 dX5_mean_41 ?_
        refine j_iload_n dX5_mean_44 rfl ?_
        refine jc_X5_82 (ct_X2_sum _  _) (by decide) z_1 (Nat.le_of_ble_eq_true rfl) dX5_mean_45 (fun v8 h9 e10 => ?_)
        refine j_iload_n dX5_mean_48 rfl ?_
        refine j_i2l dX5_mean_49 ?_
        refine j_gd (fun n11 => ?_)
        refine j_ldiv dX5_mean_50 n11 ?_
        refine j_l2i dX5_mean_51 ?_
        refine jp_X5_68 z_0 dX5_mean_52 ?_
        refine j_iconst (v := (1 : Int32)) dX5_mean_55 (by decide) ?_
        exact j_iret dX5_mean_56
      · refine j_aload_n dX5_mean_33 rfl ?_
        refine j_iconst (v := (4 : Int32)) dX5_mean_34 (by decide) ?_
        refine jc_X5_53 (ct_X5_refuse _  _) (by decide) z_0 (Nat.le_of_ble_eq_true rfl) dX5_mean_35 (fun v12 h13 e14 => ?_)
        exact j_iret dX5_mean_38
    · refine j_aload_n dX5_mean_23 rfl ?_
      refine j_iconst (v := (1 : Int32)) dX5_mean_24 (by decide) ?_
      refine jc_X5_53 (ct_X5_refuse _  _) (by decide) z_0 (Nat.le_of_ble_eq_true rfl) dX5_mean_25 (fun v15 h16 e17 => ?_)
      exact j_iret dX5_mean_28
  · refine j_iconst (v := (-1 : Int32)) dX5_mean_7 (by decide) ?_
    exact j_iret dX5_mean_8
set_option maxRecDepth 20000 in
theorem ct_X5_moved (a1 : Int32)  (h : Hp) : Ct encI yX5_moved cX5_moved 2 (some .int) 1 [aR 0 0, aI a1] h (f_X5_moved a1 h) := by
  refine ct_of [(0, aR 0 0), (1, aI a1)] (by decide) (fun _ => rfl) (fun _ => Nat.le_of_ble_eq_true rfl) ?_
  show J encI RX5 cX5_moved 2 (some .int) 1 0 [(0, aR 0 0), (1, aI a1)] [] h (f_X5_moved a1 h)
  unfold f_X5_moved
  refine j_iload_n dX5_moved_0 rfl ?_
  refine jc_X5_239 (ct_X5_isPlace _  _) (by decide) (Nat.le_of_ble_eq_true rfl) dX5_moved_1 (fun v1 h2 e3 => ?_)
  refine j_if_ne (tgt := 9) dX5_moved_4 (by decide) (fun c4 => ?_) (fun c4 => ?_)
  · refine j_aload_n dX5_moved_9 rfl ?_
    refine jg_X5_37 z_0 dX5_moved_10 ?_
    refine j_iload_n dX5_moved_13 rfl ?_
    refine ja_18 z_18 dX5_moved_14 (fun q5 z6 => ?_)
    refine jg_X5_106 z6 dX5_moved_15 ?_
    refine j_if_ne (tgt := 27) dX5_moved_18 (by decide) (fun c7 => ?_) (fun c7 => ?_)
    · refine j_aload_n dX5_moved_27 rfl ?_
      refine j_aload_n dX5_moved_28 rfl ?_
      refine jg_X5_33 z_0 dX5_moved_29 ?_
      refine jg_X5_154 (Nat.le_of_ble_eq_true rfl) dX5_moved_32 ?_
      refine j_aload_n dX5_moved_35 rfl ?_
      refine jg_X5_37 z_0 dX5_moved_36 ?_
      refine j_iload_n dX5_moved_39 rfl ?_
      refine ja_18 z_18 dX5_moved_40 (fun q8 z9 => ?_)
      refine jg_X5_154 z9 dX5_moved_41 ?_
      refine j_iconst (v := (-1 : Int32)) dX5_moved_44 (by decide) ?_
      refine j_ixor dX5_moved_45 ?_
      refine j_iand dX5_moved_46 ?_
      refine jp_X5_68 z_0 dX5_moved_47 ?_
      refine j_aload_n dX5_moved_50 rfl ?_
      refine jg_X5_37 z_0 dX5_moved_51 ?_
      refine j_iload_n dX5_moved_54 rfl ?_
      refine ja_18 z_18 dX5_moved_55 (fun q10 z11 => ?_)
      refine jg_X5_154 z11 dX5_moved_56 ?_
      refine j_aload_n dX5_moved_59 rfl ?_
      refine jg_X5_33 z_0 dX5_moved_60 ?_
      refine jg_X5_154 (Nat.le_of_ble_eq_true rfl) dX5_moved_63 ?_
      refine j_iconst (v := (-1 : Int32)) dX5_moved_66 (by decide) ?_
      refine j_ixor dX5_moved_67 ?_
      refine j_iand dX5_moved_68 ?_
      exact j_iret dX5_moved_69
    · refine j_aload_n dX5_moved_21 rfl ?_
      refine j_iconst (v := (1 : Int32)) dX5_moved_22 (by decide) ?_
      refine jc_X5_53 (ct_X5_refuse _  _) (by decide) z_0 (Nat.le_of_ble_eq_true rfl) dX5_moved_23 (fun v12 h13 e14 => ?_)
      exact j_iret dX5_moved_26
  · refine j_iconst (v := (-1 : Int32)) dX5_moved_7 (by decide) ?_
    exact j_iret dX5_moved_8
set_option maxRecDepth 20000 in
theorem w_X5_put_b44    (h : Hp) : J encI RX5 cX5_put 5 (some .int) 1 44 [(0, aR 0 0)] [] h (f_X5_put_b44   h) := by
  unfold f_X5_put_b44
  refine j_aload_n dX5_put_44 rfl ?_
  refine j_iconst (v := (2 : Int32)) dX5_put_45 (by decide) ?_
  refine jc_X5_53 (ct_X5_refuse _  _) (by decide) z_0 (Nat.le_of_ble_eq_true rfl) dX5_put_46 (fun v1 h2 e3 => ?_)
  exact j_iret dX5_put_49
set_option maxRecDepth 20000 in
theorem ct_X5_put (a1 : Int32) (a2 : Int32) (a3 : Int32)  (h : Hp) : Ct encI yX5_put cX5_put 5 (some .int) 1 [aR 0 0, aI a1, aI a2, aI a3] h (f_X5_put a1 a2 a3 h) := by
  refine ct_of [(0, aR 0 0), (1, aI a1), (2, aI a2), (3, aI a3)] (by decide) (fun _ => rfl) (fun _ => Nat.le_of_ble_eq_true rfl) ?_
  show J encI RX5 cX5_put 5 (some .int) 1 0 [(0, aR 0 0), (1, aI a1), (2, aI a2), (3, aI a3)] [] h (f_X5_put a1 a2 a3 h)
  unfold f_X5_put
  refine j_iload_n dX5_put_0 rfl ?_
  refine jc_X5_86 (ct_X5_isText _  _) (by decide) (Nat.le_of_ble_eq_true rfl) dX5_put_1 (fun v1 h2 e3 => ?_)
  refine j_if_ne (tgt := 9) dX5_put_4 (by decide) (fun c4 => ?_) (fun c4 => ?_)
  · refine j_aload_n dX5_put_9 rfl ?_
    refine jg_X5_19 z_0 dX5_put_10 ?_
    refine jg_X5_90 z_5 dX5_put_13 ?_
    refine j_iload_n dX5_put_16 rfl ?_
    refine j_iald (ic_8 _) z_8 dX5_put_17 (fun q5 => ?_)
    refine j_if_ge (tgt := 27) dX5_put_18 (by decide) (fun c6 => ?_) (fun c6 => ?_)
    · refine j_iload_n dX5_put_27 rfl ?_
      refine j_if_lt (tgt := 44) dX5_put_28 (by decide) (fun c7 => ?_) (fun c7 => ?_)
      · exact j_weak rfl (w_X5_put_b44    _)
      · refine j_iload_n dX5_put_31 rfl ?_
        refine j_aload_n dX5_put_32 rfl ?_
        refine jg_X5_19 z_0 dX5_put_33 ?_
        refine jg_X5_90 z_5 dX5_put_36 ?_
        refine j_iload_n dX5_put_39 rfl ?_
        refine j_iald (ic_8 _) z_8 dX5_put_40 (fun q8 => ?_)
        refine j_icmp_lt (tgt := 50) dX5_put_41 (by decide) (fun c9 => ?_) (fun c9 => ?_)
        · refine j_aload_n dX5_put_50 rfl ?_
          refine jg_X5_19 z_0 dX5_put_51 ?_
          refine jg_X5_91 z_5 dX5_put_54 ?_
          refine j_iload_n dX5_put_57 rfl ?_
          refine ja_6 z_6 dX5_put_58 (fun q10 z11 => ?_)
          refine j_iload_n dX5_put_59 rfl ?_
          refine j_bald (ic_7 _) z11 dX5_put_60 (fun q12 => ?_)
          refine j_istore dX5_put_61 (by decide) ?_
          refine j_aload_n dX5_put_63 rfl ?_
          refine jg_X5_19 z_0 dX5_put_64 ?_
          refine jg_X5_91 z_5 dX5_put_67 ?_
          refine j_iload_n dX5_put_70 rfl ?_
          refine ja_6 z_6 dX5_put_71 (fun q13 z14 => ?_)
          refine j_iload_n dX5_put_72 rfl ?_
          refine j_iload_n dX5_put_73 rfl ?_
          refine j_i2b dX5_put_74 ?_
          refine j_bast (ic_7 _) z14 dX5_put_75 (fun q15 => ?_)
          refine j_iload dX5_put_76 rfl ?_
          refine j_sipush (v := (1000 : Int32)) dX5_put_78 (by decide) ?_
          refine j_iadd dX5_put_81 ?_
          exact j_iret dX5_put_82
        · exact j_weak rfl (w_X5_put_b44    _)
    · refine j_aload_n dX5_put_21 rfl ?_
      refine j_iconst (v := (1 : Int32)) dX5_put_22 (by decide) ?_
      refine jc_X5_53 (ct_X5_refuse _  _) (by decide) z_0 (Nat.le_of_ble_eq_true rfl) dX5_put_23 (fun v16 h17 e18 => ?_)
      exact j_iret dX5_put_26
  · refine j_iconst (v := (-1 : Int32)) dX5_put_7 (by decide) ?_
    exact j_iret dX5_put_8
set_option maxRecDepth 20000 in
theorem ct_X5_row (a1 : Int32) (a2 : Int32)  (h : Hp) : Ct encI yX5_row cX5_row 3 (some .int) 1 [aR 0 0, aI a1, aI a2] h (f_X5_row a1 a2 h) := by
  refine ct_of [(0, aR 0 0), (1, aI a1), (2, aI a2)] (by decide) (fun _ => rfl) (fun _ => Nat.le_of_ble_eq_true rfl) ?_
  show J encI RX5 cX5_row 3 (some .int) 1 0 [(0, aR 0 0), (1, aI a1), (2, aI a2)] [] h (f_X5_row a1 a2 h)
  unfold f_X5_row
  refine j_iload_n dX5_row_0 rfl ?_
  refine jc_X5_49 (ct_X5_isRow _  _) (by decide) (Nat.le_of_ble_eq_true rfl) dX5_row_1 (fun v1 h2 e3 => ?_)
  refine j_if_eq (tgt := 13) dX5_row_4 (by decide) (fun c4 => ?_) (fun c4 => ?_)
  · refine j_iconst (v := (-1 : Int32)) dX5_row_13 (by decide) ?_
    exact j_iret dX5_row_14
  · refine j_iload_n dX5_row_7 rfl ?_
    refine j_bipush (v := (40 : Int32)) dX5_row_8 (by decide) ?_
    refine j_icmp_le (tgt := 15) dX5_row_10 (by decide) (fun c5 => ?_) (fun c5 => ?_)
    · refine j_iload_n dX5_row_15 rfl ?_
      refine j_if_ge (tgt := 25) dX5_row_16 (by decide) (fun c6 => ?_) (fun c6 => ?_)
      · refine j_aload_n dX5_row_25 rfl ?_
        refine jg_X5_10 z_0 dX5_row_26 ?_
        refine j_iload_n dX5_row_29 rfl ?_
        refine j_iload_n dX5_row_30 rfl ?_
        refine jc_X5_57 (ct_X2_begin _ _  _) (by decide) z_1 (Nat.le_of_ble_eq_true rfl) dX5_row_31 (fun v7 h8 e9 => ?_)
        refine j_iload_n dX5_row_34 rfl ?_
        exact j_iret dX5_row_35
      · refine j_aload_n dX5_row_19 rfl ?_
        refine j_iconst (v := (5 : Int32)) dX5_row_20 (by decide) ?_
        refine jc_X5_53 (ct_X5_refuse _  _) (by decide) z_0 (Nat.le_of_ble_eq_true rfl) dX5_row_21 (fun v10 h11 e12 => ?_)
        exact j_iret dX5_row_24
    · refine j_iconst (v := (-1 : Int32)) dX5_row_13 (by decide) ?_
      exact j_iret dX5_row_14
set_option maxRecDepth 20000 in
theorem ct_X5_tear (a1 : Int32)  (h : Hp) : Ct encI yX5_tear cX5_tear 2 (some .int) 1 [aR 0 0, aI a1] h (f_X5_tear a1 h) := by
  refine ct_of [(0, aR 0 0), (1, aI a1)] (by decide) (fun _ => rfl) (fun _ => Nat.le_of_ble_eq_true rfl) ?_
  show J encI RX5 cX5_tear 2 (some .int) 1 0 [(0, aR 0 0), (1, aI a1)] [] h (f_X5_tear a1 h)
  unfold f_X5_tear
  refine j_iload_n dX5_tear_0 rfl ?_
  refine jc_X5_49 (ct_X5_isRow _  _) (by decide) (Nat.le_of_ble_eq_true rfl) dX5_tear_1 (fun v1 h2 e3 => ?_)
  refine j_if_ne (tgt := 9) dX5_tear_4 (by decide) (fun c4 => ?_) (fun c4 => ?_)
  · refine j_aload_n dX5_tear_9 rfl ?_
    refine jg_X5_10 z_0 dX5_tear_10 ?_
    refine jg_X5_61 z_1 dX5_tear_13 ?_
    refine j_iload_n dX5_tear_16 rfl ?_
    refine j_iald (ic_4 _) z_4 dX5_tear_17 (fun q5 => ?_)
    refine j_if_ge (tgt := 27) dX5_tear_18 (by decide) (fun c6 => ?_) (fun c6 => ?_)
    · refine j_aload_n dX5_tear_27 rfl ?_
      refine jg_X5_10 z_0 dX5_tear_28 ?_
      refine jg_X5_61 z_1 dX5_tear_31 ?_
      refine j_iload_n dX5_tear_34 rfl ?_
      refine j_iconst (v := (-1 : Int32)) dX5_tear_35 (by decide) ?_
      refine j_iast (ic_4 _) z_4 dX5_tear_36 (fun q7 => ?_)
      refine j_iconst (v := (1 : Int32)) dX5_tear_37 (by decide) ?_
      exact j_iret dX5_tear_38
    · refine j_aload_n dX5_tear_21 rfl ?_
      refine j_iconst (v := (1 : Int32)) dX5_tear_22 (by decide) ?_
      refine jc_X5_53 (ct_X5_refuse _  _) (by decide) z_0 (Nat.le_of_ble_eq_true rfl) dX5_tear_23 (fun v8 h9 e10 => ?_)
      exact j_iret dX5_tear_26
  · refine j_iconst (v := (-1 : Int32)) dX5_tear_7 (by decide) ?_
    exact j_iret dX5_tear_8
set_option maxRecDepth 20000 in
theorem ct_X5_tellFraction (a1 : Int64) (a3 : Int64)  (h : Hp) : Ct encU yX5_tellFraction cX5_tellFraction 7 none 1 [aR 0 0, aL a1, aL a3] h (f_X5_tellFraction a1 a3 h) := by
  refine ct_of [(0, aR 0 0), (1, aL a1), (3, aL a3)] (by decide) (fun _ => rfl) (fun _ => Nat.le_of_ble_eq_true rfl) ?_
  show J encU RX5 cX5_tellFraction 7 none 1 0 [(0, aR 0 0), (1, aL a1), (3, aL a3)] [] h (f_X5_tellFraction a1 a3 h)
  unfold f_X5_tellFraction
  refine j_lload_n dX5_tellFraction_0 rfl ?_
  refine j_lload_n dX5_tellFraction_1 rfl ?_
  refine jc_X5_299 (ct_X5_divisor _ _  _) (by decide) (Nat.le_of_ble_eq_true rfl) dX5_tellFraction_2 (fun v1 h2 e3 => ?_)
  refine j_lstore dX5_tellFraction_5 (by decide) ?_
  refine j_lload dX5_tellFraction_7 rfl ?_
  refine j_lconst (v := (0 : Int64)) dX5_tellFraction_9 (by decide) ?_
  refine j_lcmp dX5_tellFraction_10 ?_
  refine j_if_le (tgt := 30) dX5_tellFraction_11 (by decide) (fun c4 => ?_) (fun c4 => ?_)
  · exact j_vret dX5_tellFraction_30
  · refine j_aload_n dX5_tellFraction_14 rfl ?_
    refine j_lload_n dX5_tellFraction_15 rfl ?_
    refine j_lload dX5_tellFraction_16 rfl ?_
    refine j_gd (fun n5 => ?_)
    refine j_ldiv dX5_tellFraction_18 n5 ?_
    refine jp_X5_273 z_0 dX5_tellFraction_19 ?_
    refine j_aload_n dX5_tellFraction_22 rfl ?_
    refine j_lload_n dX5_tellFraction_23 rfl ?_
    refine j_lload dX5_tellFraction_24 rfl ?_
    refine j_gd (fun n6 => ?_)
    refine j_ldiv dX5_tellFraction_26 n6 ?_
    refine jp_X5_45 z_0 dX5_tellFraction_27 ?_
    exact j_vret dX5_tellFraction_30
set_option maxRecDepth 20000 in
theorem ct_X5_text (a1 : Int32) (a2 : Int32)  (h : Hp) : Ct encI yX5_text cX5_text 3 (some .int) 1 [aR 0 0, aI a1, aI a2] h (f_X5_text a1 a2 h) := by
  refine ct_of [(0, aR 0 0), (1, aI a1), (2, aI a2)] (by decide) (fun _ => rfl) (fun _ => Nat.le_of_ble_eq_true rfl) ?_
  show J encI RX5 cX5_text 3 (some .int) 1 0 [(0, aR 0 0), (1, aI a1), (2, aI a2)] [] h (f_X5_text a1 a2 h)
  unfold f_X5_text
  refine j_iload_n dX5_text_0 rfl ?_
  refine jc_X5_86 (ct_X5_isText _  _) (by decide) (Nat.le_of_ble_eq_true rfl) dX5_text_1 (fun v1 h2 e3 => ?_)
  refine j_if_eq (tgt := 13) dX5_text_4 (by decide) (fun c4 => ?_) (fun c4 => ?_)
  · refine j_iconst (v := (-1 : Int32)) dX5_text_13 (by decide) ?_
    exact j_iret dX5_text_14
  · refine j_iload_n dX5_text_7 rfl ?_
    refine j_bipush (v := (100 : Int32)) dX5_text_8 (by decide) ?_
    refine j_icmp_le (tgt := 15) dX5_text_10 (by decide) (fun c5 => ?_) (fun c5 => ?_)
    · refine j_iload_n dX5_text_15 rfl ?_
      refine j_if_ge (tgt := 25) dX5_text_16 (by decide) (fun c6 => ?_) (fun c6 => ?_)
      · refine j_aload_n dX5_text_25 rfl ?_
        refine jg_X5_19 z_0 dX5_text_26 ?_
        refine j_iload_n dX5_text_29 rfl ?_
        refine j_iload_n dX5_text_30 rfl ?_
        refine jc_X5_89 (ct_X3_begin _ _  _) (by decide) z_5 (Nat.le_of_ble_eq_true rfl) dX5_text_31 (fun v7 h8 e9 => ?_)
        refine j_iload_n dX5_text_34 rfl ?_
        exact j_iret dX5_text_35
      · refine j_aload_n dX5_text_19 rfl ?_
        refine j_iconst (v := (5 : Int32)) dX5_text_20 (by decide) ?_
        refine jc_X5_53 (ct_X5_refuse _  _) (by decide) z_0 (Nat.le_of_ble_eq_true rfl) dX5_text_21 (fun v10 h11 e12 => ?_)
        exact j_iret dX5_text_24
    · refine j_iconst (v := (-1 : Int32)) dX5_text_13 (by decide) ?_
      exact j_iret dX5_text_14
set_option maxRecDepth 20000 in
theorem ct_X5_vine (a1 : Int32)  (h : Hp) : Ct encI yX5_vine cX5_vine 2 (some .int) 1 [aR 0 0, aI a1] h (f_X5_vine a1 h) := by
  refine ct_of [(0, aR 0 0), (1, aI a1)] (by decide) (fun _ => rfl) (fun _ => Nat.le_of_ble_eq_true rfl) ?_
  show J encI RX5 cX5_vine 2 (some .int) 1 0 [(0, aR 0 0), (1, aI a1)] [] h (f_X5_vine a1 h)
  unfold f_X5_vine
  refine j_aload_n dX5_vine_0 rfl ?_
  refine jg_X5_33 z_0 dX5_vine_1 ?_
  refine j_iload_n dX5_vine_4 rfl ?_
  refine jc_X5_113 (ct_X4_has _ _ (Nat.le_of_ble_eq_true rfl) _) (by decide) (Nat.le_of_ble_eq_true rfl) (Nat.le_of_ble_eq_true rfl) dX5_vine_5 (fun v1 h2 e3 => ?_)
  refine j_if_ne (tgt := 13) dX5_vine_8 (by decide) (fun c4 => ?_) (fun c4 => ?_)
  · refine j_aload_n dX5_vine_13 rfl ?_
    refine jg_X5_33 z_0 dX5_vine_14 ?_
    refine j_iload_n dX5_vine_17 rfl ?_
    refine jc_X5_120 (ct_X4_isIn _ _ (Nat.le_of_ble_eq_true rfl) _) (by decide) (Nat.le_of_ble_eq_true rfl) (Nat.le_of_ble_eq_true rfl) dX5_vine_18 (fun v5 h6 e7 => ?_)
    refine j_if_ne (tgt := 30) dX5_vine_21 (by decide) (fun c8 => ?_) (fun c8 => ?_)
    · refine j_aload_n dX5_vine_30 rfl ?_
      refine jg_X5_33 z_0 dX5_vine_31 ?_
      refine j_iload_n dX5_vine_34 rfl ?_
      refine jc_X5_165 (ct_X4_hasVine _ _ (Nat.le_of_ble_eq_true rfl) _) (by decide) (Nat.le_of_ble_eq_true rfl) (Nat.le_of_ble_eq_true rfl) dX5_vine_35 (fun v9 h10 e11 => ?_)
      refine j_if_eq (tgt := 44) dX5_vine_38 (by decide) (fun c12 => ?_) (fun c12 => ?_)
      · refine j_aload_n dX5_vine_44 rfl ?_
        refine jg_X5_33 z_0 dX5_vine_45 ?_
        refine j_dup dX5_vine_48 rfl ?_
        refine jg_X5_168 (Nat.le_of_ble_eq_true rfl) dX5_vine_49 ?_
        refine j_iconst (v := (1 : Int32)) dX5_vine_52 (by decide) ?_
        refine j_iload_n dX5_vine_53 rfl ?_
        refine j_ishl dX5_vine_54 ?_
        refine j_ior dX5_vine_55 ?_
        refine jp_X5_168 (Nat.le_of_ble_eq_true rfl) dX5_vine_56 ?_
        refine j_aload_n dX5_vine_59 rfl ?_
        refine jg_X5_33 z_0 dX5_vine_60 ?_
        refine jg_X5_168 (Nat.le_of_ble_eq_true rfl) dX5_vine_63 ?_
        refine jc_X5_160 (ct_J6_bitCount _  _) (by decide) (Nat.le_of_ble_eq_true rfl) dX5_vine_66 (fun v13 h14 e15 => ?_)
        exact j_iret dX5_vine_69
      · refine j_bipush (v := (-4 : Int32)) dX5_vine_41 (by decide) ?_
        exact j_iret dX5_vine_43
    · refine j_aload_n dX5_vine_24 rfl ?_
      refine j_iconst (v := (1 : Int32)) dX5_vine_25 (by decide) ?_
      refine jc_X5_53 (ct_X5_refuse _  _) (by decide) z_0 (Nat.le_of_ble_eq_true rfl) dX5_vine_26 (fun v16 h17 e18 => ?_)
      exact j_iret dX5_vine_29
  · refine j_iconst (v := (-1 : Int32)) dX5_vine_11 (by decide) ?_
    exact j_iret dX5_vine_12
set_option maxRecDepth 20000 in
theorem ct_X5_yes (a1 : Int32) (a2 : Int32)  (h : Hp) : Ct encI yX5_yes cX5_yes 4 (some .int) 1 [aR 0 0, aI a1, aI a2] h (f_X5_yes a1 a2 h) := by
  refine ct_of [(0, aR 0 0), (1, aI a1), (2, aI a2)] (by decide) (fun _ => rfl) (fun _ => Nat.le_of_ble_eq_true rfl) ?_
  show J encI RX5 cX5_yes 4 (some .int) 1 0 [(0, aR 0 0), (1, aI a1), (2, aI a2)] [] h (f_X5_yes a1 a2 h)
  unfold f_X5_yes
  refine j_iload_n dX5_yes_0 rfl ?_
  refine jc_X5_135 (ct_X5_isPerson _  _) (by decide) (Nat.le_of_ble_eq_true rfl) dX5_yes_1 (fun v1 h2 e3 => ?_)
  refine j_if_eq (tgt := 16) dX5_yes_4 (by decide) (fun c4 => ?_) (fun c4 => ?_)
  · refine j_iconst (v := (-1 : Int32)) dX5_yes_16 (by decide) ?_
    exact j_iret dX5_yes_17
  · refine j_iload_n dX5_yes_7 rfl ?_
    refine j_if_lt (tgt := 16) dX5_yes_8 (by decide) (fun c5 => ?_) (fun c5 => ?_)
    · refine j_iconst (v := (-1 : Int32)) dX5_yes_16 (by decide) ?_
      exact j_iret dX5_yes_17
    · refine j_iload_n dX5_yes_11 rfl ?_
      refine j_iconst (v := (1 : Int32)) dX5_yes_12 (by decide) ?_
      refine j_icmp_le (tgt := 18) dX5_yes_13 (by decide) (fun c6 => ?_) (fun c6 => ?_)
      · refine j_aload_n dX5_yes_18 rfl ?_
        refine jg_X5_33 z_0 dX5_yes_19 ?_
        refine jg_X5_138 (Nat.le_of_ble_eq_true rfl) dX5_yes_22 ?_
        refine j_iload_n dX5_yes_25 rfl ?_
        refine j_ishr dX5_yes_26 ?_
        refine j_iconst (v := (1 : Int32)) dX5_yes_27 (by decide) ?_
        refine j_iand dX5_yes_28 ?_
        refine j_istore_n dX5_yes_29 (by decide) ?_
        refine j_aload_n dX5_yes_30 rfl ?_
        refine jg_X5_33 z_0 dX5_yes_31 ?_
        refine j_aload_n dX5_yes_34 rfl ?_
        refine jg_X5_33 z_0 dX5_yes_35 ?_
        refine jg_X5_138 (Nat.le_of_ble_eq_true rfl) dX5_yes_38 ?_
        refine j_iconst (v := (1 : Int32)) dX5_yes_41 (by decide) ?_
        refine j_iload_n dX5_yes_42 rfl ?_
        refine j_ishl dX5_yes_43 ?_
        refine j_iconst (v := (-1 : Int32)) dX5_yes_44 (by decide) ?_
        refine j_ixor dX5_yes_45 ?_
        refine j_iand dX5_yes_46 ?_
        refine j_iload_n dX5_yes_47 rfl ?_
        refine j_iload_n dX5_yes_48 rfl ?_
        refine j_ishl dX5_yes_49 ?_
        refine j_ior dX5_yes_50 ?_
        refine jp_X5_138 (Nat.le_of_ble_eq_true rfl) dX5_yes_51 ?_
        refine j_iload_n dX5_yes_54 rfl ?_
        exact j_iret dX5_yes_55
      · refine j_iconst (v := (-1 : Int32)) dX5_yes_16 (by decide) ?_
        exact j_iret dX5_yes_17
set_option maxRecDepth 20000 in
theorem w_X6_brickOf_b59  (a1 : Int32) (s0 : Int32)  (h : Hp) : J encI RX6 cX6_brickOf 3 (some .int) 1 59 [(0, aR 20 0), (1, aI a1)] [aI s0] h (f_X6_brickOf_b59  a1 s0 h) := by
  unfold f_X6_brickOf_b59
  refine j_aload_n dX6_brickOf_59 rfl ?_
  refine jg_X6_138 z_20 dX6_brickOf_60 ?_
  refine j_iload_n dX6_brickOf_63 rfl ?_
  refine jc_X6_150 (ct_X6_has _ _  _) (by decide) (Nat.le_of_ble_eq_true rfl) dX6_brickOf_64 (fun v1 h2 e3 => ?_)
  refine j_if_eq (tgt := 74) dX6_brickOf_67 (by decide) (fun c4 => ?_) (fun c4 => ?_)
  · refine j_iconst (v := (0 : Int32)) dX6_brickOf_74 (by decide) ?_
    refine j_iadd dX6_brickOf_75 ?_
    refine j_goto (tgt := 86) dX6_brickOf_76 (by decide) ?_
    exact j_iret dX6_brickOf_86
  · refine j_iconst (v := (2 : Int32)) dX6_brickOf_70 (by decide) ?_
    refine j_goto (tgt := 75) dX6_brickOf_71 (by decide) ?_
    refine j_iadd dX6_brickOf_75 ?_
    refine j_goto (tgt := 86) dX6_brickOf_76 (by decide) ?_
    exact j_iret dX6_brickOf_86
set_option maxRecDepth 20000 in
theorem ct_X6_brickOf (a1 : Int32) (a2 : Int32)  (h : Hp) : Ct encI yX6_brickOf cX6_brickOf 3 (some .int) 1 [aR 20 0, aI a1, aI a2] h (f_X6_brickOf a1 a2 h) := by
  refine ct_of [(0, aR 20 0), (1, aI a1), (2, aI a2)] (by decide) (fun _ => rfl) (fun _ => Nat.le_of_ble_eq_true rfl) ?_
  show J encI RX6 cX6_brickOf 3 (some .int) 1 0 [(0, aR 20 0), (1, aI a1), (2, aI a2)] [] h (f_X6_brickOf a1 a2 h)
  unfold f_X6_brickOf
  refine j_iload_n dX6_brickOf_0 rfl ?_
  refine j_iconst (v := (5 : Int32)) dX6_brickOf_1 (by decide) ?_
  refine j_icmp_gt (tgt := 12) dX6_brickOf_2 (by decide) (fun c1 => ?_) (fun c1 => ?_)
  · refine j_iload_n dX6_brickOf_12 rfl ?_
    refine j_bipush (v := (6 : Int32)) dX6_brickOf_13 (by decide) ?_
    refine j_icmp_ne (tgt := 37) dX6_brickOf_15 (by decide) (fun c2 => ?_) (fun c2 => ?_)
    · refine j_iload_n dX6_brickOf_37 rfl ?_
      refine j_bipush (v := (7 : Int32)) dX6_brickOf_38 (by decide) ?_
      refine j_icmp_ne (tgt := 79) dX6_brickOf_40 (by decide) (fun c3 => ?_) (fun c3 => ?_)
      · refine j_aload_n dX6_brickOf_79 rfl ?_
        refine j_iload_n dX6_brickOf_80 rfl ?_
        refine j_bipush (v := (6 : Int32)) dX6_brickOf_81 (by decide) ?_
        refine jc_X6_89 (ct_X6_of _ _  _) (by decide) z_20 (Nat.le_of_ble_eq_true rfl) dX6_brickOf_83 (fun v4 h5 e6 => ?_)
        exact j_iret dX6_brickOf_86
      · refine j_aload_n dX6_brickOf_43 rfl ?_
        refine jg_X6_135 z_20 dX6_brickOf_44 ?_
        refine j_iload_n dX6_brickOf_47 rfl ?_
        refine jc_X6_150 (ct_X6_has _ _  _) (by decide) (Nat.le_of_ble_eq_true rfl) dX6_brickOf_48 (fun v7 h8 e9 => ?_)
        refine j_if_eq (tgt := 58) dX6_brickOf_51 (by decide) (fun c10 => ?_) (fun c10 => ?_)
        · refine j_iconst (v := (0 : Int32)) dX6_brickOf_58 (by decide) ?_
          exact j_weak rfl (w_X6_brickOf_b59  _ _  _)
        · refine j_iconst (v := (1 : Int32)) dX6_brickOf_54 (by decide) ?_
          refine j_goto (tgt := 59) dX6_brickOf_55 (by decide) ?_
          exact j_weak rfl (w_X6_brickOf_b59  _ _  _)
    · refine j_aload_n dX6_brickOf_18 rfl ?_
      refine jg_X6_132 z_20 dX6_brickOf_19 ?_
      refine j_iload_n dX6_brickOf_22 rfl ?_
      refine jc_X6_150 (ct_X6_has _ _  _) (by decide) (Nat.le_of_ble_eq_true rfl) dX6_brickOf_23 (fun v11 h12 e13 => ?_)
      refine j_if_eq (tgt := 33) dX6_brickOf_26 (by decide) (fun c14 => ?_) (fun c14 => ?_)
      · refine j_iconst (v := (0 : Int32)) dX6_brickOf_33 (by decide) ?_
        refine j_goto (tgt := 86) dX6_brickOf_34 (by decide) ?_
        exact j_iret dX6_brickOf_86
      · refine j_iconst (v := (1 : Int32)) dX6_brickOf_29 (by decide) ?_
        refine j_goto (tgt := 86) dX6_brickOf_30 (by decide) ?_
        exact j_iret dX6_brickOf_86
  · refine j_aload_n dX6_brickOf_5 rfl ?_
    refine j_iload_n dX6_brickOf_6 rfl ?_
    refine j_iload_n dX6_brickOf_7 rfl ?_
    refine jc_X6_89 (ct_X6_of _ _  _) (by decide) z_20 (Nat.le_of_ble_eq_true rfl) dX6_brickOf_8 (fun v15 h16 e17 => ?_)
    exact j_iret dX6_brickOf_11
set_option maxRecDepth 20000 in
theorem w_X6_counts_b80 (kont4 : Int32 → Int32 → Int32 → Hp → Option (Int32 × Hp)) (hk4 : ∀ (a1 : Int32) (a2 : Int32) (a3 : Int32)  (h : Hp), J encI RX6 cX6_counts 4 (some .int) 1 4 [(0, aR 20 0), (1, aI a1), (2, aI a2), (3, aI a3)] [] h (kont4 a1 a2 a3 h)) (a1 : Int32) (a3 : Int32) (s0 : Int32) (s1 : Int32)  (h : Hp) : J encI RX6 cX6_counts 4 (some .int) 1 80 [(0, aR 20 0), (1, aI a1), (3, aI a3)] [aI s1, aI s0] h (f_X6_counts_b80 kont4 a1 a3 s0 s1 h) := by
  unfold f_X6_counts_b80
  refine j_iadd dX6_counts_80 ?_
  refine j_istore_n dX6_counts_81 (by decide) ?_
  refine j_iinc (v := (1 : Int32)) dX6_counts_82 rfl (by decide) (by decide) ?_
  refine j_goto (tgt := 4) dX6_counts_85 (by decide) ?_
  exact j_weak rfl (hk4 _ _ _  _)
set_option maxRecDepth 20000 in
theorem w_X6_counts_b75 (kont4 : Int32 → Int32 → Int32 → Hp → Option (Int32 × Hp)) (hk4 : ∀ (a1 : Int32) (a2 : Int32) (a3 : Int32)  (h : Hp), J encI RX6 cX6_counts 4 (some .int) 1 4 [(0, aR 20 0), (1, aI a1), (2, aI a2), (3, aI a3)] [] h (kont4 a1 a2 a3 h)) (a1 : Int32) (a3 : Int32) (s0 : Int32)  (h : Hp) : J encI RX6 cX6_counts 4 (some .int) 1 75 [(0, aR 20 0), (1, aI a1), (3, aI a3)] [aI s0] h (f_X6_counts_b75 kont4 a1 a3 s0 h) := by
  unfold f_X6_counts_b75
  refine j_iconst (v := (1 : Int32)) dX6_counts_75 (by decide) ?_
  refine j_goto (tgt := 80) dX6_counts_76 (by decide) ?_
  exact j_weak rfl (w_X6_counts_b80 _ hk4 _ _ _ _  _)
set_option maxRecDepth 20000 in
theorem w_X6_counts_b79 (kont4 : Int32 → Int32 → Int32 → Hp → Option (Int32 × Hp)) (hk4 : ∀ (a1 : Int32) (a2 : Int32) (a3 : Int32)  (h : Hp), J encI RX6 cX6_counts 4 (some .int) 1 4 [(0, aR 20 0), (1, aI a1), (2, aI a2), (3, aI a3)] [] h (kont4 a1 a2 a3 h)) (a1 : Int32) (a3 : Int32) (s0 : Int32)  (h : Hp) : J encI RX6 cX6_counts 4 (some .int) 1 79 [(0, aR 20 0), (1, aI a1), (3, aI a3)] [aI s0] h (f_X6_counts_b79 kont4 a1 a3 s0 h) := by
  unfold f_X6_counts_b79
  refine j_iconst (v := (0 : Int32)) dX6_counts_79 (by decide) ?_
  exact j_weak rfl (w_X6_counts_b80 _ hk4 _ _ _ _  _)
set_option maxRecDepth 20000 in
theorem w_X6_counts_b55 (kont4 : Int32 → Int32 → Int32 → Hp → Option (Int32 × Hp)) (hk4 : ∀ (a1 : Int32) (a2 : Int32) (a3 : Int32)  (h : Hp), J encI RX6 cX6_counts 4 (some .int) 1 4 [(0, aR 20 0), (1, aI a1), (2, aI a2), (3, aI a3)] [] h (kont4 a1 a2 a3 h)) (a1 : Int32) (a3 : Int32) (s0 : Int32)  (h : Hp) : J encI RX6 cX6_counts 4 (some .int) 1 55 [(0, aR 20 0), (1, aI a1), (3, aI a3)] [aI s0] h (f_X6_counts_b55 kont4 a1 a3 s0 h) := by
  unfold f_X6_counts_b55
  refine j_iload_n dX6_counts_55 rfl ?_
  refine j_bipush (v := (7 : Int32)) dX6_counts_56 (by decide) ?_
  refine j_icmp_ne (tgt := 79) dX6_counts_58 (by decide) (fun c1 => ?_) (fun c1 => ?_)
  · exact j_weak rfl (w_X6_counts_b79 _ hk4 _ _ _  _)
  · refine j_iload_n dX6_counts_61 rfl ?_
    refine j_iconst (v := (4 : Int32)) dX6_counts_62 (by decide) ?_
    refine j_icmp_ge (tgt := 79) dX6_counts_63 (by decide) (fun c2 => ?_) (fun c2 => ?_)
    · exact j_weak rfl (w_X6_counts_b79 _ hk4 _ _ _  _)
    · refine j_aload_n dX6_counts_66 rfl ?_
      refine jg_X6_26 z_20 dX6_counts_67 ?_
      refine j_iload_n dX6_counts_70 rfl ?_
      refine j_iald (ic_25 _) z_25 dX6_counts_71 (fun q3 => ?_)
      refine j_if_lt (tgt := 79) dX6_counts_72 (by decide) (fun c4 => ?_) (fun c4 => ?_)
      · exact j_weak rfl (w_X6_counts_b79 _ hk4 _ _ _  _)
      · exact j_weak rfl (w_X6_counts_b75 _ hk4 _ _ _  _)
set_option maxRecDepth 20000 in
theorem w_X6_counts_b34 (kont4 : Int32 → Int32 → Int32 → Hp → Option (Int32 × Hp)) (hk4 : ∀ (a1 : Int32) (a2 : Int32) (a3 : Int32)  (h : Hp), J encI RX6 cX6_counts 4 (some .int) 1 4 [(0, aR 20 0), (1, aI a1), (2, aI a2), (3, aI a3)] [] h (kont4 a1 a2 a3 h)) (a1 : Int32) (a3 : Int32) (s0 : Int32)  (h : Hp) : J encI RX6 cX6_counts 4 (some .int) 1 34 [(0, aR 20 0), (1, aI a1), (3, aI a3)] [aI s0] h (f_X6_counts_b34 kont4 a1 a3 s0 h) := by
  unfold f_X6_counts_b34
  refine j_iload_n dX6_counts_34 rfl ?_
  refine j_bipush (v := (6 : Int32)) dX6_counts_35 (by decide) ?_
  refine j_icmp_ne (tgt := 55) dX6_counts_37 (by decide) (fun c1 => ?_) (fun c1 => ?_)
  · exact j_weak rfl (w_X6_counts_b55 _ hk4 _ _ _  _)
  · refine j_iload_n dX6_counts_40 rfl ?_
    refine j_bipush (v := (6 : Int32)) dX6_counts_41 (by decide) ?_
    refine j_icmp_ge (tgt := 55) dX6_counts_43 (by decide) (fun c2 => ?_) (fun c2 => ?_)
    · exact j_weak rfl (w_X6_counts_b55 _ hk4 _ _ _  _)
    · refine j_aload_n dX6_counts_46 rfl ?_
      refine jg_X6_17 z_20 dX6_counts_47 ?_
      refine j_iload_n dX6_counts_50 rfl ?_
      refine j_iald (ic_22 _) z_22 dX6_counts_51 (fun q3 => ?_)
      refine j_if_ge (tgt := 75) dX6_counts_52 (by decide) (fun c4 => ?_) (fun c4 => ?_)
      · exact j_weak rfl (w_X6_counts_b75 _ hk4 _ _ _  _)
      · exact j_weak rfl (w_X6_counts_b55 _ hk4 _ _ _  _)
set_option maxRecDepth 20000 in
theorem w_X6_counts_b4  : ∀ (n : Nat) (a1 : Int32) (a2 : Int32) (a3 : Int32)  (h : Hp), J encI RX6 cX6_counts 4 (some .int) 1 4 [(0, aR 20 0), (1, aI a1), (2, aI a2), (3, aI a3)] [] h (f_X6_counts_b4  n a1 a2 a3 h) := by
  intro n
  induction n with
  | zero =>
    intros
    exact j_none
  | succ n hk4 =>
    intro a1 a2 a3  h
    show J encI RX6 cX6_counts 4 (some .int) 1 4 [(0, aR 20 0), (1, aI a1), (2, aI a2), (3, aI a3)] [] h (f_X6_counts_b4_body  (f_X6_counts_b4  n) a1 a2 a3 h)
    unfold f_X6_counts_b4_body
    refine j_iload_n dX6_counts_4 rfl ?_
    refine j_bipush (v := (14 : Int32)) dX6_counts_5 (by decide) ?_
    refine j_icmp_ge (tgt := 88) dX6_counts_7 (by decide) (fun c1 => ?_) (fun c1 => ?_)
    · refine j_iload_n dX6_counts_88 rfl ?_
      refine j_if (fun c2 => ?_) (fun c2 => ?_)
      · refine j_tsIn (tgt := 128) (off := 39) dX6_counts_89 (by rw [c2]; decide) (by rw [c2]; decide) (by rw [c2]; rfl) (by decide) ?_
        refine j_aload_n dX6_counts_128 rfl ?_
        refine jg_X6_129 z_20 dX6_counts_129 ?_
        exact j_iret dX6_counts_132
      refine j_if (fun c3 => ?_) (fun c3 => ?_)
      · refine j_tsIn (tgt := 133) (off := 44) dX6_counts_89 (by rw [c3]; decide) (by rw [c3]; decide) (by rw [c3]; rfl) (by decide) ?_
        refine j_aload_n dX6_counts_133 rfl ?_
        refine jg_X6_132 z_20 dX6_counts_134 ?_
        refine jc_X6_174 (ct_X6_sizeOf _  _) (by decide) (Nat.le_of_ble_eq_true rfl) dX6_counts_137 (fun v4 h5 e6 => ?_)
        exact j_iret dX6_counts_140
      refine j_if (fun c7 => ?_) (fun c7 => ?_)
      · refine j_tsIn (tgt := 141) (off := 52) dX6_counts_89 (by rw [c7]; decide) (by rw [c7]; decide) (by rw [c7]; rfl) (by decide) ?_
        refine j_aload_n dX6_counts_141 rfl ?_
        refine jg_X6_135 z_20 dX6_counts_142 ?_
        refine jc_X6_174 (ct_X6_sizeOf _  _) (by decide) (Nat.le_of_ble_eq_true rfl) dX6_counts_145 (fun v8 h9 e10 => ?_)
        exact j_iret dX6_counts_148
      refine j_if (fun c11 => ?_) (fun c11 => ?_)
      · refine j_tsIn (tgt := 149) (off := 60) dX6_counts_89 (by rw [c11]; decide) (by rw [c11]; decide) (by rw [c11]; rfl) (by decide) ?_
        refine j_aload_n dX6_counts_149 rfl ?_
        refine jg_X6_138 z_20 dX6_counts_150 ?_
        refine jc_X6_174 (ct_X6_sizeOf _  _) (by decide) (Nat.le_of_ble_eq_true rfl) dX6_counts_153 (fun v12 h13 e14 => ?_)
        exact j_iret dX6_counts_156
      refine j_if (fun c15 => ?_) (fun c15 => ?_)
      · refine j_tsIn (tgt := 157) (off := 68) dX6_counts_89 (by rw [c15]; decide) (by rw [c15]; decide) (by rw [c15]; rfl) (by decide) ?_
        refine j_aload_n dX6_counts_157 rfl ?_
        refine jg_X6_144 z_20 dX6_counts_158 ?_
        exact j_iret dX6_counts_161
      refine j_tsG (tgt := 162) dX6_counts_89 ?_ (by decide) ?_
      · have hts : ∀ z : Int, 0 ≤ z → z ≤ 5 → (a1) = Int32.ofInt z → (#[39, 44, 73, 52, 60, 68] : Array Int)[(z - 0).toNat]? = some 73 := by
          intro z z1 z2 z3
          rcases (show z = 0 ∨ z = 1 ∨ z = 2 ∨ z = 3 ∨ z = 4 ∨ z = 5 by omega) with rfl | rfl | rfl | rfl | rfl | rfl
          · exact absurd (z3.trans (by decide)) c2
          · exact absurd (z3.trans (by decide)) c3
          · rfl
          · exact absurd (z3.trans (by decide)) c7
          · exact absurd (z3.trans (by decide)) c11
          · exact absurd (z3.trans (by decide)) c15
        exact ts_all hts
      · refine j_iload_n dX6_counts_162 rfl ?_
        exact j_iret dX6_counts_163
    · refine j_iload_n dX6_counts_10 rfl ?_
      refine j_iload_n dX6_counts_11 rfl ?_
      refine j_iconst (v := (2 : Int32)) dX6_counts_12 (by decide) ?_
      refine j_icmp_ne (tgt := 34) dX6_counts_13 (by decide) (fun c16 => ?_) (fun c16 => ?_)
      · exact j_weak rfl (w_X6_counts_b34 _ hk4 _ _ _  _)
      · refine j_iload_n dX6_counts_16 rfl ?_
        refine j_aload_n dX6_counts_17 rfl ?_
        refine jg_X6_129 z_20 dX6_counts_18 ?_
        refine j_icmp_ge (tgt := 34) dX6_counts_21 (by decide) (fun c17 => ?_) (fun c17 => ?_)
        · exact j_weak rfl (w_X6_counts_b34 _ hk4 _ _ _  _)
        · refine j_aload_n dX6_counts_24 rfl ?_
          refine j_iload_n dX6_counts_25 rfl ?_
          refine j_iconst (v := (0 : Int32)) dX6_counts_26 (by decide) ?_
          refine jc_X6_89 (ct_X6_of _ _  _) (by decide) z_20 (Nat.le_of_ble_eq_true rfl) dX6_counts_27 (fun v18 h19 e20 => ?_)
          refine j_iconst (v := (4 : Int32)) dX6_counts_30 (by decide) ?_
          refine j_icmp_ge (tgt := 75) dX6_counts_31 (by decide) (fun c21 => ?_) (fun c21 => ?_)
          · exact j_weak rfl (w_X6_counts_b75 _ hk4 _ _ _  _)
          · exact j_weak rfl (w_X6_counts_b34 _ hk4 _ _ _  _)
set_option maxRecDepth 20000 in
theorem ct_X6_counts (a1 : Int32)  (h : Hp) : Ct encI yX6_counts cX6_counts 4 (some .int) 1 [aR 20 0, aI a1] h (f_X6_counts a1 h) := by
  refine ct_of [(0, aR 20 0), (1, aI a1)] (by decide) (fun _ => rfl) (fun _ => Nat.le_of_ble_eq_true rfl) ?_
  show J encI RX6 cX6_counts 4 (some .int) 1 0 [(0, aR 20 0), (1, aI a1)] [] h (f_X6_counts a1 h)
  unfold f_X6_counts
  refine j_iconst (v := (0 : Int32)) dX6_counts_0 (by decide) ?_
  refine j_istore_n dX6_counts_1 (by decide) ?_
  refine j_iconst (v := (0 : Int32)) dX6_counts_2 (by decide) ?_
  refine j_istore_n dX6_counts_3 (by decide) ?_
  exact j_weak rfl (w_X6_counts_b4  _ _ _ _  _)
set_option maxRecDepth 20000 in
theorem ct_X6_findings (a1 : Int32)  (h : Hp) : Ct encI yX6_findings cX6_findings 2 (some .int) 1 [aR 20 0, aI a1] h (f_X6_findings a1 h) := by
  refine ct_of [(0, aR 20 0), (1, aI a1)] (by decide) (fun _ => rfl) (fun _ => Nat.le_of_ble_eq_true rfl) ?_
  show J encI RX6 cX6_findings 2 (some .int) 1 0 [(0, aR 20 0), (1, aI a1)] [] h (f_X6_findings a1 h)
  unfold f_X6_findings
  refine j_iload_n dX6_findings_0 rfl ?_
  refine j_iconst (v := (1 : Int32)) dX6_findings_1 (by decide) ?_
  refine j_iconst (v := (5 : Int32)) dX6_findings_2 (by decide) ?_
  refine jc_X6_51 (ct_X6_in _ _ _  _) (by decide) (Nat.le_of_ble_eq_true rfl) dX6_findings_3 (fun v1 h2 e3 => ?_)
  refine j_if_eq (tgt := 18) dX6_findings_6 (by decide) (fun c4 => ?_) (fun c4 => ?_)
  · refine j_iconst (v := (-1 : Int32)) dX6_findings_18 (by decide) ?_
    exact j_iret dX6_findings_19
  · refine j_aload_n dX6_findings_9 rfl ?_
    refine jg_X6_7 z_20 dX6_findings_10 ?_
    refine j_iload_n dX6_findings_13 rfl ?_
    refine j_iald (ic_21 _) z_21 dX6_findings_14 (fun q5 => ?_)
    refine j_goto (tgt := 19) dX6_findings_15 (by decide) ?_
    exact j_iret dX6_findings_19
set_option maxRecDepth 20000 in
theorem ct_X6_isBrick (a1 : Int32)  (h : Hp) : Ct encI yX6_isBrick cX6_isBrick 2 (some .boolean) 1 [aR 20 0, aI a1] h (f_X6_isBrick a1 h) := by
  refine ct_of [(0, aR 20 0), (1, aI a1)] (by decide) (fun _ => rfl) (fun _ => Nat.le_of_ble_eq_true rfl) ?_
  show J encI RX6 cX6_isBrick 2 (some .boolean) 1 0 [(0, aR 20 0), (1, aI a1)] [] h (f_X6_isBrick a1 h)
  unfold f_X6_isBrick
  refine j_iload_n dX6_isBrick_0 rfl ?_
  refine j_iconst (v := (0 : Int32)) dX6_isBrick_1 (by decide) ?_
  refine j_aload_n dX6_isBrick_2 rfl ?_
  refine jg_X6_129 z_20 dX6_isBrick_3 ?_
  refine j_iconst (v := (1 : Int32)) dX6_isBrick_6 (by decide) ?_
  refine j_isub dX6_isBrick_7 ?_
  refine jc_X6_51 (ct_X6_in _ _ _  _) (by decide) (Nat.le_of_ble_eq_true rfl) dX6_isBrick_8 (fun v1 h2 e3 => ?_)
  exact j_gd (fun q4 => j_zret q4 dX6_isBrick_11)
set_option maxRecDepth 20000 in
theorem ct_X6_isOne (a0 : Int32)  (h : Hp) : Ct encI yX6_isOne cX6_isOne 1 (some .boolean) 1 [aI a0] h (f_X6_isOne a0 h) := by
  refine ct_of [(0, aI a0)] (by decide) (fun _ => rfl) (fun _ => Nat.le_of_ble_eq_true rfl) ?_
  show J encI RX6 cX6_isOne 1 (some .boolean) 1 0 [(0, aI a0)] [] h (f_X6_isOne a0 h)
  unfold f_X6_isOne
  refine j_iload_n dX6_isOne_0 rfl ?_
  refine j_iconst (v := (0 : Int32)) dX6_isOne_1 (by decide) ?_
  refine j_iconst (v := (5 : Int32)) dX6_isOne_2 (by decide) ?_
  refine jc_X6_51 (ct_X6_in _ _ _  _) (by decide) (Nat.le_of_ble_eq_true rfl) dX6_isOne_3 (fun v1 h2 e3 => ?_)
  exact j_gd (fun q4 => j_zret q4 dX6_isOne_6)
set_option maxRecDepth 20000 in
theorem ct_X6_isRow (a0 : Int32)  (h : Hp) : Ct encI yX6_isRow cX6_isRow 1 (some .boolean) 1 [aI a0] h (f_X6_isRow a0 h) := by
  refine ct_of [(0, aI a0)] (by decide) (fun _ => rfl) (fun _ => Nat.le_of_ble_eq_true rfl) ?_
  show J encI RX6 cX6_isRow 1 (some .boolean) 1 0 [(0, aI a0)] [] h (f_X6_isRow a0 h)
  unfold f_X6_isRow
  refine j_iload_n dX6_isRow_0 rfl ?_
  refine j_iconst (v := (0 : Int32)) dX6_isRow_1 (by decide) ?_
  refine j_iconst (v := (5 : Int32)) dX6_isRow_2 (by decide) ?_
  refine jc_X6_51 (ct_X6_in _ _ _  _) (by decide) (Nat.le_of_ble_eq_true rfl) dX6_isRow_3 (fun v1 h2 e3 => ?_)
  exact j_gd (fun q4 => j_zret q4 dX6_isRow_6)
set_option maxRecDepth 20000 in
theorem ct_X6_isSet (a1 : Int32)  (h : Hp) : Ct encI yX6_isSet cX6_isSet 2 (some .boolean) 1 [aR 20 0, aI a1] h (f_X6_isSet a1 h) := by
  refine ct_of [(0, aR 20 0), (1, aI a1)] (by decide) (fun _ => rfl) (fun _ => Nat.le_of_ble_eq_true rfl) ?_
  show J encI RX6 cX6_isSet 2 (some .boolean) 1 0 [(0, aR 20 0), (1, aI a1)] [] h (f_X6_isSet a1 h)
  unfold f_X6_isSet
  refine j_iload_n dX6_isSet_0 rfl ?_
  refine j_iconst (v := (0 : Int32)) dX6_isSet_1 (by decide) ?_
  refine j_iconst (v := (1 : Int32)) dX6_isSet_2 (by decide) ?_
  refine j_aload_n dX6_isSet_3 rfl ?_
  refine jg_X6_129 z_20 dX6_isSet_4 ?_
  refine j_ishl dX6_isSet_7 ?_
  refine j_iconst (v := (1 : Int32)) dX6_isSet_8 (by decide) ?_
  refine j_isub dX6_isSet_9 ?_
  refine jc_X6_51 (ct_X6_in _ _ _  _) (by decide) (Nat.le_of_ble_eq_true rfl) dX6_isSet_10 (fun v1 h2 e3 => ?_)
  exact j_gd (fun q4 => j_zret q4 dX6_isSet_13)
set_option maxRecDepth 20000 in
theorem ct_X6_isText (a0 : Int32)  (h : Hp) : Ct encI yX6_isText cX6_isText 1 (some .boolean) 1 [aI a0] h (f_X6_isText a0 h) := by
  refine ct_of [(0, aI a0)] (by decide) (fun _ => rfl) (fun _ => Nat.le_of_ble_eq_true rfl) ?_
  show J encI RX6 cX6_isText 1 (some .boolean) 1 0 [(0, aI a0)] [] h (f_X6_isText a0 h)
  unfold f_X6_isText
  refine j_iload_n dX6_isText_0 rfl ?_
  refine j_iconst (v := (0 : Int32)) dX6_isText_1 (by decide) ?_
  refine j_iconst (v := (3 : Int32)) dX6_isText_2 (by decide) ?_
  refine jc_X6_51 (ct_X6_in _ _ _  _) (by decide) (Nat.le_of_ble_eq_true rfl) dX6_isText_3 (fun v1 h2 e3 => ?_)
  exact j_gd (fun q4 => j_zret q4 dX6_isText_6)
set_option maxRecDepth 20000 in
theorem w_X6_keep_b142  : ∀ (n : Nat) (a2 : Int32) (a3 : Int32)  (h : Hp), J encI RX6 cX6_keep 4 (some .int) 1 142 [(0, aR 20 0), (2, aI a2), (3, aI a3)] [] h (f_X6_keep_b142  n a2 a3 h) := by
  intro n
  induction n with
  | zero =>
    intros
    exact j_none
  | succ n hk142 =>
    intro a2 a3  h
    show J encI RX6 cX6_keep 4 (some .int) 1 142 [(0, aR 20 0), (2, aI a2), (3, aI a3)] [] h (f_X6_keep_b142_body  (f_X6_keep_b142  n) a2 a3 h)
    unfold f_X6_keep_b142_body
    refine j_iload_n dX6_keep_142 rfl ?_
    refine j_bipush (v := (98 : Int32)) dX6_keep_143 (by decide) ?_
    refine j_icmp_ge (tgt := 171) dX6_keep_145 (by decide) (fun c1 => ?_) (fun c1 => ?_)
    · refine j_aload_n dX6_keep_171 rfl ?_
      refine jg_X6_132 z_20 dX6_keep_172 ?_
      refine jc_X6_174 (ct_X6_sizeOf _  _) (by decide) (Nat.le_of_ble_eq_true rfl) dX6_keep_175 (fun v2 h3 e4 => ?_)
      exact j_iret dX6_keep_178
    · refine j_aload_n dX6_keep_148 rfl ?_
      refine jg_X6_38 z_20 dX6_keep_149 ?_
      refine j_iload_n dX6_keep_152 rfl ?_
      refine j_bipush (v := (21 : Int32)) dX6_keep_153 (by decide) ?_
      refine j_iadd dX6_keep_155 ?_
      refine j_iload_n dX6_keep_156 rfl ?_
      refine j_iadd dX6_keep_157 ?_
      refine j_aload_n dX6_keep_158 rfl ?_
      refine jg_X6_32 z_20 dX6_keep_159 ?_
      refine j_iload_n dX6_keep_162 rfl ?_
      refine j_iald (ic_27 _) z_27 dX6_keep_163 (fun q5 => ?_)
      refine j_iast (ic_29 _) z_29 dX6_keep_164 (fun q6 => ?_)
      refine j_iinc (v := (1 : Int32)) dX6_keep_165 rfl (by decide) (by decide) ?_
      refine j_goto (tgt := 142) dX6_keep_168 (by decide) ?_
      exact j_weak rfl (hk142 _ _  _)
set_option maxRecDepth 20000 in
theorem w_X6_keep_b111  : ∀ (n : Nat) (a2 : Int32) (a3 : Int32)  (h : Hp), J encI RX6 cX6_keep 4 (some .int) 1 111 [(0, aR 20 0), (2, aI a2), (3, aI a3)] [] h (f_X6_keep_b111  n a2 a3 h) := by
  intro n
  induction n with
  | zero =>
    intros
    exact j_none
  | succ n hk111 =>
    intro a2 a3  h
    show J encI RX6 cX6_keep 4 (some .int) 1 111 [(0, aR 20 0), (2, aI a2), (3, aI a3)] [] h (f_X6_keep_b111_body  (f_X6_keep_b111  n) a2 a3 h)
    unfold f_X6_keep_b111_body
    refine j_iload_n dX6_keep_111 rfl ?_
    refine j_bipush (v := (14 : Int32)) dX6_keep_112 (by decide) ?_
    refine j_icmp_ge (tgt := 140) dX6_keep_114 (by decide) (fun c1 => ?_) (fun c1 => ?_)
    · refine j_iconst (v := (0 : Int32)) dX6_keep_140 (by decide) ?_
      refine j_istore_n dX6_keep_141 (by decide) ?_
      exact j_weak rfl (w_X6_keep_b142  _ _ _  _)
    · refine j_aload_n dX6_keep_117 rfl ?_
      refine jg_X6_38 z_20 dX6_keep_118 ?_
      refine j_iload_n dX6_keep_121 rfl ?_
      refine j_bipush (v := (7 : Int32)) dX6_keep_122 (by decide) ?_
      refine j_iadd dX6_keep_124 ?_
      refine j_iload_n dX6_keep_125 rfl ?_
      refine j_iadd dX6_keep_126 ?_
      refine j_aload_n dX6_keep_127 rfl ?_
      refine jg_X6_35 z_20 dX6_keep_128 ?_
      refine j_iload_n dX6_keep_131 rfl ?_
      refine j_iald (ic_28 _) z_28 dX6_keep_132 (fun q2 => ?_)
      refine j_iast (ic_29 _) z_29 dX6_keep_133 (fun q3 => ?_)
      refine j_iinc (v := (1 : Int32)) dX6_keep_134 rfl (by decide) (by decide) ?_
      refine j_goto (tgt := 111) dX6_keep_137 (by decide) ?_
      exact j_weak rfl (hk111 _ _  _)
set_option maxRecDepth 20000 in
theorem ct_X6_keep (a1 : Int32)  (h : Hp) : Ct encI yX6_keep cX6_keep 4 (some .int) 1 [aR 20 0, aI a1] h (f_X6_keep a1 h) := by
  refine ct_of [(0, aR 20 0), (1, aI a1)] (by decide) (fun _ => rfl) (fun _ => Nat.le_of_ble_eq_true rfl) ?_
  show J encI RX6 cX6_keep 4 (some .int) 1 0 [(0, aR 20 0), (1, aI a1)] [] h (f_X6_keep a1 h)
  unfold f_X6_keep
  refine j_iload_n dX6_keep_0 rfl ?_
  refine j_iconst (v := (0 : Int32)) dX6_keep_1 (by decide) ?_
  refine j_iconst (v := (2 : Int32)) dX6_keep_2 (by decide) ?_
  refine jc_X6_51 (ct_X6_in _ _ _  _) (by decide) (Nat.le_of_ble_eq_true rfl) dX6_keep_3 (fun v1 h2 e3 => ?_)
  refine j_if_ne (tgt := 11) dX6_keep_6 (by decide) (fun c4 => ?_) (fun c4 => ?_)
  · refine j_aload_n dX6_keep_11 rfl ?_
    refine jg_X6_126 z_20 dX6_keep_12 ?_
    refine j_if_ne (tgt := 21) dX6_keep_15 (by decide) (fun c5 => ?_) (fun c5 => ?_)
    · refine j_bipush (v := (120 : Int32)) dX6_keep_21 (by decide) ?_
      refine j_iload_n dX6_keep_23 rfl ?_
      refine j_imul dX6_keep_24 ?_
      refine j_istore_n dX6_keep_25 (by decide) ?_
      refine j_aload_n dX6_keep_26 rfl ?_
      refine jg_X6_38 z_20 dX6_keep_27 ?_
      refine j_iload_n dX6_keep_30 rfl ?_
      refine j_aload_n dX6_keep_31 rfl ?_
      refine jg_X6_132 z_20 dX6_keep_32 ?_
      refine j_iast (ic_29 _) z_29 dX6_keep_35 (fun q6 => ?_)
      refine j_aload_n dX6_keep_36 rfl ?_
      refine jg_X6_38 z_20 dX6_keep_37 ?_
      refine j_iload_n dX6_keep_40 rfl ?_
      refine j_iconst (v := (1 : Int32)) dX6_keep_41 (by decide) ?_
      refine j_iadd dX6_keep_42 ?_
      refine j_aload_n dX6_keep_43 rfl ?_
      refine jg_X6_129 z_20 dX6_keep_44 ?_
      refine j_iast (ic_29 _) z_29 dX6_keep_47 (fun q7 => ?_)
      refine j_aload_n dX6_keep_48 rfl ?_
      refine jg_X6_38 z_20 dX6_keep_49 ?_
      refine j_iload_n dX6_keep_52 rfl ?_
      refine j_iconst (v := (2 : Int32)) dX6_keep_53 (by decide) ?_
      refine j_iadd dX6_keep_54 ?_
      refine j_aload_n dX6_keep_55 rfl ?_
      refine jg_X6_135 z_20 dX6_keep_56 ?_
      refine j_iast (ic_29 _) z_29 dX6_keep_59 (fun q8 => ?_)
      refine j_aload_n dX6_keep_60 rfl ?_
      refine jg_X6_38 z_20 dX6_keep_61 ?_
      refine j_iload_n dX6_keep_64 rfl ?_
      refine j_iconst (v := (3 : Int32)) dX6_keep_65 (by decide) ?_
      refine j_iadd dX6_keep_66 ?_
      refine j_aload_n dX6_keep_67 rfl ?_
      refine jg_X6_138 z_20 dX6_keep_68 ?_
      refine j_iast (ic_29 _) z_29 dX6_keep_71 (fun q9 => ?_)
      refine j_aload_n dX6_keep_72 rfl ?_
      refine jg_X6_38 z_20 dX6_keep_73 ?_
      refine j_iload_n dX6_keep_76 rfl ?_
      refine j_iconst (v := (4 : Int32)) dX6_keep_77 (by decide) ?_
      refine j_iadd dX6_keep_78 ?_
      refine j_aload_n dX6_keep_79 rfl ?_
      refine jg_X6_141 z_20 dX6_keep_80 ?_
      refine j_iast (ic_29 _) z_29 dX6_keep_83 (fun q10 => ?_)
      refine j_aload_n dX6_keep_84 rfl ?_
      refine jg_X6_38 z_20 dX6_keep_85 ?_
      refine j_iload_n dX6_keep_88 rfl ?_
      refine j_iconst (v := (5 : Int32)) dX6_keep_89 (by decide) ?_
      refine j_iadd dX6_keep_90 ?_
      refine j_aload_n dX6_keep_91 rfl ?_
      refine jg_X6_144 z_20 dX6_keep_92 ?_
      refine j_iast (ic_29 _) z_29 dX6_keep_95 (fun q11 => ?_)
      refine j_aload_n dX6_keep_96 rfl ?_
      refine jg_X6_38 z_20 dX6_keep_97 ?_
      refine j_iload_n dX6_keep_100 rfl ?_
      refine j_bipush (v := (6 : Int32)) dX6_keep_101 (by decide) ?_
      refine j_iadd dX6_keep_103 ?_
      refine j_aload_n dX6_keep_104 rfl ?_
      refine jg_X6_147 z_20 dX6_keep_105 ?_
      refine j_iast (ic_29 _) z_29 dX6_keep_108 (fun q12 => ?_)
      refine j_iconst (v := (0 : Int32)) dX6_keep_109 (by decide) ?_
      refine j_istore_n dX6_keep_110 (by decide) ?_
      exact j_weak rfl (w_X6_keep_b111  _ _ _  _)
    · refine j_bipush (v := (-4 : Int32)) dX6_keep_18 (by decide) ?_
      exact j_iret dX6_keep_20
  · refine j_iconst (v := (-1 : Int32)) dX6_keep_9 (by decide) ?_
    exact j_iret dX6_keep_10
set_option maxRecDepth 20000 in
theorem w_X6_marksOf_b54 (kont11 : Int32 → Int32 → Int32 → Hp → Option (Int32 × Hp)) (hk11 : ∀ (a1 : Int32) (a2 : Int32) (a3 : Int32)  (h : Hp), J encI RX6 cX6_marksOf 4 (some .int) 1 11 [(0, aR 20 0), (1, aI a1), (2, aI a2), (3, aI a3)] [] h (kont11 a1 a2 a3 h)) (a1 : Int32) (a3 : Int32) (s0 : Int32) (s1 : Int32)  (h : Hp) : J encI RX6 cX6_marksOf 4 (some .int) 1 54 [(0, aR 20 0), (1, aI a1), (3, aI a3)] [aI s1, aI s0] h (f_X6_marksOf_b54 kont11 a1 a3 s0 s1 h) := by
  unfold f_X6_marksOf_b54
  refine j_ior dX6_marksOf_54 ?_
  refine j_istore_n dX6_marksOf_55 (by decide) ?_
  refine j_iinc (v := (1 : Int32)) dX6_marksOf_56 rfl (by decide) (by decide) ?_
  refine j_goto (tgt := 11) dX6_marksOf_59 (by decide) ?_
  exact j_weak rfl (hk11 _ _ _  _)
set_option maxRecDepth 20000 in
theorem w_X6_marksOf_b11  : ∀ (n : Nat) (a1 : Int32) (a2 : Int32) (a3 : Int32)  (h : Hp), J encI RX6 cX6_marksOf 4 (some .int) 1 11 [(0, aR 20 0), (1, aI a1), (2, aI a2), (3, aI a3)] [] h (f_X6_marksOf_b11  n a1 a2 a3 h) := by
  intro n
  induction n with
  | zero =>
    intros
    exact j_none
  | succ n hk11 =>
    intro a1 a2 a3  h
    show J encI RX6 cX6_marksOf 4 (some .int) 1 11 [(0, aR 20 0), (1, aI a1), (2, aI a2), (3, aI a3)] [] h (f_X6_marksOf_b11_body  (f_X6_marksOf_b11  n) a1 a2 a3 h)
    unfold f_X6_marksOf_b11_body
    refine j_iload_n dX6_marksOf_11 rfl ?_
    refine j_iconst (v := (3 : Int32)) dX6_marksOf_12 (by decide) ?_
    refine j_icmp_ge (tgt := 62) dX6_marksOf_13 (by decide) (fun c1 => ?_) (fun c1 => ?_)
    · refine j_iload_n dX6_marksOf_62 rfl ?_
      exact j_iret dX6_marksOf_63
    · refine j_aload_n dX6_marksOf_16 rfl ?_
      refine j_iload_n dX6_marksOf_17 rfl ?_
      refine j_iconst (v := (0 : Int32)) dX6_marksOf_18 (by decide) ?_
      refine jc_X6_89 (ct_X6_of _ _  _) (by decide) z_20 (Nat.le_of_ble_eq_true rfl) dX6_marksOf_19 (fun v2 h3 e4 => ?_)
      refine j_iconst (v := (2 : Int32)) dX6_marksOf_22 (by decide) ?_
      refine j_icmp_eq (tgt := 62) dX6_marksOf_23 (by decide) (fun c5 => ?_) (fun c5 => ?_)
      · refine j_iload_n dX6_marksOf_62 rfl ?_
        exact j_iret dX6_marksOf_63
      · refine j_iload_n dX6_marksOf_26 rfl ?_
        refine j_aload_n dX6_marksOf_27 rfl ?_
        refine j_iload_n dX6_marksOf_28 rfl ?_
        refine j_iconst (v := (3 : Int32)) dX6_marksOf_29 (by decide) ?_
        refine j_iload_n dX6_marksOf_30 rfl ?_
        refine j_iadd dX6_marksOf_31 ?_
        refine jc_X6_89 (ct_X6_of _ _  _) (by decide) z_20 (Nat.le_of_ble_eq_true rfl) dX6_marksOf_32 (fun v6 h7 e8 => ?_)
        refine j_bipush (v := (-9 : Int32)) dX6_marksOf_35 (by decide) ?_
        refine j_icmp_ne (tgt := 44) dX6_marksOf_37 (by decide) (fun c9 => ?_) (fun c9 => ?_)
        · refine j_iconst (v := (1 : Int32)) dX6_marksOf_44 (by decide) ?_
          refine j_aload_n dX6_marksOf_45 rfl ?_
          refine j_iload_n dX6_marksOf_46 rfl ?_
          refine j_iconst (v := (3 : Int32)) dX6_marksOf_47 (by decide) ?_
          refine j_iload_n dX6_marksOf_48 rfl ?_
          refine j_iadd dX6_marksOf_49 ?_
          refine jc_X6_89 (ct_X6_of _ _  _) (by decide) z_20 (Nat.le_of_ble_eq_true rfl) dX6_marksOf_50 (fun v10 h11 e12 => ?_)
          refine j_ishl dX6_marksOf_53 ?_
          exact j_weak rfl (w_X6_marksOf_b54 _ hk11 _ _ _ _  _)
        · refine j_iconst (v := (0 : Int32)) dX6_marksOf_40 (by decide) ?_
          refine j_goto (tgt := 54) dX6_marksOf_41 (by decide) ?_
          exact j_weak rfl (w_X6_marksOf_b54 _ hk11 _ _ _ _  _)
set_option maxRecDepth 20000 in
theorem ct_X6_marksOf (a1 : Int32)  (h : Hp) : Ct encI yX6_marksOf cX6_marksOf 4 (some .int) 1 [aR 20 0, aI a1] h (f_X6_marksOf a1 h) := by
  refine ct_of [(0, aR 20 0), (1, aI a1)] (by decide) (fun _ => rfl) (fun _ => Nat.le_of_ble_eq_true rfl) ?_
  show J encI RX6 cX6_marksOf 4 (some .int) 1 0 [(0, aR 20 0), (1, aI a1)] [] h (f_X6_marksOf a1 h)
  unfold f_X6_marksOf
  refine j_iconst (v := (1 : Int32)) dX6_marksOf_0 (by decide) ?_
  refine j_aload_n dX6_marksOf_1 rfl ?_
  refine j_iload_n dX6_marksOf_2 rfl ?_
  refine j_iconst (v := (3 : Int32)) dX6_marksOf_3 (by decide) ?_
  refine jc_X6_89 (ct_X6_of _ _  _) (by decide) z_20 (Nat.le_of_ble_eq_true rfl) dX6_marksOf_4 (fun v1 h2 e3 => ?_)
  refine j_ishl dX6_marksOf_7 ?_
  refine j_istore_n dX6_marksOf_8 (by decide) ?_
  refine j_iconst (v := (1 : Int32)) dX6_marksOf_9 (by decide) ?_
  refine j_istore_n dX6_marksOf_10 (by decide) ?_
  exact j_weak rfl (w_X6_marksOf_b11  _ _ _ _  _)
set_option maxRecDepth 20000 in
theorem ct_X6_moved (a1 : Int32)  (h : Hp) : Ct encI yX6_moved cX6_moved 3 (some .int) 1 [aR 20 0, aI a1] h (f_X6_moved a1 h) := by
  refine ct_of [(0, aR 20 0), (1, aI a1)] (by decide) (fun _ => rfl) (fun _ => Nat.le_of_ble_eq_true rfl) ?_
  show J encI RX6 cX6_moved 3 (some .int) 1 0 [(0, aR 20 0), (1, aI a1)] [] h (f_X6_moved a1 h)
  unfold f_X6_moved
  refine j_iload_n dX6_moved_0 rfl ?_
  refine j_iconst (v := (0 : Int32)) dX6_moved_1 (by decide) ?_
  refine j_iconst (v := (2 : Int32)) dX6_moved_2 (by decide) ?_
  refine jc_X6_51 (ct_X6_in _ _ _  _) (by decide) (Nat.le_of_ble_eq_true rfl) dX6_moved_3 (fun v1 h2 e3 => ?_)
  refine j_if_ne (tgt := 11) dX6_moved_6 (by decide) (fun c4 => ?_) (fun c4 => ?_)
  · refine j_aload_n dX6_moved_11 rfl ?_
    refine jg_X6_38 z_20 dX6_moved_12 ?_
    refine j_bipush (v := (120 : Int32)) dX6_moved_15 (by decide) ?_
    refine j_iload_n dX6_moved_17 rfl ?_
    refine j_imul dX6_moved_18 ?_
    refine j_iald (ic_29 _) z_29 dX6_moved_19 (fun q5 => ?_)
    refine j_istore_n dX6_moved_20 (by decide) ?_
    refine j_iload_n dX6_moved_21 rfl ?_
    refine j_bipush (v := (-9 : Int32)) dX6_moved_22 (by decide) ?_
    refine j_icmp_ne (tgt := 35) dX6_moved_24 (by decide) (fun c6 => ?_) (fun c6 => ?_)
    · refine j_aload_n dX6_moved_35 rfl ?_
      refine j_aload_n dX6_moved_36 rfl ?_
      refine jg_X6_132 z_20 dX6_moved_37 ?_
      refine j_iload_n dX6_moved_40 rfl ?_
      refine j_iconst (v := (-1 : Int32)) dX6_moved_41 (by decide) ?_
      refine j_ixor dX6_moved_42 ?_
      refine j_iand dX6_moved_43 ?_
      refine j_iload_n dX6_moved_44 rfl ?_
      refine j_aload_n dX6_moved_45 rfl ?_
      refine jg_X6_132 z_20 dX6_moved_46 ?_
      refine j_iconst (v := (-1 : Int32)) dX6_moved_49 (by decide) ?_
      refine j_ixor dX6_moved_50 ?_
      refine j_iand dX6_moved_51 ?_
      refine jc_X6_77 (ct_X6_ask _ _  _) (by decide) z_20 (Nat.le_of_ble_eq_true rfl) dX6_moved_52 (fun v7 h8 e9 => ?_)
      exact j_iret dX6_moved_55
    · refine j_aload_n dX6_moved_27 rfl ?_
      refine j_iconst (v := (1 : Int32)) dX6_moved_28 (by decide) ?_
      refine jc_X6_59 (ct_X6_meet _  _) (by decide) z_20 (Nat.le_of_ble_eq_true rfl) dX6_moved_29 (fun v10 h11 e12 => ?_)
      refine j_goto (tgt := 55) dX6_moved_32 (by decide) ?_
      exact j_iret dX6_moved_55
  · refine j_iconst (v := (-1 : Int32)) dX6_moved_9 (by decide) ?_
    exact j_iret dX6_moved_10
set_option maxRecDepth 20000 in
theorem w_X6_on_b149  : ∀ (n : Nat) (a2 : Int32) (a3 : Int32)  (h : Hp), J encI RX6 cX6_on 4 (some .int) 1 149 [(0, aR 20 0), (2, aI a2), (3, aI a3)] [] h (f_X6_on_b149  n a2 a3 h) := by
  intro n
  induction n with
  | zero =>
    intros
    exact j_none
  | succ n hk149 =>
    intro a2 a3  h
    show J encI RX6 cX6_on 4 (some .int) 1 149 [(0, aR 20 0), (2, aI a2), (3, aI a3)] [] h (f_X6_on_b149_body  (f_X6_on_b149  n) a2 a3 h)
    unfold f_X6_on_b149_body
    refine j_iload_n dX6_on_149 rfl ?_
    refine j_bipush (v := (98 : Int32)) dX6_on_150 (by decide) ?_
    refine j_icmp_ge (tgt := 178) dX6_on_152 (by decide) (fun c1 => ?_) (fun c1 => ?_)
    · refine j_aload_n dX6_on_178 rfl ?_
      refine jg_X6_132 z_20 dX6_on_179 ?_
      refine jc_X6_174 (ct_X6_sizeOf _  _) (by decide) (Nat.le_of_ble_eq_true rfl) dX6_on_182 (fun v2 h3 e4 => ?_)
      exact j_iret dX6_on_185
    · refine j_aload_n dX6_on_155 rfl ?_
      refine jg_X6_32 z_20 dX6_on_156 ?_
      refine j_iload_n dX6_on_159 rfl ?_
      refine j_aload_n dX6_on_160 rfl ?_
      refine jg_X6_38 z_20 dX6_on_161 ?_
      refine j_iload_n dX6_on_164 rfl ?_
      refine j_bipush (v := (21 : Int32)) dX6_on_165 (by decide) ?_
      refine j_iadd dX6_on_167 ?_
      refine j_iload_n dX6_on_168 rfl ?_
      refine j_iadd dX6_on_169 ?_
      refine j_iald (ic_29 _) z_29 dX6_on_170 (fun q5 => ?_)
      refine j_iast (ic_27 _) z_27 dX6_on_171 (fun q6 => ?_)
      refine j_iinc (v := (1 : Int32)) dX6_on_172 rfl (by decide) (by decide) ?_
      refine j_goto (tgt := 149) dX6_on_175 (by decide) ?_
      exact j_weak rfl (hk149 _ _  _)
set_option maxRecDepth 20000 in
theorem w_X6_on_b118  : ∀ (n : Nat) (a2 : Int32) (a3 : Int32)  (h : Hp), J encI RX6 cX6_on 4 (some .int) 1 118 [(0, aR 20 0), (2, aI a2), (3, aI a3)] [] h (f_X6_on_b118  n a2 a3 h) := by
  intro n
  induction n with
  | zero =>
    intros
    exact j_none
  | succ n hk118 =>
    intro a2 a3  h
    show J encI RX6 cX6_on 4 (some .int) 1 118 [(0, aR 20 0), (2, aI a2), (3, aI a3)] [] h (f_X6_on_b118_body  (f_X6_on_b118  n) a2 a3 h)
    unfold f_X6_on_b118_body
    refine j_iload_n dX6_on_118 rfl ?_
    refine j_bipush (v := (14 : Int32)) dX6_on_119 (by decide) ?_
    refine j_icmp_ge (tgt := 147) dX6_on_121 (by decide) (fun c1 => ?_) (fun c1 => ?_)
    · refine j_iconst (v := (0 : Int32)) dX6_on_147 (by decide) ?_
      refine j_istore_n dX6_on_148 (by decide) ?_
      exact j_weak rfl (w_X6_on_b149  _ _ _  _)
    · refine j_aload_n dX6_on_124 rfl ?_
      refine jg_X6_35 z_20 dX6_on_125 ?_
      refine j_iload_n dX6_on_128 rfl ?_
      refine j_aload_n dX6_on_129 rfl ?_
      refine jg_X6_38 z_20 dX6_on_130 ?_
      refine j_iload_n dX6_on_133 rfl ?_
      refine j_bipush (v := (7 : Int32)) dX6_on_134 (by decide) ?_
      refine j_iadd dX6_on_136 ?_
      refine j_iload_n dX6_on_137 rfl ?_
      refine j_iadd dX6_on_138 ?_
      refine j_iald (ic_29 _) z_29 dX6_on_139 (fun q2 => ?_)
      refine j_iast (ic_28 _) z_28 dX6_on_140 (fun q3 => ?_)
      refine j_iinc (v := (1 : Int32)) dX6_on_141 rfl (by decide) (by decide) ?_
      refine j_goto (tgt := 118) dX6_on_144 (by decide) ?_
      exact j_weak rfl (hk118 _ _  _)
set_option maxRecDepth 20000 in
theorem ct_X6_on (a1 : Int32)  (h : Hp) : Ct encI yX6_on cX6_on 4 (some .int) 1 [aR 20 0, aI a1] h (f_X6_on a1 h) := by
  refine ct_of [(0, aR 20 0), (1, aI a1)] (by decide) (fun _ => rfl) (fun _ => Nat.le_of_ble_eq_true rfl) ?_
  show J encI RX6 cX6_on 4 (some .int) 1 0 [(0, aR 20 0), (1, aI a1)] [] h (f_X6_on a1 h)
  unfold f_X6_on
  refine j_iload_n dX6_on_0 rfl ?_
  refine j_iconst (v := (0 : Int32)) dX6_on_1 (by decide) ?_
  refine j_iconst (v := (2 : Int32)) dX6_on_2 (by decide) ?_
  refine jc_X6_51 (ct_X6_in _ _ _  _) (by decide) (Nat.le_of_ble_eq_true rfl) dX6_on_3 (fun v1 h2 e3 => ?_)
  refine j_if_ne (tgt := 11) dX6_on_6 (by decide) (fun c4 => ?_) (fun c4 => ?_)
  · refine j_bipush (v := (120 : Int32)) dX6_on_11 (by decide) ?_
    refine j_iload_n dX6_on_13 rfl ?_
    refine j_imul dX6_on_14 ?_
    refine j_istore_n dX6_on_15 (by decide) ?_
    refine j_aload_n dX6_on_16 rfl ?_
    refine jg_X6_38 z_20 dX6_on_17 ?_
    refine j_iload_n dX6_on_20 rfl ?_
    refine j_iald (ic_29 _) z_29 dX6_on_21 (fun q5 => ?_)
    refine j_bipush (v := (-9 : Int32)) dX6_on_22 (by decide) ?_
    refine j_icmp_ne (tgt := 33) dX6_on_24 (by decide) (fun c6 => ?_) (fun c6 => ?_)
    · refine j_aload_n dX6_on_33 rfl ?_
      refine j_aload_n dX6_on_34 rfl ?_
      refine jg_X6_38 z_20 dX6_on_35 ?_
      refine j_iload_n dX6_on_38 rfl ?_
      refine j_iald (ic_29 _) z_29 dX6_on_39 (fun q7 => ?_)
      refine jp_X6_132 z_20 dX6_on_40 ?_
      refine j_aload_n dX6_on_43 rfl ?_
      refine j_aload_n dX6_on_44 rfl ?_
      refine jg_X6_38 z_20 dX6_on_45 ?_
      refine j_iload_n dX6_on_48 rfl ?_
      refine j_iconst (v := (1 : Int32)) dX6_on_49 (by decide) ?_
      refine j_iadd dX6_on_50 ?_
      refine j_iald (ic_29 _) z_29 dX6_on_51 (fun q8 => ?_)
      refine jp_X6_129 z_20 dX6_on_52 ?_
      refine j_aload_n dX6_on_55 rfl ?_
      refine j_aload_n dX6_on_56 rfl ?_
      refine jg_X6_38 z_20 dX6_on_57 ?_
      refine j_iload_n dX6_on_60 rfl ?_
      refine j_iconst (v := (2 : Int32)) dX6_on_61 (by decide) ?_
      refine j_iadd dX6_on_62 ?_
      refine j_iald (ic_29 _) z_29 dX6_on_63 (fun q9 => ?_)
      refine jp_X6_135 z_20 dX6_on_64 ?_
      refine j_aload_n dX6_on_67 rfl ?_
      refine j_aload_n dX6_on_68 rfl ?_
      refine jg_X6_38 z_20 dX6_on_69 ?_
      refine j_iload_n dX6_on_72 rfl ?_
      refine j_iconst (v := (3 : Int32)) dX6_on_73 (by decide) ?_
      refine j_iadd dX6_on_74 ?_
      refine j_iald (ic_29 _) z_29 dX6_on_75 (fun q10 => ?_)
      refine jp_X6_138 z_20 dX6_on_76 ?_
      refine j_aload_n dX6_on_79 rfl ?_
      refine j_aload_n dX6_on_80 rfl ?_
      refine jg_X6_38 z_20 dX6_on_81 ?_
      refine j_iload_n dX6_on_84 rfl ?_
      refine j_iconst (v := (4 : Int32)) dX6_on_85 (by decide) ?_
      refine j_iadd dX6_on_86 ?_
      refine j_iald (ic_29 _) z_29 dX6_on_87 (fun q11 => ?_)
      refine jp_X6_141 z_20 dX6_on_88 ?_
      refine j_aload_n dX6_on_91 rfl ?_
      refine j_aload_n dX6_on_92 rfl ?_
      refine jg_X6_38 z_20 dX6_on_93 ?_
      refine j_iload_n dX6_on_96 rfl ?_
      refine j_iconst (v := (5 : Int32)) dX6_on_97 (by decide) ?_
      refine j_iadd dX6_on_98 ?_
      refine j_iald (ic_29 _) z_29 dX6_on_99 (fun q12 => ?_)
      refine jp_X6_144 z_20 dX6_on_100 ?_
      refine j_aload_n dX6_on_103 rfl ?_
      refine j_aload_n dX6_on_104 rfl ?_
      refine jg_X6_38 z_20 dX6_on_105 ?_
      refine j_iload_n dX6_on_108 rfl ?_
      refine j_bipush (v := (6 : Int32)) dX6_on_109 (by decide) ?_
      refine j_iadd dX6_on_111 ?_
      refine j_iald (ic_29 _) z_29 dX6_on_112 (fun q13 => ?_)
      refine jp_X6_147 z_20 dX6_on_113 ?_
      refine j_iconst (v := (0 : Int32)) dX6_on_116 (by decide) ?_
      refine j_istore_n dX6_on_117 (by decide) ?_
      exact j_weak rfl (w_X6_on_b118  _ _ _  _)
    · refine j_aload_n dX6_on_27 rfl ?_
      refine j_iconst (v := (1 : Int32)) dX6_on_28 (by decide) ?_
      refine jc_X6_59 (ct_X6_meet _  _) (by decide) z_20 (Nat.le_of_ble_eq_true rfl) dX6_on_29 (fun v14 h15 e16 => ?_)
      exact j_iret dX6_on_32
  · refine j_iconst (v := (-1 : Int32)) dX6_on_9 (by decide) ?_
    exact j_iret dX6_on_10
set_option maxRecDepth 20000 in
theorem ct_X6_over (a1 : Int32) (a2 : Int32)  (h : Hp) : Ct encI yX6_over cX6_over 5 (some .boolean) 1 [aR 20 0, aI a1, aI a2] h (f_X6_over a1 a2 h) := by
  refine ct_of [(0, aR 20 0), (1, aI a1), (2, aI a2)] (by decide) (fun _ => rfl) (fun _ => Nat.le_of_ble_eq_true rfl) ?_
  show J encI RX6 cX6_over 5 (some .boolean) 1 0 [(0, aR 20 0), (1, aI a1), (2, aI a2)] [] h (f_X6_over a1 a2 h)
  unfold f_X6_over
  refine j_aload_n dX6_over_0 rfl ?_
  refine j_iload_n dX6_over_1 rfl ?_
  refine j_iconst (v := (2 : Int32)) dX6_over_2 (by decide) ?_
  refine jc_X6_89 (ct_X6_of _ _  _) (by decide) z_20 (Nat.le_of_ble_eq_true rfl) dX6_over_3 (fun v1 h2 e3 => ?_)
  refine j_istore_n dX6_over_6 (by decide) ?_
  refine j_aload_n dX6_over_7 rfl ?_
  refine j_iload_n dX6_over_8 rfl ?_
  refine j_iconst (v := (2 : Int32)) dX6_over_9 (by decide) ?_
  refine jc_X6_89 (ct_X6_of _ _  _) (by decide) z_20 (Nat.le_of_ble_eq_true rfl) dX6_over_10 (fun v4 h5 e6 => ?_)
  refine j_istore dX6_over_13 (by decide) ?_
  refine j_iload_n dX6_over_15 rfl ?_
  refine j_iload dX6_over_16 rfl ?_
  refine j_aload_n dX6_over_18 rfl ?_
  refine j_iload_n dX6_over_19 rfl ?_
  refine j_iconst (v := (0 : Int32)) dX6_over_20 (by decide) ?_
  refine jc_X6_89 (ct_X6_of _ _  _) (by decide) z_20 (Nat.le_of_ble_eq_true rfl) dX6_over_21 (fun v7 h8 e9 => ?_)
  refine jc_X6_92 (ct_X6_widthOf _  _) (by decide) (Nat.le_of_ble_eq_true rfl) dX6_over_24 (fun v10 h11 e12 => ?_)
  refine j_iadd dX6_over_27 ?_
  refine j_icmp_ge (tgt := 51) dX6_over_28 (by decide) (fun c13 => ?_) (fun c13 => ?_)
  · refine j_iconst (v := (0 : Int32)) dX6_over_51 (by decide) ?_
    exact j_zret (Or.inl rfl) dX6_over_52
  · refine j_iload dX6_over_31 rfl ?_
    refine j_iload_n dX6_over_33 rfl ?_
    refine j_aload_n dX6_over_34 rfl ?_
    refine j_iload_n dX6_over_35 rfl ?_
    refine j_iconst (v := (0 : Int32)) dX6_over_36 (by decide) ?_
    refine jc_X6_89 (ct_X6_of _ _  _) (by decide) z_20 (Nat.le_of_ble_eq_true rfl) dX6_over_37 (fun v14 h15 e16 => ?_)
    refine jc_X6_92 (ct_X6_widthOf _  _) (by decide) (Nat.le_of_ble_eq_true rfl) dX6_over_40 (fun v17 h18 e19 => ?_)
    refine j_iadd dX6_over_43 ?_
    refine j_icmp_ge (tgt := 51) dX6_over_44 (by decide) (fun c20 => ?_) (fun c20 => ?_)
    · refine j_iconst (v := (0 : Int32)) dX6_over_51 (by decide) ?_
      exact j_zret (Or.inl rfl) dX6_over_52
    · refine j_iconst (v := (1 : Int32)) dX6_over_47 (by decide) ?_
      refine j_goto (tgt := 52) dX6_over_48 (by decide) ?_
      exact j_zret (Or.inr rfl) dX6_over_52
set_option maxRecDepth 20000 in
theorem w_X6_owed_b77 (kont5 : Int32 → Int32 → Int32 → Int32 → Hp → Option (Int32 × Hp)) (hk5 : ∀ (a1 : Int32) (a2 : Int32) (a3 : Int32) (a4 : Int32)  (h : Hp), J encI RX6 cX6_owed 6 (some .int) 1 5 [(0, aR 20 0), (1, aI a1), (2, aI a2), (3, aI a3), (4, aI a4)] [] h (kont5 a1 a2 a3 a4 h)) (kont17 : Int32 → Int32 → Int32 → Int32 → Int32 → Hp → Option (Int32 × Hp)) (hk17 : ∀ (a1 : Int32) (a2 : Int32) (a3 : Int32) (a4 : Int32) (a5 : Int32)  (h : Hp), J encI RX6 cX6_owed 6 (some .int) 1 17 [(0, aR 20 0), (1, aI a1), (2, aI a2), (3, aI a3), (4, aI a4), (5, aI a5)] [] h (kont17 a1 a2 a3 a4 a5 h)) (a1 : Int32) (a2 : Int32) (a4 : Int32) (a5 : Int32) (s0 : Int32) (s1 : Int32)  (h : Hp) : J encI RX6 cX6_owed 6 (some .int) 1 77 [(0, aR 20 0), (1, aI a1), (2, aI a2), (4, aI a4), (5, aI a5)] [aI s1, aI s0] h (f_X6_owed_b77 kont5 kont17 a1 a2 a4 a5 s0 s1 h) := by
  unfold f_X6_owed_b77
  refine j_iadd dX6_owed_77 ?_
  refine j_istore_n dX6_owed_78 (by decide) ?_
  refine j_iinc (v := (1 : Int32)) dX6_owed_79 rfl (by decide) (by decide) ?_
  refine j_goto (tgt := 17) dX6_owed_82 (by decide) ?_
  exact j_weak rfl (hk17 _ _ _ _ _  _)
set_option maxRecDepth 20000 in
theorem w_X6_owed_b76 (kont5 : Int32 → Int32 → Int32 → Int32 → Hp → Option (Int32 × Hp)) (hk5 : ∀ (a1 : Int32) (a2 : Int32) (a3 : Int32) (a4 : Int32)  (h : Hp), J encI RX6 cX6_owed 6 (some .int) 1 5 [(0, aR 20 0), (1, aI a1), (2, aI a2), (3, aI a3), (4, aI a4)] [] h (kont5 a1 a2 a3 a4 h)) (kont17 : Int32 → Int32 → Int32 → Int32 → Int32 → Hp → Option (Int32 × Hp)) (hk17 : ∀ (a1 : Int32) (a2 : Int32) (a3 : Int32) (a4 : Int32) (a5 : Int32)  (h : Hp), J encI RX6 cX6_owed 6 (some .int) 1 17 [(0, aR 20 0), (1, aI a1), (2, aI a2), (3, aI a3), (4, aI a4), (5, aI a5)] [] h (kont17 a1 a2 a3 a4 a5 h)) (a1 : Int32) (a2 : Int32) (a4 : Int32) (a5 : Int32) (s0 : Int32)  (h : Hp) : J encI RX6 cX6_owed 6 (some .int) 1 76 [(0, aR 20 0), (1, aI a1), (2, aI a2), (4, aI a4), (5, aI a5)] [aI s0] h (f_X6_owed_b76 kont5 kont17 a1 a2 a4 a5 s0 h) := by
  unfold f_X6_owed_b76
  refine j_iconst (v := (0 : Int32)) dX6_owed_76 (by decide) ?_
  exact j_weak rfl (w_X6_owed_b77 _ hk5 _ hk17 _ _ _ _ _ _  _)
set_option maxRecDepth 20000 in
theorem w_X6_owed_b17 (kont5 : Int32 → Int32 → Int32 → Int32 → Hp → Option (Int32 × Hp)) (hk5 : ∀ (a1 : Int32) (a2 : Int32) (a3 : Int32) (a4 : Int32)  (h : Hp), J encI RX6 cX6_owed 6 (some .int) 1 5 [(0, aR 20 0), (1, aI a1), (2, aI a2), (3, aI a3), (4, aI a4)] [] h (kont5 a1 a2 a3 a4 h)) : ∀ (n : Nat) (a1 : Int32) (a2 : Int32) (a3 : Int32) (a4 : Int32) (a5 : Int32)  (h : Hp), J encI RX6 cX6_owed 6 (some .int) 1 17 [(0, aR 20 0), (1, aI a1), (2, aI a2), (3, aI a3), (4, aI a4), (5, aI a5)] [] h (f_X6_owed_b17 kont5 n a1 a2 a3 a4 a5 h) := by
  intro n
  induction n with
  | zero =>
    intros
    exact j_none
  | succ n hk17 =>
    intro a1 a2 a3 a4 a5  h
    show J encI RX6 cX6_owed 6 (some .int) 1 17 [(0, aR 20 0), (1, aI a1), (2, aI a2), (3, aI a3), (4, aI a4), (5, aI a5)] [] h (f_X6_owed_b17_body kont5 (f_X6_owed_b17 kont5 n) a1 a2 a3 a4 a5 h)
    unfold f_X6_owed_b17_body
    refine j_iload dX6_owed_17 rfl ?_
    refine j_iconst (v := (3 : Int32)) dX6_owed_19 (by decide) ?_
    refine j_icmp_ge (tgt := 85) dX6_owed_20 (by decide) (fun c1 => ?_) (fun c1 => ?_)
    · refine j_iinc (v := (1 : Int32)) dX6_owed_85 rfl (by decide) (by decide) ?_
      refine j_goto (tgt := 5) dX6_owed_88 (by decide) ?_
      exact j_weak rfl (hk5 _ _ _ _  _)
    · refine j_iload_n dX6_owed_23 rfl ?_
      refine j_aload_n dX6_owed_24 rfl ?_
      refine jg_X6_132 z_20 dX6_owed_25 ?_
      refine j_iload dX6_owed_28 rfl ?_
      refine jc_X6_150 (ct_X6_has _ _  _) (by decide) (Nat.le_of_ble_eq_true rfl) dX6_owed_30 (fun v2 h3 e4 => ?_)
      refine j_if_eq (tgt := 76) dX6_owed_33 (by decide) (fun c5 => ?_) (fun c5 => ?_)
      · exact j_weak rfl (w_X6_owed_b76 _ hk5 _ hk17 _ _ _ _ _  _)
      · refine j_aload_n dX6_owed_36 rfl ?_
        refine j_iload dX6_owed_37 rfl ?_
        refine j_iconst (v := (0 : Int32)) dX6_owed_39 (by decide) ?_
        refine jc_X6_89 (ct_X6_of _ _  _) (by decide) z_20 (Nat.le_of_ble_eq_true rfl) dX6_owed_40 (fun v6 h7 e8 => ?_)
        refine j_iconst (v := (2 : Int32)) dX6_owed_43 (by decide) ?_
        refine j_icmp_eq (tgt := 76) dX6_owed_44 (by decide) (fun c9 => ?_) (fun c9 => ?_)
        · exact j_weak rfl (w_X6_owed_b76 _ hk5 _ hk17 _ _ _ _ _  _)
        · refine j_aload_n dX6_owed_47 rfl ?_
          refine j_iload dX6_owed_48 rfl ?_
          refine j_iconst (v := (3 : Int32)) dX6_owed_50 (by decide) ?_
          refine jc_X6_89 (ct_X6_of _ _  _) (by decide) z_20 (Nat.le_of_ble_eq_true rfl) dX6_owed_51 (fun v10 h11 e12 => ?_)
          refine j_iload_n dX6_owed_54 rfl ?_
          refine j_icmp_ne (tgt := 76) dX6_owed_55 (by decide) (fun c13 => ?_) (fun c13 => ?_)
          · exact j_weak rfl (w_X6_owed_b76 _ hk5 _ hk17 _ _ _ _ _  _)
          · refine j_aload_n dX6_owed_58 rfl ?_
            refine j_iload dX6_owed_59 rfl ?_
            refine j_iconst (v := (3 : Int32)) dX6_owed_61 (by decide) ?_
            refine j_iload dX6_owed_62 rfl ?_
            refine j_iadd dX6_owed_64 ?_
            refine jc_X6_89 (ct_X6_of _ _  _) (by decide) z_20 (Nat.le_of_ble_eq_true rfl) dX6_owed_65 (fun v14 h15 e16 => ?_)
            refine j_iload_n dX6_owed_68 rfl ?_
            refine j_icmp_ne (tgt := 76) dX6_owed_69 (by decide) (fun c17 => ?_) (fun c17 => ?_)
            · exact j_weak rfl (w_X6_owed_b76 _ hk5 _ hk17 _ _ _ _ _  _)
            · refine j_iconst (v := (1 : Int32)) dX6_owed_72 (by decide) ?_
              refine j_goto (tgt := 77) dX6_owed_73 (by decide) ?_
              exact j_weak rfl (w_X6_owed_b77 _ hk5 _ hk17 _ _ _ _ _ _  _)
set_option maxRecDepth 20000 in
theorem w_X6_owed_b5  : ∀ (n : Nat) (a1 : Int32) (a2 : Int32) (a3 : Int32) (a4 : Int32)  (h : Hp), J encI RX6 cX6_owed 6 (some .int) 1 5 [(0, aR 20 0), (1, aI a1), (2, aI a2), (3, aI a3), (4, aI a4)] [] h (f_X6_owed_b5  n a1 a2 a3 a4 h) := by
  intro n
  induction n with
  | zero =>
    intros
    exact j_none
  | succ n hk5 =>
    intro a1 a2 a3 a4  h
    show J encI RX6 cX6_owed 6 (some .int) 1 5 [(0, aR 20 0), (1, aI a1), (2, aI a2), (3, aI a3), (4, aI a4)] [] h (f_X6_owed_b5_body  (f_X6_owed_b5  n) a1 a2 a3 a4 h)
    unfold f_X6_owed_b5_body
    refine j_iload dX6_owed_5 rfl ?_
    refine j_aload_n dX6_owed_7 rfl ?_
    refine jg_X6_129 z_20 dX6_owed_8 ?_
    refine j_icmp_ge (tgt := 91) dX6_owed_11 (by decide) (fun c1 => ?_) (fun c1 => ?_)
    · refine j_iload_n dX6_owed_91 rfl ?_
      exact j_iret dX6_owed_92
    · refine j_iconst (v := (1 : Int32)) dX6_owed_14 (by decide) ?_
      refine j_istore dX6_owed_15 (by decide) ?_
      exact j_weak rfl (w_X6_owed_b17 _ hk5 _ _ _ _ _ _  _)
set_option maxRecDepth 20000 in
theorem ct_X6_owed (a1 : Int32) (a2 : Int32)  (h : Hp) : Ct encI yX6_owed cX6_owed 6 (some .int) 1 [aR 20 0, aI a1, aI a2] h (f_X6_owed a1 a2 h) := by
  refine ct_of [(0, aR 20 0), (1, aI a1), (2, aI a2)] (by decide) (fun _ => rfl) (fun _ => Nat.le_of_ble_eq_true rfl) ?_
  show J encI RX6 cX6_owed 6 (some .int) 1 0 [(0, aR 20 0), (1, aI a1), (2, aI a2)] [] h (f_X6_owed a1 a2 h)
  unfold f_X6_owed
  refine j_iconst (v := (0 : Int32)) dX6_owed_0 (by decide) ?_
  refine j_istore_n dX6_owed_1 (by decide) ?_
  refine j_iconst (v := (0 : Int32)) dX6_owed_2 (by decide) ?_
  refine j_istore dX6_owed_3 (by decide) ?_
  exact j_weak rfl (w_X6_owed_b5  _ _ _ _ _  _)
set_option maxRecDepth 20000 in
theorem w_X6_readsMark_b52 (kont22 : Int32 → Int32 → Int32 → Int32 → Int32 → Hp → Option (Int32 × Hp)) (hk22 : ∀ (a2 : Int32) (a3 : Int32) (a4 : Int32) (a5 : Int32) (a6 : Int32)  (h : Hp), J encI RX6 cX6_readsMark 7 (some .boolean) 1 22 [(0, aR 20 0), (2, aI a2), (3, aI a3), (4, aI a4), (5, aI a5), (6, aI a6)] [] h (kont22 a2 a3 a4 a5 a6 h)) (a2 : Int32) (a3 : Int32) (a4 : Int32) (a6 : Int32) (s0 : Int32)  (h : Hp) : J encI RX6 cX6_readsMark 7 (some .boolean) 1 52 [(0, aR 20 0), (2, aI a2), (3, aI a3), (4, aI a4), (6, aI a6)] [aI s0] h (f_X6_readsMark_b52 kont22 a2 a3 a4 a6 s0 h) := by
  unfold f_X6_readsMark_b52
  refine j_istore dX6_readsMark_52 (by decide) ?_
  refine j_iinc (v := (1 : Int32)) dX6_readsMark_54 rfl (by decide) (by decide) ?_
  refine j_goto (tgt := 22) dX6_readsMark_57 (by decide) ?_
  exact j_weak rfl (hk22 _ _ _ _ _  _)
set_option maxRecDepth 20000 in
theorem w_X6_readsMark_b51 (kont22 : Int32 → Int32 → Int32 → Int32 → Int32 → Hp → Option (Int32 × Hp)) (hk22 : ∀ (a2 : Int32) (a3 : Int32) (a4 : Int32) (a5 : Int32) (a6 : Int32)  (h : Hp), J encI RX6 cX6_readsMark 7 (some .boolean) 1 22 [(0, aR 20 0), (2, aI a2), (3, aI a3), (4, aI a4), (5, aI a5), (6, aI a6)] [] h (kont22 a2 a3 a4 a5 a6 h)) (a2 : Int32) (a3 : Int32) (a4 : Int32) (a6 : Int32)  (h : Hp) : J encI RX6 cX6_readsMark 7 (some .boolean) 1 51 [(0, aR 20 0), (2, aI a2), (3, aI a3), (4, aI a4), (6, aI a6)] [] h (f_X6_readsMark_b51 kont22 a2 a3 a4 a6 h) := by
  unfold f_X6_readsMark_b51
  refine j_iconst (v := (0 : Int32)) dX6_readsMark_51 (by decide) ?_
  exact j_weak rfl (w_X6_readsMark_b52 _ hk22 _ _ _ _ _  _)
set_option maxRecDepth 20000 in
theorem w_X6_readsMark_b85  (a5 : Int32) (s1 : Int32) (s2 : Int32)  (h : Hp) : J encI RX6 cX6_readsMark 7 (some .boolean) 1 85 [(5, aI a5)] [aI s2, aI s1, aR 20 0] h (f_X6_readsMark_b85  a5 s1 s2 h) := by
  unfold f_X6_readsMark_b85
  refine j_iadd dX6_readsMark_85 ?_
  refine jp_X6_86 z_20 dX6_readsMark_86 ?_
  refine j_iload dX6_readsMark_89 rfl ?_
  exact j_gd (fun q1 => j_zret q1 dX6_readsMark_91)
set_option maxRecDepth 20000 in
theorem w_X6_readsMark_b22  : ∀ (n : Nat) (a2 : Int32) (a3 : Int32) (a4 : Int32) (a5 : Int32) (a6 : Int32)  (h : Hp), J encI RX6 cX6_readsMark 7 (some .boolean) 1 22 [(0, aR 20 0), (2, aI a2), (3, aI a3), (4, aI a4), (5, aI a5), (6, aI a6)] [] h (f_X6_readsMark_b22  n a2 a3 a4 a5 a6 h) := by
  intro n
  induction n with
  | zero =>
    intros
    exact j_none
  | succ n hk22 =>
    intro a2 a3 a4 a5 a6  h
    show J encI RX6 cX6_readsMark 7 (some .boolean) 1 22 [(0, aR 20 0), (2, aI a2), (3, aI a3), (4, aI a4), (5, aI a5), (6, aI a6)] [] h (f_X6_readsMark_b22_body  (f_X6_readsMark_b22  n) a2 a3 a4 a5 a6 h)
    unfold f_X6_readsMark_b22_body
    refine j_iload dX6_readsMark_22 rfl ?_
    refine j_iload_n dX6_readsMark_24 rfl ?_
    refine j_icmp_ge (tgt := 60) dX6_readsMark_25 (by decide) (fun c1 => ?_) (fun c1 => ?_)
    · refine j_aload_n dX6_readsMark_60 rfl ?_
      refine j_iload_n dX6_readsMark_61 rfl ?_
      refine j_iconst (v := (3 : Int32)) dX6_readsMark_62 (by decide) ?_
      refine j_iload_n dX6_readsMark_63 rfl ?_
      refine j_iadd dX6_readsMark_64 ?_
      refine j_iload dX6_readsMark_65 rfl ?_
      refine jc_X6_101 (ct_X6_write _ _ _  _) (by decide) z_20 (Nat.le_of_ble_eq_true rfl) dX6_readsMark_67 (fun v2 h3 e4 => ?_)
      refine j_aload_n dX6_readsMark_70 rfl ?_
      refine j_dup dX6_readsMark_71 rfl ?_
      refine jg_X6_86 z_20 dX6_readsMark_72 ?_
      refine j_iload dX6_readsMark_75 rfl ?_
      refine j_if_eq (tgt := 84) dX6_readsMark_77 (by decide) (fun c5 => ?_) (fun c5 => ?_)
      · refine j_iconst (v := (0 : Int32)) dX6_readsMark_84 (by decide) ?_
        exact j_weak rfl (w_X6_readsMark_b85  _ _ _  _)
      · refine j_iconst (v := (1 : Int32)) dX6_readsMark_80 (by decide) ?_
        refine j_goto (tgt := 85) dX6_readsMark_81 (by decide) ?_
        exact j_weak rfl (w_X6_readsMark_b85  _ _ _  _)
    · refine j_iload dX6_readsMark_28 rfl ?_
      refine j_if_eq (tgt := 51) dX6_readsMark_30 (by decide) (fun c6 => ?_) (fun c6 => ?_)
      · exact j_weak rfl (w_X6_readsMark_b51 _ hk22 _ _ _ _  _)
      · refine j_aload_n dX6_readsMark_33 rfl ?_
        refine j_iload_n dX6_readsMark_34 rfl ?_
        refine j_iconst (v := (3 : Int32)) dX6_readsMark_35 (by decide) ?_
        refine j_iload dX6_readsMark_36 rfl ?_
        refine j_iadd dX6_readsMark_38 ?_
        refine jc_X6_89 (ct_X6_of _ _  _) (by decide) z_20 (Nat.le_of_ble_eq_true rfl) dX6_readsMark_39 (fun v7 h8 e9 => ?_)
        refine j_iload dX6_readsMark_42 rfl ?_
        refine j_icmp_eq (tgt := 51) dX6_readsMark_44 (by decide) (fun c10 => ?_) (fun c10 => ?_)
        · exact j_weak rfl (w_X6_readsMark_b51 _ hk22 _ _ _ _  _)
        · refine j_iconst (v := (1 : Int32)) dX6_readsMark_47 (by decide) ?_
          refine j_goto (tgt := 52) dX6_readsMark_48 (by decide) ?_
          exact j_weak rfl (w_X6_readsMark_b52 _ hk22 _ _ _ _ _  _)
set_option maxRecDepth 20000 in
theorem ct_X6_readsMark (a1 : Int32) (a2 : Int32) (a3 : Int32)  (h : Hp) : Ct encI yX6_readsMark cX6_readsMark 7 (some .boolean) 1 [aR 20 0, aI a1, aI a2, aI a3] h (f_X6_readsMark a1 a2 a3 h) := by
  refine ct_of [(0, aR 20 0), (1, aI a1), (2, aI a2), (3, aI a3)] (by decide) (fun _ => rfl) (fun _ => Nat.le_of_ble_eq_true rfl) ?_
  show J encI RX6 cX6_readsMark 7 (some .boolean) 1 0 [(0, aR 20 0), (1, aI a1), (2, aI a2), (3, aI a3)] [] h (f_X6_readsMark a1 a2 a3 h)
  unfold f_X6_readsMark
  refine j_aload_n dX6_readsMark_0 rfl ?_
  refine j_iload_n dX6_readsMark_1 rfl ?_
  refine jc_X6_95 (ct_X6_here _  _) (by decide) z_20 (Nat.le_of_ble_eq_true rfl) dX6_readsMark_2 (fun v1 h2 e3 => ?_)
  refine j_bipush (v := (65 : Int32)) dX6_readsMark_5 (by decide) ?_
  refine j_isub dX6_readsMark_7 ?_
  refine j_istore dX6_readsMark_8 (by decide) ?_
  refine j_iload dX6_readsMark_10 rfl ?_
  refine j_iconst (v := (0 : Int32)) dX6_readsMark_12 (by decide) ?_
  refine j_iconst (v := (5 : Int32)) dX6_readsMark_13 (by decide) ?_
  refine jc_X6_51 (ct_X6_in _ _ _  _) (by decide) (Nat.le_of_ble_eq_true rfl) dX6_readsMark_14 (fun v4 h5 e6 => ?_)
  refine j_istore dX6_readsMark_17 (by decide) ?_
  refine j_iconst (v := (0 : Int32)) dX6_readsMark_19 (by decide) ?_
  refine j_istore dX6_readsMark_20 (by decide) ?_
  exact j_weak rfl (w_X6_readsMark_b22  _ _ _ _ _ _  _)
set_option maxRecDepth 20000 in
theorem ct_X6_readsWide (a1 : Int32)  (h : Hp) : Ct encI yX6_readsWide cX6_readsWide 2 (some .boolean) 1 [aR 20 0, aI a1] h (f_X6_readsWide a1 h) := by
  refine ct_of [(0, aR 20 0), (1, aI a1)] (by decide) (fun _ => rfl) (fun _ => Nat.le_of_ble_eq_true rfl) ?_
  show J encI RX6 cX6_readsWide 2 (some .boolean) 1 0 [(0, aR 20 0), (1, aI a1)] [] h (f_X6_readsWide a1 h)
  unfold f_X6_readsWide
  refine j_aload_n dX6_readsWide_0 rfl ?_
  refine j_iload_n dX6_readsWide_1 rfl ?_
  refine jc_X6_95 (ct_X6_here _  _) (by decide) z_20 (Nat.le_of_ble_eq_true rfl) dX6_readsWide_2 (fun v1 h2 e3 => ?_)
  refine j_bipush (v := (119 : Int32)) dX6_readsWide_5 (by decide) ?_
  refine j_icmp_eq (tgt := 12) dX6_readsWide_7 (by decide) (fun c4 => ?_) (fun c4 => ?_)
  · refine j_aload_n dX6_readsWide_12 rfl ?_
    refine j_dup dX6_readsWide_13 rfl ?_
    refine jg_X6_86 z_20 dX6_readsWide_14 ?_
    refine j_iconst (v := (1 : Int32)) dX6_readsWide_17 (by decide) ?_
    refine j_iadd dX6_readsWide_18 ?_
    refine jp_X6_86 z_20 dX6_readsWide_19 ?_
    refine j_aload_n dX6_readsWide_22 rfl ?_
    refine j_iload_n dX6_readsWide_23 rfl ?_
    refine jc_X6_95 (ct_X6_here _  _) (by decide) z_20 (Nat.le_of_ble_eq_true rfl) dX6_readsWide_24 (fun v5 h6 e7 => ?_)
    refine j_bipush (v := (50 : Int32)) dX6_readsWide_27 (by decide) ?_
    refine j_bipush (v := (57 : Int32)) dX6_readsWide_29 (by decide) ?_
    refine jc_X6_51 (ct_X6_in _ _ _  _) (by decide) (Nat.le_of_ble_eq_true rfl) dX6_readsWide_31 (fun v8 h9 e10 => ?_)
    refine j_if_ne (tgt := 39) dX6_readsWide_34 (by decide) (fun c11 => ?_) (fun c11 => ?_)
    · refine j_aload_n dX6_readsWide_39 rfl ?_
      refine j_aload_n dX6_readsWide_40 rfl ?_
      refine j_iload_n dX6_readsWide_41 rfl ?_
      refine jc_X6_95 (ct_X6_here _  _) (by decide) z_20 (Nat.le_of_ble_eq_true rfl) dX6_readsWide_42 (fun v12 h13 e14 => ?_)
      refine j_bipush (v := (48 : Int32)) dX6_readsWide_45 (by decide) ?_
      refine j_isub dX6_readsWide_47 ?_
      refine jp_X6_98 z_20 dX6_readsWide_48 ?_
      refine j_aload_n dX6_readsWide_51 rfl ?_
      refine j_dup dX6_readsWide_52 rfl ?_
      refine jg_X6_86 z_20 dX6_readsWide_53 ?_
      refine j_iconst (v := (1 : Int32)) dX6_readsWide_56 (by decide) ?_
      refine j_iadd dX6_readsWide_57 ?_
      refine jp_X6_86 z_20 dX6_readsWide_58 ?_
      refine j_iconst (v := (1 : Int32)) dX6_readsWide_61 (by decide) ?_
      exact j_zret (Or.inr rfl) dX6_readsWide_62
    · refine j_iconst (v := (0 : Int32)) dX6_readsWide_37 (by decide) ?_
      exact j_zret (Or.inl rfl) dX6_readsWide_38
  · refine j_iconst (v := (0 : Int32)) dX6_readsWide_10 (by decide) ?_
    exact j_zret (Or.inl rfl) dX6_readsWide_11
set_option maxRecDepth 20000 in
theorem w_X6_restsOn_b123 (kont5 : Int32 → Int32 → Int32 → Int32 → Hp → Option (Int32 × Hp)) (hk5 : ∀ (a1 : Int32) (a2 : Int32) (a3 : Int32) (a4 : Int32)  (h : Hp), J encI RX6 cX6_restsOn 8 (some .int) 1 5 [(0, aR 20 0), (1, aI a1), (2, aI a2), (3, aI a3), (4, aI a4)] [] h (kont5 a1 a2 a3 a4 h)) (kont38 : Int32 → Int32 → Int32 → Int32 → Int32 → Int32 → Hp → Option (Int32 × Hp)) (hk38 : ∀ (a1 : Int32) (a2 : Int32) (a3 : Int32) (a4 : Int32) (a5 : Int32) (a6 : Int32)  (h : Hp), J encI RX6 cX6_restsOn 8 (some .int) 1 38 [(0, aR 20 0), (1, aI a1), (2, aI a2), (3, aI a3), (4, aI a4), (5, aI a5), (6, aI a6)] [] h (kont38 a1 a2 a3 a4 a5 a6 h)) (a1 : Int32) (a2 : Int32) (a3 : Int32) (a4 : Int32) (a6 : Int32) (s0 : Int32)  (h : Hp) : J encI RX6 cX6_restsOn 8 (some .int) 1 123 [(0, aR 20 0), (1, aI a1), (2, aI a2), (3, aI a3), (4, aI a4), (6, aI a6)] [aI s0] h (f_X6_restsOn_b123 kont5 kont38 a1 a2 a3 a4 a6 s0 h) := by
  unfold f_X6_restsOn_b123
  refine j_istore dX6_restsOn_123 (by decide) ?_
  refine j_iinc (v := (1 : Int32)) dX6_restsOn_125 rfl (by decide) (by decide) ?_
  refine j_goto (tgt := 38) dX6_restsOn_128 (by decide) ?_
  exact j_weak rfl (hk38 _ _ _ _ _ _  _)
set_option maxRecDepth 20000 in
theorem w_X6_restsOn_b118 (kont5 : Int32 → Int32 → Int32 → Int32 → Hp → Option (Int32 × Hp)) (hk5 : ∀ (a1 : Int32) (a2 : Int32) (a3 : Int32) (a4 : Int32)  (h : Hp), J encI RX6 cX6_restsOn 8 (some .int) 1 5 [(0, aR 20 0), (1, aI a1), (2, aI a2), (3, aI a3), (4, aI a4)] [] h (kont5 a1 a2 a3 a4 h)) (kont38 : Int32 → Int32 → Int32 → Int32 → Int32 → Int32 → Hp → Option (Int32 × Hp)) (hk38 : ∀ (a1 : Int32) (a2 : Int32) (a3 : Int32) (a4 : Int32) (a5 : Int32) (a6 : Int32)  (h : Hp), J encI RX6 cX6_restsOn 8 (some .int) 1 38 [(0, aR 20 0), (1, aI a1), (2, aI a2), (3, aI a3), (4, aI a4), (5, aI a5), (6, aI a6)] [] h (kont38 a1 a2 a3 a4 a5 a6 h)) (a1 : Int32) (a2 : Int32) (a3 : Int32) (a4 : Int32) (a6 : Int32)  (h : Hp) : J encI RX6 cX6_restsOn 8 (some .int) 1 118 [(0, aR 20 0), (1, aI a1), (2, aI a2), (3, aI a3), (4, aI a4), (6, aI a6)] [] h (f_X6_restsOn_b118 kont5 kont38 a1 a2 a3 a4 a6 h) := by
  unfold f_X6_restsOn_b118
  refine j_iconst (v := (1 : Int32)) dX6_restsOn_118 (by decide) ?_
  refine j_goto (tgt := 123) dX6_restsOn_119 (by decide) ?_
  exact j_weak rfl (w_X6_restsOn_b123 _ hk5 _ hk38 _ _ _ _ _ _  _)
set_option maxRecDepth 20000 in
theorem w_X6_restsOn_b122 (kont5 : Int32 → Int32 → Int32 → Int32 → Hp → Option (Int32 × Hp)) (hk5 : ∀ (a1 : Int32) (a2 : Int32) (a3 : Int32) (a4 : Int32)  (h : Hp), J encI RX6 cX6_restsOn 8 (some .int) 1 5 [(0, aR 20 0), (1, aI a1), (2, aI a2), (3, aI a3), (4, aI a4)] [] h (kont5 a1 a2 a3 a4 h)) (kont38 : Int32 → Int32 → Int32 → Int32 → Int32 → Int32 → Hp → Option (Int32 × Hp)) (hk38 : ∀ (a1 : Int32) (a2 : Int32) (a3 : Int32) (a4 : Int32) (a5 : Int32) (a6 : Int32)  (h : Hp), J encI RX6 cX6_restsOn 8 (some .int) 1 38 [(0, aR 20 0), (1, aI a1), (2, aI a2), (3, aI a3), (4, aI a4), (5, aI a5), (6, aI a6)] [] h (kont38 a1 a2 a3 a4 a5 a6 h)) (a1 : Int32) (a2 : Int32) (a3 : Int32) (a4 : Int32) (a6 : Int32)  (h : Hp) : J encI RX6 cX6_restsOn 8 (some .int) 1 122 [(0, aR 20 0), (1, aI a1), (2, aI a2), (3, aI a3), (4, aI a4), (6, aI a6)] [] h (f_X6_restsOn_b122 kont5 kont38 a1 a2 a3 a4 a6 h) := by
  unfold f_X6_restsOn_b122
  refine j_iconst (v := (0 : Int32)) dX6_restsOn_122 (by decide) ?_
  exact j_weak rfl (w_X6_restsOn_b123 _ hk5 _ hk38 _ _ _ _ _ _  _)
set_option maxRecDepth 20000 in
theorem w_X6_restsOn_b145 (kont5 : Int32 → Int32 → Int32 → Int32 → Hp → Option (Int32 × Hp)) (hk5 : ∀ (a1 : Int32) (a2 : Int32) (a3 : Int32) (a4 : Int32)  (h : Hp), J encI RX6 cX6_restsOn 8 (some .int) 1 5 [(0, aR 20 0), (1, aI a1), (2, aI a2), (3, aI a3), (4, aI a4)] [] h (kont5 a1 a2 a3 a4 h)) (a1 : Int32) (a2 : Int32) (a4 : Int32) (s0 : Int32) (s1 : Int32)  (h : Hp) : J encI RX6 cX6_restsOn 8 (some .int) 1 145 [(0, aR 20 0), (1, aI a1), (2, aI a2), (4, aI a4)] [aI s1, aI s0] h (f_X6_restsOn_b145 kont5 a1 a2 a4 s0 s1 h) := by
  unfold f_X6_restsOn_b145
  refine j_ior dX6_restsOn_145 ?_
  refine j_istore_n dX6_restsOn_146 (by decide) ?_
  refine j_iinc (v := (1 : Int32)) dX6_restsOn_147 rfl (by decide) (by decide) ?_
  refine j_goto (tgt := 5) dX6_restsOn_150 (by decide) ?_
  exact j_weak rfl (hk5 _ _ _ _  _)
set_option maxRecDepth 20000 in
theorem w_X6_restsOn_b38 (kont5 : Int32 → Int32 → Int32 → Int32 → Hp → Option (Int32 × Hp)) (hk5 : ∀ (a1 : Int32) (a2 : Int32) (a3 : Int32) (a4 : Int32)  (h : Hp), J encI RX6 cX6_restsOn 8 (some .int) 1 5 [(0, aR 20 0), (1, aI a1), (2, aI a2), (3, aI a3), (4, aI a4)] [] h (kont5 a1 a2 a3 a4 h)) : ∀ (n : Nat) (a1 : Int32) (a2 : Int32) (a3 : Int32) (a4 : Int32) (a5 : Int32) (a6 : Int32)  (h : Hp), J encI RX6 cX6_restsOn 8 (some .int) 1 38 [(0, aR 20 0), (1, aI a1), (2, aI a2), (3, aI a3), (4, aI a4), (5, aI a5), (6, aI a6)] [] h (f_X6_restsOn_b38 kont5 n a1 a2 a3 a4 a5 a6 h) := by
  intro n
  induction n with
  | zero =>
    intros
    exact j_none
  | succ n hk38 =>
    intro a1 a2 a3 a4 a5 a6  h
    show J encI RX6 cX6_restsOn 8 (some .int) 1 38 [(0, aR 20 0), (1, aI a1), (2, aI a2), (3, aI a3), (4, aI a4), (5, aI a5), (6, aI a6)] [] h (f_X6_restsOn_b38_body kont5 (f_X6_restsOn_b38 kont5 n) a1 a2 a3 a4 a5 a6 h)
    unfold f_X6_restsOn_b38_body
    refine j_iload dX6_restsOn_38 rfl ?_
    refine j_aload_n dX6_restsOn_40 rfl ?_
    refine jg_X6_129 z_20 dX6_restsOn_41 ?_
    refine j_icmp_ge (tgt := 131) dX6_restsOn_44 (by decide) (fun c1 => ?_) (fun c1 => ?_)
    · refine j_iload_n dX6_restsOn_131 rfl ?_
      refine j_iload dX6_restsOn_132 rfl ?_
      refine j_if_eq (tgt := 144) dX6_restsOn_134 (by decide) (fun c2 => ?_) (fun c2 => ?_)
      · refine j_iconst (v := (0 : Int32)) dX6_restsOn_144 (by decide) ?_
        exact j_weak rfl (w_X6_restsOn_b145 _ hk5 _ _ _ _ _  _)
      · refine j_iconst (v := (1 : Int32)) dX6_restsOn_137 (by decide) ?_
        refine j_iload dX6_restsOn_138 rfl ?_
        refine j_ishl dX6_restsOn_140 ?_
        refine j_goto (tgt := 145) dX6_restsOn_141 (by decide) ?_
        exact j_weak rfl (w_X6_restsOn_b145 _ hk5 _ _ _ _ _  _)
    · refine j_aload_n dX6_restsOn_47 rfl ?_
      refine j_iload_n dX6_restsOn_48 rfl ?_
      refine j_iconst (v := (2 : Int32)) dX6_restsOn_49 (by decide) ?_
      refine jc_X6_89 (ct_X6_of _ _  _) (by decide) z_20 (Nat.le_of_ble_eq_true rfl) dX6_restsOn_50 (fun v3 h4 e5 => ?_)
      refine j_iload dX6_restsOn_53 rfl ?_
      refine j_iadd dX6_restsOn_55 ?_
      refine j_aload_n dX6_restsOn_56 rfl ?_
      refine j_iload dX6_restsOn_57 rfl ?_
      refine j_iconst (v := (2 : Int32)) dX6_restsOn_59 (by decide) ?_
      refine jc_X6_89 (ct_X6_of _ _  _) (by decide) z_20 (Nat.le_of_ble_eq_true rfl) dX6_restsOn_60 (fun v6 h7 e8 => ?_)
      refine j_isub dX6_restsOn_63 ?_
      refine j_istore dX6_restsOn_64 (by decide) ?_
      refine j_iload dX6_restsOn_66 rfl ?_
      refine j_if_ne (tgt := 118) dX6_restsOn_68 (by decide) (fun c9 => ?_) (fun c9 => ?_)
      · exact j_weak rfl (w_X6_restsOn_b118 _ hk5 _ hk38 _ _ _ _ _  _)
      · refine j_iload_n dX6_restsOn_71 rfl ?_
        refine j_iload dX6_restsOn_72 rfl ?_
        refine jc_X6_150 (ct_X6_has _ _  _) (by decide) (Nat.le_of_ble_eq_true rfl) dX6_restsOn_74 (fun v10 h11 e12 => ?_)
        refine j_if_eq (tgt := 122) dX6_restsOn_77 (by decide) (fun c13 => ?_) (fun c13 => ?_)
        · exact j_weak rfl (w_X6_restsOn_b122 _ hk5 _ hk38 _ _ _ _ _  _)
        · refine j_aload_n dX6_restsOn_80 rfl ?_
          refine j_iload dX6_restsOn_81 rfl ?_
          refine j_iconst (v := (1 : Int32)) dX6_restsOn_83 (by decide) ?_
          refine jc_X6_89 (ct_X6_of _ _  _) (by decide) z_20 (Nat.le_of_ble_eq_true rfl) dX6_restsOn_84 (fun v14 h15 e16 => ?_)
          refine j_aload_n dX6_restsOn_87 rfl ?_
          refine j_iload_n dX6_restsOn_88 rfl ?_
          refine j_iconst (v := (1 : Int32)) dX6_restsOn_89 (by decide) ?_
          refine jc_X6_89 (ct_X6_of _ _  _) (by decide) z_20 (Nat.le_of_ble_eq_true rfl) dX6_restsOn_90 (fun v17 h18 e19 => ?_)
          refine j_iconst (v := (1 : Int32)) dX6_restsOn_93 (by decide) ?_
          refine j_isub dX6_restsOn_94 ?_
          refine j_icmp_ne (tgt := 122) dX6_restsOn_95 (by decide) (fun c20 => ?_) (fun c20 => ?_)
          · exact j_weak rfl (w_X6_restsOn_b122 _ hk5 _ hk38 _ _ _ _ _  _)
          · refine j_iload dX6_restsOn_98 rfl ?_
            refine j_if_lt (tgt := 122) dX6_restsOn_100 (by decide) (fun c21 => ?_) (fun c21 => ?_)
            · exact j_weak rfl (w_X6_restsOn_b122 _ hk5 _ hk38 _ _ _ _ _  _)
            · refine j_iload dX6_restsOn_103 rfl ?_
              refine j_aload_n dX6_restsOn_105 rfl ?_
              refine j_iload dX6_restsOn_106 rfl ?_
              refine j_iconst (v := (0 : Int32)) dX6_restsOn_108 (by decide) ?_
              refine jc_X6_89 (ct_X6_of _ _  _) (by decide) z_20 (Nat.le_of_ble_eq_true rfl) dX6_restsOn_109 (fun v22 h23 e24 => ?_)
              refine jc_X6_92 (ct_X6_widthOf _  _) (by decide) (Nat.le_of_ble_eq_true rfl) dX6_restsOn_112 (fun v25 h26 e27 => ?_)
              refine j_icmp_ge (tgt := 122) dX6_restsOn_115 (by decide) (fun c28 => ?_) (fun c28 => ?_)
              · exact j_weak rfl (w_X6_restsOn_b122 _ hk5 _ hk38 _ _ _ _ _  _)
              · exact j_weak rfl (w_X6_restsOn_b118 _ hk5 _ hk38 _ _ _ _ _  _)
set_option maxRecDepth 20000 in
theorem w_X6_restsOn_b33 (kont5 : Int32 → Int32 → Int32 → Int32 → Hp → Option (Int32 × Hp)) (hk5 : ∀ (a1 : Int32) (a2 : Int32) (a3 : Int32) (a4 : Int32)  (h : Hp), J encI RX6 cX6_restsOn 8 (some .int) 1 5 [(0, aR 20 0), (1, aI a1), (2, aI a2), (3, aI a3), (4, aI a4)] [] h (kont5 a1 a2 a3 a4 h)) (a1 : Int32) (a2 : Int32) (a3 : Int32) (a4 : Int32) (s0 : Int32)  (h : Hp) : J encI RX6 cX6_restsOn 8 (some .int) 1 33 [(0, aR 20 0), (1, aI a1), (2, aI a2), (3, aI a3), (4, aI a4)] [aI s0] h (f_X6_restsOn_b33 kont5 a1 a2 a3 a4 s0 h) := by
  unfold f_X6_restsOn_b33
  refine j_istore dX6_restsOn_33 (by decide) ?_
  refine j_iconst (v := (0 : Int32)) dX6_restsOn_35 (by decide) ?_
  refine j_istore dX6_restsOn_36 (by decide) ?_
  exact j_weak rfl (w_X6_restsOn_b38 _ hk5 _ _ _ _ _ _ _  _)
set_option maxRecDepth 20000 in
theorem w_X6_restsOn_b5  : ∀ (n : Nat) (a1 : Int32) (a2 : Int32) (a3 : Int32) (a4 : Int32)  (h : Hp), J encI RX6 cX6_restsOn 8 (some .int) 1 5 [(0, aR 20 0), (1, aI a1), (2, aI a2), (3, aI a3), (4, aI a4)] [] h (f_X6_restsOn_b5  n a1 a2 a3 a4 h) := by
  intro n
  induction n with
  | zero =>
    intros
    exact j_none
  | succ n hk5 =>
    intro a1 a2 a3 a4  h
    show J encI RX6 cX6_restsOn 8 (some .int) 1 5 [(0, aR 20 0), (1, aI a1), (2, aI a2), (3, aI a3), (4, aI a4)] [] h (f_X6_restsOn_b5_body  (f_X6_restsOn_b5  n) a1 a2 a3 a4 h)
    unfold f_X6_restsOn_b5_body
    refine j_iload dX6_restsOn_5 rfl ?_
    refine j_aload_n dX6_restsOn_7 rfl ?_
    refine j_iload_n dX6_restsOn_8 rfl ?_
    refine j_iconst (v := (0 : Int32)) dX6_restsOn_9 (by decide) ?_
    refine jc_X6_89 (ct_X6_of _ _  _) (by decide) z_20 (Nat.le_of_ble_eq_true rfl) dX6_restsOn_10 (fun v1 h2 e3 => ?_)
    refine jc_X6_92 (ct_X6_widthOf _  _) (by decide) (Nat.le_of_ble_eq_true rfl) dX6_restsOn_13 (fun v4 h5 e6 => ?_)
    refine j_icmp_ge (tgt := 153) dX6_restsOn_16 (by decide) (fun c7 => ?_) (fun c7 => ?_)
    · refine j_iload_n dX6_restsOn_153 rfl ?_
      exact j_iret dX6_restsOn_154
    · refine j_aload_n dX6_restsOn_19 rfl ?_
      refine j_iload_n dX6_restsOn_20 rfl ?_
      refine j_iconst (v := (1 : Int32)) dX6_restsOn_21 (by decide) ?_
      refine jc_X6_89 (ct_X6_of _ _  _) (by decide) z_20 (Nat.le_of_ble_eq_true rfl) dX6_restsOn_22 (fun v8 h9 e10 => ?_)
      refine j_if_ne (tgt := 32) dX6_restsOn_25 (by decide) (fun c11 => ?_) (fun c11 => ?_)
      · refine j_iconst (v := (0 : Int32)) dX6_restsOn_32 (by decide) ?_
        exact j_weak rfl (w_X6_restsOn_b33 _ hk5 _ _ _ _ _  _)
      · refine j_iconst (v := (1 : Int32)) dX6_restsOn_28 (by decide) ?_
        refine j_goto (tgt := 33) dX6_restsOn_29 (by decide) ?_
        exact j_weak rfl (w_X6_restsOn_b33 _ hk5 _ _ _ _ _  _)
set_option maxRecDepth 20000 in
theorem ct_X6_restsOn (a1 : Int32) (a2 : Int32)  (h : Hp) : Ct encI yX6_restsOn cX6_restsOn 8 (some .int) 1 [aR 20 0, aI a1, aI a2] h (f_X6_restsOn a1 a2 h) := by
  refine ct_of [(0, aR 20 0), (1, aI a1), (2, aI a2)] (by decide) (fun _ => rfl) (fun _ => Nat.le_of_ble_eq_true rfl) ?_
  show J encI RX6 cX6_restsOn 8 (some .int) 1 0 [(0, aR 20 0), (1, aI a1), (2, aI a2)] [] h (f_X6_restsOn a1 a2 h)
  unfold f_X6_restsOn
  refine j_iconst (v := (0 : Int32)) dX6_restsOn_0 (by decide) ?_
  refine j_istore_n dX6_restsOn_1 (by decide) ?_
  refine j_iconst (v := (0 : Int32)) dX6_restsOn_2 (by decide) ?_
  refine j_istore dX6_restsOn_3 (by decide) ?_
  exact j_weak rfl (w_X6_restsOn_b5  _ _ _ _ _  _)
set_option maxRecDepth 20000 in
theorem ct_X6_touches (a1 : Int32) (a2 : Int32)  (h : Hp) : Ct encI yX6_touches cX6_touches 3 (some .boolean) 1 [aR 20 0, aI a1, aI a2] h (f_X6_touches a1 a2 h) := by
  refine ct_of [(0, aR 20 0), (1, aI a1), (2, aI a2)] (by decide) (fun _ => rfl) (fun _ => Nat.le_of_ble_eq_true rfl) ?_
  show J encI RX6 cX6_touches 3 (some .boolean) 1 0 [(0, aR 20 0), (1, aI a1), (2, aI a2)] [] h (f_X6_touches a1 a2 h)
  unfold f_X6_touches
  refine j_aload_n dX6_touches_0 rfl ?_
  refine j_iload_n dX6_touches_1 rfl ?_
  refine j_iconst (v := (1 : Int32)) dX6_touches_2 (by decide) ?_
  refine jc_X6_89 (ct_X6_of _ _  _) (by decide) z_20 (Nat.le_of_ble_eq_true rfl) dX6_touches_3 (fun v1 h2 e3 => ?_)
  refine j_aload_n dX6_touches_6 rfl ?_
  refine j_iload_n dX6_touches_7 rfl ?_
  refine j_iconst (v := (1 : Int32)) dX6_touches_8 (by decide) ?_
  refine jc_X6_89 (ct_X6_of _ _  _) (by decide) z_20 (Nat.le_of_ble_eq_true rfl) dX6_touches_9 (fun v4 h5 e6 => ?_)
  refine j_icmp_ne (tgt := 44) dX6_touches_12 (by decide) (fun c7 => ?_) (fun c7 => ?_)
  · refine j_iconst (v := (0 : Int32)) dX6_touches_44 (by decide) ?_
    exact j_zret (Or.inl rfl) dX6_touches_45
  · refine j_aload_n dX6_touches_15 rfl ?_
    refine j_iload_n dX6_touches_16 rfl ?_
    refine j_iconst (v := (2 : Int32)) dX6_touches_17 (by decide) ?_
    refine jc_X6_89 (ct_X6_of _ _  _) (by decide) z_20 (Nat.le_of_ble_eq_true rfl) dX6_touches_18 (fun v8 h9 e10 => ?_)
    refine j_aload_n dX6_touches_21 rfl ?_
    refine j_iload_n dX6_touches_22 rfl ?_
    refine j_iconst (v := (0 : Int32)) dX6_touches_23 (by decide) ?_
    refine jc_X6_89 (ct_X6_of _ _  _) (by decide) z_20 (Nat.le_of_ble_eq_true rfl) dX6_touches_24 (fun v11 h12 e13 => ?_)
    refine jc_X6_92 (ct_X6_widthOf _  _) (by decide) (Nat.le_of_ble_eq_true rfl) dX6_touches_27 (fun v14 h15 e16 => ?_)
    refine j_iadd dX6_touches_30 ?_
    refine j_aload_n dX6_touches_31 rfl ?_
    refine j_iload_n dX6_touches_32 rfl ?_
    refine j_iconst (v := (2 : Int32)) dX6_touches_33 (by decide) ?_
    refine jc_X6_89 (ct_X6_of _ _  _) (by decide) z_20 (Nat.le_of_ble_eq_true rfl) dX6_touches_34 (fun v17 h18 e19 => ?_)
    refine j_icmp_ne (tgt := 44) dX6_touches_37 (by decide) (fun c20 => ?_) (fun c20 => ?_)
    · refine j_iconst (v := (0 : Int32)) dX6_touches_44 (by decide) ?_
      exact j_zret (Or.inl rfl) dX6_touches_45
    · refine j_iconst (v := (1 : Int32)) dX6_touches_40 (by decide) ?_
      refine j_goto (tgt := 45) dX6_touches_41 (by decide) ?_
      exact j_zret (Or.inr rfl) dX6_touches_45
set_option maxRecDepth 20000 in
theorem ct_X0_become (a0 : Nat) (a1 : Nat) (h_a0 : a0 < cnt 17) (h_a1 : a1 < cnt 17) (h : Hp) : Ct encU yX0_become cX0_become 2 none 2 [aR 17 a0, aR 17 a1] h (f_X0_become a0 a1 h) := by
  refine ct_of [(0, aR 17 a0), (1, aR 17 a1)] (by decide) (fun _ => rfl) (fun _ => Nat.le_of_ble_eq_true rfl) ?_
  show J encU RX0 cX0_become 2 none 2 0 [(0, aR 17 a0), (1, aR 17 a1)] [] h (f_X0_become a0 a1 h)
  unfold f_X0_become
  refine j_aload_n dX0_become_0 rfl ?_
  refine j_aload_n dX0_become_1 rfl ?_
  refine jg_X0_9 h_a1 dX0_become_2 ?_
  refine j_aload_n dX0_become_5 rfl ?_
  refine jg_X0_15 h_a1 dX0_become_6 ?_
  refine j_aload_n dX0_become_9 rfl ?_
  refine jg_X0_18 h_a1 dX0_become_10 ?_
  refine jc_X0_40 (ct_X0_lieAt _ _ _ _ h_a0 _) (by decide) h_a0 (Nat.le_of_ble_eq_true rfl) dX0_become_13 (fun v1 h2 e3 => ?_)
  refine j_aload_n dX0_become_16 rfl ?_
  refine j_aload_n dX0_become_17 rfl ?_
  refine jg_X0_31 h_a1 dX0_become_18 ?_
  refine j_aload_n dX0_become_21 rfl ?_
  refine jg_X0_34 h_a1 dX0_become_22 ?_
  refine j_aload_n dX0_become_25 rfl ?_
  refine jg_X0_37 h_a1 dX0_become_26 ?_
  refine jc_X0_44 (ct_X0_setMarks _ _ _ _ h_a0 _) (by decide) h_a0 (Nat.le_of_ble_eq_true rfl) dX0_become_29 (fun v4 h5 e6 => ?_)
  refine j_aload_n dX0_become_32 rfl ?_
  refine j_aload_n dX0_become_33 rfl ?_
  refine jg_X0_28 h_a1 dX0_become_34 ?_
  refine jp_X0_28 h_a0 dX0_become_37 ?_
  exact j_vret dX0_become_40
set_option maxRecDepth 20000 in
theorem w_X4_add_b90  (a0 : Nat) (a4 : Int32) (a5 : Int32) (h_a0 : a0 < cnt 11) (h : Hp) : J encU RX4 cX4_add 6 none 2 90 [(0, aR 11 a0), (4, aI a4), (5, aI a5)] [] h (f_X4_add_b90  a0 a4 a5 h) := by
  unfold f_X4_add_b90
  refine j_aload_n dX4_add_90 rfl ?_
  refine jg_X4_17 h_a0 dX4_add_91 ?_
  refine j_iload dX4_add_94 rfl ?_
  refine j_iload dX4_add_96 rfl ?_
  refine j_iast (ic_13 _) h_a0 dX4_add_98 (fun q1 => ?_)
  refine j_aload_n dX4_add_99 rfl ?_
  refine j_dup dX4_add_100 rfl ?_
  refine jg_X4_42 h_a0 dX4_add_101 ?_
  refine j_iconst (v := (1 : Int32)) dX4_add_104 (by decide) ?_
  refine j_iload dX4_add_105 rfl ?_
  refine j_ishl dX4_add_107 ?_
  refine j_ior dX4_add_108 ?_
  refine jp_X4_42 h_a0 dX4_add_109 ?_
  refine j_aload_n dX4_add_112 rfl ?_
  refine j_dup dX4_add_113 rfl ?_
  refine jg_X4_39 h_a0 dX4_add_114 ?_
  refine j_iconst (v := (1 : Int32)) dX4_add_117 (by decide) ?_
  refine j_iadd dX4_add_118 ?_
  refine jp_X4_39 h_a0 dX4_add_119 ?_
  exact j_vret dX4_add_122
set_option maxRecDepth 20000 in
theorem w_X4_add_b33  : ∀ (n : Nat) (a0 : Nat) (a4 : Int32) (a5 : Int32) (h_a0 : a0 < cnt 11) (h : Hp), J encU RX4 cX4_add 6 none 2 33 [(0, aR 11 a0), (4, aI a4), (5, aI a5)] [] h (f_X4_add_b33  n a0 a4 a5 h) := by
  intro n
  induction n with
  | zero =>
    intros
    exact j_none
  | succ n hk33 =>
    intro a0 a4 a5 h_a0 h
    show J encU RX4 cX4_add 6 none 2 33 [(0, aR 11 a0), (4, aI a4), (5, aI a5)] [] h (f_X4_add_b33_body  (f_X4_add_b33  n) a0 a4 a5 h)
    unfold f_X4_add_b33_body
    refine j_iload dX4_add_33 rfl ?_
    refine j_if_le (tgt := 90) dX4_add_35 (by decide) (fun c1 => ?_) (fun c1 => ?_)
    · exact j_weak rfl (w_X4_add_b90  _ _ _ h_a0 _)
    · refine j_aload_n dX4_add_38 rfl ?_
      refine jg_X4_11 h_a0 dX4_add_39 ?_
      refine j_aload_n dX4_add_42 rfl ?_
      refine jg_X4_17 h_a0 dX4_add_43 ?_
      refine j_iload dX4_add_46 rfl ?_
      refine j_iconst (v := (1 : Int32)) dX4_add_48 (by decide) ?_
      refine j_isub dX4_add_49 ?_
      refine j_iald (ic_13 _) h_a0 dX4_add_50 (fun q2 => ?_)
      refine ja_12 h_a0 dX4_add_51 (fun q3 z4 => ?_)
      refine jc_X4_86 (ct_X0_rank _ z4 _) (by decide) z4 (Nat.le_of_ble_eq_true rfl) dX4_add_52 (fun v5 h6 e7 => ?_)
      refine j_aload_n dX4_add_55 rfl ?_
      refine jg_X4_11 h_a0 dX4_add_56 ?_
      refine j_iload dX4_add_59 rfl ?_
      refine ja_12 h_a0 dX4_add_61 (fun q8 z9 => ?_)
      refine jc_X4_86 (ct_X0_rank _ z9 _) (by decide) z9 (Nat.le_of_ble_eq_true rfl) dX4_add_62 (fun v10 h11 e12 => ?_)
      refine j_icmp_le (tgt := 90) dX4_add_65 (by decide) (fun c13 => ?_) (fun c13 => ?_)
      · exact j_weak rfl (w_X4_add_b90  _ _ _ h_a0 _)
      · refine j_aload_n dX4_add_68 rfl ?_
        refine jg_X4_17 h_a0 dX4_add_69 ?_
        refine j_iload dX4_add_72 rfl ?_
        refine j_aload_n dX4_add_74 rfl ?_
        refine jg_X4_17 h_a0 dX4_add_75 ?_
        refine j_iload dX4_add_78 rfl ?_
        refine j_iconst (v := (1 : Int32)) dX4_add_80 (by decide) ?_
        refine j_isub dX4_add_81 ?_
        refine j_iald (ic_13 _) h_a0 dX4_add_82 (fun q14 => ?_)
        refine j_iast (ic_13 _) h_a0 dX4_add_83 (fun q15 => ?_)
        refine j_iinc (v := (-1 : Int32)) dX4_add_84 rfl (by decide) (by decide) ?_
        refine j_goto (tgt := 33) dX4_add_87 (by decide) ?_
        exact j_weak rfl (hk33 _ _ _ h_a0 _)
set_option maxRecDepth 20000 in
theorem ct_X4_add (a0 : Nat) (a1 : Int32) (a2 : Int32) (a3 : Int32) (h_a0 : a0 < cnt 11) (h : Hp) : Ct encU yX4_add cX4_add 6 none 2 [aR 11 a0, aI a1, aI a2, aI a3] h (f_X4_add a0 a1 a2 a3 h) := by
  refine ct_of [(0, aR 11 a0), (1, aI a1), (2, aI a2), (3, aI a3)] (by decide) (fun _ => rfl) (fun _ => Nat.le_of_ble_eq_true rfl) ?_
  show J encU RX4 cX4_add 6 none 2 0 [(0, aR 11 a0), (1, aI a1), (2, aI a2), (3, aI a3)] [] h (f_X4_add a0 a1 a2 a3 h)
  unfold f_X4_add
  refine j_aload_n dX4_add_0 rfl ?_
  refine jg_X4_39 h_a0 dX4_add_1 ?_
  refine j_bipush (v := (14 : Int32)) dX4_add_4 (by decide) ?_
  refine j_icmp_lt (tgt := 10) dX4_add_6 (by decide) (fun c1 => ?_) (fun c1 => ?_)
  · refine j_aload_n dX4_add_10 rfl ?_
    refine jg_X4_39 h_a0 dX4_add_11 ?_
    refine j_istore dX4_add_14 (by decide) ?_
    refine j_aload_n dX4_add_16 rfl ?_
    refine jg_X4_11 h_a0 dX4_add_17 ?_
    refine j_iload dX4_add_20 rfl ?_
    refine ja_12 h_a0 dX4_add_22 (fun q2 z3 => ?_)
    refine j_iload_n dX4_add_23 rfl ?_
    refine j_iload_n dX4_add_24 rfl ?_
    refine j_iload_n dX4_add_25 rfl ?_
    refine jc_X4_82 (ct_X0_lieAt _ _ _ _ z3 _) (by decide) z3 (Nat.le_of_ble_eq_true rfl) dX4_add_26 (fun v4 h5 e6 => ?_)
    refine j_iload dX4_add_29 rfl ?_
    refine j_istore dX4_add_31 (by decide) ?_
    exact j_weak rfl (w_X4_add_b33  _ _ _ _ h_a0 _)
  · exact j_vret dX4_add_9
set_option maxRecDepth 20000 in
theorem ct_X4_isAgreed (a0 : Nat) (a1 : Int32) (h_a0 : a0 < cnt 11) (h : Hp) : Ct encI yX4_isAgreed cX4_isAgreed 2 (some .boolean) 2 [aR 11 a0, aI a1] h (f_X4_isAgreed a0 a1 h) := by
  refine ct_of [(0, aR 11 a0), (1, aI a1)] (by decide) (fun _ => rfl) (fun _ => Nat.le_of_ble_eq_true rfl) ?_
  show J encI RX4 cX4_isAgreed 2 (some .boolean) 2 0 [(0, aR 11 a0), (1, aI a1)] [] h (f_X4_isAgreed a0 a1 h)
  unfold f_X4_isAgreed
  refine j_aload_n dX4_isAgreed_0 rfl ?_
  refine j_iload_n dX4_isAgreed_1 rfl ?_
  refine jc_X4_162 (ct_X4_askedToDraw _ _ h_a0 _) (by decide) h_a0 (Nat.le_of_ble_eq_true rfl) dX4_isAgreed_2 (fun v1 h2 e3 => ?_)
  refine j_aload_n dX4_isAgreed_5 rfl ?_
  refine jg_X4_51 h_a0 dX4_isAgreed_6 ?_
  refine j_iconst (v := (-1 : Int32)) dX4_isAgreed_9 (by decide) ?_
  refine j_ixor dX4_isAgreed_10 ?_
  refine j_iand dX4_isAgreed_11 ?_
  refine j_if_ne (tgt := 19) dX4_isAgreed_12 (by decide) (fun c4 => ?_) (fun c4 => ?_)
  · refine j_iconst (v := (0 : Int32)) dX4_isAgreed_19 (by decide) ?_
    exact j_zret (Or.inl rfl) dX4_isAgreed_20
  · refine j_iconst (v := (1 : Int32)) dX4_isAgreed_15 (by decide) ?_
    refine j_goto (tgt := 20) dX4_isAgreed_16 (by decide) ?_
    exact j_zret (Or.inr rfl) dX4_isAgreed_20
set_option maxRecDepth 20000 in
theorem w_X4_netCredit_b26 (kont4 : Nat → Int32 → Int32 → Int32 → Hp → Option (Int32 × Hp)) (hk4 : ∀ (a0 : Nat) (a1 : Int32) (a2 : Int32) (a3 : Int32) (h_a0 : a0 < cnt 11) (h : Hp), J encI RX4 cX4_netCredit 4 (some .int) 2 4 [(0, aR 11 a0), (1, aI a1), (2, aI a2), (3, aI a3)] [] h (kont4 a0 a1 a2 a3 h)) (a0 : Nat) (a1 : Int32) (a3 : Int32) (s0 : Int32) (s1 : Int32) (h_a0 : a0 < cnt 11) (h : Hp) : J encI RX4 cX4_netCredit 4 (some .int) 2 26 [(0, aR 11 a0), (1, aI a1), (3, aI a3)] [aI s1, aI s0] h (f_X4_netCredit_b26 kont4 a0 a1 a3 s0 s1 h) := by
  unfold f_X4_netCredit_b26
  refine j_iadd dX4_netCredit_26 ?_
  refine j_istore_n dX4_netCredit_27 (by decide) ?_
  refine j_iinc (v := (1 : Int32)) dX4_netCredit_28 rfl (by decide) (by decide) ?_
  refine j_goto (tgt := 4) dX4_netCredit_31 (by decide) ?_
  exact j_weak rfl (hk4 _ _ _ _ h_a0 _)
set_option maxRecDepth 20000 in
theorem w_X4_netCredit_b4  : ∀ (n : Nat) (a0 : Nat) (a1 : Int32) (a2 : Int32) (a3 : Int32) (h_a0 : a0 < cnt 11) (h : Hp), J encI RX4 cX4_netCredit 4 (some .int) 2 4 [(0, aR 11 a0), (1, aI a1), (2, aI a2), (3, aI a3)] [] h (f_X4_netCredit_b4  n a0 a1 a2 a3 h) := by
  intro n
  induction n with
  | zero =>
    intros
    exact j_none
  | succ n hk4 =>
    intro a0 a1 a2 a3 h_a0 h
    show J encI RX4 cX4_netCredit 4 (some .int) 2 4 [(0, aR 11 a0), (1, aI a1), (2, aI a2), (3, aI a3)] [] h (f_X4_netCredit_b4_body  (f_X4_netCredit_b4  n) a0 a1 a2 a3 h)
    unfold f_X4_netCredit_b4_body
    refine j_iload_n dX4_netCredit_4 rfl ?_
    refine j_bipush (v := (6 : Int32)) dX4_netCredit_5 (by decide) ?_
    refine j_icmp_ge (tgt := 34) dX4_netCredit_7 (by decide) (fun c1 => ?_) (fun c1 => ?_)
    · refine j_iload_n dX4_netCredit_34 rfl ?_
      exact j_iret dX4_netCredit_35
    · refine j_iload_n dX4_netCredit_10 rfl ?_
      refine j_iload_n dX4_netCredit_11 rfl ?_
      refine j_iload_n dX4_netCredit_12 rfl ?_
      refine j_icmp_ne (tgt := 20) dX4_netCredit_13 (by decide) (fun c2 => ?_) (fun c2 => ?_)
      · refine j_aload_n dX4_netCredit_20 rfl ?_
        refine j_iload_n dX4_netCredit_21 rfl ?_
        refine j_iload_n dX4_netCredit_22 rfl ?_
        refine jc_X4_192 (ct_X4_netDebt _ _ _ h_a0 _) (by decide) h_a0 (Nat.le_of_ble_eq_true rfl) dX4_netCredit_23 (fun v3 h4 e5 => ?_)
        exact j_weak rfl (w_X4_netCredit_b26 _ hk4 _ _ _ _ _ h_a0 _)
      · refine j_iconst (v := (0 : Int32)) dX4_netCredit_16 (by decide) ?_
        refine j_goto (tgt := 26) dX4_netCredit_17 (by decide) ?_
        exact j_weak rfl (w_X4_netCredit_b26 _ hk4 _ _ _ _ _ h_a0 _)
set_option maxRecDepth 20000 in
theorem ct_X4_netCredit (a0 : Nat) (a1 : Int32) (h_a0 : a0 < cnt 11) (h : Hp) : Ct encI yX4_netCredit cX4_netCredit 4 (some .int) 2 [aR 11 a0, aI a1] h (f_X4_netCredit a0 a1 h) := by
  refine ct_of [(0, aR 11 a0), (1, aI a1)] (by decide) (fun _ => rfl) (fun _ => Nat.le_of_ble_eq_true rfl) ?_
  show J encI RX4 cX4_netCredit 4 (some .int) 2 0 [(0, aR 11 a0), (1, aI a1)] [] h (f_X4_netCredit a0 a1 h)
  unfold f_X4_netCredit
  refine j_iconst (v := (0 : Int32)) dX4_netCredit_0 (by decide) ?_
  refine j_istore_n dX4_netCredit_1 (by decide) ?_
  refine j_iconst (v := (0 : Int32)) dX4_netCredit_2 (by decide) ?_
  refine j_istore_n dX4_netCredit_3 (by decide) ?_
  exact j_weak rfl (w_X4_netCredit_b4  _ _ _ _ _ h_a0 _)
set_option maxRecDepth 20000 in
theorem w_X4_standing_b117 (kont17 : Nat → Int32 → Int32 → Int32 → Int32 → Hp → Option (Int32 × Hp)) (hk17 : ∀ (a0 : Nat) (a1 : Int32) (a3 : Int32) (a4 : Int32) (a5 : Int32) (h_a0 : a0 < cnt 11) (h : Hp), J encI RX4 cX4_standing 9 (some .int) 2 17 [(0, aR 11 a0), (1, aI a1), (3, aI a3), (4, aI a4), (5, aI a5)] [] h (kont17 a0 a1 a3 a4 a5 h)) (a0 : Nat) (a1 : Int32) (a3 : Int32) (a4 : Int32) (a5 : Int32) (h_a0 : a0 < cnt 11) (h : Hp) : J encI RX4 cX4_standing 9 (some .int) 2 117 [(0, aR 11 a0), (1, aI a1), (3, aI a3), (4, aI a4), (5, aI a5)] [] h (f_X4_standing_b117 kont17 a0 a1 a3 a4 a5 h) := by
  unfold f_X4_standing_b117
  refine j_iinc (v := (1 : Int32)) dX4_standing_117 rfl (by decide) (by decide) ?_
  refine j_goto (tgt := 17) dX4_standing_120 (by decide) ?_
  exact j_weak rfl (hk17 _ _ _ _ _ h_a0 _)
set_option maxRecDepth 20000 in
theorem w_X4_standing_b87 (kont17 : Nat → Int32 → Int32 → Int32 → Int32 → Hp → Option (Int32 × Hp)) (hk17 : ∀ (a0 : Nat) (a1 : Int32) (a3 : Int32) (a4 : Int32) (a5 : Int32) (h_a0 : a0 < cnt 11) (h : Hp), J encI RX4 cX4_standing 9 (some .int) 2 17 [(0, aR 11 a0), (1, aI a1), (3, aI a3), (4, aI a4), (5, aI a5)] [] h (kont17 a0 a1 a3 a4 a5 h)) (a0 : Nat) (a1 : Int32) (a3 : Int32) (a4 : Int32) (a5 : Int32) (a6 : Int32) (a7 : Nat) (s0 : Int32) (h_a0 : a0 < cnt 11) (h_a7 : a7 < cnt 17) (h : Hp) : J encI RX4 cX4_standing 9 (some .int) 2 87 [(0, aR 11 a0), (1, aI a1), (3, aI a3), (4, aI a4), (5, aI a5), (6, aI a6), (7, aR 17 a7)] [aI s0] h (f_X4_standing_b87 kont17 a0 a1 a3 a4 a5 a6 a7 s0 h) := by
  unfold f_X4_standing_b87
  refine j_istore dX4_standing_87 (by decide) ?_
  refine j_iload_n dX4_standing_89 rfl ?_
  refine j_iload dX4_standing_90 rfl ?_
  refine j_ishr dX4_standing_92 ?_
  refine j_iconst (v := (1 : Int32)) dX4_standing_93 (by decide) ?_
  refine j_iand dX4_standing_94 ?_
  refine j_iconst (v := (1 : Int32)) dX4_standing_95 (by decide) ?_
  refine j_icmp_ne (tgt := 117) dX4_standing_96 (by decide) (fun c1 => ?_) (fun c1 => ?_)
  · exact j_weak rfl (w_X4_standing_b117 _ hk17 _ _ _ _ _ h_a0 _)
  · refine j_iload dX4_standing_99 rfl ?_
    refine j_if_eq (tgt := 117) dX4_standing_101 (by decide) (fun c2 => ?_) (fun c2 => ?_)
    · exact j_weak rfl (w_X4_standing_b117 _ hk17 _ _ _ _ _ h_a0 _)
    · refine j_iload_n dX4_standing_104 rfl ?_
      refine j_iconst (v := (1 : Int32)) dX4_standing_105 (by decide) ?_
      refine j_iload dX4_standing_106 rfl ?_
      refine j_ishl dX4_standing_108 ?_
      refine j_ior dX4_standing_109 ?_
      refine j_istore_n dX4_standing_110 (by decide) ?_
      refine j_aload_n dX4_standing_111 rfl ?_
      refine j_aload dX4_standing_112 rfl ?_
      refine jc_X4_100 (ct_X4_fillHalves _ _ h_a0 h_a7 _) (by decide) h_a0 (Nat.le_of_ble_eq_true rfl) dX4_standing_114 (fun v3 h4 e5 => ?_)
      exact j_weak rfl (w_X4_standing_b117 _ hk17 _ _ _ _ _ h_a0 _)
set_option maxRecDepth 20000 in
theorem w_X4_standing_b82 (kont17 : Nat → Int32 → Int32 → Int32 → Int32 → Hp → Option (Int32 × Hp)) (hk17 : ∀ (a0 : Nat) (a1 : Int32) (a3 : Int32) (a4 : Int32) (a5 : Int32) (h_a0 : a0 < cnt 11) (h : Hp), J encI RX4 cX4_standing 9 (some .int) 2 17 [(0, aR 11 a0), (1, aI a1), (3, aI a3), (4, aI a4), (5, aI a5)] [] h (kont17 a0 a1 a3 a4 a5 h)) (a0 : Nat) (a1 : Int32) (a3 : Int32) (a4 : Int32) (a5 : Int32) (a6 : Int32) (a7 : Nat) (h_a0 : a0 < cnt 11) (h_a7 : a7 < cnt 17) (h : Hp) : J encI RX4 cX4_standing 9 (some .int) 2 82 [(0, aR 11 a0), (1, aI a1), (3, aI a3), (4, aI a4), (5, aI a5), (6, aI a6), (7, aR 17 a7)] [] h (f_X4_standing_b82 kont17 a0 a1 a3 a4 a5 a6 a7 h) := by
  unfold f_X4_standing_b82
  refine j_iconst (v := (1 : Int32)) dX4_standing_82 (by decide) ?_
  refine j_goto (tgt := 87) dX4_standing_83 (by decide) ?_
  exact j_weak rfl (w_X4_standing_b87 _ hk17 _ _ _ _ _ _ _ _ h_a0 h_a7 _)
set_option maxRecDepth 20000 in
theorem w_X4_standing_b17  : ∀ (n : Nat) (a0 : Nat) (a1 : Int32) (a3 : Int32) (a4 : Int32) (a5 : Int32) (h_a0 : a0 < cnt 11) (h : Hp), J encI RX4 cX4_standing 9 (some .int) 2 17 [(0, aR 11 a0), (1, aI a1), (3, aI a3), (4, aI a4), (5, aI a5)] [] h (f_X4_standing_b17  n a0 a1 a3 a4 a5 h) := by
  intro n
  induction n with
  | zero =>
    intros
    exact j_none
  | succ n hk17 =>
    intro a0 a1 a3 a4 a5 h_a0 h
    show J encI RX4 cX4_standing 9 (some .int) 2 17 [(0, aR 11 a0), (1, aI a1), (3, aI a3), (4, aI a4), (5, aI a5)] [] h (f_X4_standing_b17_body  (f_X4_standing_b17  n) a0 a1 a3 a4 a5 h)
    unfold f_X4_standing_b17_body
    refine j_iload dX4_standing_17 rfl ?_
    refine j_aload_n dX4_standing_19 rfl ?_
    refine jg_X4_39 h_a0 dX4_standing_20 ?_
    refine j_icmp_ge (tgt := 123) dX4_standing_23 (by decide) (fun c1 => ?_) (fun c1 => ?_)
    · refine j_iload_n dX4_standing_123 rfl ?_
      exact j_iret dX4_standing_124
    · refine j_aload_n dX4_standing_26 rfl ?_
      refine jg_X4_17 h_a0 dX4_standing_27 ?_
      refine j_iload dX4_standing_30 rfl ?_
      refine j_iald (ic_13 _) h_a0 dX4_standing_32 (fun q2 => ?_)
      refine j_istore dX4_standing_33 (by decide) ?_
      refine j_aload_n dX4_standing_35 rfl ?_
      refine jg_X4_11 h_a0 dX4_standing_36 ?_
      refine j_iload dX4_standing_39 rfl ?_
      refine ja_12 h_a0 dX4_standing_41 (fun q3 z4 => ?_)
      refine j_astore dX4_standing_42 (by decide) ?_
      refine j_iload dX4_standing_44 rfl ?_
      refine j_iload dX4_standing_46 rfl ?_
      refine j_ishr dX4_standing_48 ?_
      refine j_iconst (v := (1 : Int32)) dX4_standing_49 (by decide) ?_
      refine j_iand dX4_standing_50 ?_
      refine j_iconst (v := (1 : Int32)) dX4_standing_51 (by decide) ?_
      refine j_icmp_eq (tgt := 82) dX4_standing_52 (by decide) (fun c5 => ?_) (fun c5 => ?_)
      · exact j_weak rfl (w_X4_standing_b82 _ hk17 _ _ _ _ _ _ _ h_a0 z4 _)
      · refine j_aload dX4_standing_55 rfl ?_
        refine j_aload_n dX4_standing_57 rfl ?_
        refine j_aload dX4_standing_58 rfl ?_
        refine jg_X4_76 z4 dX4_standing_60 ?_
        refine jc_X4_93 (ct_X4_beneath _ _ h_a0 _) (by decide) h_a0 (Nat.le_of_ble_eq_true rfl) dX4_standing_63 (fun v6 h7 e8 => ?_)
        refine j_aload_n dX4_standing_66 rfl ?_
        refine jg_X4_27 h_a0 dX4_standing_67 ?_
        refine j_aload dX4_standing_70 rfl ?_
        refine jg_X4_76 z4 dX4_standing_72 ?_
        refine j_iald (ic_16 _) h_a0 dX4_standing_75 (fun q9 => ?_)
        refine jc_X4_96 (ct_X0_holds _ _ _ z4 _) (by decide) z4 (Nat.le_of_ble_eq_true rfl) dX4_standing_76 (fun v10 h11 e12 => ?_)
        refine j_if_eq (tgt := 86) dX4_standing_79 (by decide) (fun c13 => ?_) (fun c13 => ?_)
        · refine j_iconst (v := (0 : Int32)) dX4_standing_86 (by decide) ?_
          exact j_weak rfl (w_X4_standing_b87 _ hk17 _ _ _ _ _ _ _ _ h_a0 z4 _)
        · exact j_weak rfl (w_X4_standing_b82 _ hk17 _ _ _ _ _ _ _ h_a0 z4 _)
set_option maxRecDepth 20000 in
theorem ct_X4_standing (a0 : Nat) (a1 : Int32) (a2 : Int32) (h_a0 : a0 < cnt 11) (h : Hp) : Ct encI yX4_standing cX4_standing 9 (some .int) 2 [aR 11 a0, aI a1, aI a2] h (f_X4_standing a0 a1 a2 h) := by
  refine ct_of [(0, aR 11 a0), (1, aI a1), (2, aI a2)] (by decide) (fun _ => rfl) (fun _ => Nat.le_of_ble_eq_true rfl) ?_
  show J encI RX4 cX4_standing 9 (some .int) 2 0 [(0, aR 11 a0), (1, aI a1), (2, aI a2)] [] h (f_X4_standing a0 a1 a2 h)
  unfold f_X4_standing
  refine j_aload_n dX4_standing_0 rfl ?_
  refine jc_X4_90 (ct_X4_clearHalves _ h_a0 _) (by decide) h_a0 (Nat.le_of_ble_eq_true rfl) dX4_standing_1 (fun v1 h2 e3 => ?_)
  refine j_iconst (v := (0 : Int32)) dX4_standing_4 (by decide) ?_
  refine j_istore_n dX4_standing_5 (by decide) ?_
  refine j_iload_n dX4_standing_6 rfl ?_
  refine j_aload_n dX4_standing_7 rfl ?_
  refine jg_X4_48 h_a0 dX4_standing_8 ?_
  refine j_ior dX4_standing_11 ?_
  refine j_istore dX4_standing_12 (by decide) ?_
  refine j_iconst (v := (0 : Int32)) dX4_standing_14 (by decide) ?_
  refine j_istore dX4_standing_15 (by decide) ?_
  exact j_weak rfl (w_X4_standing_b17  _ _ _ _ _ _ h_a0 _)
set_option maxRecDepth 20000 in
theorem w_X4_touchesVine_b38 (kont2 : Nat → Int32 → Int32 → Hp → Option (Int32 × Hp)) (hk2 : ∀ (a0 : Nat) (a1 : Int32) (a2 : Int32) (h_a0 : a0 < cnt 11) (h : Hp), J encI RX4 cX4_touchesVine 3 (some .boolean) 2 2 [(0, aR 11 a0), (1, aI a1), (2, aI a2)] [] h (kont2 a0 a1 a2 h)) (a0 : Nat) (a1 : Int32) (a2 : Int32) (h_a0 : a0 < cnt 11) (h : Hp) : J encI RX4 cX4_touchesVine 3 (some .boolean) 2 38 [(0, aR 11 a0), (1, aI a1), (2, aI a2)] [] h (f_X4_touchesVine_b38 kont2 a0 a1 a2 h) := by
  unfold f_X4_touchesVine_b38
  refine j_iinc (v := (1 : Int32)) dX4_touchesVine_38 rfl (by decide) (by decide) ?_
  refine j_goto (tgt := 2) dX4_touchesVine_41 (by decide) ?_
  exact j_weak rfl (hk2 _ _ _ h_a0 _)
set_option maxRecDepth 20000 in
theorem w_X4_touchesVine_b2  : ∀ (n : Nat) (a0 : Nat) (a1 : Int32) (a2 : Int32) (h_a0 : a0 < cnt 11) (h : Hp), J encI RX4 cX4_touchesVine 3 (some .boolean) 2 2 [(0, aR 11 a0), (1, aI a1), (2, aI a2)] [] h (f_X4_touchesVine_b2  n a0 a1 a2 h) := by
  intro n
  induction n with
  | zero =>
    intros
    exact j_none
  | succ n hk2 =>
    intro a0 a1 a2 h_a0 h
    show J encI RX4 cX4_touchesVine 3 (some .boolean) 2 2 [(0, aR 11 a0), (1, aI a1), (2, aI a2)] [] h (f_X4_touchesVine_b2_body  (f_X4_touchesVine_b2  n) a0 a1 a2 h)
    unfold f_X4_touchesVine_b2_body
    refine j_iload_n dX4_touchesVine_2 rfl ?_
    refine j_aload_n dX4_touchesVine_3 rfl ?_
    refine jg_X4_39 h_a0 dX4_touchesVine_4 ?_
    refine j_icmp_ge (tgt := 44) dX4_touchesVine_7 (by decide) (fun c1 => ?_) (fun c1 => ?_)
    · refine j_iconst (v := (0 : Int32)) dX4_touchesVine_44 (by decide) ?_
      exact j_zret (Or.inl rfl) dX4_touchesVine_45
    · refine j_aload_n dX4_touchesVine_10 rfl ?_
      refine j_iload_n dX4_touchesVine_11 rfl ?_
      refine jc_X4_165 (ct_X4_hasVine _ _ h_a0 _) (by decide) h_a0 (Nat.le_of_ble_eq_true rfl) dX4_touchesVine_12 (fun v2 h3 e4 => ?_)
      refine j_if_eq (tgt := 38) dX4_touchesVine_15 (by decide) (fun c5 => ?_) (fun c5 => ?_)
      · exact j_weak rfl (w_X4_touchesVine_b38 _ hk2 _ _ _ h_a0 _)
      · refine j_aload_n dX4_touchesVine_18 rfl ?_
        refine jg_X4_11 h_a0 dX4_touchesVine_19 ?_
        refine j_iload_n dX4_touchesVine_22 rfl ?_
        refine ja_12 h_a0 dX4_touchesVine_23 (fun q6 z7 => ?_)
        refine j_aload_n dX4_touchesVine_24 rfl ?_
        refine jg_X4_11 h_a0 dX4_touchesVine_25 ?_
        refine j_iload_n dX4_touchesVine_28 rfl ?_
        refine ja_12 h_a0 dX4_touchesVine_29 (fun q8 z9 => ?_)
        refine jc_X4_208 (ct_X0_touches _ _ z7 z9 _) (by decide) z7 (Nat.le_of_ble_eq_true rfl) dX4_touchesVine_30 (fun v10 h11 e12 => ?_)
        refine j_if_eq (tgt := 38) dX4_touchesVine_33 (by decide) (fun c13 => ?_) (fun c13 => ?_)
        · exact j_weak rfl (w_X4_touchesVine_b38 _ hk2 _ _ _ h_a0 _)
        · refine j_iconst (v := (1 : Int32)) dX4_touchesVine_36 (by decide) ?_
          exact j_zret (Or.inr rfl) dX4_touchesVine_37
set_option maxRecDepth 20000 in
theorem ct_X4_touchesVine (a0 : Nat) (a1 : Int32) (h_a0 : a0 < cnt 11) (h : Hp) : Ct encI yX4_touchesVine cX4_touchesVine 3 (some .boolean) 2 [aR 11 a0, aI a1] h (f_X4_touchesVine a0 a1 h) := by
  refine ct_of [(0, aR 11 a0), (1, aI a1)] (by decide) (fun _ => rfl) (fun _ => Nat.le_of_ble_eq_true rfl) ?_
  show J encI RX4 cX4_touchesVine 3 (some .boolean) 2 0 [(0, aR 11 a0), (1, aI a1)] [] h (f_X4_touchesVine a0 a1 h)
  unfold f_X4_touchesVine
  refine j_iconst (v := (0 : Int32)) dX4_touchesVine_0 (by decide) ?_
  refine j_istore_n dX4_touchesVine_1 (by decide) ?_
  exact j_weak rfl (w_X4_touchesVine_b2  _ _ _ _ h_a0 _)
set_option maxRecDepth 20000 in
theorem ct_X5_asks (a1 : Int32)  (h : Hp) : Ct encI yX5_asks cX5_asks 3 (some .int) 2 [aR 0 0, aI a1] h (f_X5_asks a1 h) := by
  refine ct_of [(0, aR 0 0), (1, aI a1)] (by decide) (fun _ => rfl) (fun _ => Nat.le_of_ble_eq_true rfl) ?_
  show J encI RX5 cX5_asks 3 (some .int) 2 0 [(0, aR 0 0), (1, aI a1)] [] h (f_X5_asks a1 h)
  unfold f_X5_asks
  refine j_aload_n dX5_asks_0 rfl ?_
  refine jg_X5_33 z_0 dX5_asks_1 ?_
  refine j_iload_n dX5_asks_4 rfl ?_
  refine jc_X5_113 (ct_X4_has _ _ (Nat.le_of_ble_eq_true rfl) _) (by decide) (Nat.le_of_ble_eq_true rfl) (Nat.le_of_ble_eq_true rfl) dX5_asks_5 (fun v1 h2 e3 => ?_)
  refine j_if_ne (tgt := 13) dX5_asks_8 (by decide) (fun c4 => ?_) (fun c4 => ?_)
  · refine j_aload_n dX5_asks_13 rfl ?_
    refine jg_X5_33 z_0 dX5_asks_14 ?_
    refine j_iload_n dX5_asks_17 rfl ?_
    refine jc_X5_120 (ct_X4_isIn _ _ (Nat.le_of_ble_eq_true rfl) _) (by decide) (Nat.le_of_ble_eq_true rfl) (Nat.le_of_ble_eq_true rfl) dX5_asks_18 (fun v5 h6 e7 => ?_)
    refine j_if_ne (tgt := 30) dX5_asks_21 (by decide) (fun c8 => ?_) (fun c8 => ?_)
    · refine j_aload_n dX5_asks_30 rfl ?_
      refine jg_X5_33 z_0 dX5_asks_31 ?_
      refine j_iload_n dX5_asks_34 rfl ?_
      refine jc_X5_180 (ct_X4_askedToDraw _ _ (Nat.le_of_ble_eq_true rfl) _) (by decide) (Nat.le_of_ble_eq_true rfl) (Nat.le_of_ble_eq_true rfl) dX5_asks_35 (fun v9 h10 e11 => ?_)
      refine j_istore_n dX5_asks_38 (by decide) ?_
      refine j_aload_n dX5_asks_39 rfl ?_
      refine j_iload_n dX5_asks_40 rfl ?_
      refine j_aload_n dX5_asks_41 rfl ?_
      refine jg_X5_33 z_0 dX5_asks_42 ?_
      refine jg_X5_138 (Nat.le_of_ble_eq_true rfl) dX5_asks_45 ?_
      refine j_iconst (v := (-1 : Int32)) dX5_asks_48 (by decide) ?_
      refine j_ixor dX5_asks_49 ?_
      refine j_iand dX5_asks_50 ?_
      refine jp_X5_68 z_0 dX5_asks_51 ?_
      refine j_iload_n dX5_asks_54 rfl ?_
      exact j_iret dX5_asks_55
    · refine j_aload_n dX5_asks_24 rfl ?_
      refine j_iconst (v := (1 : Int32)) dX5_asks_25 (by decide) ?_
      refine jc_X5_53 (ct_X5_refuse _  _) (by decide) z_0 (Nat.le_of_ble_eq_true rfl) dX5_asks_26 (fun v12 h13 e14 => ?_)
      exact j_iret dX5_asks_29
  · refine j_iconst (v := (-1 : Int32)) dX5_asks_11 (by decide) ?_
    exact j_iret dX5_asks_12
set_option maxRecDepth 20000 in
theorem ct_X5_count (a1 : Int32)  (h : Hp) : Ct encI yX5_count cX5_count 2 (some .int) 2 [aR 0 0, aI a1] h (f_X5_count a1 h) := by
  refine ct_of [(0, aR 0 0), (1, aI a1)] (by decide) (fun _ => rfl) (fun _ => Nat.le_of_ble_eq_true rfl) ?_
  show J encI RX5 cX5_count 2 (some .int) 2 0 [(0, aR 0 0), (1, aI a1)] [] h (f_X5_count a1 h)
  unfold f_X5_count
  refine j_iload_n dX5_count_0 rfl ?_
  refine j_if (fun c1 => ?_) (fun c1 => ?_)
  · refine j_tsIn (tgt := 48) (off := 47) dX5_count_1 (by rw [c1]; decide) (by rw [c1]; decide) (by rw [c1]; rfl) (by decide) ?_
    refine j_aload_n dX5_count_48 rfl ?_
    refine jg_X5_33 z_0 dX5_count_49 ?_
    refine jg_X5_110 (Nat.le_of_ble_eq_true rfl) dX5_count_52 ?_
    exact j_iret dX5_count_55
  refine j_if (fun c2 => ?_) (fun c2 => ?_)
  · refine j_tsIn (tgt := 56) (off := 55) dX5_count_1 (by rw [c2]; decide) (by rw [c2]; decide) (by rw [c2]; rfl) (by decide) ?_
    refine j_aload_n dX5_count_56 rfl ?_
    refine jg_X5_33 z_0 dX5_count_57 ?_
    refine jg_X5_154 (Nat.le_of_ble_eq_true rfl) dX5_count_60 ?_
    refine jc_X5_160 (ct_J6_bitCount _  _) (by decide) (Nat.le_of_ble_eq_true rfl) dX5_count_63 (fun v3 h4 e5 => ?_)
    exact j_iret dX5_count_66
  refine j_if (fun c6 => ?_) (fun c6 => ?_)
  · refine j_tsIn (tgt := 67) (off := 66) dX5_count_1 (by rw [c6]; decide) (by rw [c6]; decide) (by rw [c6]; rfl) (by decide) ?_
    refine j_aload_n dX5_count_67 rfl ?_
    refine jg_X5_33 z_0 dX5_count_68 ?_
    refine jc_X5_276 (ct_X4_bridges _ (Nat.le_of_ble_eq_true rfl) _) (by decide) (Nat.le_of_ble_eq_true rfl) (Nat.le_of_ble_eq_true rfl) dX5_count_71 (fun v7 h8 e9 => ?_)
    exact j_iret dX5_count_74
  refine j_if (fun c10 => ?_) (fun c10 => ?_)
  · refine j_tsIn (tgt := 75) (off := 74) dX5_count_1 (by rw [c10]; decide) (by rw [c10]; decide) (by rw [c10]; rfl) (by decide) ?_
    refine j_aload_n dX5_count_75 rfl ?_
    refine jg_X5_33 z_0 dX5_count_76 ?_
    refine jg_X5_147 (Nat.le_of_ble_eq_true rfl) dX5_count_79 ?_
    refine jc_X5_160 (ct_J6_bitCount _  _) (by decide) (Nat.le_of_ble_eq_true rfl) dX5_count_82 (fun v11 h12 e13 => ?_)
    exact j_iret dX5_count_85
  refine j_if (fun c14 => ?_) (fun c14 => ?_)
  · refine j_tsIn (tgt := 86) (off := 85) dX5_count_1 (by rw [c14]; decide) (by rw [c14]; decide) (by rw [c14]; rfl) (by decide) ?_
    refine j_aload_n dX5_count_86 rfl ?_
    refine jg_X5_33 z_0 dX5_count_87 ?_
    refine jg_X5_168 (Nat.le_of_ble_eq_true rfl) dX5_count_90 ?_
    refine jc_X5_160 (ct_J6_bitCount _  _) (by decide) (Nat.le_of_ble_eq_true rfl) dX5_count_93 (fun v15 h16 e17 => ?_)
    exact j_iret dX5_count_96
  refine j_if (fun c18 => ?_) (fun c18 => ?_)
  · refine j_tsIn (tgt := 97) (off := 96) dX5_count_1 (by rw [c18]; decide) (by rw [c18]; decide) (by rw [c18]; rfl) (by decide) ?_
    refine j_aload_n dX5_count_97 rfl ?_
    refine jg_X5_33 z_0 dX5_count_98 ?_
    refine jg_X5_267 (Nat.le_of_ble_eq_true rfl) dX5_count_101 ?_
    exact j_iret dX5_count_104
  refine j_if (fun c19 => ?_) (fun c19 => ?_)
  · refine j_tsIn (tgt := 105) (off := 104) dX5_count_1 (by rw [c19]; decide) (by rw [c19]; decide) (by rw [c19]; rfl) (by decide) ?_
    refine j_aload_n dX5_count_105 rfl ?_
    refine jg_X5_10 z_0 dX5_count_106 ?_
    refine jc_X5_279 (ct_X2_there   _) (by decide) z_1 (Nat.le_of_ble_eq_true rfl) dX5_count_109 (fun v20 h21 e22 => ?_)
    exact j_iret dX5_count_112
  refine j_if (fun c23 => ?_) (fun c23 => ?_)
  · refine j_tsIn (tgt := 113) (off := 112) dX5_count_1 (by rw [c23]; decide) (by rw [c23]; decide) (by rw [c23]; rfl) (by decide) ?_
    refine j_aload_n dX5_count_113 rfl ?_
    refine jg_X5_19 z_0 dX5_count_114 ?_
    refine jc_X5_282 (ct_X3_there   _) (by decide) z_5 (Nat.le_of_ble_eq_true rfl) dX5_count_117 (fun v24 h25 e26 => ?_)
    exact j_iret dX5_count_120
  refine j_tsG (tgt := 121) dX5_count_1 ?_ (by decide) ?_
  · have hts : ∀ z : Int, 0 ≤ z → z ≤ 7 → (a1) = Int32.ofInt z → (#[47, 55, 66, 74, 85, 96, 104, 112] : Array Int)[(z - 0).toNat]? = some 120 := by
      intro z z1 z2 z3
      rcases (show z = 0 ∨ z = 1 ∨ z = 2 ∨ z = 3 ∨ z = 4 ∨ z = 5 ∨ z = 6 ∨ z = 7 by omega) with rfl | rfl | rfl | rfl | rfl | rfl | rfl | rfl
      · exact absurd (z3.trans (by decide)) c1
      · exact absurd (z3.trans (by decide)) c2
      · exact absurd (z3.trans (by decide)) c6
      · exact absurd (z3.trans (by decide)) c10
      · exact absurd (z3.trans (by decide)) c14
      · exact absurd (z3.trans (by decide)) c18
      · exact absurd (z3.trans (by decide)) c19
      · exact absurd (z3.trans (by decide)) c23
    exact ts_all hts
  · refine j_iconst (v := (-1 : Int32)) dX5_count_121 (by decide) ?_
    exact j_iret dX5_count_122
set_option maxRecDepth 20000 in
theorem w_X5_few_b65 (kont22 : Int32 → Int32 → Int32 → Hp → Option (Int32 × Hp)) (hk22 : ∀ (a1 : Int32) (a2 : Int32) (a3 : Int32)  (h : Hp), J encI RX5 cX5_few 5 (some .int) 2 22 [(0, aR 0 0), (1, aI a1), (2, aI a2), (3, aI a3)] [] h (kont22 a1 a2 a3 h)) (a1 : Int32) (a2 : Int32) (a3 : Int32)  (h : Hp) : J encI RX5 cX5_few 5 (some .int) 2 65 [(0, aR 0 0), (1, aI a1), (2, aI a2), (3, aI a3)] [] h (f_X5_few_b65 kont22 a1 a2 a3 h) := by
  unfold f_X5_few_b65
  refine j_iinc (v := (1 : Int32)) dX5_few_65 rfl (by decide) (by decide) ?_
  refine j_goto (tgt := 22) dX5_few_68 (by decide) ?_
  exact j_weak rfl (hk22 _ _ _  _)
set_option maxRecDepth 20000 in
theorem w_X5_few_b44 (kont22 : Int32 → Int32 → Int32 → Hp → Option (Int32 × Hp)) (hk22 : ∀ (a1 : Int32) (a2 : Int32) (a3 : Int32)  (h : Hp), J encI RX5 cX5_few 5 (some .int) 2 22 [(0, aR 0 0), (1, aI a1), (2, aI a2), (3, aI a3)] [] h (kont22 a1 a2 a3 h)) (a1 : Int32) (a2 : Int32) (a3 : Int32) (s0 : Int32)  (h : Hp) : J encI RX5 cX5_few 5 (some .int) 2 44 [(0, aR 0 0), (1, aI a1), (2, aI a2), (3, aI a3)] [aI s0] h (f_X5_few_b44 kont22 a1 a2 a3 s0 h) := by
  unfold f_X5_few_b44
  refine j_istore dX5_few_44 (by decide) ?_
  refine j_iload dX5_few_46 rfl ?_
  refine j_if_eq (tgt := 65) dX5_few_48 (by decide) (fun c1 => ?_) (fun c1 => ?_)
  · exact j_weak rfl (w_X5_few_b65 _ hk22 _ _ _  _)
  · refine j_aload_n dX5_few_51 rfl ?_
    refine jg_X5_33 z_0 dX5_few_52 ?_
    refine j_iload_n dX5_few_55 rfl ?_
    refine j_iload_n dX5_few_56 rfl ?_
    refine jc_X5_236 (ct_X4_reachesAll _ _ _ (Nat.le_of_ble_eq_true rfl) _) (by decide) (Nat.le_of_ble_eq_true rfl) (Nat.le_of_ble_eq_true rfl) dX5_few_57 (fun v2 h3 e4 => ?_)
    refine j_if_eq (tgt := 65) dX5_few_60 (by decide) (fun c5 => ?_) (fun c5 => ?_)
    · exact j_weak rfl (w_X5_few_b65 _ hk22 _ _ _  _)
    · refine j_iload_n dX5_few_63 rfl ?_
      refine j_istore_n dX5_few_64 (by decide) ?_
      exact j_weak rfl (w_X5_few_b65 _ hk22 _ _ _  _)
set_option maxRecDepth 20000 in
theorem w_X5_few_b22  : ∀ (n : Nat) (a1 : Int32) (a2 : Int32) (a3 : Int32)  (h : Hp), J encI RX5 cX5_few 5 (some .int) 2 22 [(0, aR 0 0), (1, aI a1), (2, aI a2), (3, aI a3)] [] h (f_X5_few_b22  n a1 a2 a3 h) := by
  intro n
  induction n with
  | zero =>
    intros
    exact j_none
  | succ n hk22 =>
    intro a1 a2 a3  h
    show J encI RX5 cX5_few 5 (some .int) 2 22 [(0, aR 0 0), (1, aI a1), (2, aI a2), (3, aI a3)] [] h (f_X5_few_b22_body  (f_X5_few_b22  n) a1 a2 a3 h)
    unfold f_X5_few_b22_body
    refine j_iload_n dX5_few_22 rfl ?_
    refine j_bipush (v := (64 : Int32)) dX5_few_23 (by decide) ?_
    refine j_icmp_ge (tgt := 71) dX5_few_25 (by decide) (fun c1 => ?_) (fun c1 => ?_)
    · refine j_aload_n dX5_few_71 rfl ?_
      refine j_iload_n dX5_few_72 rfl ?_
      refine jp_X5_68 z_0 dX5_few_73 ?_
      refine j_iload_n dX5_few_76 rfl ?_
      refine jc_X5_160 (ct_J6_bitCount _  _) (by decide) (Nat.le_of_ble_eq_true rfl) dX5_few_77 (fun v2 h3 e4 => ?_)
      exact j_iret dX5_few_80
    · refine j_iload_n dX5_few_28 rfl ?_
      refine jc_X5_160 (ct_J6_bitCount _  _) (by decide) (Nat.le_of_ble_eq_true rfl) dX5_few_29 (fun v5 h6 e7 => ?_)
      refine j_iload_n dX5_few_32 rfl ?_
      refine jc_X5_160 (ct_J6_bitCount _  _) (by decide) (Nat.le_of_ble_eq_true rfl) dX5_few_33 (fun v8 h9 e10 => ?_)
      refine j_icmp_ge (tgt := 43) dX5_few_36 (by decide) (fun c11 => ?_) (fun c11 => ?_)
      · refine j_iconst (v := (0 : Int32)) dX5_few_43 (by decide) ?_
        exact j_weak rfl (w_X5_few_b44 _ hk22 _ _ _ _  _)
      · refine j_iconst (v := (1 : Int32)) dX5_few_39 (by decide) ?_
        refine j_goto (tgt := 44) dX5_few_40 (by decide) ?_
        exact j_weak rfl (w_X5_few_b44 _ hk22 _ _ _ _  _)
set_option maxRecDepth 20000 in
theorem ct_X5_few (a1 : Int32)  (h : Hp) : Ct encI yX5_few cX5_few 5 (some .int) 2 [aR 0 0, aI a1] h (f_X5_few a1 h) := by
  refine ct_of [(0, aR 0 0), (1, aI a1)] (by decide) (fun _ => rfl) (fun _ => Nat.le_of_ble_eq_true rfl) ?_
  show J encI RX5 cX5_few 5 (some .int) 2 0 [(0, aR 0 0), (1, aI a1)] [] h (f_X5_few a1 h)
  unfold f_X5_few
  refine j_aload_n dX5_few_0 rfl ?_
  refine jg_X5_33 z_0 dX5_few_1 ?_
  refine j_iload_n dX5_few_4 rfl ?_
  refine jc_X5_171 (ct_X4_hasAll _ _ (Nat.le_of_ble_eq_true rfl) _) (by decide) (Nat.le_of_ble_eq_true rfl) (Nat.le_of_ble_eq_true rfl) dX5_few_5 (fun v1 h2 e3 => ?_)
  refine j_if_eq (tgt := 15) dX5_few_8 (by decide) (fun c4 => ?_) (fun c4 => ?_)
  · refine j_iconst (v := (-1 : Int32)) dX5_few_15 (by decide) ?_
    exact j_iret dX5_few_16
  · refine j_iload_n dX5_few_11 rfl ?_
    refine j_if_ne (tgt := 17) dX5_few_12 (by decide) (fun c5 => ?_) (fun c5 => ?_)
    · refine j_bipush (v := (63 : Int32)) dX5_few_17 (by decide) ?_
      refine j_istore_n dX5_few_19 (by decide) ?_
      refine j_iconst (v := (1 : Int32)) dX5_few_20 (by decide) ?_
      refine j_istore_n dX5_few_21 (by decide) ?_
      exact j_weak rfl (w_X5_few_b22  _ _ _ _  _)
    · refine j_iconst (v := (-1 : Int32)) dX5_few_15 (by decide) ?_
      exact j_iret dX5_few_16
set_option maxRecDepth 20000 in
theorem ct_X5_owes (a1 : Int32) (a2 : Int32)  (h : Hp) : Ct encI yX5_owes cX5_owes 3 (some .int) 2 [aR 0 0, aI a1, aI a2] h (f_X5_owes a1 a2 h) := by
  refine ct_of [(0, aR 0 0), (1, aI a1), (2, aI a2)] (by decide) (fun _ => rfl) (fun _ => Nat.le_of_ble_eq_true rfl) ?_
  show J encI RX5 cX5_owes 3 (some .int) 2 0 [(0, aR 0 0), (1, aI a1), (2, aI a2)] [] h (f_X5_owes a1 a2 h)
  unfold f_X5_owes
  refine j_iload_n dX5_owes_0 rfl ?_
  refine jc_X5_135 (ct_X5_isPerson _  _) (by decide) (Nat.le_of_ble_eq_true rfl) dX5_owes_1 (fun v1 h2 e3 => ?_)
  refine j_if_eq (tgt := 19) dX5_owes_4 (by decide) (fun c4 => ?_) (fun c4 => ?_)
  · refine j_iconst (v := (-1 : Int32)) dX5_owes_19 (by decide) ?_
    exact j_iret dX5_owes_20
  · refine j_iload_n dX5_owes_7 rfl ?_
    refine jc_X5_135 (ct_X5_isPerson _  _) (by decide) (Nat.le_of_ble_eq_true rfl) dX5_owes_8 (fun v5 h6 e7 => ?_)
    refine j_if_eq (tgt := 19) dX5_owes_11 (by decide) (fun c8 => ?_) (fun c8 => ?_)
    · refine j_iconst (v := (-1 : Int32)) dX5_owes_19 (by decide) ?_
      exact j_iret dX5_owes_20
    · refine j_iload_n dX5_owes_14 rfl ?_
      refine j_iload_n dX5_owes_15 rfl ?_
      refine j_icmp_ne (tgt := 21) dX5_owes_16 (by decide) (fun c9 => ?_) (fun c9 => ?_)
      · refine j_aload_n dX5_owes_21 rfl ?_
        refine jg_X5_33 z_0 dX5_owes_22 ?_
        refine j_iload_n dX5_owes_25 rfl ?_
        refine j_iload_n dX5_owes_26 rfl ?_
        refine jc_X5_227 (ct_X4_netDebt _ _ _ (Nat.le_of_ble_eq_true rfl) _) (by decide) (Nat.le_of_ble_eq_true rfl) (Nat.le_of_ble_eq_true rfl) dX5_owes_27 (fun v10 h11 e12 => ?_)
        exact j_iret dX5_owes_30
      · refine j_iconst (v := (-1 : Int32)) dX5_owes_19 (by decide) ?_
        exact j_iret dX5_owes_20
set_option maxRecDepth 20000 in
theorem w_X6_alone_b70 (kont22 : Int32 → Int32 → Int32 → Int32 → Hp → Option (Int32 × Hp)) (hk22 : ∀ (a1 : Int32) (a2 : Int32) (a3 : Int32) (a4 : Int32)  (h : Hp), J encI RX6 cX6_alone 5 (some .int) 2 22 [(0, aR 20 0), (1, aI a1), (2, aI a2), (3, aI a3), (4, aI a4)] [] h (kont22 a1 a2 a3 a4 h)) (a1 : Int32) (a2 : Int32) (a3 : Int32) (a4 : Int32)  (h : Hp) : J encI RX6 cX6_alone 5 (some .int) 2 70 [(0, aR 20 0), (1, aI a1), (2, aI a2), (3, aI a3), (4, aI a4)] [] h (f_X6_alone_b70 kont22 a1 a2 a3 a4 h) := by
  unfold f_X6_alone_b70
  refine j_iinc (v := (1 : Int32)) dX6_alone_70 rfl (by decide) (by decide) ?_
  refine j_goto (tgt := 22) dX6_alone_73 (by decide) ?_
  exact j_weak rfl (hk22 _ _ _ _  _)
set_option maxRecDepth 20000 in
theorem w_X6_alone_b68 (kont22 : Int32 → Int32 → Int32 → Int32 → Hp → Option (Int32 × Hp)) (hk22 : ∀ (a1 : Int32) (a2 : Int32) (a3 : Int32) (a4 : Int32)  (h : Hp), J encI RX6 cX6_alone 5 (some .int) 2 22 [(0, aR 20 0), (1, aI a1), (2, aI a2), (3, aI a3), (4, aI a4)] [] h (kont22 a1 a2 a3 a4 h)) (a1 : Int32) (a2 : Int32) (a4 : Int32) (s0 : Int32) (s1 : Int32)  (h : Hp) : J encI RX6 cX6_alone 5 (some .int) 2 68 [(0, aR 20 0), (1, aI a1), (2, aI a2), (4, aI a4)] [aI s1, aI s0] h (f_X6_alone_b68 kont22 a1 a2 a4 s0 s1 h) := by
  unfold f_X6_alone_b68
  refine j_iadd dX6_alone_68 ?_
  refine j_istore_n dX6_alone_69 (by decide) ?_
  exact j_weak rfl (w_X6_alone_b70 _ hk22 _ _ _ _  _)
set_option maxRecDepth 20000 in
theorem w_X6_alone_b22  : ∀ (n : Nat) (a1 : Int32) (a2 : Int32) (a3 : Int32) (a4 : Int32)  (h : Hp), J encI RX6 cX6_alone 5 (some .int) 2 22 [(0, aR 20 0), (1, aI a1), (2, aI a2), (3, aI a3), (4, aI a4)] [] h (f_X6_alone_b22  n a1 a2 a3 a4 h) := by
  intro n
  induction n with
  | zero =>
    intros
    exact j_none
  | succ n hk22 =>
    intro a1 a2 a3 a4  h
    show J encI RX6 cX6_alone 5 (some .int) 2 22 [(0, aR 20 0), (1, aI a1), (2, aI a2), (3, aI a3), (4, aI a4)] [] h (f_X6_alone_b22_body  (f_X6_alone_b22  n) a1 a2 a3 a4 h)
    unfold f_X6_alone_b22_body
    refine j_iload dX6_alone_22 rfl ?_
    refine j_aload_n dX6_alone_24 rfl ?_
    refine jg_X6_129 z_20 dX6_alone_25 ?_
    refine j_icmp_ge (tgt := 76) dX6_alone_28 (by decide) (fun c1 => ?_) (fun c1 => ?_)
    · refine j_aload_n dX6_alone_76 rfl ?_
      refine j_iload_n dX6_alone_77 rfl ?_
      refine j_iload_n dX6_alone_78 rfl ?_
      refine jc_X6_77 (ct_X6_ask _ _  _) (by decide) z_20 (Nat.le_of_ble_eq_true rfl) dX6_alone_79 (fun v2 h3 e4 => ?_)
      exact j_iret dX6_alone_82
    · refine j_iload_n dX6_alone_31 rfl ?_
      refine j_iload dX6_alone_32 rfl ?_
      refine jc_X6_150 (ct_X6_has _ _  _) (by decide) (Nat.le_of_ble_eq_true rfl) dX6_alone_34 (fun v5 h6 e7 => ?_)
      refine j_if_eq (tgt := 70) dX6_alone_37 (by decide) (fun c8 => ?_) (fun c8 => ?_)
      · exact j_weak rfl (w_X6_alone_b70 _ hk22 _ _ _ _  _)
      · refine j_iload_n dX6_alone_40 rfl ?_
        refine j_aload_n dX6_alone_41 rfl ?_
        refine j_iload dX6_alone_42 rfl ?_
        refine jc_X6_192 (ct_X6_marksOf _  _) (by decide) z_20 (Nat.le_of_ble_eq_true rfl) dX6_alone_44 (fun v9 h10 e11 => ?_)
        refine j_iand dX6_alone_47 ?_
        refine j_istore_n dX6_alone_48 (by decide) ?_
        refine j_iload_n dX6_alone_49 rfl ?_
        refine j_aload_n dX6_alone_50 rfl ?_
        refine j_iload dX6_alone_51 rfl ?_
        refine jc_X6_192 (ct_X6_marksOf _  _) (by decide) z_20 (Nat.le_of_ble_eq_true rfl) dX6_alone_53 (fun v12 h13 e14 => ?_)
        refine jc_X6_174 (ct_X6_sizeOf _  _) (by decide) (Nat.le_of_ble_eq_true rfl) dX6_alone_56 (fun v15 h16 e17 => ?_)
        refine j_iconst (v := (1 : Int32)) dX6_alone_59 (by decide) ?_
        refine j_icmp_ne (tgt := 67) dX6_alone_60 (by decide) (fun c18 => ?_) (fun c18 => ?_)
        · refine j_iconst (v := (0 : Int32)) dX6_alone_67 (by decide) ?_
          exact j_weak rfl (w_X6_alone_b68 _ hk22 _ _ _ _ _  _)
        · refine j_iconst (v := (1 : Int32)) dX6_alone_63 (by decide) ?_
          refine j_goto (tgt := 68) dX6_alone_64 (by decide) ?_
          exact j_weak rfl (w_X6_alone_b68 _ hk22 _ _ _ _ _  _)
set_option maxRecDepth 20000 in
theorem ct_X6_alone (a1 : Int32)  (h : Hp) : Ct encI yX6_alone cX6_alone 5 (some .int) 2 [aR 20 0, aI a1] h (f_X6_alone a1 h) := by
  refine ct_of [(0, aR 20 0), (1, aI a1)] (by decide) (fun _ => rfl) (fun _ => Nat.le_of_ble_eq_true rfl) ?_
  show J encI RX6 cX6_alone 5 (some .int) 2 0 [(0, aR 20 0), (1, aI a1)] [] h (f_X6_alone a1 h)
  unfold f_X6_alone
  refine j_aload_n dX6_alone_0 rfl ?_
  refine j_iload_n dX6_alone_1 rfl ?_
  refine jc_X6_186 (ct_X6_isSet _  _) (by decide) z_20 (Nat.le_of_ble_eq_true rfl) dX6_alone_2 (fun v1 h2 e3 => ?_)
  refine j_if_eq (tgt := 12) dX6_alone_5 (by decide) (fun c4 => ?_) (fun c4 => ?_)
  · refine j_iconst (v := (-1 : Int32)) dX6_alone_12 (by decide) ?_
    exact j_iret dX6_alone_13
  · refine j_iload_n dX6_alone_8 rfl ?_
    refine j_if_ne (tgt := 14) dX6_alone_9 (by decide) (fun c5 => ?_) (fun c5 => ?_)
    · refine j_bipush (v := (63 : Int32)) dX6_alone_14 (by decide) ?_
      refine j_istore_n dX6_alone_16 (by decide) ?_
      refine j_iconst (v := (0 : Int32)) dX6_alone_17 (by decide) ?_
      refine j_istore_n dX6_alone_18 (by decide) ?_
      refine j_iconst (v := (0 : Int32)) dX6_alone_19 (by decide) ?_
      refine j_istore dX6_alone_20 (by decide) ?_
      exact j_weak rfl (w_X6_alone_b22  _ _ _ _ _  _)
    · refine j_iconst (v := (-1 : Int32)) dX6_alone_12 (by decide) ?_
      exact j_iret dX6_alone_13
set_option maxRecDepth 20000 in
theorem ct_X6_askedIn (a1 : Int32)  (h : Hp) : Ct encI yX6_askedIn cX6_askedIn 2 (some .int) 2 [aR 20 0, aI a1] h (f_X6_askedIn a1 h) := by
  refine ct_of [(0, aR 20 0), (1, aI a1)] (by decide) (fun _ => rfl) (fun _ => Nat.le_of_ble_eq_true rfl) ?_
  show J encI RX6 cX6_askedIn 2 (some .int) 2 0 [(0, aR 20 0), (1, aI a1)] [] h (f_X6_askedIn a1 h)
  unfold f_X6_askedIn
  refine j_aload_n dX6_askedIn_0 rfl ?_
  refine j_iload_n dX6_askedIn_1 rfl ?_
  refine jc_X6_153 (ct_X6_isBrick _  _) (by decide) z_20 (Nat.le_of_ble_eq_true rfl) dX6_askedIn_2 (fun v1 h2 e3 => ?_)
  refine j_if_ne (tgt := 12) dX6_askedIn_5 (by decide) (fun c4 => ?_) (fun c4 => ?_)
  · refine j_aload_n dX6_askedIn_12 rfl ?_
    refine jg_X6_132 z_20 dX6_askedIn_13 ?_
    refine j_iload_n dX6_askedIn_16 rfl ?_
    refine jc_X6_150 (ct_X6_has _ _  _) (by decide) (Nat.le_of_ble_eq_true rfl) dX6_askedIn_17 (fun v5 h6 e7 => ?_)
    refine j_if_eq (tgt := 27) dX6_askedIn_20 (by decide) (fun c8 => ?_) (fun c8 => ?_)
    · refine j_aload_n dX6_askedIn_27 rfl ?_
      refine j_iconst (v := (1 : Int32)) dX6_askedIn_28 (by decide) ?_
      refine jc_X6_59 (ct_X6_meet _  _) (by decide) z_20 (Nat.le_of_ble_eq_true rfl) dX6_askedIn_29 (fun v9 h10 e11 => ?_)
      exact j_iret dX6_askedIn_32
    · refine j_iconst (v := (0 : Int32)) dX6_askedIn_23 (by decide) ?_
      refine j_goto (tgt := 32) dX6_askedIn_24 (by decide) ?_
      exact j_iret dX6_askedIn_32
  · refine j_iconst (v := (-1 : Int32)) dX6_askedIn_8 (by decide) ?_
    refine j_goto (tgt := 32) dX6_askedIn_9 (by decide) ?_
    exact j_iret dX6_askedIn_32
set_option maxRecDepth 20000 in
theorem ct_X6_askedRow (a1 : Int32)  (h : Hp) : Ct encI yX6_askedRow cX6_askedRow 2 (some .int) 2 [aR 20 0, aI a1] h (f_X6_askedRow a1 h) := by
  refine ct_of [(0, aR 20 0), (1, aI a1)] (by decide) (fun _ => rfl) (fun _ => Nat.le_of_ble_eq_true rfl) ?_
  show J encI RX6 cX6_askedRow 2 (some .int) 2 0 [(0, aR 20 0), (1, aI a1)] [] h (f_X6_askedRow a1 h)
  unfold f_X6_askedRow
  refine j_iload_n dX6_askedRow_0 rfl ?_
  refine jc_X6_55 (ct_X6_isRow _  _) (by decide) (Nat.le_of_ble_eq_true rfl) dX6_askedRow_1 (fun v1 h2 e3 => ?_)
  refine j_if_ne (tgt := 11) dX6_askedRow_4 (by decide) (fun c4 => ?_) (fun c4 => ?_)
  · refine j_aload_n dX6_askedRow_11 rfl ?_
    refine jg_X6_17 z_20 dX6_askedRow_12 ?_
    refine j_iload_n dX6_askedRow_15 rfl ?_
    refine j_iald (ic_22 _) z_22 dX6_askedRow_16 (fun q5 => ?_)
    refine j_if_ge (tgt := 28) dX6_askedRow_17 (by decide) (fun c6 => ?_) (fun c6 => ?_)
    · refine j_iconst (v := (0 : Int32)) dX6_askedRow_28 (by decide) ?_
      exact j_iret dX6_askedRow_29
    · refine j_aload_n dX6_askedRow_20 rfl ?_
      refine j_iconst (v := (1 : Int32)) dX6_askedRow_21 (by decide) ?_
      refine jc_X6_59 (ct_X6_meet _  _) (by decide) z_20 (Nat.le_of_ble_eq_true rfl) dX6_askedRow_22 (fun v7 h8 e9 => ?_)
      refine j_goto (tgt := 29) dX6_askedRow_25 (by decide) ?_
      exact j_iret dX6_askedRow_29
  · refine j_iconst (v := (-1 : Int32)) dX6_askedRow_7 (by decide) ?_
    refine j_goto (tgt := 29) dX6_askedRow_8 (by decide) ?_
    exact j_iret dX6_askedRow_29
set_option maxRecDepth 20000 in
theorem ct_X6_askedText (a1 : Int32)  (h : Hp) : Ct encI yX6_askedText cX6_askedText 2 (some .int) 2 [aR 20 0, aI a1] h (f_X6_askedText a1 h) := by
  refine ct_of [(0, aR 20 0), (1, aI a1)] (by decide) (fun _ => rfl) (fun _ => Nat.le_of_ble_eq_true rfl) ?_
  show J encI RX6 cX6_askedText 2 (some .int) 2 0 [(0, aR 20 0), (1, aI a1)] [] h (f_X6_askedText a1 h)
  unfold f_X6_askedText
  refine j_iload_n dX6_askedText_0 rfl ?_
  refine jc_X6_63 (ct_X6_isText _  _) (by decide) (Nat.le_of_ble_eq_true rfl) dX6_askedText_1 (fun v1 h2 e3 => ?_)
  refine j_if_ne (tgt := 11) dX6_askedText_4 (by decide) (fun c4 => ?_) (fun c4 => ?_)
  · refine j_aload_n dX6_askedText_11 rfl ?_
    refine jg_X6_26 z_20 dX6_askedText_12 ?_
    refine j_iload_n dX6_askedText_15 rfl ?_
    refine j_iald (ic_25 _) z_25 dX6_askedText_16 (fun q5 => ?_)
    refine j_if_ge (tgt := 28) dX6_askedText_17 (by decide) (fun c6 => ?_) (fun c6 => ?_)
    · refine j_iconst (v := (0 : Int32)) dX6_askedText_28 (by decide) ?_
      exact j_iret dX6_askedText_29
    · refine j_aload_n dX6_askedText_20 rfl ?_
      refine j_iconst (v := (1 : Int32)) dX6_askedText_21 (by decide) ?_
      refine jc_X6_59 (ct_X6_meet _  _) (by decide) z_20 (Nat.le_of_ble_eq_true rfl) dX6_askedText_22 (fun v7 h8 e9 => ?_)
      refine j_goto (tgt := 29) dX6_askedText_25 (by decide) ?_
      exact j_iret dX6_askedText_29
  · refine j_iconst (v := (-1 : Int32)) dX6_askedText_7 (by decide) ?_
    refine j_goto (tgt := 29) dX6_askedText_8 (by decide) ?_
    exact j_iret dX6_askedText_29
set_option maxRecDepth 20000 in
theorem w_X6_asksOf_b29  (a1 : Int32)  (h : Hp) : J encI RX6 cX6_asksOf 3 (some .int) 2 29 [(0, aR 20 0), (1, aI a1)] [] h (f_X6_asksOf_b29  a1 h) := by
  unfold f_X6_asksOf_b29
  refine j_aload_n dX6_asksOf_29 rfl ?_
  refine j_iload_n dX6_asksOf_30 rfl ?_
  refine jc_X6_192 (ct_X6_marksOf _  _) (by decide) z_20 (Nat.le_of_ble_eq_true rfl) dX6_asksOf_31 (fun v1 h2 e3 => ?_)
  exact j_iret dX6_asksOf_34
set_option maxRecDepth 20000 in
theorem ct_X6_asksOf (a1 : Int32)  (h : Hp) : Ct encI yX6_asksOf cX6_asksOf 3 (some .int) 2 [aR 20 0, aI a1] h (f_X6_asksOf a1 h) := by
  refine ct_of [(0, aR 20 0), (1, aI a1)] (by decide) (fun _ => rfl) (fun _ => Nat.le_of_ble_eq_true rfl) ?_
  show J encI RX6 cX6_asksOf 3 (some .int) 2 0 [(0, aR 20 0), (1, aI a1)] [] h (f_X6_asksOf a1 h)
  unfold f_X6_asksOf
  refine j_aload_n dX6_asksOf_0 rfl ?_
  refine j_iload_n dX6_asksOf_1 rfl ?_
  refine j_bipush (v := (6 : Int32)) dX6_asksOf_2 (by decide) ?_
  refine jc_X6_89 (ct_X6_of _ _  _) (by decide) z_20 (Nat.le_of_ble_eq_true rfl) dX6_asksOf_4 (fun v1 h2 e3 => ?_)
  refine j_istore_n dX6_asksOf_7 (by decide) ?_
  refine j_iload_n dX6_asksOf_8 rfl ?_
  refine j_bipush (v := (-9 : Int32)) dX6_asksOf_9 (by decide) ?_
  refine j_icmp_eq (tgt := 29) dX6_asksOf_11 (by decide) (fun c4 => ?_) (fun c4 => ?_)
  · exact j_weak rfl (w_X6_asksOf_b29  _  _)
  · refine j_aload_n dX6_asksOf_14 rfl ?_
    refine jg_X6_132 z_20 dX6_asksOf_15 ?_
    refine j_iload_n dX6_asksOf_18 rfl ?_
    refine jc_X6_150 (ct_X6_has _ _  _) (by decide) (Nat.le_of_ble_eq_true rfl) dX6_asksOf_19 (fun v5 h6 e7 => ?_)
    refine j_if_ne (tgt := 29) dX6_asksOf_22 (by decide) (fun c8 => ?_) (fun c8 => ?_)
    · exact j_weak rfl (w_X6_asksOf_b29  _  _)
    · refine j_iconst (v := (0 : Int32)) dX6_asksOf_25 (by decide) ?_
      refine j_goto (tgt := 34) dX6_asksOf_26 (by decide) ?_
      exact j_iret dX6_asksOf_34
set_option maxRecDepth 20000 in
theorem ct_X6_brick (a1 : Int32) (a2 : Int32)  (h : Hp) : Ct encI yX6_brick cX6_brick 3 (some .int) 2 [aR 20 0, aI a1, aI a2] h (f_X6_brick a1 a2 h) := by
  refine ct_of [(0, aR 20 0), (1, aI a1), (2, aI a2)] (by decide) (fun _ => rfl) (fun _ => Nat.le_of_ble_eq_true rfl) ?_
  show J encI RX6 cX6_brick 3 (some .int) 2 0 [(0, aR 20 0), (1, aI a1), (2, aI a2)] [] h (f_X6_brick a1 a2 h)
  unfold f_X6_brick
  refine j_aload_n dX6_brick_0 rfl ?_
  refine j_iload_n dX6_brick_1 rfl ?_
  refine jc_X6_153 (ct_X6_isBrick _  _) (by decide) z_20 (Nat.le_of_ble_eq_true rfl) dX6_brick_2 (fun v1 h2 e3 => ?_)
  refine j_if_eq (tgt := 32) dX6_brick_5 (by decide) (fun c4 => ?_) (fun c4 => ?_)
  · refine j_iconst (v := (-1 : Int32)) dX6_brick_32 (by decide) ?_
    exact j_iret dX6_brick_33
  · refine j_iload_n dX6_brick_8 rfl ?_
    refine j_iconst (v := (0 : Int32)) dX6_brick_9 (by decide) ?_
    refine j_bipush (v := (8 : Int32)) dX6_brick_10 (by decide) ?_
    refine jc_X6_51 (ct_X6_in _ _ _  _) (by decide) (Nat.le_of_ble_eq_true rfl) dX6_brick_12 (fun v5 h6 e7 => ?_)
    refine j_if_eq (tgt := 32) dX6_brick_15 (by decide) (fun c8 => ?_) (fun c8 => ?_)
    · refine j_iconst (v := (-1 : Int32)) dX6_brick_32 (by decide) ?_
      exact j_iret dX6_brick_33
    · refine j_aload_n dX6_brick_18 rfl ?_
      refine j_aload_n dX6_brick_19 rfl ?_
      refine j_iload_n dX6_brick_20 rfl ?_
      refine j_iload_n dX6_brick_21 rfl ?_
      refine jc_X6_156 (ct_X6_brickOf _ _  _) (by decide) z_20 (Nat.le_of_ble_eq_true rfl) dX6_brick_22 (fun v9 h10 e11 => ?_)
      refine j_iconst (v := (1 : Int32)) dX6_brick_25 (by decide) ?_
      refine jc_X6_77 (ct_X6_ask _ _  _) (by decide) z_20 (Nat.le_of_ble_eq_true rfl) dX6_brick_26 (fun v12 h13 e14 => ?_)
      refine j_goto (tgt := 33) dX6_brick_29 (by decide) ?_
      exact j_iret dX6_brick_33
set_option maxRecDepth 20000 in
theorem w_X6_copy_b45    (h : Hp) : J encI RX6 cX6_copy 7 (some .int) 2 45 [(0, aR 20 0)] [] h (f_X6_copy_b45   h) := by
  unfold f_X6_copy_b45
  refine j_aload_n dX6_copy_45 rfl ?_
  refine j_iconst (v := (1 : Int32)) dX6_copy_46 (by decide) ?_
  refine jc_X6_59 (ct_X6_meet _  _) (by decide) z_20 (Nat.le_of_ble_eq_true rfl) dX6_copy_47 (fun v1 h2 e3 => ?_)
  exact j_iret dX6_copy_50
set_option maxRecDepth 20000 in
theorem w_X6_copy_b95    (h : Hp) : J encI RX6 cX6_copy 7 (some .int) 2 95 [(0, aR 20 0)] [] h (f_X6_copy_b95   h) := by
  unfold f_X6_copy_b95
  refine j_aload_n dX6_copy_95 rfl ?_
  refine j_iconst (v := (2 : Int32)) dX6_copy_96 (by decide) ?_
  refine jc_X6_59 (ct_X6_meet _  _) (by decide) z_20 (Nat.le_of_ble_eq_true rfl) dX6_copy_97 (fun v1 h2 e3 => ?_)
  exact j_iret dX6_copy_100
set_option maxRecDepth 20000 in
theorem w_X6_copy_b136  : ∀ (n : Nat) (a3 : Int32) (a4 : Int32) (a5 : Int32) (a6 : Int32)  (h : Hp), J encI RX6 cX6_copy 7 (some .int) 2 136 [(0, aR 20 0), (3, aI a3), (4, aI a4), (5, aI a5), (6, aI a6)] [] h (f_X6_copy_b136  n a3 a4 a5 a6 h) := by
  intro n
  induction n with
  | zero =>
    intros
    exact j_none
  | succ n hk136 =>
    intro a3 a4 a5 a6  h
    show J encI RX6 cX6_copy 7 (some .int) 2 136 [(0, aR 20 0), (3, aI a3), (4, aI a4), (5, aI a5), (6, aI a6)] [] h (f_X6_copy_b136_body  (f_X6_copy_b136  n) a3 a4 a5 a6 h)
    unfold f_X6_copy_b136_body
    refine j_iload dX6_copy_136 rfl ?_
    refine j_iload dX6_copy_138 rfl ?_
    refine j_icmp_ge (tgt := 166) dX6_copy_140 (by decide) (fun c1 => ?_) (fun c1 => ?_)
    · refine j_iconst (v := (1 : Int32)) dX6_copy_166 (by decide) ?_
      exact j_iret dX6_copy_167
    · refine j_aload_n dX6_copy_143 rfl ?_
      refine j_iload_n dX6_copy_144 rfl ?_
      refine j_iload dX6_copy_145 rfl ?_
      refine j_iload dX6_copy_147 rfl ?_
      refine j_iadd dX6_copy_149 ?_
      refine j_aload_n dX6_copy_150 rfl ?_
      refine jg_X6_23 z_20 dX6_copy_151 ?_
      refine j_iload dX6_copy_154 rfl ?_
      refine j_iald (ic_24 _) z_24 dX6_copy_156 (fun q2 => ?_)
      refine jc_X6_66 (ct_X6_setRow _ _ _  _) (by decide) z_20 (Nat.le_of_ble_eq_true rfl) dX6_copy_157 (fun v3 h4 e5 => ?_)
      refine j_iinc (v := (1 : Int32)) dX6_copy_160 rfl (by decide) (by decide) ?_
      refine j_goto (tgt := 136) dX6_copy_163 (by decide) ?_
      exact j_weak rfl (hk136 _ _ _ _  _)
set_option maxRecDepth 20000 in
theorem w_X6_copy_b104  : ∀ (n : Nat) (a1 : Int32) (a2 : Int32) (a3 : Int32) (a4 : Int32) (a5 : Int32) (a6 : Int32)  (h : Hp), J encI RX6 cX6_copy 7 (some .int) 2 104 [(0, aR 20 0), (1, aI a1), (2, aI a2), (3, aI a3), (4, aI a4), (5, aI a5), (6, aI a6)] [] h (f_X6_copy_b104  n a1 a2 a3 a4 a5 a6 h) := by
  intro n
  induction n with
  | zero =>
    intros
    exact j_none
  | succ n hk104 =>
    intro a1 a2 a3 a4 a5 a6  h
    show J encI RX6 cX6_copy 7 (some .int) 2 104 [(0, aR 20 0), (1, aI a1), (2, aI a2), (3, aI a3), (4, aI a4), (5, aI a5), (6, aI a6)] [] h (f_X6_copy_b104_body  (f_X6_copy_b104  n) a1 a2 a3 a4 a5 a6 h)
    unfold f_X6_copy_b104_body
    refine j_iload dX6_copy_104 rfl ?_
    refine j_iload dX6_copy_106 rfl ?_
    refine j_icmp_ge (tgt := 133) dX6_copy_108 (by decide) (fun c1 => ?_) (fun c1 => ?_)
    · refine j_iconst (v := (0 : Int32)) dX6_copy_133 (by decide) ?_
      refine j_istore dX6_copy_134 (by decide) ?_
      exact j_weak rfl (w_X6_copy_b136  _ _ _ _ _  _)
    · refine j_aload_n dX6_copy_111 rfl ?_
      refine jg_X6_23 z_20 dX6_copy_112 ?_
      refine j_iload dX6_copy_115 rfl ?_
      refine j_aload_n dX6_copy_117 rfl ?_
      refine j_iload_n dX6_copy_118 rfl ?_
      refine j_iload_n dX6_copy_119 rfl ?_
      refine j_iload dX6_copy_120 rfl ?_
      refine j_iadd dX6_copy_122 ?_
      refine jc_X6_73 (ct_X6_rowAt _ _  _) (by decide) z_20 (Nat.le_of_ble_eq_true rfl) dX6_copy_123 (fun v2 h3 e4 => ?_)
      refine j_iast (ic_24 _) z_24 dX6_copy_126 (fun q5 => ?_)
      refine j_iinc (v := (1 : Int32)) dX6_copy_127 rfl (by decide) (by decide) ?_
      refine j_goto (tgt := 104) dX6_copy_130 (by decide) ?_
      exact j_weak rfl (hk104 _ _ _ _ _ _  _)
set_option maxRecDepth 20000 in
theorem ct_X6_copy (a1 : Int32) (a2 : Int32) (a3 : Int32) (a4 : Int32) (a5 : Int32)  (h : Hp) : Ct encI yX6_copy cX6_copy 7 (some .int) 2 [aR 20 0, aI a1, aI a2, aI a3, aI a4, aI a5] h (f_X6_copy a1 a2 a3 a4 a5 h) := by
  refine ct_of [(0, aR 20 0), (1, aI a1), (2, aI a2), (3, aI a3), (4, aI a4), (5, aI a5)] (by decide) (fun _ => rfl) (fun _ => Nat.le_of_ble_eq_true rfl) ?_
  show J encI RX6 cX6_copy 7 (some .int) 2 0 [(0, aR 20 0), (1, aI a1), (2, aI a2), (3, aI a3), (4, aI a4), (5, aI a5)] [] h (f_X6_copy a1 a2 a3 a4 a5 h)
  unfold f_X6_copy
  refine j_iload_n dX6_copy_0 rfl ?_
  refine jc_X6_55 (ct_X6_isRow _  _) (by decide) (Nat.le_of_ble_eq_true rfl) dX6_copy_1 (fun v1 h2 e3 => ?_)
  refine j_if_eq (tgt := 14) dX6_copy_4 (by decide) (fun c4 => ?_) (fun c4 => ?_)
  · refine j_iconst (v := (-1 : Int32)) dX6_copy_14 (by decide) ?_
    exact j_iret dX6_copy_15
  · refine j_iload_n dX6_copy_7 rfl ?_
    refine jc_X6_55 (ct_X6_isRow _  _) (by decide) (Nat.le_of_ble_eq_true rfl) dX6_copy_8 (fun v5 h6 e7 => ?_)
    refine j_if_ne (tgt := 16) dX6_copy_11 (by decide) (fun c8 => ?_) (fun c8 => ?_)
    · refine j_iload dX6_copy_16 rfl ?_
      refine j_if_ge (tgt := 27) dX6_copy_18 (by decide) (fun c9 => ?_) (fun c9 => ?_)
      · refine j_aload_n dX6_copy_27 rfl ?_
        refine jg_X6_17 z_20 dX6_copy_28 ?_
        refine j_iload_n dX6_copy_31 rfl ?_
        refine j_iald (ic_22 _) z_22 dX6_copy_32 (fun q10 => ?_)
        refine j_if_lt (tgt := 45) dX6_copy_33 (by decide) (fun c11 => ?_) (fun c11 => ?_)
        · exact j_weak rfl (w_X6_copy_b45    _)
        · refine j_aload_n dX6_copy_36 rfl ?_
          refine jg_X6_17 z_20 dX6_copy_37 ?_
          refine j_iload_n dX6_copy_40 rfl ?_
          refine j_iald (ic_22 _) z_22 dX6_copy_41 (fun q12 => ?_)
          refine j_if_ge (tgt := 51) dX6_copy_42 (by decide) (fun c13 => ?_) (fun c13 => ?_)
          · refine j_iload_n dX6_copy_51 rfl ?_
            refine j_if_lt (tgt := 95) dX6_copy_52 (by decide) (fun c14 => ?_) (fun c14 => ?_)
            · exact j_weak rfl (w_X6_copy_b95    _)
            · refine j_iload dX6_copy_55 rfl ?_
              refine j_if_lt (tgt := 95) dX6_copy_57 (by decide) (fun c15 => ?_) (fun c15 => ?_)
              · exact j_weak rfl (w_X6_copy_b95    _)
              · refine j_iload_n dX6_copy_60 rfl ?_
                refine j_i2l dX6_copy_61 ?_
                refine j_iload dX6_copy_62 rfl ?_
                refine j_i2l dX6_copy_64 ?_
                refine j_ladd dX6_copy_65 ?_
                refine j_aload_n dX6_copy_66 rfl ?_
                refine jg_X6_17 z_20 dX6_copy_67 ?_
                refine j_iload_n dX6_copy_70 rfl ?_
                refine j_iald (ic_22 _) z_22 dX6_copy_71 (fun q16 => ?_)
                refine j_i2l dX6_copy_72 ?_
                refine j_lcmp dX6_copy_73 ?_
                refine j_if_gt (tgt := 95) dX6_copy_74 (by decide) (fun c17 => ?_) (fun c17 => ?_)
                · exact j_weak rfl (w_X6_copy_b95    _)
                · refine j_iload dX6_copy_77 rfl ?_
                  refine j_i2l dX6_copy_79 ?_
                  refine j_iload dX6_copy_80 rfl ?_
                  refine j_i2l dX6_copy_82 ?_
                  refine j_ladd dX6_copy_83 ?_
                  refine j_aload_n dX6_copy_84 rfl ?_
                  refine jg_X6_17 z_20 dX6_copy_85 ?_
                  refine j_iload_n dX6_copy_88 rfl ?_
                  refine j_iald (ic_22 _) z_22 dX6_copy_89 (fun q18 => ?_)
                  refine j_i2l dX6_copy_90 ?_
                  refine j_lcmp dX6_copy_91 ?_
                  refine j_if_le (tgt := 101) dX6_copy_92 (by decide) (fun c19 => ?_) (fun c19 => ?_)
                  · refine j_iconst (v := (0 : Int32)) dX6_copy_101 (by decide) ?_
                    refine j_istore dX6_copy_102 (by decide) ?_
                    exact j_weak rfl (w_X6_copy_b104  _ _ _ _ _ _ _  _)
                  · exact j_weak rfl (w_X6_copy_b95    _)
          · exact j_weak rfl (w_X6_copy_b45    _)
      · refine j_aload_n dX6_copy_21 rfl ?_
        refine j_iconst (v := (5 : Int32)) dX6_copy_22 (by decide) ?_
        refine jc_X6_59 (ct_X6_meet _  _) (by decide) z_20 (Nat.le_of_ble_eq_true rfl) dX6_copy_23 (fun v20 h21 e22 => ?_)
        exact j_iret dX6_copy_26
    · refine j_iconst (v := (-1 : Int32)) dX6_copy_14 (by decide) ?_
      exact j_iret dX6_copy_15
set_option maxRecDepth 20000 in
theorem ct_X6_count (a1 : Int32)  (h : Hp) : Ct encI yX6_count cX6_count 2 (some .int) 2 [aR 20 0, aI a1] h (f_X6_count a1 h) := by
  refine ct_of [(0, aR 20 0), (1, aI a1)] (by decide) (fun _ => rfl) (fun _ => Nat.le_of_ble_eq_true rfl) ?_
  show J encI RX6 cX6_count 2 (some .int) 2 0 [(0, aR 20 0), (1, aI a1)] [] h (f_X6_count a1 h)
  unfold f_X6_count
  refine j_iload_n dX6_count_0 rfl ?_
  refine j_iconst (v := (0 : Int32)) dX6_count_1 (by decide) ?_
  refine j_bipush (v := (7 : Int32)) dX6_count_2 (by decide) ?_
  refine jc_X6_51 (ct_X6_in _ _ _  _) (by decide) (Nat.le_of_ble_eq_true rfl) dX6_count_4 (fun v1 h2 e3 => ?_)
  refine j_if_eq (tgt := 18) dX6_count_7 (by decide) (fun c4 => ?_) (fun c4 => ?_)
  · refine j_iconst (v := (-1 : Int32)) dX6_count_18 (by decide) ?_
    exact j_iret dX6_count_19
  · refine j_aload_n dX6_count_10 rfl ?_
    refine j_iload_n dX6_count_11 rfl ?_
    refine jc_X6_224 (ct_X6_counts _  _) (by decide) z_20 (Nat.le_of_ble_eq_true rfl) dX6_count_12 (fun v5 h6 e7 => ?_)
    refine j_goto (tgt := 19) dX6_count_15 (by decide) ?_
    exact j_iret dX6_count_19
set_option maxRecDepth 20000 in
theorem w_X6_few_b70 (kont19 : Int32 → Int32 → Int32 → Hp → Option (Int32 × Hp)) (hk19 : ∀ (a1 : Int32) (a2 : Int32) (a3 : Int32)  (h : Hp), J encI RX6 cX6_few 6 (some .int) 2 19 [(0, aR 20 0), (1, aI a1), (2, aI a2), (3, aI a3)] [] h (kont19 a1 a2 a3 h)) (kont31 : Int32 → Int32 → Int32 → Int32 → Int32 → Hp → Option (Int32 × Hp)) (hk31 : ∀ (a1 : Int32) (a2 : Int32) (a3 : Int32) (a4 : Int32) (a5 : Int32)  (h : Hp), J encI RX6 cX6_few 6 (some .int) 2 31 [(0, aR 20 0), (1, aI a1), (2, aI a2), (3, aI a3), (4, aI a4), (5, aI a5)] [] h (kont31 a1 a2 a3 a4 a5 h)) (a1 : Int32) (a2 : Int32) (a3 : Int32) (a5 : Int32) (s0 : Int32)  (h : Hp) : J encI RX6 cX6_few 6 (some .int) 2 70 [(0, aR 20 0), (1, aI a1), (2, aI a2), (3, aI a3), (5, aI a5)] [aI s0] h (f_X6_few_b70 kont19 kont31 a1 a2 a3 a5 s0 h) := by
  unfold f_X6_few_b70
  refine j_istore dX6_few_70 (by decide) ?_
  refine j_iinc (v := (1 : Int32)) dX6_few_72 rfl (by decide) (by decide) ?_
  refine j_goto (tgt := 31) dX6_few_75 (by decide) ?_
  exact j_weak rfl (hk31 _ _ _ _ _  _)
set_option maxRecDepth 20000 in
theorem w_X6_few_b65 (kont19 : Int32 → Int32 → Int32 → Hp → Option (Int32 × Hp)) (hk19 : ∀ (a1 : Int32) (a2 : Int32) (a3 : Int32)  (h : Hp), J encI RX6 cX6_few 6 (some .int) 2 19 [(0, aR 20 0), (1, aI a1), (2, aI a2), (3, aI a3)] [] h (kont19 a1 a2 a3 h)) (kont31 : Int32 → Int32 → Int32 → Int32 → Int32 → Hp → Option (Int32 × Hp)) (hk31 : ∀ (a1 : Int32) (a2 : Int32) (a3 : Int32) (a4 : Int32) (a5 : Int32)  (h : Hp), J encI RX6 cX6_few 6 (some .int) 2 31 [(0, aR 20 0), (1, aI a1), (2, aI a2), (3, aI a3), (4, aI a4), (5, aI a5)] [] h (kont31 a1 a2 a3 a4 a5 h)) (a1 : Int32) (a2 : Int32) (a3 : Int32) (a5 : Int32)  (h : Hp) : J encI RX6 cX6_few 6 (some .int) 2 65 [(0, aR 20 0), (1, aI a1), (2, aI a2), (3, aI a3), (5, aI a5)] [] h (f_X6_few_b65 kont19 kont31 a1 a2 a3 a5 h) := by
  unfold f_X6_few_b65
  refine j_iconst (v := (1 : Int32)) dX6_few_65 (by decide) ?_
  refine j_goto (tgt := 70) dX6_few_66 (by decide) ?_
  exact j_weak rfl (w_X6_few_b70 _ hk19 _ hk31 _ _ _ _ _  _)
set_option maxRecDepth 20000 in
theorem w_X6_few_b69 (kont19 : Int32 → Int32 → Int32 → Hp → Option (Int32 × Hp)) (hk19 : ∀ (a1 : Int32) (a2 : Int32) (a3 : Int32)  (h : Hp), J encI RX6 cX6_few 6 (some .int) 2 19 [(0, aR 20 0), (1, aI a1), (2, aI a2), (3, aI a3)] [] h (kont19 a1 a2 a3 h)) (kont31 : Int32 → Int32 → Int32 → Int32 → Int32 → Hp → Option (Int32 × Hp)) (hk31 : ∀ (a1 : Int32) (a2 : Int32) (a3 : Int32) (a4 : Int32) (a5 : Int32)  (h : Hp), J encI RX6 cX6_few 6 (some .int) 2 31 [(0, aR 20 0), (1, aI a1), (2, aI a2), (3, aI a3), (4, aI a4), (5, aI a5)] [] h (kont31 a1 a2 a3 a4 a5 h)) (a1 : Int32) (a2 : Int32) (a3 : Int32) (a5 : Int32)  (h : Hp) : J encI RX6 cX6_few 6 (some .int) 2 69 [(0, aR 20 0), (1, aI a1), (2, aI a2), (3, aI a3), (5, aI a5)] [] h (f_X6_few_b69 kont19 kont31 a1 a2 a3 a5 h) := by
  unfold f_X6_few_b69
  refine j_iconst (v := (0 : Int32)) dX6_few_69 (by decide) ?_
  exact j_weak rfl (w_X6_few_b70 _ hk19 _ hk31 _ _ _ _ _  _)
set_option maxRecDepth 20000 in
theorem w_X6_few_b99 (kont19 : Int32 → Int32 → Int32 → Hp → Option (Int32 × Hp)) (hk19 : ∀ (a1 : Int32) (a2 : Int32) (a3 : Int32)  (h : Hp), J encI RX6 cX6_few 6 (some .int) 2 19 [(0, aR 20 0), (1, aI a1), (2, aI a2), (3, aI a3)] [] h (kont19 a1 a2 a3 h)) (a1 : Int32) (a3 : Int32) (s0 : Int32)  (h : Hp) : J encI RX6 cX6_few 6 (some .int) 2 99 [(0, aR 20 0), (1, aI a1), (3, aI a3)] [aI s0] h (f_X6_few_b99 kont19 a1 a3 s0 h) := by
  unfold f_X6_few_b99
  refine j_istore_n dX6_few_99 (by decide) ?_
  refine j_iinc (v := (1 : Int32)) dX6_few_100 rfl (by decide) (by decide) ?_
  refine j_goto (tgt := 19) dX6_few_103 (by decide) ?_
  exact j_weak rfl (hk19 _ _ _  _)
set_option maxRecDepth 20000 in
theorem w_X6_few_b98 (kont19 : Int32 → Int32 → Int32 → Hp → Option (Int32 × Hp)) (hk19 : ∀ (a1 : Int32) (a2 : Int32) (a3 : Int32)  (h : Hp), J encI RX6 cX6_few 6 (some .int) 2 19 [(0, aR 20 0), (1, aI a1), (2, aI a2), (3, aI a3)] [] h (kont19 a1 a2 a3 h)) (a1 : Int32) (a2 : Int32) (a3 : Int32)  (h : Hp) : J encI RX6 cX6_few 6 (some .int) 2 98 [(0, aR 20 0), (1, aI a1), (2, aI a2), (3, aI a3)] [] h (f_X6_few_b98 kont19 a1 a2 a3 h) := by
  unfold f_X6_few_b98
  refine j_iload_n dX6_few_98 rfl ?_
  exact j_weak rfl (w_X6_few_b99 _ hk19 _ _ _  _)
set_option maxRecDepth 20000 in
theorem w_X6_few_b31 (kont19 : Int32 → Int32 → Int32 → Hp → Option (Int32 × Hp)) (hk19 : ∀ (a1 : Int32) (a2 : Int32) (a3 : Int32)  (h : Hp), J encI RX6 cX6_few 6 (some .int) 2 19 [(0, aR 20 0), (1, aI a1), (2, aI a2), (3, aI a3)] [] h (kont19 a1 a2 a3 h)) : ∀ (n : Nat) (a1 : Int32) (a2 : Int32) (a3 : Int32) (a4 : Int32) (a5 : Int32)  (h : Hp), J encI RX6 cX6_few 6 (some .int) 2 31 [(0, aR 20 0), (1, aI a1), (2, aI a2), (3, aI a3), (4, aI a4), (5, aI a5)] [] h (f_X6_few_b31 kont19 n a1 a2 a3 a4 a5 h) := by
  intro n
  induction n with
  | zero =>
    intros
    exact j_none
  | succ n hk31 =>
    intro a1 a2 a3 a4 a5  h
    show J encI RX6 cX6_few 6 (some .int) 2 31 [(0, aR 20 0), (1, aI a1), (2, aI a2), (3, aI a3), (4, aI a4), (5, aI a5)] [] h (f_X6_few_b31_body kont19 (f_X6_few_b31 kont19 n) a1 a2 a3 a4 a5 h)
    unfold f_X6_few_b31_body
    refine j_iload dX6_few_31 rfl ?_
    refine j_aload_n dX6_few_33 rfl ?_
    refine jg_X6_129 z_20 dX6_few_34 ?_
    refine j_icmp_ge (tgt := 78) dX6_few_37 (by decide) (fun c1 => ?_) (fun c1 => ?_)
    · refine j_iload dX6_few_78 rfl ?_
      refine j_if_eq (tgt := 98) dX6_few_80 (by decide) (fun c2 => ?_) (fun c2 => ?_)
      · exact j_weak rfl (w_X6_few_b98 _ hk19 _ _ _  _)
      · refine j_iload_n dX6_few_83 rfl ?_
        refine jc_X6_174 (ct_X6_sizeOf _  _) (by decide) (Nat.le_of_ble_eq_true rfl) dX6_few_84 (fun v3 h4 e5 => ?_)
        refine j_iload_n dX6_few_87 rfl ?_
        refine jc_X6_174 (ct_X6_sizeOf _  _) (by decide) (Nat.le_of_ble_eq_true rfl) dX6_few_88 (fun v6 h7 e8 => ?_)
        refine j_icmp_ge (tgt := 98) dX6_few_91 (by decide) (fun c9 => ?_) (fun c9 => ?_)
        · exact j_weak rfl (w_X6_few_b98 _ hk19 _ _ _  _)
        · refine j_iload_n dX6_few_94 rfl ?_
          refine j_goto (tgt := 99) dX6_few_95 (by decide) ?_
          exact j_weak rfl (w_X6_few_b99 _ hk19 _ _ _  _)
    · refine j_iload dX6_few_40 rfl ?_
      refine j_if_eq (tgt := 69) dX6_few_42 (by decide) (fun c10 => ?_) (fun c10 => ?_)
      · exact j_weak rfl (w_X6_few_b69 _ hk19 _ hk31 _ _ _ _  _)
      · refine j_iload_n dX6_few_45 rfl ?_
        refine j_iload dX6_few_46 rfl ?_
        refine jc_X6_150 (ct_X6_has _ _  _) (by decide) (Nat.le_of_ble_eq_true rfl) dX6_few_48 (fun v11 h12 e13 => ?_)
        refine j_if_eq (tgt := 65) dX6_few_51 (by decide) (fun c14 => ?_) (fun c14 => ?_)
        · exact j_weak rfl (w_X6_few_b65 _ hk19 _ hk31 _ _ _ _  _)
        · refine j_aload_n dX6_few_54 rfl ?_
          refine j_iload dX6_few_55 rfl ?_
          refine jc_X6_192 (ct_X6_marksOf _  _) (by decide) z_20 (Nat.le_of_ble_eq_true rfl) dX6_few_57 (fun v15 h16 e17 => ?_)
          refine j_iload_n dX6_few_60 rfl ?_
          refine j_iand dX6_few_61 ?_
          refine j_if_eq (tgt := 69) dX6_few_62 (by decide) (fun c18 => ?_) (fun c18 => ?_)
          · exact j_weak rfl (w_X6_few_b69 _ hk19 _ hk31 _ _ _ _  _)
          · exact j_weak rfl (w_X6_few_b65 _ hk19 _ hk31 _ _ _ _  _)
