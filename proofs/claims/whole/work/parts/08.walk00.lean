set_option maxRecDepth 20000 in
theorem ct_J6_bitCount (a0 : Int32)  (h : Hp) : Ct encI yJ6_bitCount_0f7a4 cJ6_bitCount_0f7a4 1 (some .int) 0 [aI a0] h (f_J6_bitCount a0 h) := by
  refine ct_of [(0, aI a0)] (by decide) (fun _ => rfl) (fun _ => Nat.le_of_ble_eq_true rfl) ?_
  show J encI RJ6 cJ6_bitCount_0f7a4 1 (some .int) 0 0 [(0, aI a0)] [] h (f_J6_bitCount a0 h)
  unfold f_J6_bitCount
  refine j_iload_n dJ6_bitCount_0f7a4_0 rfl ?_
  refine j_iload_n dJ6_bitCount_0f7a4_1 rfl ?_
  refine j_iconst (v := (1 : Int32)) dJ6_bitCount_0f7a4_2 (by decide) ?_
  refine j_iushr dJ6_bitCount_0f7a4_3 ?_
  refine j_ldcw (v := (1431655765 : Int32)) dJ6_bitCount_0f7a4_4 (gt_m 470 rfl rfl) ?_
  refine j_iand dJ6_bitCount_0f7a4_7 ?_
  refine j_isub dJ6_bitCount_0f7a4_8 ?_
  refine j_istore_n dJ6_bitCount_0f7a4_9 (by decide) ?_
  refine j_iload_n dJ6_bitCount_0f7a4_10 rfl ?_
  refine j_ldcw (v := (858993459 : Int32)) dJ6_bitCount_0f7a4_11 (gt_m 471 rfl rfl) ?_
  refine j_iand dJ6_bitCount_0f7a4_14 ?_
  refine j_iload_n dJ6_bitCount_0f7a4_15 rfl ?_
  refine j_iconst (v := (2 : Int32)) dJ6_bitCount_0f7a4_16 (by decide) ?_
  refine j_iushr dJ6_bitCount_0f7a4_17 ?_
  refine j_ldcw (v := (858993459 : Int32)) dJ6_bitCount_0f7a4_18 (gt_m 471 rfl rfl) ?_
  refine j_iand dJ6_bitCount_0f7a4_21 ?_
  refine j_iadd dJ6_bitCount_0f7a4_22 ?_
  refine j_istore_n dJ6_bitCount_0f7a4_23 (by decide) ?_
  refine j_iload_n dJ6_bitCount_0f7a4_24 rfl ?_
  refine j_iload_n dJ6_bitCount_0f7a4_25 rfl ?_
  refine j_iconst (v := (4 : Int32)) dJ6_bitCount_0f7a4_26 (by decide) ?_
  refine j_iushr dJ6_bitCount_0f7a4_27 ?_
  refine j_iadd dJ6_bitCount_0f7a4_28 ?_
  refine j_ldcw (v := (252645135 : Int32)) dJ6_bitCount_0f7a4_29 (gt_m 472 rfl rfl) ?_
  refine j_iand dJ6_bitCount_0f7a4_32 ?_
  refine j_istore_n dJ6_bitCount_0f7a4_33 (by decide) ?_
  refine j_iload_n dJ6_bitCount_0f7a4_34 rfl ?_
  refine j_iload_n dJ6_bitCount_0f7a4_35 rfl ?_
  refine j_bipush (v := (8 : Int32)) dJ6_bitCount_0f7a4_36 (by decide) ?_
  refine j_iushr dJ6_bitCount_0f7a4_38 ?_
  refine j_iadd dJ6_bitCount_0f7a4_39 ?_
  refine j_istore_n dJ6_bitCount_0f7a4_40 (by decide) ?_
  refine j_iload_n dJ6_bitCount_0f7a4_41 rfl ?_
  refine j_iload_n dJ6_bitCount_0f7a4_42 rfl ?_
  refine j_bipush (v := (16 : Int32)) dJ6_bitCount_0f7a4_43 (by decide) ?_
  refine j_iushr dJ6_bitCount_0f7a4_45 ?_
  refine j_iadd dJ6_bitCount_0f7a4_46 ?_
  refine j_istore_n dJ6_bitCount_0f7a4_47 (by decide) ?_
  refine j_iload_n dJ6_bitCount_0f7a4_48 rfl ?_
  refine j_bipush (v := (63 : Int32)) dJ6_bitCount_0f7a4_49 (by decide) ?_
  refine j_iand dJ6_bitCount_0f7a4_51 ?_
  exact j_iret dJ6_bitCount_0f7a4_52
set_option maxRecDepth 20000 in
theorem w_X0_debt_b31  (a0 : Nat) (a2 : Int32) (s0 : Int32) (h_a0 : a0 < cnt 17) (h : Hp) : J encI RX0 cX0_debt 3 (some .int) 0 31 [(0, aR 17 a0), (2, aI a2)] [aI s0] h (f_X0_debt_b31  a0 a2 s0 h) := by
  unfold f_X0_debt_b31
  refine j_aload_n dX0_debt_31 rfl ?_
  refine jg_X0_37 h_a0 dX0_debt_32 ?_
  refine j_iload_n dX0_debt_35 rfl ?_
  refine j_icmp_ne (tgt := 43) dX0_debt_36 (by decide) (fun c1 => ?_) (fun c1 => ?_)
  · refine j_iconst (v := (0 : Int32)) dX0_debt_43 (by decide) ?_
    refine j_iadd dX0_debt_44 ?_
    exact j_iret dX0_debt_45
  · refine j_iconst (v := (1 : Int32)) dX0_debt_39 (by decide) ?_
    refine j_goto (tgt := 44) dX0_debt_40 (by decide) ?_
    refine j_iadd dX0_debt_44 ?_
    exact j_iret dX0_debt_45
set_option maxRecDepth 20000 in
theorem ct_X0_debt (a0 : Nat) (a1 : Int32) (a2 : Int32) (h_a0 : a0 < cnt 17) (h : Hp) : Ct encI yX0_debt cX0_debt 3 (some .int) 0 [aR 17 a0, aI a1, aI a2] h (f_X0_debt a0 a1 a2 h) := by
  refine ct_of [(0, aR 17 a0), (1, aI a1), (2, aI a2)] (by decide) (fun _ => rfl) (fun _ => Nat.le_of_ble_eq_true rfl) ?_
  show J encI RX0 cX0_debt 3 (some .int) 0 0 [(0, aR 17 a0), (1, aI a1), (2, aI a2)] [] h (f_X0_debt a0 a1 a2 h)
  unfold f_X0_debt
  refine j_aload_n dX0_debt_0 rfl ?_
  refine jg_X0_9 h_a0 dX0_debt_1 ?_
  refine j_iconst (v := (2 : Int32)) dX0_debt_4 (by decide) ?_
  refine j_icmp_eq (tgt := 16) dX0_debt_5 (by decide) (fun c1 => ?_) (fun c1 => ?_)
  · refine j_iconst (v := (0 : Int32)) dX0_debt_16 (by decide) ?_
    exact j_iret dX0_debt_17
  · refine j_aload_n dX0_debt_8 rfl ?_
    refine jg_X0_31 h_a0 dX0_debt_9 ?_
    refine j_iload_n dX0_debt_12 rfl ?_
    refine j_icmp_eq (tgt := 18) dX0_debt_13 (by decide) (fun c2 => ?_) (fun c2 => ?_)
    · refine j_aload_n dX0_debt_18 rfl ?_
      refine jg_X0_34 h_a0 dX0_debt_19 ?_
      refine j_iload_n dX0_debt_22 rfl ?_
      refine j_icmp_ne (tgt := 30) dX0_debt_23 (by decide) (fun c3 => ?_) (fun c3 => ?_)
      · refine j_iconst (v := (0 : Int32)) dX0_debt_30 (by decide) ?_
        exact j_weak rfl (w_X0_debt_b31  _ _ _ h_a0 _)
      · refine j_iconst (v := (1 : Int32)) dX0_debt_26 (by decide) ?_
        refine j_goto (tgt := 31) dX0_debt_27 (by decide) ?_
        exact j_weak rfl (w_X0_debt_b31  _ _ _ h_a0 _)
    · refine j_iconst (v := (0 : Int32)) dX0_debt_16 (by decide) ?_
      exact j_iret dX0_debt_17
set_option maxRecDepth 20000 in
theorem ct_X0_isBridge (a0 : Nat) (h_a0 : a0 < cnt 17) (h : Hp) : Ct encI yX0_isBridge cX0_isBridge 1 (some .boolean) 0 [aR 17 a0] h (f_X0_isBridge a0 h) := by
  refine ct_of [(0, aR 17 a0)] (by decide) (fun _ => rfl) (fun _ => Nat.le_of_ble_eq_true rfl) ?_
  show J encI RX0 cX0_isBridge 1 (some .boolean) 0 0 [(0, aR 17 a0)] [] h (f_X0_isBridge a0 h)
  unfold f_X0_isBridge
  refine j_aload_n dX0_isBridge_0 rfl ?_
  refine jg_X0_9 h_a0 dX0_isBridge_1 ?_
  refine j_iconst (v := (4 : Int32)) dX0_isBridge_4 (by decide) ?_
  refine j_icmp_lt (tgt := 12) dX0_isBridge_5 (by decide) (fun c1 => ?_) (fun c1 => ?_)
  · refine j_iconst (v := (0 : Int32)) dX0_isBridge_12 (by decide) ?_
    exact j_zret (Or.inl rfl) dX0_isBridge_13
  · refine j_iconst (v := (1 : Int32)) dX0_isBridge_8 (by decide) ?_
    refine j_goto (tgt := 13) dX0_isBridge_9 (by decide) ?_
    exact j_zret (Or.inr rfl) dX0_isBridge_13
set_option maxRecDepth 20000 in
theorem ct_X0_isOf (a0 : Nat) (a1 : Int32) (h_a0 : a0 < cnt 17) (h : Hp) : Ct encI yX0_isOf cX0_isOf 2 (some .boolean) 0 [aR 17 a0, aI a1] h (f_X0_isOf a0 a1 h) := by
  refine ct_of [(0, aR 17 a0), (1, aI a1)] (by decide) (fun _ => rfl) (fun _ => Nat.le_of_ble_eq_true rfl) ?_
  show J encI RX0 cX0_isOf 2 (some .boolean) 0 0 [(0, aR 17 a0), (1, aI a1)] [] h (f_X0_isOf a0 a1 h)
  unfold f_X0_isOf
  refine j_aload_n dX0_isOf_0 rfl ?_
  refine jg_X0_9 h_a0 dX0_isOf_1 ?_
  refine j_iload_n dX0_isOf_4 rfl ?_
  refine j_icmp_eq (tgt := 21) dX0_isOf_5 (by decide) (fun c1 => ?_) (fun c1 => ?_)
  · refine j_iconst (v := (1 : Int32)) dX0_isOf_21 (by decide) ?_
    refine j_goto (tgt := 26) dX0_isOf_22 (by decide) ?_
    exact j_zret (Or.inr rfl) dX0_isOf_26
  · refine j_iload_n dX0_isOf_8 rfl ?_
    refine j_iconst (v := (4 : Int32)) dX0_isOf_9 (by decide) ?_
    refine j_icmp_ne (tgt := 25) dX0_isOf_10 (by decide) (fun c2 => ?_) (fun c2 => ?_)
    · refine j_iconst (v := (0 : Int32)) dX0_isOf_25 (by decide) ?_
      exact j_zret (Or.inl rfl) dX0_isOf_26
    · refine j_aload_n dX0_isOf_13 rfl ?_
      refine jg_X0_9 h_a0 dX0_isOf_14 ?_
      refine j_iconst (v := (5 : Int32)) dX0_isOf_17 (by decide) ?_
      refine j_icmp_ne (tgt := 25) dX0_isOf_18 (by decide) (fun c3 => ?_) (fun c3 => ?_)
      · refine j_iconst (v := (0 : Int32)) dX0_isOf_25 (by decide) ?_
        exact j_zret (Or.inl rfl) dX0_isOf_26
      · refine j_iconst (v := (1 : Int32)) dX0_isOf_21 (by decide) ?_
        refine j_goto (tgt := 26) dX0_isOf_22 (by decide) ?_
        exact j_zret (Or.inr rfl) dX0_isOf_26
set_option maxRecDepth 20000 in
theorem ct_X0_lengthOf (a0 : Int32)  (h : Hp) : Ct encI yX0_lengthOf cX0_lengthOf 1 (some .int) 0 [aI a0] h (f_X0_lengthOf a0 h) := by
  refine ct_of [(0, aI a0)] (by decide) (fun _ => rfl) (fun _ => Nat.le_of_ble_eq_true rfl) ?_
  show J encI RX0 cX0_lengthOf 1 (some .int) 0 0 [(0, aI a0)] [] h (f_X0_lengthOf a0 h)
  unfold f_X0_lengthOf
  refine j_iload_n dX0_lengthOf_0 rfl ?_
  refine j_iconst (v := (4 : Int32)) dX0_lengthOf_1 (by decide) ?_
  refine j_icmp_lt (tgt := 9) dX0_lengthOf_2 (by decide) (fun c1 => ?_) (fun c1 => ?_)
  · refine j_iconst (v := (2 : Int32)) dX0_lengthOf_9 (by decide) ?_
    exact j_iret dX0_lengthOf_10
  · refine j_iconst (v := (3 : Int32)) dX0_lengthOf_5 (by decide) ?_
    refine j_goto (tgt := 10) dX0_lengthOf_6 (by decide) ?_
    exact j_iret dX0_lengthOf_10
set_option maxRecDepth 20000 in
theorem w_X0_maskOf_b11  (a1 : Int32) (s0 : Int32)  (h : Hp) : J encI RX0 cX0_maskOf 2 (some .int) 0 11 [(1, aI a1)] [aI s0] h (f_X0_maskOf_b11  a1 s0 h) := by
  unfold f_X0_maskOf_b11
  refine j_iload_n dX0_maskOf_11 rfl ?_
  refine j_iconst (v := (1 : Int32)) dX0_maskOf_12 (by decide) ?_
  refine j_iadd dX0_maskOf_13 ?_
  refine j_ishl dX0_maskOf_14 ?_
  exact j_iret dX0_maskOf_15
set_option maxRecDepth 20000 in
theorem ct_X0_maskOf (a0 : Int32) (a1 : Int32)  (h : Hp) : Ct encI yX0_maskOf cX0_maskOf 2 (some .int) 0 [aI a0, aI a1] h (f_X0_maskOf a0 a1 h) := by
  refine ct_of [(0, aI a0), (1, aI a1)] (by decide) (fun _ => rfl) (fun _ => Nat.le_of_ble_eq_true rfl) ?_
  show J encI RX0 cX0_maskOf 2 (some .int) 0 0 [(0, aI a0), (1, aI a1)] [] h (f_X0_maskOf a0 a1 h)
  unfold f_X0_maskOf
  refine j_iload_n dX0_maskOf_0 rfl ?_
  refine j_iconst (v := (4 : Int32)) dX0_maskOf_1 (by decide) ?_
  refine j_icmp_lt (tgt := 10) dX0_maskOf_2 (by decide) (fun c1 => ?_) (fun c1 => ?_)
  · refine j_iconst (v := (3 : Int32)) dX0_maskOf_10 (by decide) ?_
    exact j_weak rfl (w_X0_maskOf_b11  _ _  _)
  · refine j_bipush (v := (7 : Int32)) dX0_maskOf_5 (by decide) ?_
    refine j_goto (tgt := 11) dX0_maskOf_7 (by decide) ?_
    exact j_weak rfl (w_X0_maskOf_b11  _ _  _)
set_option maxRecDepth 20000 in
theorem ct_X0_middle (a0 : Nat) (h_a0 : a0 < cnt 17) (h : Hp) : Ct encI yX0_middle cX0_middle 1 (some .int) 0 [aR 17 a0] h (f_X0_middle a0 h) := by
  refine ct_of [(0, aR 17 a0)] (by decide) (fun _ => rfl) (fun _ => Nat.le_of_ble_eq_true rfl) ?_
  show J encI RX0 cX0_middle 1 (some .int) 0 0 [(0, aR 17 a0)] [] h (f_X0_middle a0 h)
  unfold f_X0_middle
  refine j_iconst (v := (2 : Int32)) dX0_middle_0 (by decide) ?_
  refine j_aload_n dX0_middle_1 rfl ?_
  refine jg_X0_18 h_a0 dX0_middle_2 ?_
  refine j_iconst (v := (1 : Int32)) dX0_middle_5 (by decide) ?_
  refine j_iadd dX0_middle_6 ?_
  refine j_ishl dX0_middle_7 ?_
  exact j_iret dX0_middle_8
set_option maxRecDepth 20000 in
theorem w_X0_passMarks_b99  (a3 : Int32) (s0 : Nat) (s1 : Int32) (h_s0 : s0 < cnt 17) (h : Hp) : J encI RX0 cX0_passMarks 4 (some .int) 0 99 [(3, aI a3)] [aI s1, aR 17 s0] h (f_X0_passMarks_b99  a3 s0 s1 h) := by
  unfold f_X0_passMarks_b99
  refine jp_X0_37 h_s0 dX0_passMarks_99 ?_
  refine j_iload_n dX0_passMarks_102 rfl ?_
  exact j_iret dX0_passMarks_103
set_option maxRecDepth 20000 in
theorem w_X0_passMarks_b79  (a0 : Nat) (a1 : Int32) (a2 : Int32) (a3 : Int32) (s0 : Nat) (s1 : Int32) (h_a0 : a0 < cnt 17) (h_s0 : s0 < cnt 17) (h : Hp) : J encI RX0 cX0_passMarks 4 (some .int) 0 79 [(0, aR 17 a0), (1, aI a1), (2, aI a2), (3, aI a3)] [aI s1, aR 17 s0] h (f_X0_passMarks_b79  a0 a1 a2 a3 s0 s1 h) := by
  unfold f_X0_passMarks_b79
  refine jp_X0_34 h_s0 dX0_passMarks_79 ?_
  refine j_aload_n dX0_passMarks_82 rfl ?_
  refine j_aload_n dX0_passMarks_83 rfl ?_
  refine jg_X0_37 h_a0 dX0_passMarks_84 ?_
  refine j_iload_n dX0_passMarks_87 rfl ?_
  refine j_icmp_ne (tgt := 95) dX0_passMarks_88 (by decide) (fun c1 => ?_) (fun c1 => ?_)
  · refine j_aload_n dX0_passMarks_95 rfl ?_
    refine jg_X0_37 h_a0 dX0_passMarks_96 ?_
    exact j_weak rfl (w_X0_passMarks_b99  _ _ _ h_a0 _)
  · refine j_iload_n dX0_passMarks_91 rfl ?_
    refine j_goto (tgt := 99) dX0_passMarks_92 (by decide) ?_
    exact j_weak rfl (w_X0_passMarks_b99  _ _ _ h_a0 _)
set_option maxRecDepth 20000 in
theorem w_X0_passMarks_b59  (a0 : Nat) (a1 : Int32) (a2 : Int32) (a3 : Int32) (s0 : Nat) (s1 : Int32) (h_a0 : a0 < cnt 17) (h_s0 : s0 < cnt 17) (h : Hp) : J encI RX0 cX0_passMarks 4 (some .int) 0 59 [(0, aR 17 a0), (1, aI a1), (2, aI a2), (3, aI a3)] [aI s1, aR 17 s0] h (f_X0_passMarks_b59  a0 a1 a2 a3 s0 s1 h) := by
  unfold f_X0_passMarks_b59
  refine jp_X0_31 h_s0 dX0_passMarks_59 ?_
  refine j_aload_n dX0_passMarks_62 rfl ?_
  refine j_aload_n dX0_passMarks_63 rfl ?_
  refine jg_X0_34 h_a0 dX0_passMarks_64 ?_
  refine j_iload_n dX0_passMarks_67 rfl ?_
  refine j_icmp_ne (tgt := 75) dX0_passMarks_68 (by decide) (fun c1 => ?_) (fun c1 => ?_)
  · refine j_aload_n dX0_passMarks_75 rfl ?_
    refine jg_X0_34 h_a0 dX0_passMarks_76 ?_
    exact j_weak rfl (w_X0_passMarks_b79  _ _ _ _ _ _ h_a0 h_a0 _)
  · refine j_iload_n dX0_passMarks_71 rfl ?_
    refine j_goto (tgt := 79) dX0_passMarks_72 (by decide) ?_
    exact j_weak rfl (w_X0_passMarks_b79  _ _ _ _ _ _ h_a0 h_a0 _)
set_option maxRecDepth 20000 in
theorem w_X0_passMarks_b40  (a0 : Nat) (a1 : Int32) (a2 : Int32) (s0 : Int32) (s1 : Int32) (h_a0 : a0 < cnt 17) (h : Hp) : J encI RX0 cX0_passMarks 4 (some .int) 0 40 [(0, aR 17 a0), (1, aI a1), (2, aI a2)] [aI s1, aI s0] h (f_X0_passMarks_b40  a0 a1 a2 s0 s1 h) := by
  unfold f_X0_passMarks_b40
  refine j_iadd dX0_passMarks_40 ?_
  refine j_istore_n dX0_passMarks_41 (by decide) ?_
  refine j_aload_n dX0_passMarks_42 rfl ?_
  refine j_aload_n dX0_passMarks_43 rfl ?_
  refine jg_X0_31 h_a0 dX0_passMarks_44 ?_
  refine j_iload_n dX0_passMarks_47 rfl ?_
  refine j_icmp_ne (tgt := 55) dX0_passMarks_48 (by decide) (fun c1 => ?_) (fun c1 => ?_)
  · refine j_aload_n dX0_passMarks_55 rfl ?_
    refine jg_X0_31 h_a0 dX0_passMarks_56 ?_
    exact j_weak rfl (w_X0_passMarks_b59  _ _ _ _ _ _ h_a0 h_a0 _)
  · refine j_iload_n dX0_passMarks_51 rfl ?_
    refine j_goto (tgt := 59) dX0_passMarks_52 (by decide) ?_
    exact j_weak rfl (w_X0_passMarks_b59  _ _ _ _ _ _ h_a0 h_a0 _)
set_option maxRecDepth 20000 in
theorem w_X0_passMarks_b26  (a0 : Nat) (a1 : Int32) (a2 : Int32) (s0 : Int32) (s1 : Int32) (h_a0 : a0 < cnt 17) (h : Hp) : J encI RX0 cX0_passMarks 4 (some .int) 0 26 [(0, aR 17 a0), (1, aI a1), (2, aI a2)] [aI s1, aI s0] h (f_X0_passMarks_b26  a0 a1 a2 s0 s1 h) := by
  unfold f_X0_passMarks_b26
  refine j_iadd dX0_passMarks_26 ?_
  refine j_aload_n dX0_passMarks_27 rfl ?_
  refine jg_X0_37 h_a0 dX0_passMarks_28 ?_
  refine j_iload_n dX0_passMarks_31 rfl ?_
  refine j_icmp_ne (tgt := 39) dX0_passMarks_32 (by decide) (fun c1 => ?_) (fun c1 => ?_)
  · refine j_iconst (v := (0 : Int32)) dX0_passMarks_39 (by decide) ?_
    exact j_weak rfl (w_X0_passMarks_b40  _ _ _ _ _ h_a0 _)
  · refine j_iconst (v := (1 : Int32)) dX0_passMarks_35 (by decide) ?_
    refine j_goto (tgt := 40) dX0_passMarks_36 (by decide) ?_
    exact j_weak rfl (w_X0_passMarks_b40  _ _ _ _ _ h_a0 _)
set_option maxRecDepth 20000 in
theorem w_X0_passMarks_b13  (a0 : Nat) (a1 : Int32) (a2 : Int32) (s0 : Int32) (h_a0 : a0 < cnt 17) (h : Hp) : J encI RX0 cX0_passMarks 4 (some .int) 0 13 [(0, aR 17 a0), (1, aI a1), (2, aI a2)] [aI s0] h (f_X0_passMarks_b13  a0 a1 a2 s0 h) := by
  unfold f_X0_passMarks_b13
  refine j_aload_n dX0_passMarks_13 rfl ?_
  refine jg_X0_34 h_a0 dX0_passMarks_14 ?_
  refine j_iload_n dX0_passMarks_17 rfl ?_
  refine j_icmp_ne (tgt := 25) dX0_passMarks_18 (by decide) (fun c1 => ?_) (fun c1 => ?_)
  · refine j_iconst (v := (0 : Int32)) dX0_passMarks_25 (by decide) ?_
    exact j_weak rfl (w_X0_passMarks_b26  _ _ _ _ _ h_a0 _)
  · refine j_iconst (v := (1 : Int32)) dX0_passMarks_21 (by decide) ?_
    refine j_goto (tgt := 26) dX0_passMarks_22 (by decide) ?_
    exact j_weak rfl (w_X0_passMarks_b26  _ _ _ _ _ h_a0 _)
set_option maxRecDepth 20000 in
theorem ct_X0_passMarks (a0 : Nat) (a1 : Int32) (a2 : Int32) (h_a0 : a0 < cnt 17) (h : Hp) : Ct encI yX0_passMarks cX0_passMarks 4 (some .int) 0 [aR 17 a0, aI a1, aI a2] h (f_X0_passMarks a0 a1 a2 h) := by
  refine ct_of [(0, aR 17 a0), (1, aI a1), (2, aI a2)] (by decide) (fun _ => rfl) (fun _ => Nat.le_of_ble_eq_true rfl) ?_
  show J encI RX0 cX0_passMarks 4 (some .int) 0 0 [(0, aR 17 a0), (1, aI a1), (2, aI a2)] [] h (f_X0_passMarks a0 a1 a2 h)
  unfold f_X0_passMarks
  refine j_aload_n dX0_passMarks_0 rfl ?_
  refine jg_X0_31 h_a0 dX0_passMarks_1 ?_
  refine j_iload_n dX0_passMarks_4 rfl ?_
  refine j_icmp_ne (tgt := 12) dX0_passMarks_5 (by decide) (fun c1 => ?_) (fun c1 => ?_)
  · refine j_iconst (v := (0 : Int32)) dX0_passMarks_12 (by decide) ?_
    exact j_weak rfl (w_X0_passMarks_b13  _ _ _ _ h_a0 _)
  · refine j_iconst (v := (1 : Int32)) dX0_passMarks_8 (by decide) ?_
    refine j_goto (tgt := 13) dX0_passMarks_9 (by decide) ?_
    exact j_weak rfl (w_X0_passMarks_b13  _ _ _ _ h_a0 _)
set_option maxRecDepth 20000 in
theorem w_X0_people_b24  (a0 : Nat) (a1 : Int32) (h_a0 : a0 < cnt 17) (h : Hp) : J encI RX0 cX0_people 2 (some .int) 0 24 [(0, aR 17 a0), (1, aI a1)] [] h (f_X0_people_b24  a0 a1 h) := by
  unfold f_X0_people_b24
  refine j_aload_n dX0_people_24 rfl ?_
  refine jg_X0_9 h_a0 dX0_people_25 ?_
  refine j_iconst (v := (3 : Int32)) dX0_people_28 (by decide) ?_
  refine j_icmp_ne (tgt := 41) dX0_people_29 (by decide) (fun c1 => ?_) (fun c1 => ?_)
  · refine j_iload_n dX0_people_41 rfl ?_
    exact j_iret dX0_people_42
  · refine j_iload_n dX0_people_32 rfl ?_
    refine j_iconst (v := (1 : Int32)) dX0_people_33 (by decide) ?_
    refine j_aload_n dX0_people_34 rfl ?_
    refine jg_X0_37 h_a0 dX0_people_35 ?_
    refine j_ishl dX0_people_38 ?_
    refine j_ior dX0_people_39 ?_
    refine j_istore_n dX0_people_40 (by decide) ?_
    refine j_iload_n dX0_people_41 rfl ?_
    exact j_iret dX0_people_42
set_option maxRecDepth 20000 in
theorem ct_X0_people (a0 : Nat) (h_a0 : a0 < cnt 17) (h : Hp) : Ct encI yX0_people cX0_people 2 (some .int) 0 [aR 17 a0] h (f_X0_people a0 h) := by
  refine ct_of [(0, aR 17 a0)] (by decide) (fun _ => rfl) (fun _ => Nat.le_of_ble_eq_true rfl) ?_
  show J encI RX0 cX0_people 2 (some .int) 0 0 [(0, aR 17 a0)] [] h (f_X0_people a0 h)
  unfold f_X0_people
  refine j_iconst (v := (1 : Int32)) dX0_people_0 (by decide) ?_
  refine j_aload_n dX0_people_1 rfl ?_
  refine jg_X0_31 h_a0 dX0_people_2 ?_
  refine j_ishl dX0_people_5 ?_
  refine j_istore_n dX0_people_6 (by decide) ?_
  refine j_aload_n dX0_people_7 rfl ?_
  refine jg_X0_9 h_a0 dX0_people_8 ?_
  refine j_iconst (v := (2 : Int32)) dX0_people_11 (by decide) ?_
  refine j_icmp_eq (tgt := 24) dX0_people_12 (by decide) (fun c1 => ?_) (fun c1 => ?_)
  · exact j_weak rfl (w_X0_people_b24  _ _ h_a0 _)
  · refine j_iload_n dX0_people_15 rfl ?_
    refine j_iconst (v := (1 : Int32)) dX0_people_16 (by decide) ?_
    refine j_aload_n dX0_people_17 rfl ?_
    refine jg_X0_34 h_a0 dX0_people_18 ?_
    refine j_ishl dX0_people_21 ?_
    refine j_ior dX0_people_22 ?_
    refine j_istore_n dX0_people_23 (by decide) ?_
    exact j_weak rfl (w_X0_people_b24  _ _ h_a0 _)
set_option maxRecDepth 20000 in
theorem ct_X0_rank (a0 : Nat) (h_a0 : a0 < cnt 17) (h : Hp) : Ct encI yX0_rank cX0_rank 1 (some .int) 0 [aR 17 a0] h (f_X0_rank a0 h) := by
  refine ct_of [(0, aR 17 a0)] (by decide) (fun _ => rfl) (fun _ => Nat.le_of_ble_eq_true rfl) ?_
  show J encI RX0 cX0_rank 1 (some .int) 0 0 [(0, aR 17 a0)] [] h (f_X0_rank a0 h)
  unfold f_X0_rank
  refine j_iconst (v := (2 : Int32)) dX0_rank_0 (by decide) ?_
  refine j_aload_n dX0_rank_1 rfl ?_
  refine jg_X0_15 h_a0 dX0_rank_2 ?_
  refine j_imul dX0_rank_5 ?_
  refine j_aload_n dX0_rank_6 rfl ?_
  refine jg_X0_9 h_a0 dX0_rank_7 ?_
  refine j_iconst (v := (5 : Int32)) dX0_rank_10 (by decide) ?_
  refine j_icmp_ne (tgt := 18) dX0_rank_11 (by decide) (fun c1 => ?_) (fun c1 => ?_)
  · refine j_iconst (v := (0 : Int32)) dX0_rank_18 (by decide) ?_
    refine j_iadd dX0_rank_19 ?_
    exact j_iret dX0_rank_20
  · refine j_iconst (v := (1 : Int32)) dX0_rank_14 (by decide) ?_
    refine j_goto (tgt := 19) dX0_rank_15 (by decide) ?_
    refine j_iadd dX0_rank_19 ?_
    exact j_iret dX0_rank_20
set_option maxRecDepth 20000 in
theorem ct_X0_setMarks (a0 : Nat) (a1 : Int32) (a2 : Int32) (a3 : Int32) (h_a0 : a0 < cnt 17) (h : Hp) : Ct encU yX0_setMarks cX0_setMarks 4 none 0 [aR 17 a0, aI a1, aI a2, aI a3] h (f_X0_setMarks a0 a1 a2 a3 h) := by
  refine ct_of [(0, aR 17 a0), (1, aI a1), (2, aI a2), (3, aI a3)] (by decide) (fun _ => rfl) (fun _ => Nat.le_of_ble_eq_true rfl) ?_
  show J encU RX0 cX0_setMarks 4 none 0 0 [(0, aR 17 a0), (1, aI a1), (2, aI a2), (3, aI a3)] [] h (f_X0_setMarks a0 a1 a2 a3 h)
  unfold f_X0_setMarks
  refine j_aload_n dX0_setMarks_0 rfl ?_
  refine j_iload_n dX0_setMarks_1 rfl ?_
  refine jp_X0_31 h_a0 dX0_setMarks_2 ?_
  refine j_aload_n dX0_setMarks_5 rfl ?_
  refine j_iload_n dX0_setMarks_6 rfl ?_
  refine jp_X0_34 h_a0 dX0_setMarks_7 ?_
  refine j_aload_n dX0_setMarks_10 rfl ?_
  refine j_iload_n dX0_setMarks_11 rfl ?_
  refine jp_X0_37 h_a0 dX0_setMarks_12 ?_
  exact j_vret dX0_setMarks_15
set_option maxRecDepth 20000 in
theorem ct_X0_sides (a0 : Nat) (h_a0 : a0 < cnt 17) (h : Hp) : Ct encI yX0_sides cX0_sides 1 (some .int) 0 [aR 17 a0] h (f_X0_sides a0 h) := by
  refine ct_of [(0, aR 17 a0)] (by decide) (fun _ => rfl) (fun _ => Nat.le_of_ble_eq_true rfl) ?_
  show J encI RX0 cX0_sides 1 (some .int) 0 0 [(0, aR 17 a0)] [] h (f_X0_sides a0 h)
  unfold f_X0_sides
  refine j_iconst (v := (1 : Int32)) dX0_sides_0 (by decide) ?_
  refine j_aload_n dX0_sides_1 rfl ?_
  refine jg_X0_18 h_a0 dX0_sides_2 ?_
  refine j_ishl dX0_sides_5 ?_
  refine j_iconst (v := (1 : Int32)) dX0_sides_6 (by decide) ?_
  refine j_aload_n dX0_sides_7 rfl ?_
  refine jg_X0_18 h_a0 dX0_sides_8 ?_
  refine j_iconst (v := (4 : Int32)) dX0_sides_11 (by decide) ?_
  refine j_iadd dX0_sides_12 ?_
  refine j_ishl dX0_sides_13 ?_
  refine j_ior dX0_sides_14 ?_
  exact j_iret dX0_sides_15
set_option maxRecDepth 20000 in
theorem ct_X1_kindOf (a0 : Int32)  (h : Hp) : Ct encI yX1_kindOf cX1_kindOf 1 (some .int) 0 [aI a0] h (f_X1_kindOf a0 h) := by
  refine ct_of [(0, aI a0)] (by decide) (fun _ => rfl) (fun _ => Nat.le_of_ble_eq_true rfl) ?_
  show J encI RX1 cX1_kindOf 1 (some .int) 0 0 [(0, aI a0)] [] h (f_X1_kindOf a0 h)
  unfold f_X1_kindOf
  refine j_iload_n dX1_kindOf_0 rfl ?_
  refine j_if (fun c1 => ?_) (fun c1 => ?_)
  · refine j_tsIn (tgt := 106) (off := 105) dX1_kindOf_1 (by rw [c1]; decide) (by rw [c1]; decide) (by rw [c1]; rfl) (by decide) ?_
    refine j_iconst (v := (5 : Int32)) dX1_kindOf_106 (by decide) ?_
    exact j_iret dX1_kindOf_107
  refine j_if (fun c2 => ?_) (fun c2 => ?_)
  · refine j_tsIn (tgt := 96) (off := 95) dX1_kindOf_1 (by rw [c2]; decide) (by rw [c2]; decide) (by rw [c2]; rfl) (by decide) ?_
    refine j_iconst (v := (0 : Int32)) dX1_kindOf_96 (by decide) ?_
    exact j_iret dX1_kindOf_97
  refine j_if (fun c3 => ?_) (fun c3 => ?_)
  · refine j_tsIn (tgt := 98) (off := 97) dX1_kindOf_1 (by rw [c3]; decide) (by rw [c3]; decide) (by rw [c3]; rfl) (by decide) ?_
    refine j_iconst (v := (1 : Int32)) dX1_kindOf_98 (by decide) ?_
    exact j_iret dX1_kindOf_99
  refine j_if (fun c4 => ?_) (fun c4 => ?_)
  · refine j_tsIn (tgt := 100) (off := 99) dX1_kindOf_1 (by rw [c4]; decide) (by rw [c4]; decide) (by rw [c4]; rfl) (by decide) ?_
    refine j_iconst (v := (2 : Int32)) dX1_kindOf_100 (by decide) ?_
    exact j_iret dX1_kindOf_101
  refine j_if (fun c5 => ?_) (fun c5 => ?_)
  · refine j_tsIn (tgt := 104) (off := 103) dX1_kindOf_1 (by rw [c5]; decide) (by rw [c5]; decide) (by rw [c5]; rfl) (by decide) ?_
    refine j_iconst (v := (4 : Int32)) dX1_kindOf_104 (by decide) ?_
    exact j_iret dX1_kindOf_105
  refine j_if (fun c6 => ?_) (fun c6 => ?_)
  · refine j_tsIn (tgt := 102) (off := 101) dX1_kindOf_1 (by rw [c6]; decide) (by rw [c6]; decide) (by rw [c6]; rfl) (by decide) ?_
    refine j_iconst (v := (3 : Int32)) dX1_kindOf_102 (by decide) ?_
    exact j_iret dX1_kindOf_103
  refine j_tsG (tgt := 108) dX1_kindOf_1 ?_ (by decide) ?_
  · have hts : ∀ z : Int, 97 ≤ z → z ≤ 116 → (a0) = Int32.ofInt z → (#[105, 95, 97, 107, 107, 99, 107, 107, 107, 107, 107, 107, 107, 107, 107, 107, 107, 103, 107, 101] : Array Int)[(z - 97).toNat]? = some 107 := by
      intro z z1 z2 z3
      rcases (show z = 97 ∨ z = 98 ∨ z = 99 ∨ z = 100 ∨ z = 101 ∨ z = 102 ∨ z = 103 ∨ z = 104 ∨ z = 105 ∨ z = 106 ∨ z = 107 ∨ z = 108 ∨ z = 109 ∨ z = 110 ∨ z = 111 ∨ z = 112 ∨ z = 113 ∨ z = 114 ∨ z = 115 ∨ z = 116 by omega) with rfl | rfl | rfl | rfl | rfl | rfl | rfl | rfl | rfl | rfl | rfl | rfl | rfl | rfl | rfl | rfl | rfl | rfl | rfl | rfl
      · exact absurd (z3.trans (by decide)) c1
      · exact absurd (z3.trans (by decide)) c2
      · exact absurd (z3.trans (by decide)) c3
      · rfl
      · rfl
      · exact absurd (z3.trans (by decide)) c4
      · rfl
      · rfl
      · rfl
      · rfl
      · rfl
      · rfl
      · rfl
      · rfl
      · rfl
      · rfl
      · rfl
      · exact absurd (z3.trans (by decide)) c5
      · rfl
      · exact absurd (z3.trans (by decide)) c6
    exact ts_all hts
  · refine j_iconst (v := (-1 : Int32)) dX1_kindOf_108 (by decide) ?_
    exact j_iret dX1_kindOf_109
set_option maxRecDepth 20000 in
theorem ct_X1_sign   (h : Hp) : Ct encI yX1_sign cX1_sign 1 (some .int) 0 [aR 9 0] h (f_X1_sign  h) := by
  refine ct_of [(0, aR 9 0)] (by decide) (fun _ => rfl) (fun _ => Nat.le_of_ble_eq_true rfl) ?_
  show J encI RX1 cX1_sign 1 (some .int) 0 0 [(0, aR 9 0)] [] h (f_X1_sign  h)
  unfold f_X1_sign
  refine j_aload_n dX1_sign_0 rfl ?_
  refine jg_X1_26 z_9 dX1_sign_1 ?_
  refine j_aload_n dX1_sign_4 rfl ?_
  refine jg_X1_22 z_9 dX1_sign_5 ?_
  refine j_icmp_ge (tgt := 35) dX1_sign_8 (by decide) (fun c1 => ?_) (fun c1 => ?_)
  · refine j_sipush (v := (1000 : Int32)) dX1_sign_35 (by decide) ?_
    exact j_iret dX1_sign_38
  · refine j_aload_n dX1_sign_11 rfl ?_
    refine jg_X1_26 z_9 dX1_sign_12 ?_
    refine j_aload_n dX1_sign_15 rfl ?_
    refine jg_X1_18 z_9 dX1_sign_16 (fun t2 q3 zt2 => ?_)
    refine j_alen (v := (100 : Int32)) (t0 := 1) (ic_7 _) (fun _ => rfl) (by decide) zt2 dX1_sign_19 ?_
    refine j_icmp_ge (tgt := 35) dX1_sign_20 (by decide) (fun c4 => ?_) (fun c4 => ?_)
    · refine j_sipush (v := (1000 : Int32)) dX1_sign_35 (by decide) ?_
      exact j_iret dX1_sign_38
    · refine j_aload_n dX1_sign_23 rfl ?_
      refine jg_X1_18 z_9 dX1_sign_24 (fun t5 q6 zt5 => ?_)
      refine j_aload_n dX1_sign_27 rfl ?_
      refine jg_X1_26 z_9 dX1_sign_28 ?_
      refine j_bald (ic_7 _) zt5 dX1_sign_31 (fun q7 => ?_)
      refine j_goto (tgt := 38) dX1_sign_32 (by decide) ?_
      exact j_iret dX1_sign_38
set_option maxRecDepth 20000 in
theorem w_X2_begin_b9  : ∀ (n : Nat) (a1 : Int32) (a2 : Int32) (a3 : Int32)  (h : Hp), J encU RX2 cX2_begin 4 none 0 9 [(0, aR 1 0), (1, aI a1), (2, aI a2), (3, aI a3)] [] h (f_X2_begin_b9  n a1 a2 a3 h) := by
  intro n
  induction n with
  | zero =>
    intros
    exact j_none
  | succ n hk9 =>
    intro a1 a2 a3  h
    show J encU RX2 cX2_begin 4 none 0 9 [(0, aR 1 0), (1, aI a1), (2, aI a2), (3, aI a3)] [] h (f_X2_begin_b9_body  (f_X2_begin_b9  n) a1 a2 a3 h)
    unfold f_X2_begin_b9_body
    refine j_iload_n dX2_begin_9 rfl ?_
    refine j_iload_n dX2_begin_10 rfl ?_
    refine j_icmp_ge (tgt := 29) dX2_begin_11 (by decide) (fun c1 => ?_) (fun c1 => ?_)
    · exact j_vret dX2_begin_29
    · refine j_aload_n dX2_begin_14 rfl ?_
      refine jg_X2_11 z_1 dX2_begin_15 ?_
      refine j_iload_n dX2_begin_18 rfl ?_
      refine ja_2 z_2 dX2_begin_19 (fun q2 z3 => ?_)
      refine j_iload_n dX2_begin_20 rfl ?_
      refine j_iconst (v := (0 : Int32)) dX2_begin_21 (by decide) ?_
      refine j_iast (ic_3 _) z3 dX2_begin_22 (fun q4 => ?_)
      refine j_iinc (v := (1 : Int32)) dX2_begin_23 rfl (by decide) (by decide) ?_
      refine j_goto (tgt := 9) dX2_begin_26 (by decide) ?_
      exact j_weak rfl (hk9 _ _ _  _)
set_option maxRecDepth 20000 in
theorem ct_X2_begin (a1 : Int32) (a2 : Int32)  (h : Hp) : Ct encU yX2_begin cX2_begin 4 none 0 [aR 1 0, aI a1, aI a2] h (f_X2_begin a1 a2 h) := by
  refine ct_of [(0, aR 1 0), (1, aI a1), (2, aI a2)] (by decide) (fun _ => rfl) (fun _ => Nat.le_of_ble_eq_true rfl) ?_
  show J encU RX2 cX2_begin 4 none 0 0 [(0, aR 1 0), (1, aI a1), (2, aI a2)] [] h (f_X2_begin a1 a2 h)
  unfold f_X2_begin
  refine j_aload_n dX2_begin_0 rfl ?_
  refine jg_X2_16 z_1 dX2_begin_1 ?_
  refine j_iload_n dX2_begin_4 rfl ?_
  refine j_iload_n dX2_begin_5 rfl ?_
  refine j_iast (ic_4 _) z_4 dX2_begin_6 (fun q1 => ?_)
  refine j_iconst (v := (0 : Int32)) dX2_begin_7 (by decide) ?_
  refine j_istore_n dX2_begin_8 (by decide) ?_
  exact j_weak rfl (w_X2_begin_b9  _ _ _ _  _)
set_option maxRecDepth 20000 in
theorem ct_X2_hasPlaces (a1 : Int32) (a2 : Int32) (a3 : Int32)  (h : Hp) : Ct encI yX2_hasPlaces cX2_hasPlaces 4 (some .boolean) 0 [aR 1 0, aI a1, aI a2, aI a3] h (f_X2_hasPlaces a1 a2 a3 h) := by
  refine ct_of [(0, aR 1 0), (1, aI a1), (2, aI a2), (3, aI a3)] (by decide) (fun _ => rfl) (fun _ => Nat.le_of_ble_eq_true rfl) ?_
  show J encI RX2 cX2_hasPlaces 4 (some .boolean) 0 0 [(0, aR 1 0), (1, aI a1), (2, aI a2), (3, aI a3)] [] h (f_X2_hasPlaces a1 a2 a3 h)
  unfold f_X2_hasPlaces
  refine j_iload_n dX2_hasPlaces_0 rfl ?_
  refine j_if_lt (tgt := 20) dX2_hasPlaces_1 (by decide) (fun c1 => ?_) (fun c1 => ?_)
  · refine j_iconst (v := (0 : Int32)) dX2_hasPlaces_20 (by decide) ?_
    exact j_zret (Or.inl rfl) dX2_hasPlaces_21
  · refine j_iload_n dX2_hasPlaces_4 rfl ?_
    refine j_aload_n dX2_hasPlaces_5 rfl ?_
    refine jg_X2_16 z_1 dX2_hasPlaces_6 ?_
    refine j_iload_n dX2_hasPlaces_9 rfl ?_
    refine j_iald (ic_4 _) z_4 dX2_hasPlaces_10 (fun q2 => ?_)
    refine j_iload_n dX2_hasPlaces_11 rfl ?_
    refine j_isub dX2_hasPlaces_12 ?_
    refine j_icmp_gt (tgt := 20) dX2_hasPlaces_13 (by decide) (fun c3 => ?_) (fun c3 => ?_)
    · refine j_iconst (v := (0 : Int32)) dX2_hasPlaces_20 (by decide) ?_
      exact j_zret (Or.inl rfl) dX2_hasPlaces_21
    · refine j_iconst (v := (1 : Int32)) dX2_hasPlaces_16 (by decide) ?_
      refine j_goto (tgt := 21) dX2_hasPlaces_17 (by decide) ?_
      exact j_zret (Or.inr rfl) dX2_hasPlaces_21
set_option maxRecDepth 20000 in
theorem w_X2_mixInto_b25 (kont2 : Int64 → Int32 → Hp → Option (Int64 × Hp)) (hk2 : ∀ (a1 : Int64) (a3 : Int32)  (h : Hp), J encL RX2 cX2_mixInto 5 (some .long) 0 2 [(0, aR 1 0), (1, aL a1), (3, aI a3)] [] h (kont2 a1 a3 h)) : ∀ (n : Nat) (a1 : Int64) (a3 : Int32) (a4 : Int32)  (h : Hp), J encL RX2 cX2_mixInto 5 (some .long) 0 25 [(0, aR 1 0), (1, aL a1), (3, aI a3), (4, aI a4)] [] h (f_X2_mixInto_b25 kont2 n a1 a3 a4 h) := by
  intro n
  induction n with
  | zero =>
    intros
    exact j_none
  | succ n hk25 =>
    intro a1 a3 a4  h
    show J encL RX2 cX2_mixInto 5 (some .long) 0 25 [(0, aR 1 0), (1, aL a1), (3, aI a3), (4, aI a4)] [] h (f_X2_mixInto_b25_body kont2 (f_X2_mixInto_b25 kont2 n) a1 a3 a4 h)
    unfold f_X2_mixInto_b25_body
    refine j_iload dX2_mixInto_25 rfl ?_
    refine j_aload_n dX2_mixInto_27 rfl ?_
    refine jg_X2_16 z_1 dX2_mixInto_28 ?_
    refine j_iload_n dX2_mixInto_31 rfl ?_
    refine j_iald (ic_4 _) z_4 dX2_mixInto_32 (fun q1 => ?_)
    refine j_icmp_ge (tgt := 59) dX2_mixInto_33 (by decide) (fun c2 => ?_) (fun c2 => ?_)
    · refine j_iinc (v := (1 : Int32)) dX2_mixInto_59 rfl (by decide) (by decide) ?_
      refine j_goto (tgt := 2) dX2_mixInto_62 (by decide) ?_
      exact j_weak rfl (hk2 _ _  _)
    · refine j_ldc2 (v := (31 : Int64)) dX2_mixInto_36 (gt_m 803 rfl rfl) ?_
      refine j_lload_n dX2_mixInto_39 rfl ?_
      refine j_lmul dX2_mixInto_40 ?_
      refine j_aload_n dX2_mixInto_41 rfl ?_
      refine jg_X2_11 z_1 dX2_mixInto_42 ?_
      refine j_iload_n dX2_mixInto_45 rfl ?_
      refine ja_2 z_2 dX2_mixInto_46 (fun q3 z4 => ?_)
      refine j_iload dX2_mixInto_47 rfl ?_
      refine j_iald (ic_3 _) z4 dX2_mixInto_49 (fun q5 => ?_)
      refine j_i2l dX2_mixInto_50 ?_
      refine j_ladd dX2_mixInto_51 ?_
      refine j_lstore_n dX2_mixInto_52 (by decide) ?_
      refine j_iinc (v := (1 : Int32)) dX2_mixInto_53 rfl (by decide) (by decide) ?_
      refine j_goto (tgt := 25) dX2_mixInto_56 (by decide) ?_
      exact j_weak rfl (hk25 _ _ _  _)
set_option maxRecDepth 20000 in
theorem w_X2_mixInto_b2  : ∀ (n : Nat) (a1 : Int64) (a3 : Int32)  (h : Hp), J encL RX2 cX2_mixInto 5 (some .long) 0 2 [(0, aR 1 0), (1, aL a1), (3, aI a3)] [] h (f_X2_mixInto_b2  n a1 a3 h) := by
  intro n
  induction n with
  | zero =>
    intros
    exact j_none
  | succ n hk2 =>
    intro a1 a3  h
    show J encL RX2 cX2_mixInto 5 (some .long) 0 2 [(0, aR 1 0), (1, aL a1), (3, aI a3)] [] h (f_X2_mixInto_b2_body  (f_X2_mixInto_b2  n) a1 a3 h)
    unfold f_X2_mixInto_b2_body
    refine j_iload_n dX2_mixInto_2 rfl ?_
    refine j_bipush (v := (6 : Int32)) dX2_mixInto_3 (by decide) ?_
    refine j_icmp_ge (tgt := 65) dX2_mixInto_5 (by decide) (fun c1 => ?_) (fun c1 => ?_)
    · refine j_lload_n dX2_mixInto_65 rfl ?_
      exact j_lret dX2_mixInto_66
    · refine j_ldc2 (v := (31 : Int64)) dX2_mixInto_8 (gt_m 803 rfl rfl) ?_
      refine j_lload_n dX2_mixInto_11 rfl ?_
      refine j_lmul dX2_mixInto_12 ?_
      refine j_aload_n dX2_mixInto_13 rfl ?_
      refine jg_X2_16 z_1 dX2_mixInto_14 ?_
      refine j_iload_n dX2_mixInto_17 rfl ?_
      refine j_iald (ic_4 _) z_4 dX2_mixInto_18 (fun q2 => ?_)
      refine j_i2l dX2_mixInto_19 ?_
      refine j_ladd dX2_mixInto_20 ?_
      refine j_lstore_n dX2_mixInto_21 (by decide) ?_
      refine j_iconst (v := (0 : Int32)) dX2_mixInto_22 (by decide) ?_
      refine j_istore dX2_mixInto_23 (by decide) ?_
      exact j_weak rfl (w_X2_mixInto_b25 _ hk2 _ _ _ _  _)
set_option maxRecDepth 20000 in
theorem ct_X2_mixInto (a1 : Int64)  (h : Hp) : Ct encL yX2_mixInto cX2_mixInto 5 (some .long) 0 [aR 1 0, aL a1] h (f_X2_mixInto a1 h) := by
  refine ct_of [(0, aR 1 0), (1, aL a1)] (by decide) (fun _ => rfl) (fun _ => Nat.le_of_ble_eq_true rfl) ?_
  show J encL RX2 cX2_mixInto 5 (some .long) 0 0 [(0, aR 1 0), (1, aL a1)] [] h (f_X2_mixInto a1 h)
  unfold f_X2_mixInto
  refine j_iconst (v := (0 : Int32)) dX2_mixInto_0 (by decide) ?_
  refine j_istore_n dX2_mixInto_1 (by decide) ?_
  exact j_weak rfl (w_X2_mixInto_b2  _ _ _  _)
set_option maxRecDepth 20000 in
theorem w_X2_sum_b5  : ∀ (n : Nat) (a1 : Int32) (a2 : Int64) (a4 : Int32)  (h : Hp), J encL RX2 cX2_sum 5 (some .long) 0 5 [(0, aR 1 0), (1, aI a1), (2, aL a2), (4, aI a4)] [] h (f_X2_sum_b5  n a1 a2 a4 h) := by
  intro n
  induction n with
  | zero =>
    intros
    exact j_none
  | succ n hk5 =>
    intro a1 a2 a4  h
    show J encL RX2 cX2_sum 5 (some .long) 0 5 [(0, aR 1 0), (1, aI a1), (2, aL a2), (4, aI a4)] [] h (f_X2_sum_b5_body  (f_X2_sum_b5  n) a1 a2 a4 h)
    unfold f_X2_sum_b5_body
    refine j_iload dX2_sum_5 rfl ?_
    refine j_aload_n dX2_sum_7 rfl ?_
    refine jg_X2_16 z_1 dX2_sum_8 ?_
    refine j_iload_n dX2_sum_11 rfl ?_
    refine j_iald (ic_4 _) z_4 dX2_sum_12 (fun q1 => ?_)
    refine j_icmp_ge (tgt := 35) dX2_sum_13 (by decide) (fun c2 => ?_) (fun c2 => ?_)
    · refine j_lload_n dX2_sum_35 rfl ?_
      exact j_lret dX2_sum_36
    · refine j_lload_n dX2_sum_16 rfl ?_
      refine j_aload_n dX2_sum_17 rfl ?_
      refine jg_X2_11 z_1 dX2_sum_18 ?_
      refine j_iload_n dX2_sum_21 rfl ?_
      refine ja_2 z_2 dX2_sum_22 (fun q3 z4 => ?_)
      refine j_iload dX2_sum_23 rfl ?_
      refine j_iald (ic_3 _) z4 dX2_sum_25 (fun q5 => ?_)
      refine j_i2l dX2_sum_26 ?_
      refine j_ladd dX2_sum_27 ?_
      refine j_lstore_n dX2_sum_28 (by decide) ?_
      refine j_iinc (v := (1 : Int32)) dX2_sum_29 rfl (by decide) (by decide) ?_
      refine j_goto (tgt := 5) dX2_sum_32 (by decide) ?_
      exact j_weak rfl (hk5 _ _ _  _)
set_option maxRecDepth 20000 in
theorem ct_X2_sum (a1 : Int32)  (h : Hp) : Ct encL yX2_sum cX2_sum 5 (some .long) 0 [aR 1 0, aI a1] h (f_X2_sum a1 h) := by
  refine ct_of [(0, aR 1 0), (1, aI a1)] (by decide) (fun _ => rfl) (fun _ => Nat.le_of_ble_eq_true rfl) ?_
  show J encL RX2 cX2_sum 5 (some .long) 0 0 [(0, aR 1 0), (1, aI a1)] [] h (f_X2_sum a1 h)
  unfold f_X2_sum
  refine j_lconst (v := (0 : Int64)) dX2_sum_0 (by decide) ?_
  refine j_lstore_n dX2_sum_1 (by decide) ?_
  refine j_iconst (v := (0 : Int32)) dX2_sum_2 (by decide) ?_
  refine j_istore dX2_sum_3 (by decide) ?_
  exact j_weak rfl (w_X2_sum_b5  _ _ _ _  _)
set_option maxRecDepth 20000 in
theorem w_X2_there_b25 (kont4 : Int32 → Int32 → Hp → Option (Int32 × Hp)) (hk4 : ∀ (a1 : Int32) (a2 : Int32)  (h : Hp), J encI RX2 cX2_there 3 (some .int) 0 4 [(0, aR 1 0), (1, aI a1), (2, aI a2)] [] h (kont4 a1 a2 h)) (a2 : Int32) (s0 : Int32) (s1 : Int32)  (h : Hp) : J encI RX2 cX2_there 3 (some .int) 0 25 [(0, aR 1 0), (2, aI a2)] [aI s1, aI s0] h (f_X2_there_b25 kont4 a2 s0 s1 h) := by
  unfold f_X2_there_b25
  refine j_iadd dX2_there_25 ?_
  refine j_istore_n dX2_there_26 (by decide) ?_
  refine j_iinc (v := (1 : Int32)) dX2_there_27 rfl (by decide) (by decide) ?_
  refine j_goto (tgt := 4) dX2_there_30 (by decide) ?_
  exact j_weak rfl (hk4 _ _  _)
set_option maxRecDepth 20000 in
theorem w_X2_there_b4  : ∀ (n : Nat) (a1 : Int32) (a2 : Int32)  (h : Hp), J encI RX2 cX2_there 3 (some .int) 0 4 [(0, aR 1 0), (1, aI a1), (2, aI a2)] [] h (f_X2_there_b4  n a1 a2 h) := by
  intro n
  induction n with
  | zero =>
    intros
    exact j_none
  | succ n hk4 =>
    intro a1 a2  h
    show J encI RX2 cX2_there 3 (some .int) 0 4 [(0, aR 1 0), (1, aI a1), (2, aI a2)] [] h (f_X2_there_b4_body  (f_X2_there_b4  n) a1 a2 h)
    unfold f_X2_there_b4_body
    refine j_iload_n dX2_there_4 rfl ?_
    refine j_bipush (v := (6 : Int32)) dX2_there_5 (by decide) ?_
    refine j_icmp_ge (tgt := 33) dX2_there_7 (by decide) (fun c1 => ?_) (fun c1 => ?_)
    · refine j_iload_n dX2_there_33 rfl ?_
      exact j_iret dX2_there_34
    · refine j_iload_n dX2_there_10 rfl ?_
      refine j_aload_n dX2_there_11 rfl ?_
      refine jg_X2_16 z_1 dX2_there_12 ?_
      refine j_iload_n dX2_there_15 rfl ?_
      refine j_iald (ic_4 _) z_4 dX2_there_16 (fun q2 => ?_)
      refine j_if_lt (tgt := 24) dX2_there_17 (by decide) (fun c3 => ?_) (fun c3 => ?_)
      · refine j_iconst (v := (0 : Int32)) dX2_there_24 (by decide) ?_
        exact j_weak rfl (w_X2_there_b25 _ hk4 _ _ _  _)
      · refine j_iconst (v := (1 : Int32)) dX2_there_20 (by decide) ?_
        refine j_goto (tgt := 25) dX2_there_21 (by decide) ?_
        exact j_weak rfl (w_X2_there_b25 _ hk4 _ _ _  _)
set_option maxRecDepth 20000 in
theorem ct_X2_there   (h : Hp) : Ct encI yX2_there cX2_there 3 (some .int) 0 [aR 1 0] h (f_X2_there  h) := by
  refine ct_of [(0, aR 1 0)] (by decide) (fun _ => rfl) (fun _ => Nat.le_of_ble_eq_true rfl) ?_
  show J encI RX2 cX2_there 3 (some .int) 0 0 [(0, aR 1 0)] [] h (f_X2_there  h)
  unfold f_X2_there
  refine j_iconst (v := (0 : Int32)) dX2_there_0 (by decide) ?_
  refine j_istore_n dX2_there_1 (by decide) ?_
  refine j_iconst (v := (0 : Int32)) dX2_there_2 (by decide) ?_
  refine j_istore_n dX2_there_3 (by decide) ?_
  exact j_weak rfl (w_X2_there_b4  _ _ _  _)
set_option maxRecDepth 20000 in
theorem w_X3_begin_b9  : ∀ (n : Nat) (a1 : Int32) (a2 : Int32) (a3 : Int32)  (h : Hp), J encU RX3 cX3_begin 4 none 0 9 [(0, aR 5 0), (1, aI a1), (2, aI a2), (3, aI a3)] [] h (f_X3_begin_b9  n a1 a2 a3 h) := by
  intro n
  induction n with
  | zero =>
    intros
    exact j_none
  | succ n hk9 =>
    intro a1 a2 a3  h
    show J encU RX3 cX3_begin 4 none 0 9 [(0, aR 5 0), (1, aI a1), (2, aI a2), (3, aI a3)] [] h (f_X3_begin_b9_body  (f_X3_begin_b9  n) a1 a2 a3 h)
    unfold f_X3_begin_b9_body
    refine j_iload_n dX3_begin_9 rfl ?_
    refine j_iload_n dX3_begin_10 rfl ?_
    refine j_icmp_ge (tgt := 30) dX3_begin_11 (by decide) (fun c1 => ?_) (fun c1 => ?_)
    · exact j_vret dX3_begin_30
    · refine j_aload_n dX3_begin_14 rfl ?_
      refine jg_X3_11 z_5 dX3_begin_15 ?_
      refine j_iload_n dX3_begin_18 rfl ?_
      refine ja_6 z_6 dX3_begin_19 (fun q2 z3 => ?_)
      refine j_iload_n dX3_begin_20 rfl ?_
      refine j_bipush (v := (32 : Int32)) dX3_begin_21 (by decide) ?_
      refine j_bast (ic_7 _) z3 dX3_begin_23 (fun q4 => ?_)
      refine j_iinc (v := (1 : Int32)) dX3_begin_24 rfl (by decide) (by decide) ?_
      refine j_goto (tgt := 9) dX3_begin_27 (by decide) ?_
      exact j_weak rfl (hk9 _ _ _  _)
set_option maxRecDepth 20000 in
theorem ct_X3_begin (a1 : Int32) (a2 : Int32)  (h : Hp) : Ct encU yX3_begin cX3_begin 4 none 0 [aR 5 0, aI a1, aI a2] h (f_X3_begin a1 a2 h) := by
  refine ct_of [(0, aR 5 0), (1, aI a1), (2, aI a2)] (by decide) (fun _ => rfl) (fun _ => Nat.le_of_ble_eq_true rfl) ?_
  show J encU RX3 cX3_begin 4 none 0 0 [(0, aR 5 0), (1, aI a1), (2, aI a2)] [] h (f_X3_begin a1 a2 h)
  unfold f_X3_begin
  refine j_aload_n dX3_begin_0 rfl ?_
  refine jg_X3_16 z_5 dX3_begin_1 ?_
  refine j_iload_n dX3_begin_4 rfl ?_
  refine j_iload_n dX3_begin_5 rfl ?_
  refine j_iast (ic_8 _) z_8 dX3_begin_6 (fun q1 => ?_)
  refine j_iconst (v := (0 : Int32)) dX3_begin_7 (by decide) ?_
  refine j_istore_n dX3_begin_8 (by decide) ?_
  exact j_weak rfl (w_X3_begin_b9  _ _ _ _  _)
set_option maxRecDepth 20000 in
theorem w_X3_mixInto_b24 (kont2 : Int64 → Int32 → Hp → Option (Int64 × Hp)) (hk2 : ∀ (a1 : Int64) (a3 : Int32)  (h : Hp), J encL RX3 cX3_mixInto 5 (some .long) 0 2 [(0, aR 5 0), (1, aL a1), (3, aI a3)] [] h (kont2 a1 a3 h)) : ∀ (n : Nat) (a1 : Int64) (a3 : Int32) (a4 : Int32)  (h : Hp), J encL RX3 cX3_mixInto 5 (some .long) 0 24 [(0, aR 5 0), (1, aL a1), (3, aI a3), (4, aI a4)] [] h (f_X3_mixInto_b24 kont2 n a1 a3 a4 h) := by
  intro n
  induction n with
  | zero =>
    intros
    exact j_none
  | succ n hk24 =>
    intro a1 a3 a4  h
    show J encL RX3 cX3_mixInto 5 (some .long) 0 24 [(0, aR 5 0), (1, aL a1), (3, aI a3), (4, aI a4)] [] h (f_X3_mixInto_b24_body kont2 (f_X3_mixInto_b24 kont2 n) a1 a3 a4 h)
    unfold f_X3_mixInto_b24_body
    refine j_iload dX3_mixInto_24 rfl ?_
    refine j_aload_n dX3_mixInto_26 rfl ?_
    refine jg_X3_16 z_5 dX3_mixInto_27 ?_
    refine j_iload_n dX3_mixInto_30 rfl ?_
    refine j_iald (ic_8 _) z_8 dX3_mixInto_31 (fun q1 => ?_)
    refine j_icmp_ge (tgt := 58) dX3_mixInto_32 (by decide) (fun c2 => ?_) (fun c2 => ?_)
    · refine j_iinc (v := (1 : Int32)) dX3_mixInto_58 rfl (by decide) (by decide) ?_
      refine j_goto (tgt := 2) dX3_mixInto_61 (by decide) ?_
      exact j_weak rfl (hk2 _ _  _)
    · refine j_ldc2 (v := (31 : Int64)) dX3_mixInto_35 (gt_m 808 rfl rfl) ?_
      refine j_lload_n dX3_mixInto_38 rfl ?_
      refine j_lmul dX3_mixInto_39 ?_
      refine j_aload_n dX3_mixInto_40 rfl ?_
      refine jg_X3_11 z_5 dX3_mixInto_41 ?_
      refine j_iload_n dX3_mixInto_44 rfl ?_
      refine ja_6 z_6 dX3_mixInto_45 (fun q3 z4 => ?_)
      refine j_iload dX3_mixInto_46 rfl ?_
      refine j_bald (ic_7 _) z4 dX3_mixInto_48 (fun q5 => ?_)
      refine j_i2l dX3_mixInto_49 ?_
      refine j_ladd dX3_mixInto_50 ?_
      refine j_lstore_n dX3_mixInto_51 (by decide) ?_
      refine j_iinc (v := (1 : Int32)) dX3_mixInto_52 rfl (by decide) (by decide) ?_
      refine j_goto (tgt := 24) dX3_mixInto_55 (by decide) ?_
      exact j_weak rfl (hk24 _ _ _  _)
set_option maxRecDepth 20000 in
theorem w_X3_mixInto_b2  : ∀ (n : Nat) (a1 : Int64) (a3 : Int32)  (h : Hp), J encL RX3 cX3_mixInto 5 (some .long) 0 2 [(0, aR 5 0), (1, aL a1), (3, aI a3)] [] h (f_X3_mixInto_b2  n a1 a3 h) := by
  intro n
  induction n with
  | zero =>
    intros
    exact j_none
  | succ n hk2 =>
    intro a1 a3  h
    show J encL RX3 cX3_mixInto 5 (some .long) 0 2 [(0, aR 5 0), (1, aL a1), (3, aI a3)] [] h (f_X3_mixInto_b2_body  (f_X3_mixInto_b2  n) a1 a3 h)
    unfold f_X3_mixInto_b2_body
    refine j_iload_n dX3_mixInto_2 rfl ?_
    refine j_iconst (v := (4 : Int32)) dX3_mixInto_3 (by decide) ?_
    refine j_icmp_ge (tgt := 64) dX3_mixInto_4 (by decide) (fun c1 => ?_) (fun c1 => ?_)
    · refine j_lload_n dX3_mixInto_64 rfl ?_
      exact j_lret dX3_mixInto_65
    · refine j_ldc2 (v := (31 : Int64)) dX3_mixInto_7 (gt_m 808 rfl rfl) ?_
      refine j_lload_n dX3_mixInto_10 rfl ?_
      refine j_lmul dX3_mixInto_11 ?_
      refine j_aload_n dX3_mixInto_12 rfl ?_
      refine jg_X3_16 z_5 dX3_mixInto_13 ?_
      refine j_iload_n dX3_mixInto_16 rfl ?_
      refine j_iald (ic_8 _) z_8 dX3_mixInto_17 (fun q2 => ?_)
      refine j_i2l dX3_mixInto_18 ?_
      refine j_ladd dX3_mixInto_19 ?_
      refine j_lstore_n dX3_mixInto_20 (by decide) ?_
      refine j_iconst (v := (0 : Int32)) dX3_mixInto_21 (by decide) ?_
      refine j_istore dX3_mixInto_22 (by decide) ?_
      exact j_weak rfl (w_X3_mixInto_b24 _ hk2 _ _ _ _  _)
set_option maxRecDepth 20000 in
theorem ct_X3_mixInto (a1 : Int64)  (h : Hp) : Ct encL yX3_mixInto cX3_mixInto 5 (some .long) 0 [aR 5 0, aL a1] h (f_X3_mixInto a1 h) := by
  refine ct_of [(0, aR 5 0), (1, aL a1)] (by decide) (fun _ => rfl) (fun _ => Nat.le_of_ble_eq_true rfl) ?_
  show J encL RX3 cX3_mixInto 5 (some .long) 0 0 [(0, aR 5 0), (1, aL a1)] [] h (f_X3_mixInto a1 h)
  unfold f_X3_mixInto
  refine j_iconst (v := (0 : Int32)) dX3_mixInto_0 (by decide) ?_
  refine j_istore_n dX3_mixInto_1 (by decide) ?_
  exact j_weak rfl (w_X3_mixInto_b2  _ _ _  _)
set_option maxRecDepth 20000 in
theorem w_X3_there_b24 (kont4 : Int32 → Int32 → Hp → Option (Int32 × Hp)) (hk4 : ∀ (a1 : Int32) (a2 : Int32)  (h : Hp), J encI RX3 cX3_there 3 (some .int) 0 4 [(0, aR 5 0), (1, aI a1), (2, aI a2)] [] h (kont4 a1 a2 h)) (a2 : Int32) (s0 : Int32) (s1 : Int32)  (h : Hp) : J encI RX3 cX3_there 3 (some .int) 0 24 [(0, aR 5 0), (2, aI a2)] [aI s1, aI s0] h (f_X3_there_b24 kont4 a2 s0 s1 h) := by
  unfold f_X3_there_b24
  refine j_iadd dX3_there_24 ?_
  refine j_istore_n dX3_there_25 (by decide) ?_
  refine j_iinc (v := (1 : Int32)) dX3_there_26 rfl (by decide) (by decide) ?_
  refine j_goto (tgt := 4) dX3_there_29 (by decide) ?_
  exact j_weak rfl (hk4 _ _  _)
set_option maxRecDepth 20000 in
theorem w_X3_there_b4  : ∀ (n : Nat) (a1 : Int32) (a2 : Int32)  (h : Hp), J encI RX3 cX3_there 3 (some .int) 0 4 [(0, aR 5 0), (1, aI a1), (2, aI a2)] [] h (f_X3_there_b4  n a1 a2 h) := by
  intro n
  induction n with
  | zero =>
    intros
    exact j_none
  | succ n hk4 =>
    intro a1 a2  h
    show J encI RX3 cX3_there 3 (some .int) 0 4 [(0, aR 5 0), (1, aI a1), (2, aI a2)] [] h (f_X3_there_b4_body  (f_X3_there_b4  n) a1 a2 h)
    unfold f_X3_there_b4_body
    refine j_iload_n dX3_there_4 rfl ?_
    refine j_iconst (v := (4 : Int32)) dX3_there_5 (by decide) ?_
    refine j_icmp_ge (tgt := 32) dX3_there_6 (by decide) (fun c1 => ?_) (fun c1 => ?_)
    · refine j_iload_n dX3_there_32 rfl ?_
      exact j_iret dX3_there_33
    · refine j_iload_n dX3_there_9 rfl ?_
      refine j_aload_n dX3_there_10 rfl ?_
      refine jg_X3_16 z_5 dX3_there_11 ?_
      refine j_iload_n dX3_there_14 rfl ?_
      refine j_iald (ic_8 _) z_8 dX3_there_15 (fun q2 => ?_)
      refine j_if_lt (tgt := 23) dX3_there_16 (by decide) (fun c3 => ?_) (fun c3 => ?_)
      · refine j_iconst (v := (0 : Int32)) dX3_there_23 (by decide) ?_
        exact j_weak rfl (w_X3_there_b24 _ hk4 _ _ _  _)
      · refine j_iconst (v := (1 : Int32)) dX3_there_19 (by decide) ?_
        refine j_goto (tgt := 24) dX3_there_20 (by decide) ?_
        exact j_weak rfl (w_X3_there_b24 _ hk4 _ _ _  _)
set_option maxRecDepth 20000 in
theorem ct_X3_there   (h : Hp) : Ct encI yX3_there cX3_there 3 (some .int) 0 [aR 5 0] h (f_X3_there  h) := by
  refine ct_of [(0, aR 5 0)] (by decide) (fun _ => rfl) (fun _ => Nat.le_of_ble_eq_true rfl) ?_
  show J encI RX3 cX3_there 3 (some .int) 0 0 [(0, aR 5 0)] [] h (f_X3_there  h)
  unfold f_X3_there
  refine j_iconst (v := (0 : Int32)) dX3_there_0 (by decide) ?_
  refine j_istore_n dX3_there_1 (by decide) ?_
  refine j_iconst (v := (0 : Int32)) dX3_there_2 (by decide) ?_
  refine j_istore_n dX3_there_3 (by decide) ?_
  exact j_weak rfl (w_X3_there_b4  _ _ _  _)
set_option maxRecDepth 20000 in
theorem w_X4_allBeneath_b46 (kont4 : Nat → Int32 → Int32 → Int32 → Hp → Option (Int32 × Hp)) (hk4 : ∀ (a0 : Nat) (a1 : Int32) (a2 : Int32) (a3 : Int32) (h_a0 : a0 < cnt 11) (h : Hp), J encI RX4 cX4_allBeneath 4 (some .int) 0 4 [(0, aR 11 a0), (1, aI a1), (2, aI a2), (3, aI a3)] [] h (kont4 a0 a1 a2 a3 h)) (a0 : Nat) (a1 : Int32) (a3 : Int32) (s0 : Int32) (s1 : Int32) (h_a0 : a0 < cnt 11) (h : Hp) : J encI RX4 cX4_allBeneath 4 (some .int) 0 46 [(0, aR 11 a0), (1, aI a1), (3, aI a3)] [aI s1, aI s0] h (f_X4_allBeneath_b46 kont4 a0 a1 a3 s0 s1 h) := by
  unfold f_X4_allBeneath_b46
  refine j_ior dX4_allBeneath_46 ?_
  refine j_istore_n dX4_allBeneath_47 (by decide) ?_
  refine j_iinc (v := (1 : Int32)) dX4_allBeneath_48 rfl (by decide) (by decide) ?_
  refine j_goto (tgt := 4) dX4_allBeneath_51 (by decide) ?_
  exact j_weak rfl (hk4 _ _ _ _ h_a0 _)
set_option maxRecDepth 20000 in
theorem w_X4_allBeneath_b4  : ∀ (n : Nat) (a0 : Nat) (a1 : Int32) (a2 : Int32) (a3 : Int32) (h_a0 : a0 < cnt 11) (h : Hp), J encI RX4 cX4_allBeneath 4 (some .int) 0 4 [(0, aR 11 a0), (1, aI a1), (2, aI a2), (3, aI a3)] [] h (f_X4_allBeneath_b4  n a0 a1 a2 a3 h) := by
  intro n
  induction n with
  | zero =>
    intros
    exact j_none
  | succ n hk4 =>
    intro a0 a1 a2 a3 h_a0 h
    show J encI RX4 cX4_allBeneath 4 (some .int) 0 4 [(0, aR 11 a0), (1, aI a1), (2, aI a2), (3, aI a3)] [] h (f_X4_allBeneath_b4_body  (f_X4_allBeneath_b4  n) a0 a1 a2 a3 h)
    unfold f_X4_allBeneath_b4_body
    refine j_iload_n dX4_allBeneath_4 rfl ?_
    refine j_aload_n dX4_allBeneath_5 rfl ?_
    refine jg_X4_39 h_a0 dX4_allBeneath_6 ?_
    refine j_icmp_ge (tgt := 54) dX4_allBeneath_9 (by decide) (fun c1 => ?_) (fun c1 => ?_)
    · refine j_iload_n dX4_allBeneath_54 rfl ?_
      exact j_iret dX4_allBeneath_55
    · refine j_iload_n dX4_allBeneath_12 rfl ?_
      refine j_aload_n dX4_allBeneath_13 rfl ?_
      refine jg_X4_11 h_a0 dX4_allBeneath_14 ?_
      refine j_iload_n dX4_allBeneath_17 rfl ?_
      refine ja_12 h_a0 dX4_allBeneath_18 (fun q2 z3 => ?_)
      refine jg_X4_76 z3 dX4_allBeneath_19 ?_
      refine j_aload_n dX4_allBeneath_22 rfl ?_
      refine jg_X4_11 h_a0 dX4_allBeneath_23 ?_
      refine j_iload_n dX4_allBeneath_26 rfl ?_
      refine ja_12 h_a0 dX4_allBeneath_27 (fun q4 z5 => ?_)
      refine jg_X4_76 z5 dX4_allBeneath_28 ?_
      refine j_icmp_ge (tgt := 45) dX4_allBeneath_31 (by decide) (fun c6 => ?_) (fun c6 => ?_)
      · refine j_iconst (v := (0 : Int32)) dX4_allBeneath_45 (by decide) ?_
        exact j_weak rfl (w_X4_allBeneath_b46 _ hk4 _ _ _ _ _ h_a0 _)
      · refine j_aload_n dX4_allBeneath_34 rfl ?_
        refine jg_X4_42 h_a0 dX4_allBeneath_35 ?_
        refine j_iconst (v := (1 : Int32)) dX4_allBeneath_38 (by decide) ?_
        refine j_iload_n dX4_allBeneath_39 rfl ?_
        refine j_ishl dX4_allBeneath_40 ?_
        refine j_iand dX4_allBeneath_41 ?_
        refine j_goto (tgt := 46) dX4_allBeneath_42 (by decide) ?_
        exact j_weak rfl (w_X4_allBeneath_b46 _ hk4 _ _ _ _ _ h_a0 _)
set_option maxRecDepth 20000 in
theorem ct_X4_allBeneath (a0 : Nat) (a1 : Int32) (h_a0 : a0 < cnt 11) (h : Hp) : Ct encI yX4_allBeneath cX4_allBeneath 4 (some .int) 0 [aR 11 a0, aI a1] h (f_X4_allBeneath a0 a1 h) := by
  refine ct_of [(0, aR 11 a0), (1, aI a1)] (by decide) (fun _ => rfl) (fun _ => Nat.le_of_ble_eq_true rfl) ?_
  show J encI RX4 cX4_allBeneath 4 (some .int) 0 0 [(0, aR 11 a0), (1, aI a1)] [] h (f_X4_allBeneath a0 a1 h)
  unfold f_X4_allBeneath
  refine j_iconst (v := (0 : Int32)) dX4_allBeneath_0 (by decide) ?_
  refine j_istore_n dX4_allBeneath_1 (by decide) ?_
  refine j_iconst (v := (0 : Int32)) dX4_allBeneath_2 (by decide) ?_
  refine j_istore_n dX4_allBeneath_3 (by decide) ?_
  exact j_weak rfl (w_X4_allBeneath_b4  _ _ _ _ _ h_a0 _)
set_option maxRecDepth 20000 in
theorem ct_X4_beneath (a0 : Nat) (a1 : Int32) (h_a0 : a0 < cnt 11) (h : Hp) : Ct encI yX4_beneath cX4_beneath 2 (some .int) 0 [aR 11 a0, aI a1] h (f_X4_beneath a0 a1 h) := by
  refine ct_of [(0, aR 11 a0), (1, aI a1)] (by decide) (fun _ => rfl) (fun _ => Nat.le_of_ble_eq_true rfl) ?_
  show J encI RX4 cX4_beneath 2 (some .int) 0 0 [(0, aR 11 a0), (1, aI a1)] [] h (f_X4_beneath a0 a1 h)
  unfold f_X4_beneath
  refine j_iload_n dX4_beneath_0 rfl ?_
  refine j_if_gt (tgt := 8) dX4_beneath_1 (by decide) (fun c1 => ?_) (fun c1 => ?_)
  · refine j_aload_n dX4_beneath_8 rfl ?_
    refine jg_X4_24 h_a0 dX4_beneath_9 ?_
    refine j_iload_n dX4_beneath_12 rfl ?_
    refine j_iconst (v := (1 : Int32)) dX4_beneath_13 (by decide) ?_
    refine j_isub dX4_beneath_14 ?_
    refine j_iald (ic_15 _) h_a0 dX4_beneath_15 (fun q2 => ?_)
    exact j_iret dX4_beneath_16
  · refine j_iconst (v := (-1 : Int32)) dX4_beneath_4 (by decide) ?_
    refine j_goto (tgt := 16) dX4_beneath_5 (by decide) ?_
    exact j_iret dX4_beneath_16
set_option maxRecDepth 20000 in
theorem ct_X4_clear (a0 : Nat) (h_a0 : a0 < cnt 11) (h : Hp) : Ct encU yX4_clear cX4_clear 1 none 0 [aR 11 a0] h (f_X4_clear a0 h) := by
  refine ct_of [(0, aR 11 a0)] (by decide) (fun _ => rfl) (fun _ => Nat.le_of_ble_eq_true rfl) ?_
  show J encU RX4 cX4_clear 1 none 0 0 [(0, aR 11 a0)] [] h (f_X4_clear a0 h)
  unfold f_X4_clear
  refine j_aload_n dX4_clear_0 rfl ?_
  refine j_iconst (v := (0 : Int32)) dX4_clear_1 (by decide) ?_
  refine jp_X4_31 h_a0 dX4_clear_2 (fun q1 => ?_)
  refine j_aload_n dX4_clear_5 rfl ?_
  refine j_iconst (v := (0 : Int32)) dX4_clear_6 (by decide) ?_
  refine jp_X4_35 h_a0 dX4_clear_7 ?_
  refine j_aload_n dX4_clear_10 rfl ?_
  refine j_iconst (v := (0 : Int32)) dX4_clear_11 (by decide) ?_
  refine jp_X4_39 h_a0 dX4_clear_12 ?_
  refine j_aload_n dX4_clear_15 rfl ?_
  refine j_iconst (v := (0 : Int32)) dX4_clear_16 (by decide) ?_
  refine jp_X4_42 h_a0 dX4_clear_17 ?_
  refine j_aload_n dX4_clear_20 rfl ?_
  refine j_iconst (v := (0 : Int32)) dX4_clear_21 (by decide) ?_
  refine jp_X4_45 h_a0 dX4_clear_22 ?_
  refine j_aload_n dX4_clear_25 rfl ?_
  refine j_iconst (v := (0 : Int32)) dX4_clear_26 (by decide) ?_
  refine jp_X4_48 h_a0 dX4_clear_27 ?_
  refine j_aload_n dX4_clear_30 rfl ?_
  refine j_iconst (v := (0 : Int32)) dX4_clear_31 (by decide) ?_
  refine jp_X4_51 h_a0 dX4_clear_32 ?_
  refine j_aload_n dX4_clear_35 rfl ?_
  refine j_iconst (v := (0 : Int32)) dX4_clear_36 (by decide) ?_
  refine jp_X4_54 h_a0 dX4_clear_37 ?_
  refine j_aload_n dX4_clear_40 rfl ?_
  refine j_iconst (v := (0 : Int32)) dX4_clear_41 (by decide) ?_
  refine jp_X4_57 h_a0 dX4_clear_42 ?_
  exact j_vret dX4_clear_45
set_option maxRecDepth 20000 in
theorem w_X4_clearHalves_b2  : ∀ (n : Nat) (a0 : Nat) (a1 : Int32) (h_a0 : a0 < cnt 11) (h : Hp), J encU RX4 cX4_clearHalves 2 none 0 2 [(0, aR 11 a0), (1, aI a1)] [] h (f_X4_clearHalves_b2  n a0 a1 h) := by
  intro n
  induction n with
  | zero =>
    intros
    exact j_none
  | succ n hk2 =>
    intro a0 a1 h_a0 h
    show J encU RX4 cX4_clearHalves 2 none 0 2 [(0, aR 11 a0), (1, aI a1)] [] h (f_X4_clearHalves_b2_body  (f_X4_clearHalves_b2  n) a0 a1 h)
    unfold f_X4_clearHalves_b2_body
    refine j_iload_n dX4_clearHalves_2 rfl ?_
    refine j_bipush (v := (6 : Int32)) dX4_clearHalves_3 (by decide) ?_
    refine j_icmp_ge (tgt := 28) dX4_clearHalves_5 (by decide) (fun c1 => ?_) (fun c1 => ?_)
    · exact j_vret dX4_clearHalves_28
    · refine j_aload_n dX4_clearHalves_8 rfl ?_
      refine jg_X4_24 h_a0 dX4_clearHalves_9 ?_
      refine j_iload_n dX4_clearHalves_12 rfl ?_
      refine j_iconst (v := (0 : Int32)) dX4_clearHalves_13 (by decide) ?_
      refine j_iast (ic_15 _) h_a0 dX4_clearHalves_14 (fun q2 => ?_)
      refine j_aload_n dX4_clearHalves_15 rfl ?_
      refine jg_X4_27 h_a0 dX4_clearHalves_16 ?_
      refine j_iload_n dX4_clearHalves_19 rfl ?_
      refine j_iconst (v := (0 : Int32)) dX4_clearHalves_20 (by decide) ?_
      refine j_iast (ic_16 _) h_a0 dX4_clearHalves_21 (fun q3 => ?_)
      refine j_iinc (v := (1 : Int32)) dX4_clearHalves_22 rfl (by decide) (by decide) ?_
      refine j_goto (tgt := 2) dX4_clearHalves_25 (by decide) ?_
      exact j_weak rfl (hk2 _ _ h_a0 _)
set_option maxRecDepth 20000 in
theorem ct_X4_clearHalves (a0 : Nat) (h_a0 : a0 < cnt 11) (h : Hp) : Ct encU yX4_clearHalves cX4_clearHalves 2 none 0 [aR 11 a0] h (f_X4_clearHalves a0 h) := by
  refine ct_of [(0, aR 11 a0)] (by decide) (fun _ => rfl) (fun _ => Nat.le_of_ble_eq_true rfl) ?_
  show J encU RX4 cX4_clearHalves 2 none 0 0 [(0, aR 11 a0)] [] h (f_X4_clearHalves a0 h)
  unfold f_X4_clearHalves
  refine j_iconst (v := (0 : Int32)) dX4_clearHalves_0 (by decide) ?_
  refine j_istore_n dX4_clearHalves_1 (by decide) ?_
  exact j_weak rfl (w_X4_clearHalves_b2  _ _ _ h_a0 _)
set_option maxRecDepth 20000 in
theorem ct_X4_comeBack (a0 : Nat) (a1 : Int32) (h_a0 : a0 < cnt 11) (h : Hp) : Ct encU yX4_comeBack cX4_comeBack 2 none 0 [aR 11 a0, aI a1] h (f_X4_comeBack a0 a1 h) := by
  refine ct_of [(0, aR 11 a0), (1, aI a1)] (by decide) (fun _ => rfl) (fun _ => Nat.le_of_ble_eq_true rfl) ?_
  show J encU RX4 cX4_comeBack 2 none 0 0 [(0, aR 11 a0), (1, aI a1)] [] h (f_X4_comeBack a0 a1 h)
  unfold f_X4_comeBack
  refine j_aload_n dX4_comeBack_0 rfl ?_
  refine j_dup dX4_comeBack_1 rfl ?_
  refine jg_X4_42 h_a0 dX4_comeBack_2 ?_
  refine j_iconst (v := (1 : Int32)) dX4_comeBack_5 (by decide) ?_
  refine j_iload_n dX4_comeBack_6 rfl ?_
  refine j_ishl dX4_comeBack_7 ?_
  refine j_ior dX4_comeBack_8 ?_
  refine jp_X4_42 h_a0 dX4_comeBack_9 ?_
  refine j_aload_n dX4_comeBack_12 rfl ?_
  refine j_dup dX4_comeBack_13 rfl ?_
  refine jg_X4_57 h_a0 dX4_comeBack_14 ?_
  refine j_iconst (v := (1 : Int32)) dX4_comeBack_17 (by decide) ?_
  refine j_isub dX4_comeBack_18 ?_
  refine jp_X4_57 h_a0 dX4_comeBack_19 ?_
  exact j_vret dX4_comeBack_22
set_option maxRecDepth 20000 in
theorem ct_X4_fillHalves (a0 : Nat) (a1 : Nat) (h_a0 : a0 < cnt 11) (h_a1 : a1 < cnt 17) (h : Hp) : Ct encU yX4_fillHalves cX4_fillHalves 2 none 0 [aR 11 a0, aR 17 a1] h (f_X4_fillHalves a0 a1 h) := by
  refine ct_of [(0, aR 11 a0), (1, aR 17 a1)] (by decide) (fun _ => rfl) (fun _ => Nat.le_of_ble_eq_true rfl) ?_
  show J encU RX4 cX4_fillHalves 2 none 0 0 [(0, aR 11 a0), (1, aR 17 a1)] [] h (f_X4_fillHalves a0 a1 h)
  unfold f_X4_fillHalves
  refine j_aload_n dX4_fillHalves_0 rfl ?_
  refine jg_X4_24 h_a0 dX4_fillHalves_1 ?_
  refine j_aload_n dX4_fillHalves_4 rfl ?_
  refine jg_X4_76 h_a1 dX4_fillHalves_5 ?_
  refine j_dup2 dX4_fillHalves_8 rfl rfl ?_
  refine j_iald (ic_15 _) h_a0 dX4_fillHalves_9 (fun q1 => ?_)
  refine j_aload_n dX4_fillHalves_10 rfl ?_
  refine jg_X4_79 h_a1 dX4_fillHalves_11 ?_
  refine j_ior dX4_fillHalves_14 ?_
  refine j_iast (ic_15 _) h_a0 dX4_fillHalves_15 (fun q2 => ?_)
  refine j_aload_n dX4_fillHalves_16 rfl ?_
  refine jg_X4_106 h_a1 dX4_fillHalves_17 ?_
  refine j_iconst (v := (5 : Int32)) dX4_fillHalves_20 (by decide) ?_
  refine j_icmp_eq (tgt := 40) dX4_fillHalves_21 (by decide) (fun c3 => ?_) (fun c3 => ?_)
  · exact j_vret dX4_fillHalves_40
  · refine j_aload_n dX4_fillHalves_24 rfl ?_
    refine jg_X4_27 h_a0 dX4_fillHalves_25 ?_
    refine j_aload_n dX4_fillHalves_28 rfl ?_
    refine jg_X4_76 h_a1 dX4_fillHalves_29 ?_
    refine j_dup2 dX4_fillHalves_32 rfl rfl ?_
    refine j_iald (ic_16 _) h_a0 dX4_fillHalves_33 (fun q4 => ?_)
    refine j_aload_n dX4_fillHalves_34 rfl ?_
    refine jg_X4_79 h_a1 dX4_fillHalves_35 ?_
    refine j_ior dX4_fillHalves_38 ?_
    refine j_iast (ic_16 _) h_a0 dX4_fillHalves_39 (fun q5 => ?_)
    exact j_vret dX4_fillHalves_40
set_option maxRecDepth 20000 in
theorem ct_X4_has (a0 : Nat) (a1 : Int32) (h_a0 : a0 < cnt 11) (h : Hp) : Ct encI yX4_has cX4_has 2 (some .boolean) 0 [aR 11 a0, aI a1] h (f_X4_has a0 a1 h) := by
  refine ct_of [(0, aR 11 a0), (1, aI a1)] (by decide) (fun _ => rfl) (fun _ => Nat.le_of_ble_eq_true rfl) ?_
  show J encI RX4 cX4_has 2 (some .boolean) 0 0 [(0, aR 11 a0), (1, aI a1)] [] h (f_X4_has a0 a1 h)
  unfold f_X4_has
  refine j_iload_n dX4_has_0 rfl ?_
  refine j_if_lt (tgt := 16) dX4_has_1 (by decide) (fun c1 => ?_) (fun c1 => ?_)
  · refine j_iconst (v := (0 : Int32)) dX4_has_16 (by decide) ?_
    exact j_zret (Or.inl rfl) dX4_has_17
  · refine j_iload_n dX4_has_4 rfl ?_
    refine j_aload_n dX4_has_5 rfl ?_
    refine jg_X4_39 h_a0 dX4_has_6 ?_
    refine j_icmp_ge (tgt := 16) dX4_has_9 (by decide) (fun c2 => ?_) (fun c2 => ?_)
    · refine j_iconst (v := (0 : Int32)) dX4_has_16 (by decide) ?_
      exact j_zret (Or.inl rfl) dX4_has_17
    · refine j_iconst (v := (1 : Int32)) dX4_has_12 (by decide) ?_
      refine j_goto (tgt := 17) dX4_has_13 (by decide) ?_
      exact j_zret (Or.inr rfl) dX4_has_17
set_option maxRecDepth 20000 in
theorem ct_X4_hasAll (a0 : Nat) (a1 : Int32) (h_a0 : a0 < cnt 11) (h : Hp) : Ct encI yX4_hasAll cX4_hasAll 2 (some .boolean) 0 [aR 11 a0, aI a1] h (f_X4_hasAll a0 a1 h) := by
  refine ct_of [(0, aR 11 a0), (1, aI a1)] (by decide) (fun _ => rfl) (fun _ => Nat.le_of_ble_eq_true rfl) ?_
  show J encI RX4 cX4_hasAll 2 (some .boolean) 0 0 [(0, aR 11 a0), (1, aI a1)] [] h (f_X4_hasAll a0 a1 h)
  unfold f_X4_hasAll
  refine j_iload_n dX4_hasAll_0 rfl ?_
  refine j_if_lt (tgt := 17) dX4_hasAll_1 (by decide) (fun c1 => ?_) (fun c1 => ?_)
  · refine j_iconst (v := (0 : Int32)) dX4_hasAll_17 (by decide) ?_
    exact j_zret (Or.inl rfl) dX4_hasAll_18
  · refine j_iload_n dX4_hasAll_4 rfl ?_
    refine j_aload_n dX4_hasAll_5 rfl ?_
    refine jg_X4_39 h_a0 dX4_hasAll_6 ?_
    refine j_ishr dX4_hasAll_9 ?_
    refine j_if_ne (tgt := 17) dX4_hasAll_10 (by decide) (fun c2 => ?_) (fun c2 => ?_)
    · refine j_iconst (v := (0 : Int32)) dX4_hasAll_17 (by decide) ?_
      exact j_zret (Or.inl rfl) dX4_hasAll_18
    · refine j_iconst (v := (1 : Int32)) dX4_hasAll_13 (by decide) ?_
      refine j_goto (tgt := 18) dX4_hasAll_14 (by decide) ?_
      exact j_zret (Or.inr rfl) dX4_hasAll_18
set_option maxRecDepth 20000 in
theorem ct_X4_hasVine (a0 : Nat) (a1 : Int32) (h_a0 : a0 < cnt 11) (h : Hp) : Ct encI yX4_hasVine cX4_hasVine 2 (some .boolean) 0 [aR 11 a0, aI a1] h (f_X4_hasVine a0 a1 h) := by
  refine ct_of [(0, aR 11 a0), (1, aI a1)] (by decide) (fun _ => rfl) (fun _ => Nat.le_of_ble_eq_true rfl) ?_
  show J encI RX4 cX4_hasVine 2 (some .boolean) 0 0 [(0, aR 11 a0), (1, aI a1)] [] h (f_X4_hasVine a0 a1 h)
  unfold f_X4_hasVine
  refine j_aload_n dX4_hasVine_0 rfl ?_
  refine jg_X4_48 h_a0 dX4_hasVine_1 ?_
  refine j_iload_n dX4_hasVine_4 rfl ?_
  refine j_ishr dX4_hasVine_5 ?_
  refine j_iconst (v := (1 : Int32)) dX4_hasVine_6 (by decide) ?_
  refine j_iand dX4_hasVine_7 ?_
  refine j_iconst (v := (1 : Int32)) dX4_hasVine_8 (by decide) ?_
  refine j_icmp_ne (tgt := 16) dX4_hasVine_9 (by decide) (fun c1 => ?_) (fun c1 => ?_)
  · refine j_iconst (v := (0 : Int32)) dX4_hasVine_16 (by decide) ?_
    exact j_zret (Or.inl rfl) dX4_hasVine_17
  · refine j_iconst (v := (1 : Int32)) dX4_hasVine_12 (by decide) ?_
    refine j_goto (tgt := 17) dX4_hasVine_13 (by decide) ?_
    exact j_zret (Or.inr rfl) dX4_hasVine_17
set_option maxRecDepth 20000 in
theorem ct_X4_isIn (a0 : Nat) (a1 : Int32) (h_a0 : a0 < cnt 11) (h : Hp) : Ct encI yX4_isIn cX4_isIn 2 (some .boolean) 0 [aR 11 a0, aI a1] h (f_X4_isIn a0 a1 h) := by
  refine ct_of [(0, aR 11 a0), (1, aI a1)] (by decide) (fun _ => rfl) (fun _ => Nat.le_of_ble_eq_true rfl) ?_
  show J encI RX4 cX4_isIn 2 (some .boolean) 0 0 [(0, aR 11 a0), (1, aI a1)] [] h (f_X4_isIn a0 a1 h)
  unfold f_X4_isIn
  refine j_aload_n dX4_isIn_0 rfl ?_
  refine jg_X4_42 h_a0 dX4_isIn_1 ?_
  refine j_iload_n dX4_isIn_4 rfl ?_
  refine j_ishr dX4_isIn_5 ?_
  refine j_iconst (v := (1 : Int32)) dX4_isIn_6 (by decide) ?_
  refine j_iand dX4_isIn_7 ?_
  refine j_iconst (v := (1 : Int32)) dX4_isIn_8 (by decide) ?_
  refine j_icmp_ne (tgt := 16) dX4_isIn_9 (by decide) (fun c1 => ?_) (fun c1 => ?_)
  · refine j_iconst (v := (0 : Int32)) dX4_isIn_16 (by decide) ?_
    exact j_zret (Or.inl rfl) dX4_isIn_17
  · refine j_iconst (v := (1 : Int32)) dX4_isIn_12 (by decide) ?_
    refine j_goto (tgt := 17) dX4_isIn_13 (by decide) ?_
    exact j_zret (Or.inr rfl) dX4_isIn_17
set_option maxRecDepth 20000 in
theorem ct_X4_lastDrawn (a0 : Nat) (h_a0 : a0 < cnt 11) (h : Hp) : Ct encI yX4_lastDrawn cX4_lastDrawn 1 (some .int) 0 [aR 11 a0] h (f_X4_lastDrawn a0 h) := by
  refine ct_of [(0, aR 11 a0)] (by decide) (fun _ => rfl) (fun _ => Nat.le_of_ble_eq_true rfl) ?_
  show J encI RX4 cX4_lastDrawn 1 (some .int) 0 0 [(0, aR 11 a0)] [] h (f_X4_lastDrawn a0 h)
  unfold f_X4_lastDrawn
  refine j_aload_n dX4_lastDrawn_0 rfl ?_
  refine jg_X4_57 h_a0 dX4_lastDrawn_1 ?_
  refine j_if_le (tgt := 21) dX4_lastDrawn_4 (by decide) (fun c1 => ?_) (fun c1 => ?_)
  · refine j_bipush (v := (-9 : Int32)) dX4_lastDrawn_21 (by decide) ?_
    exact j_iret dX4_lastDrawn_23
  · refine j_aload_n dX4_lastDrawn_7 rfl ?_
    refine jg_X4_21 h_a0 dX4_lastDrawn_8 ?_
    refine j_aload_n dX4_lastDrawn_11 rfl ?_
    refine jg_X4_57 h_a0 dX4_lastDrawn_12 ?_
    refine j_iconst (v := (1 : Int32)) dX4_lastDrawn_15 (by decide) ?_
    refine j_isub dX4_lastDrawn_16 ?_
    refine j_iald (ic_14 _) h_a0 dX4_lastDrawn_17 (fun q2 => ?_)
    refine j_goto (tgt := 23) dX4_lastDrawn_18 (by decide) ?_
    exact j_iret dX4_lastDrawn_23
set_option maxRecDepth 20000 in
theorem w_X4_over_b67 (kont6 : Nat → Int32 → Int32 → Int32 → Int32 → Int32 → Hp → Option (Int32 × Hp)) (hk6 : ∀ (a0 : Nat) (a1 : Int32) (a2 : Int32) (a3 : Int32) (a4 : Int32) (a5 : Int32) (h_a0 : a0 < cnt 11) (h : Hp), J encI RX4 cX4_over 8 (some .int) 0 6 [(0, aR 11 a0), (1, aI a1), (2, aI a2), (3, aI a3), (4, aI a4), (5, aI a5)] [] h (kont6 a0 a1 a2 a3 a4 a5 h)) (a0 : Nat) (a1 : Int32) (a2 : Int32) (a3 : Int32) (a5 : Int32) (s0 : Int32) (s1 : Int32) (h_a0 : a0 < cnt 11) (h : Hp) : J encI RX4 cX4_over 8 (some .int) 0 67 [(0, aR 11 a0), (1, aI a1), (2, aI a2), (3, aI a3), (5, aI a5)] [aI s1, aI s0] h (f_X4_over_b67 kont6 a0 a1 a2 a3 a5 s0 s1 h) := by
  unfold f_X4_over_b67
  refine j_ior dX4_over_67 ?_
  refine j_istore dX4_over_68 (by decide) ?_
  refine j_iinc (v := (1 : Int32)) dX4_over_70 rfl (by decide) (by decide) ?_
  refine j_goto (tgt := 6) dX4_over_73 (by decide) ?_
  exact j_weak rfl (hk6 _ _ _ _ _ _ h_a0 _)
set_option maxRecDepth 20000 in
theorem w_X4_over_b48 (kont6 : Nat → Int32 → Int32 → Int32 → Int32 → Int32 → Hp → Option (Int32 × Hp)) (hk6 : ∀ (a0 : Nat) (a1 : Int32) (a2 : Int32) (a3 : Int32) (a4 : Int32) (a5 : Int32) (h_a0 : a0 < cnt 11) (h : Hp), J encI RX4 cX4_over 8 (some .int) 0 6 [(0, aR 11 a0), (1, aI a1), (2, aI a2), (3, aI a3), (4, aI a4), (5, aI a5)] [] h (kont6 a0 a1 a2 a3 a4 a5 h)) (a0 : Nat) (a1 : Int32) (a2 : Int32) (a3 : Int32) (a4 : Int32) (a5 : Int32) (s0 : Int32) (h_a0 : a0 < cnt 11) (h : Hp) : J encI RX4 cX4_over 8 (some .int) 0 48 [(0, aR 11 a0), (1, aI a1), (2, aI a2), (3, aI a3), (4, aI a4), (5, aI a5)] [aI s0] h (f_X4_over_b48 kont6 a0 a1 a2 a3 a4 a5 s0 h) := by
  unfold f_X4_over_b48
  refine j_istore dX4_over_48 (by decide) ?_
  refine j_iload dX4_over_50 rfl ?_
  refine j_iload dX4_over_52 rfl ?_
  refine j_if_eq (tgt := 66) dX4_over_54 (by decide) (fun c1 => ?_) (fun c1 => ?_)
  · refine j_iconst (v := (0 : Int32)) dX4_over_66 (by decide) ?_
    exact j_weak rfl (w_X4_over_b67 _ hk6 _ _ _ _ _ _ _ h_a0 _)
  · refine j_iload_n dX4_over_57 rfl ?_
    refine j_iconst (v := (1 : Int32)) dX4_over_58 (by decide) ?_
    refine j_iload dX4_over_59 rfl ?_
    refine j_ishl dX4_over_61 ?_
    refine j_iand dX4_over_62 ?_
    refine j_goto (tgt := 67) dX4_over_63 (by decide) ?_
    exact j_weak rfl (w_X4_over_b67 _ hk6 _ _ _ _ _ _ _ h_a0 _)
set_option maxRecDepth 20000 in
theorem w_X4_over_b47 (kont6 : Nat → Int32 → Int32 → Int32 → Int32 → Int32 → Hp → Option (Int32 × Hp)) (hk6 : ∀ (a0 : Nat) (a1 : Int32) (a2 : Int32) (a3 : Int32) (a4 : Int32) (a5 : Int32) (h_a0 : a0 < cnt 11) (h : Hp), J encI RX4 cX4_over 8 (some .int) 0 6 [(0, aR 11 a0), (1, aI a1), (2, aI a2), (3, aI a3), (4, aI a4), (5, aI a5)] [] h (kont6 a0 a1 a2 a3 a4 a5 h)) (a0 : Nat) (a1 : Int32) (a2 : Int32) (a3 : Int32) (a4 : Int32) (a5 : Int32) (h_a0 : a0 < cnt 11) (h : Hp) : J encI RX4 cX4_over 8 (some .int) 0 47 [(0, aR 11 a0), (1, aI a1), (2, aI a2), (3, aI a3), (4, aI a4), (5, aI a5)] [] h (f_X4_over_b47 kont6 a0 a1 a2 a3 a4 a5 h) := by
  unfold f_X4_over_b47
  refine j_iconst (v := (0 : Int32)) dX4_over_47 (by decide) ?_
  exact j_weak rfl (w_X4_over_b48 _ hk6 _ _ _ _ _ _ _ h_a0 _)
set_option maxRecDepth 20000 in
theorem w_X4_over_b6  : ∀ (n : Nat) (a0 : Nat) (a1 : Int32) (a2 : Int32) (a3 : Int32) (a4 : Int32) (a5 : Int32) (h_a0 : a0 < cnt 11) (h : Hp), J encI RX4 cX4_over 8 (some .int) 0 6 [(0, aR 11 a0), (1, aI a1), (2, aI a2), (3, aI a3), (4, aI a4), (5, aI a5)] [] h (f_X4_over_b6  n a0 a1 a2 a3 a4 a5 h) := by
  intro n
  induction n with
  | zero =>
    intros
    exact j_none
  | succ n hk6 =>
    intro a0 a1 a2 a3 a4 a5 h_a0 h
    show J encI RX4 cX4_over 8 (some .int) 0 6 [(0, aR 11 a0), (1, aI a1), (2, aI a2), (3, aI a3), (4, aI a4), (5, aI a5)] [] h (f_X4_over_b6_body  (f_X4_over_b6  n) a0 a1 a2 a3 a4 a5 h)
    unfold f_X4_over_b6_body
    refine j_iload dX4_over_6 rfl ?_
    refine j_aload_n dX4_over_8 rfl ?_
    refine jg_X4_39 h_a0 dX4_over_9 ?_
    refine j_icmp_ge (tgt := 76) dX4_over_12 (by decide) (fun c1 => ?_) (fun c1 => ?_)
    · refine j_iload dX4_over_76 rfl ?_
      exact j_iret dX4_over_78
    · refine j_aload_n dX4_over_15 rfl ?_
      refine jg_X4_11 h_a0 dX4_over_16 ?_
      refine j_iload dX4_over_19 rfl ?_
      refine ja_12 h_a0 dX4_over_21 (fun q2 z3 => ?_)
      refine j_astore dX4_over_22 (by decide) ?_
      refine j_aload dX4_over_24 rfl ?_
      refine jg_X4_76 z3 dX4_over_26 ?_
      refine j_iload_n dX4_over_29 rfl ?_
      refine j_icmp_ne (tgt := 47) dX4_over_30 (by decide) (fun c4 => ?_) (fun c4 => ?_)
      · exact j_weak rfl (w_X4_over_b47 _ hk6 _ _ _ _ _ _ h_a0 _)
      · refine j_aload dX4_over_33 rfl ?_
        refine jg_X4_79 z3 dX4_over_35 ?_
        refine j_iload_n dX4_over_38 rfl ?_
        refine j_iand dX4_over_39 ?_
        refine j_if_eq (tgt := 47) dX4_over_40 (by decide) (fun c5 => ?_) (fun c5 => ?_)
        · exact j_weak rfl (w_X4_over_b47 _ hk6 _ _ _ _ _ _ h_a0 _)
        · refine j_iconst (v := (1 : Int32)) dX4_over_43 (by decide) ?_
          refine j_goto (tgt := 48) dX4_over_44 (by decide) ?_
          exact j_weak rfl (w_X4_over_b48 _ hk6 _ _ _ _ _ _ _ h_a0 _)
set_option maxRecDepth 20000 in
theorem ct_X4_over (a0 : Nat) (a1 : Int32) (a2 : Int32) (a3 : Int32) (h_a0 : a0 < cnt 11) (h : Hp) : Ct encI yX4_over cX4_over 8 (some .int) 0 [aR 11 a0, aI a1, aI a2, aI a3] h (f_X4_over a0 a1 a2 a3 h) := by
  refine ct_of [(0, aR 11 a0), (1, aI a1), (2, aI a2), (3, aI a3)] (by decide) (fun _ => rfl) (fun _ => Nat.le_of_ble_eq_true rfl) ?_
  show J encI RX4 cX4_over 8 (some .int) 0 0 [(0, aR 11 a0), (1, aI a1), (2, aI a2), (3, aI a3)] [] h (f_X4_over a0 a1 a2 a3 h)
  unfold f_X4_over
  refine j_iconst (v := (0 : Int32)) dX4_over_0 (by decide) ?_
  refine j_istore dX4_over_1 (by decide) ?_
  refine j_iconst (v := (0 : Int32)) dX4_over_3 (by decide) ?_
  refine j_istore dX4_over_4 (by decide) ?_
  exact j_weak rfl (w_X4_over_b6  _ _ _ _ _ _ _ h_a0 _)
set_option maxRecDepth 20000 in
theorem w_X4_removeLast_b52 (kont19 : Nat → Int32 → Int32 → Int32 → Hp → Option (Unit × Hp)) (hk19 : ∀ (a0 : Nat) (a1 : Int32) (a2 : Int32) (a3 : Int32) (h_a0 : a0 < cnt 11) (h : Hp), J encU RX4 cX4_removeLast 4 none 0 19 [(0, aR 11 a0), (1, aI a1), (2, aI a2), (3, aI a3)] [] h (kont19 a0 a1 a2 a3 h)) (a0 : Nat) (a1 : Int32) (a2 : Int32) (a3 : Int32) (h_a0 : a0 < cnt 11) (h : Hp) : J encU RX4 cX4_removeLast 4 none 0 52 [(0, aR 11 a0), (1, aI a1), (2, aI a2), (3, aI a3)] [] h (f_X4_removeLast_b52 kont19 a0 a1 a2 a3 h) := by
  unfold f_X4_removeLast_b52
  refine j_iinc (v := (1 : Int32)) dX4_removeLast_52 rfl (by decide) (by decide) ?_
  refine j_goto (tgt := 19) dX4_removeLast_55 (by decide) ?_
  exact j_weak rfl (hk19 _ _ _ _ h_a0 _)
set_option maxRecDepth 20000 in
theorem w_X4_removeLast_b19  : ∀ (n : Nat) (a0 : Nat) (a1 : Int32) (a2 : Int32) (a3 : Int32) (h_a0 : a0 < cnt 11) (h : Hp), J encU RX4 cX4_removeLast 4 none 0 19 [(0, aR 11 a0), (1, aI a1), (2, aI a2), (3, aI a3)] [] h (f_X4_removeLast_b19  n a0 a1 a2 a3 h) := by
  intro n
  induction n with
  | zero =>
    intros
    exact j_none
  | succ n hk19 =>
    intro a0 a1 a2 a3 h_a0 h
    show J encU RX4 cX4_removeLast 4 none 0 19 [(0, aR 11 a0), (1, aI a1), (2, aI a2), (3, aI a3)] [] h (f_X4_removeLast_b19_body  (f_X4_removeLast_b19  n) a0 a1 a2 a3 h)
    unfold f_X4_removeLast_b19_body
    refine j_iload_n dX4_removeLast_19 rfl ?_
    refine j_aload_n dX4_removeLast_20 rfl ?_
    refine jg_X4_39 h_a0 dX4_removeLast_21 ?_
    refine j_icmp_ge (tgt := 58) dX4_removeLast_24 (by decide) (fun c1 => ?_) (fun c1 => ?_)
    · refine j_aload_n dX4_removeLast_58 rfl ?_
      refine j_dup dX4_removeLast_59 rfl ?_
      refine jg_X4_42 h_a0 dX4_removeLast_60 ?_
      refine j_iconst (v := (1 : Int32)) dX4_removeLast_63 (by decide) ?_
      refine j_iload_n dX4_removeLast_64 rfl ?_
      refine j_ishl dX4_removeLast_65 ?_
      refine j_iconst (v := (-1 : Int32)) dX4_removeLast_66 (by decide) ?_
      refine j_ixor dX4_removeLast_67 ?_
      refine j_iand dX4_removeLast_68 ?_
      refine jp_X4_42 h_a0 dX4_removeLast_69 ?_
      refine j_aload_n dX4_removeLast_72 rfl ?_
      refine j_dup dX4_removeLast_73 rfl ?_
      refine jg_X4_39 h_a0 dX4_removeLast_74 ?_
      refine j_iconst (v := (1 : Int32)) dX4_removeLast_77 (by decide) ?_
      refine j_isub dX4_removeLast_78 ?_
      refine jp_X4_39 h_a0 dX4_removeLast_79 ?_
      exact j_vret dX4_removeLast_82
    · refine j_aload_n dX4_removeLast_27 rfl ?_
      refine jg_X4_17 h_a0 dX4_removeLast_28 ?_
      refine j_iload_n dX4_removeLast_31 rfl ?_
      refine j_iald (ic_13 _) h_a0 dX4_removeLast_32 (fun q2 => ?_)
      refine j_iload_n dX4_removeLast_33 rfl ?_
      refine j_icmp_eq (tgt := 52) dX4_removeLast_34 (by decide) (fun c3 => ?_) (fun c3 => ?_)
      · exact j_weak rfl (w_X4_removeLast_b52 _ hk19 _ _ _ _ h_a0 _)
      · refine j_aload_n dX4_removeLast_37 rfl ?_
        refine jg_X4_17 h_a0 dX4_removeLast_38 ?_
        refine j_iload_n dX4_removeLast_41 rfl ?_
        refine j_aload_n dX4_removeLast_42 rfl ?_
        refine jg_X4_17 h_a0 dX4_removeLast_43 ?_
        refine j_iload_n dX4_removeLast_46 rfl ?_
        refine j_iald (ic_13 _) h_a0 dX4_removeLast_47 (fun q4 => ?_)
        refine j_iast (ic_13 _) h_a0 dX4_removeLast_48 (fun q5 => ?_)
        refine j_iinc (v := (1 : Int32)) dX4_removeLast_49 rfl (by decide) (by decide) ?_
        exact j_weak rfl (w_X4_removeLast_b52 _ hk19 _ _ _ _ h_a0 _)
set_option maxRecDepth 20000 in
theorem ct_X4_removeLast (a0 : Nat) (h_a0 : a0 < cnt 11) (h : Hp) : Ct encU yX4_removeLast cX4_removeLast 4 none 0 [aR 11 a0] h (f_X4_removeLast a0 h) := by
  refine ct_of [(0, aR 11 a0)] (by decide) (fun _ => rfl) (fun _ => Nat.le_of_ble_eq_true rfl) ?_
  show J encU RX4 cX4_removeLast 4 none 0 0 [(0, aR 11 a0)] [] h (f_X4_removeLast a0 h)
  unfold f_X4_removeLast
  refine j_aload_n dX4_removeLast_0 rfl ?_
  refine jg_X4_39 h_a0 dX4_removeLast_1 ?_
  refine j_if_gt (tgt := 8) dX4_removeLast_4 (by decide) (fun c1 => ?_) (fun c1 => ?_)
  · refine j_aload_n dX4_removeLast_8 rfl ?_
    refine jg_X4_39 h_a0 dX4_removeLast_9 ?_
    refine j_iconst (v := (1 : Int32)) dX4_removeLast_12 (by decide) ?_
    refine j_isub dX4_removeLast_13 ?_
    refine j_istore_n dX4_removeLast_14 (by decide) ?_
    refine j_iconst (v := (0 : Int32)) dX4_removeLast_15 (by decide) ?_
    refine j_istore_n dX4_removeLast_16 (by decide) ?_
    refine j_iconst (v := (0 : Int32)) dX4_removeLast_17 (by decide) ?_
    refine j_istore_n dX4_removeLast_18 (by decide) ?_
    exact j_weak rfl (w_X4_removeLast_b19  _ _ _ _ _ h_a0 _)
  · exact j_vret dX4_removeLast_7
set_option maxRecDepth 20000 in
theorem ct_X4_takeOut (a0 : Nat) (a1 : Int32) (h_a0 : a0 < cnt 11) (h : Hp) : Ct encU yX4_takeOut cX4_takeOut 2 none 0 [aR 11 a0, aI a1] h (f_X4_takeOut a0 a1 h) := by
  refine ct_of [(0, aR 11 a0), (1, aI a1)] (by decide) (fun _ => rfl) (fun _ => Nat.le_of_ble_eq_true rfl) ?_
  show J encU RX4 cX4_takeOut 2 none 0 0 [(0, aR 11 a0), (1, aI a1)] [] h (f_X4_takeOut a0 a1 h)
  unfold f_X4_takeOut
  refine j_aload_n dX4_takeOut_0 rfl ?_
  refine j_dup dX4_takeOut_1 rfl ?_
  refine jg_X4_42 h_a0 dX4_takeOut_2 ?_
  refine j_iload_n dX4_takeOut_5 rfl ?_
  refine j_iconst (v := (-1 : Int32)) dX4_takeOut_6 (by decide) ?_
  refine j_ixor dX4_takeOut_7 ?_
  refine j_iand dX4_takeOut_8 ?_
  refine jp_X4_42 h_a0 dX4_takeOut_9 ?_
  refine j_aload_n dX4_takeOut_12 rfl ?_
  refine j_dup dX4_takeOut_13 rfl ?_
  refine jg_X4_45 h_a0 dX4_takeOut_14 ?_
  refine j_iload_n dX4_takeOut_17 rfl ?_
  refine j_iconst (v := (-1 : Int32)) dX4_takeOut_18 (by decide) ?_
  refine j_ixor dX4_takeOut_19 ?_
  refine j_iand dX4_takeOut_20 ?_
  refine jp_X4_45 h_a0 dX4_takeOut_21 ?_
  exact j_vret dX4_takeOut_24
set_option maxRecDepth 20000 in
theorem ct_X4_tells (a0 : Nat) (a1 : Int32) (a2 : Int32) (h_a0 : a0 < cnt 11) (h : Hp) : Ct encI yX4_tells cX4_tells 4 (some .int) 0 [aR 11 a0, aI a1, aI a2] h (f_X4_tells a0 a1 a2 h) := by
  refine ct_of [(0, aR 11 a0), (1, aI a1), (2, aI a2)] (by decide) (fun _ => rfl) (fun _ => Nat.le_of_ble_eq_true rfl) ?_
  show J encI RX4 cX4_tells 4 (some .int) 0 0 [(0, aR 11 a0), (1, aI a1), (2, aI a2)] [] h (f_X4_tells a0 a1 a2 h)
  unfold f_X4_tells
  refine j_aload_n dX4_tells_0 rfl ?_
  refine jg_X4_11 h_a0 dX4_tells_1 ?_
  refine j_iload_n dX4_tells_4 rfl ?_
  refine ja_12 h_a0 dX4_tells_5 (fun q1 z2 => ?_)
  refine j_astore_n dX4_tells_6 (by decide) ?_
  refine j_iload_n dX4_tells_7 rfl ?_
  refine j_if (fun c3 => ?_) (fun c3 => ?_)
  · refine j_tsIn (tgt := 56) (off := 48) dX4_tells_8 (by rw [c3]; decide) (by rw [c3]; decide) (by rw [c3]; rfl) (by decide) ?_
    refine j_aload_n dX4_tells_56 rfl ?_
    refine jg_X4_106 z2 dX4_tells_57 ?_
    exact j_iret dX4_tells_60
  refine j_if (fun c4 => ?_) (fun c4 => ?_)
  · refine j_tsIn (tgt := 61) (off := 53) dX4_tells_8 (by rw [c4]; decide) (by rw [c4]; decide) (by rw [c4]; rfl) (by decide) ?_
    refine j_aload_n dX4_tells_61 rfl ?_
    refine jg_X4_76 z2 dX4_tells_62 ?_
    exact j_iret dX4_tells_65
  refine j_if (fun c5 => ?_) (fun c5 => ?_)
  · refine j_tsIn (tgt := 66) (off := 58) dX4_tells_8 (by rw [c5]; decide) (by rw [c5]; decide) (by rw [c5]; rfl) (by decide) ?_
    refine j_aload_n dX4_tells_66 rfl ?_
    refine jg_X4_120 z2 dX4_tells_67 ?_
    exact j_iret dX4_tells_70
  refine j_if (fun c6 => ?_) (fun c6 => ?_)
  · refine j_tsIn (tgt := 71) (off := 63) dX4_tells_8 (by rw [c6]; decide) (by rw [c6]; decide) (by rw [c6]; rfl) (by decide) ?_
    refine j_aload_n dX4_tells_71 rfl ?_
    refine jg_X4_123 z2 dX4_tells_72 ?_
    exact j_iret dX4_tells_75
  refine j_if (fun c7 => ?_) (fun c7 => ?_)
  · refine j_tsIn (tgt := 76) (off := 68) dX4_tells_8 (by rw [c7]; decide) (by rw [c7]; decide) (by rw [c7]; rfl) (by decide) ?_
    refine j_aload_n dX4_tells_76 rfl ?_
    refine jg_X4_126 z2 dX4_tells_77 ?_
    exact j_iret dX4_tells_80
  refine j_if (fun c8 => ?_) (fun c8 => ?_)
  · refine j_tsIn (tgt := 81) (off := 73) dX4_tells_8 (by rw [c8]; decide) (by rw [c8]; decide) (by rw [c8]; rfl) (by decide) ?_
    refine j_aload_n dX4_tells_81 rfl ?_
    refine jg_X4_129 z2 dX4_tells_82 ?_
    exact j_iret dX4_tells_85
  refine j_if (fun c9 => ?_) (fun c9 => ?_)
  · refine j_tsIn (tgt := 86) (off := 78) dX4_tells_8 (by rw [c9]; decide) (by rw [c9]; decide) (by rw [c9]; rfl) (by decide) ?_
    refine j_aload_n dX4_tells_86 rfl ?_
    refine jg_X4_42 h_a0 dX4_tells_87 ?_
    refine j_iload_n dX4_tells_90 rfl ?_
    refine j_ishr dX4_tells_91 ?_
    refine j_iconst (v := (1 : Int32)) dX4_tells_92 (by decide) ?_
    refine j_iand dX4_tells_93 ?_
    exact j_iret dX4_tells_94
  refine j_if (fun c10 => ?_) (fun c10 => ?_)
  · refine j_tsIn (tgt := 95) (off := 87) dX4_tells_8 (by rw [c10]; decide) (by rw [c10]; decide) (by rw [c10]; rfl) (by decide) ?_
    refine j_aload_n dX4_tells_95 rfl ?_
    refine jg_X4_45 h_a0 dX4_tells_96 ?_
    refine j_iload_n dX4_tells_99 rfl ?_
    refine j_ishr dX4_tells_100 ?_
    refine j_iconst (v := (1 : Int32)) dX4_tells_101 (by decide) ?_
    refine j_iand dX4_tells_102 ?_
    refine j_iconst (v := (2 : Int32)) dX4_tells_103 (by decide) ?_
    refine j_aload_n dX4_tells_104 rfl ?_
    refine jg_X4_48 h_a0 dX4_tells_105 ?_
    refine j_iload_n dX4_tells_108 rfl ?_
    refine j_ishr dX4_tells_109 ?_
    refine j_iconst (v := (1 : Int32)) dX4_tells_110 (by decide) ?_
    refine j_iand dX4_tells_111 ?_
    refine j_imul dX4_tells_112 ?_
    refine j_iadd dX4_tells_113 ?_
    exact j_iret dX4_tells_114
  refine j_tsG (tgt := 115) dX4_tells_8 ?_ (by decide) ?_
  · have hts : ∀ z : Int, 0 ≤ z → z ≤ 7 → (a2) = Int32.ofInt z → (#[48, 53, 58, 63, 68, 73, 78, 87] : Array Int)[(z - 0).toNat]? = some 107 := by
      intro z z1 z2 z3
      rcases (show z = 0 ∨ z = 1 ∨ z = 2 ∨ z = 3 ∨ z = 4 ∨ z = 5 ∨ z = 6 ∨ z = 7 by omega) with rfl | rfl | rfl | rfl | rfl | rfl | rfl | rfl
      · exact absurd (z3.trans (by decide)) c3
      · exact absurd (z3.trans (by decide)) c4
      · exact absurd (z3.trans (by decide)) c5
      · exact absurd (z3.trans (by decide)) c6
      · exact absurd (z3.trans (by decide)) c7
      · exact absurd (z3.trans (by decide)) c8
      · exact absurd (z3.trans (by decide)) c9
      · exact absurd (z3.trans (by decide)) c10
    exact ts_all hts
  · refine j_aload_n dX4_tells_115 rfl ?_
    refine jg_X4_132 z2 dX4_tells_116 ?_
    exact j_iret dX4_tells_119
set_option maxRecDepth 20000 in
theorem ct_X5_asked   (h : Hp) : Ct encI yX5_asked cX5_asked 1 (some .int) 0 [aR 0 0] h (f_X5_asked  h) := by
  refine ct_of [(0, aR 0 0)] (by decide) (fun _ => rfl) (fun _ => Nat.le_of_ble_eq_true rfl) ?_
  show J encI RX5 cX5_asked 1 (some .int) 0 0 [(0, aR 0 0)] [] h (f_X5_asked  h)
  unfold f_X5_asked
  refine j_aload_n dX5_asked_0 rfl ?_
  refine jg_X5_68 z_0 dX5_asked_1 ?_
  exact j_iret dX5_asked_4
set_option maxRecDepth 20000 in
theorem w_X5_divisor_b3  : ∀ (n : Nat) (a0 : Int64) (a2 : Int64) (a4 : Int32)  (h : Hp), J encL RX5 cX5_divisor 7 (some .long) 0 3 [(0, aL a0), (2, aL a2), (4, aI a4)] [] h (f_X5_divisor_b3  n a0 a2 a4 h) := by
  intro n
  induction n with
  | zero =>
    intros
    exact j_none
  | succ n hk3 =>
    intro a0 a2 a4  h
    show J encL RX5 cX5_divisor 7 (some .long) 0 3 [(0, aL a0), (2, aL a2), (4, aI a4)] [] h (f_X5_divisor_b3_body  (f_X5_divisor_b3  n) a0 a2 a4 h)
    unfold f_X5_divisor_b3_body
    refine j_iload dX5_divisor_3 rfl ?_
    refine j_bipush (v := (100 : Int32)) dX5_divisor_5 (by decide) ?_
    refine j_icmp_ge (tgt := 32) dX5_divisor_7 (by decide) (fun c1 => ?_) (fun c1 => ?_)
    · refine j_lload_n dX5_divisor_32 rfl ?_
      exact j_lret dX5_divisor_33
    · refine j_lload_n dX5_divisor_10 rfl ?_
      refine j_lconst (v := (0 : Int64)) dX5_divisor_11 (by decide) ?_
      refine j_lcmp dX5_divisor_12 ?_
      refine j_if_eq (tgt := 32) dX5_divisor_13 (by decide) (fun c2 => ?_) (fun c2 => ?_)
      · refine j_lload_n dX5_divisor_32 rfl ?_
        exact j_lret dX5_divisor_33
      · refine j_lload_n dX5_divisor_16 rfl ?_
        refine j_lload_n dX5_divisor_17 rfl ?_
        refine j_gd (fun n3 => ?_)
        refine j_lrem dX5_divisor_18 n3 ?_
        refine j_lstore dX5_divisor_19 (by decide) ?_
        refine j_lload_n dX5_divisor_21 rfl ?_
        refine j_lstore_n dX5_divisor_22 (by decide) ?_
        refine j_lload dX5_divisor_23 rfl ?_
        refine j_lstore_n dX5_divisor_25 (by decide) ?_
        refine j_iinc (v := (1 : Int32)) dX5_divisor_26 rfl (by decide) (by decide) ?_
        refine j_goto (tgt := 3) dX5_divisor_29 (by decide) ?_
        exact j_weak rfl (hk3 _ _ _  _)
set_option maxRecDepth 20000 in
theorem ct_X5_divisor (a0 : Int64) (a2 : Int64)  (h : Hp) : Ct encL yX5_divisor cX5_divisor 7 (some .long) 0 [aL a0, aL a2] h (f_X5_divisor a0 a2 h) := by
  refine ct_of [(0, aL a0), (2, aL a2)] (by decide) (fun _ => rfl) (fun _ => Nat.le_of_ble_eq_true rfl) ?_
  show J encL RX5 cX5_divisor 7 (some .long) 0 0 [(0, aL a0), (2, aL a2)] [] h (f_X5_divisor a0 a2 h)
  unfold f_X5_divisor
  refine j_iconst (v := (0 : Int32)) dX5_divisor_0 (by decide) ?_
  refine j_istore dX5_divisor_1 (by decide) ?_
  exact j_weak rfl (w_X5_divisor_b3  _ _ _ _  _)
set_option maxRecDepth 20000 in
theorem ct_X5_finding   (h : Hp) : Ct encI yX5_finding cX5_finding 1 (some .int) 0 [aR 0 0] h (f_X5_finding  h) := by
  refine ct_of [(0, aR 0 0)] (by decide) (fun _ => rfl) (fun _ => Nat.le_of_ble_eq_true rfl) ?_
  show J encI RX5 cX5_finding 1 (some .int) 0 0 [(0, aR 0 0)] [] h (f_X5_finding  h)
  unfold f_X5_finding
  refine j_aload_n dX5_finding_0 rfl ?_
  refine jg_X5_283 z_0 dX5_finding_1 ?_
  exact j_iret dX5_finding_4
set_option maxRecDepth 20000 in
theorem ct_X5_findings (a1 : Int32)  (h : Hp) : Ct encI yX5_findings cX5_findings 2 (some .int) 0 [aR 0 0, aI a1] h (f_X5_findings a1 h) := by
  refine ct_of [(0, aR 0 0), (1, aI a1)] (by decide) (fun _ => rfl) (fun _ => Nat.le_of_ble_eq_true rfl) ?_
  show J encI RX5 cX5_findings 2 (some .int) 0 0 [(0, aR 0 0), (1, aI a1)] [] h (f_X5_findings a1 h)
  unfold f_X5_findings
  refine j_iload_n dX5_findings_0 rfl ?_
  refine j_iconst (v := (1 : Int32)) dX5_findings_1 (by decide) ?_
  refine j_icmp_lt (tgt := 10) dX5_findings_2 (by decide) (fun c1 => ?_) (fun c1 => ?_)
  · refine j_iconst (v := (-1 : Int32)) dX5_findings_10 (by decide) ?_
    exact j_iret dX5_findings_11
  · refine j_iload_n dX5_findings_5 rfl ?_
    refine j_iconst (v := (5 : Int32)) dX5_findings_6 (by decide) ?_
    refine j_icmp_le (tgt := 12) dX5_findings_7 (by decide) (fun c2 => ?_) (fun c2 => ?_)
    · refine j_aload_n dX5_findings_12 rfl ?_
      refine jg_X5_41 z_0 dX5_findings_13 ?_
      refine j_iload_n dX5_findings_16 rfl ?_
      refine j_iald (ic_19 _) z_19 dX5_findings_17 (fun q3 => ?_)
      exact j_iret dX5_findings_18
    · refine j_iconst (v := (-1 : Int32)) dX5_findings_10 (by decide) ?_
      exact j_iret dX5_findings_11
set_option maxRecDepth 20000 in
theorem ct_X5_isPerson (a0 : Int32)  (h : Hp) : Ct encI yX5_isPerson cX5_isPerson 1 (some .boolean) 0 [aI a0] h (f_X5_isPerson a0 h) := by
  refine ct_of [(0, aI a0)] (by decide) (fun _ => rfl) (fun _ => Nat.le_of_ble_eq_true rfl) ?_
  show J encI RX5 cX5_isPerson 1 (some .boolean) 0 0 [(0, aI a0)] [] h (f_X5_isPerson a0 h)
  unfold f_X5_isPerson
  refine j_iload_n dX5_isPerson_0 rfl ?_
  refine j_if_lt (tgt := 14) dX5_isPerson_1 (by decide) (fun c1 => ?_) (fun c1 => ?_)
  · refine j_iconst (v := (0 : Int32)) dX5_isPerson_14 (by decide) ?_
    exact j_zret (Or.inl rfl) dX5_isPerson_15
  · refine j_iload_n dX5_isPerson_4 rfl ?_
    refine j_bipush (v := (6 : Int32)) dX5_isPerson_5 (by decide) ?_
    refine j_icmp_ge (tgt := 14) dX5_isPerson_7 (by decide) (fun c2 => ?_) (fun c2 => ?_)
    · refine j_iconst (v := (0 : Int32)) dX5_isPerson_14 (by decide) ?_
      exact j_zret (Or.inl rfl) dX5_isPerson_15
    · refine j_iconst (v := (1 : Int32)) dX5_isPerson_10 (by decide) ?_
      refine j_goto (tgt := 15) dX5_isPerson_11 (by decide) ?_
      exact j_zret (Or.inr rfl) dX5_isPerson_15
set_option maxRecDepth 20000 in
theorem ct_X5_isPlace (a0 : Int32)  (h : Hp) : Ct encI yX5_isPlace cX5_isPlace 1 (some .boolean) 0 [aI a0] h (f_X5_isPlace a0 h) := by
  refine ct_of [(0, aI a0)] (by decide) (fun _ => rfl) (fun _ => Nat.le_of_ble_eq_true rfl) ?_
  show J encI RX5 cX5_isPlace 1 (some .boolean) 0 0 [(0, aI a0)] [] h (f_X5_isPlace a0 h)
  unfold f_X5_isPlace
  refine j_iload_n dX5_isPlace_0 rfl ?_
  refine j_if_lt (tgt := 13) dX5_isPlace_1 (by decide) (fun c1 => ?_) (fun c1 => ?_)
  · refine j_iconst (v := (0 : Int32)) dX5_isPlace_13 (by decide) ?_
    exact j_zret (Or.inl rfl) dX5_isPlace_14
  · refine j_iload_n dX5_isPlace_4 rfl ?_
    refine j_iconst (v := (3 : Int32)) dX5_isPlace_5 (by decide) ?_
    refine j_icmp_ge (tgt := 13) dX5_isPlace_6 (by decide) (fun c2 => ?_) (fun c2 => ?_)
    · refine j_iconst (v := (0 : Int32)) dX5_isPlace_13 (by decide) ?_
      exact j_zret (Or.inl rfl) dX5_isPlace_14
    · refine j_iconst (v := (1 : Int32)) dX5_isPlace_9 (by decide) ?_
      refine j_goto (tgt := 14) dX5_isPlace_10 (by decide) ?_
      exact j_zret (Or.inr rfl) dX5_isPlace_14
set_option maxRecDepth 20000 in
theorem ct_X5_isRow (a0 : Int32)  (h : Hp) : Ct encI yX5_isRow cX5_isRow 1 (some .boolean) 0 [aI a0] h (f_X5_isRow a0 h) := by
  refine ct_of [(0, aI a0)] (by decide) (fun _ => rfl) (fun _ => Nat.le_of_ble_eq_true rfl) ?_
  show J encI RX5 cX5_isRow 1 (some .boolean) 0 0 [(0, aI a0)] [] h (f_X5_isRow a0 h)
  unfold f_X5_isRow
  refine j_iload_n dX5_isRow_0 rfl ?_
  refine j_if_lt (tgt := 14) dX5_isRow_1 (by decide) (fun c1 => ?_) (fun c1 => ?_)
  · refine j_iconst (v := (0 : Int32)) dX5_isRow_14 (by decide) ?_
    exact j_zret (Or.inl rfl) dX5_isRow_15
  · refine j_iload_n dX5_isRow_4 rfl ?_
    refine j_bipush (v := (6 : Int32)) dX5_isRow_5 (by decide) ?_
    refine j_icmp_ge (tgt := 14) dX5_isRow_7 (by decide) (fun c2 => ?_) (fun c2 => ?_)
    · refine j_iconst (v := (0 : Int32)) dX5_isRow_14 (by decide) ?_
      exact j_zret (Or.inl rfl) dX5_isRow_15
    · refine j_iconst (v := (1 : Int32)) dX5_isRow_10 (by decide) ?_
      refine j_goto (tgt := 15) dX5_isRow_11 (by decide) ?_
      exact j_zret (Or.inr rfl) dX5_isRow_15
set_option maxRecDepth 20000 in
theorem ct_X5_isText (a0 : Int32)  (h : Hp) : Ct encI yX5_isText cX5_isText 1 (some .boolean) 0 [aI a0] h (f_X5_isText a0 h) := by
  refine ct_of [(0, aI a0)] (by decide) (fun _ => rfl) (fun _ => Nat.le_of_ble_eq_true rfl) ?_
  show J encI RX5 cX5_isText 1 (some .boolean) 0 0 [(0, aI a0)] [] h (f_X5_isText a0 h)
  unfold f_X5_isText
  refine j_iload_n dX5_isText_0 rfl ?_
  refine j_if_lt (tgt := 13) dX5_isText_1 (by decide) (fun c1 => ?_) (fun c1 => ?_)
  · refine j_iconst (v := (0 : Int32)) dX5_isText_13 (by decide) ?_
    exact j_zret (Or.inl rfl) dX5_isText_14
  · refine j_iload_n dX5_isText_4 rfl ?_
    refine j_iconst (v := (4 : Int32)) dX5_isText_5 (by decide) ?_
    refine j_icmp_ge (tgt := 13) dX5_isText_6 (by decide) (fun c2 => ?_) (fun c2 => ?_)
    · refine j_iconst (v := (0 : Int32)) dX5_isText_13 (by decide) ?_
      exact j_zret (Or.inl rfl) dX5_isText_14
    · refine j_iconst (v := (1 : Int32)) dX5_isText_9 (by decide) ?_
      refine j_goto (tgt := 14) dX5_isText_10 (by decide) ?_
      exact j_zret (Or.inr rfl) dX5_isText_14
set_option maxRecDepth 20000 in
theorem ct_X5_isTwelfth (a0 : Int32)  (h : Hp) : Ct encI yX5_isTwelfth cX5_isTwelfth 1 (some .boolean) 0 [aI a0] h (f_X5_isTwelfth a0 h) := by
  refine ct_of [(0, aI a0)] (by decide) (fun _ => rfl) (fun _ => Nat.le_of_ble_eq_true rfl) ?_
  show J encI RX5 cX5_isTwelfth 1 (some .boolean) 0 0 [(0, aI a0)] [] h (f_X5_isTwelfth a0 h)
  unfold f_X5_isTwelfth
  refine j_iload_n dX5_isTwelfth_0 rfl ?_
  refine j_if_lt (tgt := 14) dX5_isTwelfth_1 (by decide) (fun c1 => ?_) (fun c1 => ?_)
  · refine j_iconst (v := (0 : Int32)) dX5_isTwelfth_14 (by decide) ?_
    exact j_zret (Or.inl rfl) dX5_isTwelfth_15
  · refine j_iload_n dX5_isTwelfth_4 rfl ?_
    refine j_bipush (v := (12 : Int32)) dX5_isTwelfth_5 (by decide) ?_
    refine j_icmp_gt (tgt := 14) dX5_isTwelfth_7 (by decide) (fun c2 => ?_) (fun c2 => ?_)
    · refine j_iconst (v := (0 : Int32)) dX5_isTwelfth_14 (by decide) ?_
      exact j_zret (Or.inl rfl) dX5_isTwelfth_15
    · refine j_iconst (v := (1 : Int32)) dX5_isTwelfth_10 (by decide) ?_
      refine j_goto (tgt := 15) dX5_isTwelfth_11 (by decide) ?_
      exact j_zret (Or.inr rfl) dX5_isTwelfth_15
set_option maxRecDepth 20000 in
theorem ct_X5_lower   (h : Hp) : Ct encL yX5_lower cX5_lower 1 (some .long) 0 [aR 0 0] h (f_X5_lower  h) := by
  refine ct_of [(0, aR 0 0)] (by decide) (fun _ => rfl) (fun _ => Nat.le_of_ble_eq_true rfl) ?_
  show J encL RX5 cX5_lower 1 (some .long) 0 0 [(0, aR 0 0)] [] h (f_X5_lower  h)
  unfold f_X5_lower
  refine j_aload_n dX5_lower_0 rfl ?_
  refine jg_X5_45 z_0 dX5_lower_1 ?_
  exact j_lret dX5_lower_4
set_option maxRecDepth 20000 in
theorem w_X5_power_b5  : ∀ (n : Nat) (a0 : Int32) (a1 : Int32) (a2 : Int64) (a4 : Int32)  (h : Hp), J encL RX5 cX5_power 5 (some .long) 0 5 [(0, aI a0), (1, aI a1), (2, aL a2), (4, aI a4)] [] h (f_X5_power_b5  n a0 a1 a2 a4 h) := by
  intro n
  induction n with
  | zero =>
    intros
    exact j_none
  | succ n hk5 =>
    intro a0 a1 a2 a4  h
    show J encL RX5 cX5_power 5 (some .long) 0 5 [(0, aI a0), (1, aI a1), (2, aL a2), (4, aI a4)] [] h (f_X5_power_b5_body  (f_X5_power_b5  n) a0 a1 a2 a4 h)
    unfold f_X5_power_b5_body
    refine j_iload dX5_power_5 rfl ?_
    refine j_iload_n dX5_power_7 rfl ?_
    refine j_icmp_ge (tgt := 22) dX5_power_8 (by decide) (fun c1 => ?_) (fun c1 => ?_)
    · refine j_lload_n dX5_power_22 rfl ?_
      exact j_lret dX5_power_23
    · refine j_lload_n dX5_power_11 rfl ?_
      refine j_iload_n dX5_power_12 rfl ?_
      refine j_i2l dX5_power_13 ?_
      refine j_lmul dX5_power_14 ?_
      refine j_lstore_n dX5_power_15 (by decide) ?_
      refine j_iinc (v := (1 : Int32)) dX5_power_16 rfl (by decide) (by decide) ?_
      refine j_goto (tgt := 5) dX5_power_19 (by decide) ?_
      exact j_weak rfl (hk5 _ _ _ _  _)
set_option maxRecDepth 20000 in
theorem ct_X5_power (a0 : Int32) (a1 : Int32)  (h : Hp) : Ct encL yX5_power cX5_power 5 (some .long) 0 [aI a0, aI a1] h (f_X5_power a0 a1 h) := by
  refine ct_of [(0, aI a0), (1, aI a1)] (by decide) (fun _ => rfl) (fun _ => Nat.le_of_ble_eq_true rfl) ?_
  show J encL RX5 cX5_power 5 (some .long) 0 0 [(0, aI a0), (1, aI a1)] [] h (f_X5_power a0 a1 h)
  unfold f_X5_power
  refine j_lconst (v := (1 : Int64)) dX5_power_0 (by decide) ?_
  refine j_lstore_n dX5_power_1 (by decide) ?_
  refine j_iconst (v := (0 : Int32)) dX5_power_2 (by decide) ?_
  refine j_istore dX5_power_3 (by decide) ?_
  exact j_weak rfl (w_X5_power_b5  _ _ _ _ _  _)
set_option maxRecDepth 20000 in
theorem ct_X5_refuse (a1 : Int32)  (h : Hp) : Ct encI yX5_refuse cX5_refuse 2 (some .int) 0 [aR 0 0, aI a1] h (f_X5_refuse a1 h) := by
  refine ct_of [(0, aR 0 0), (1, aI a1)] (by decide) (fun _ => rfl) (fun _ => Nat.le_of_ble_eq_true rfl) ?_
  show J encI RX5 cX5_refuse 2 (some .int) 0 0 [(0, aR 0 0), (1, aI a1)] [] h (f_X5_refuse a1 h)
  unfold f_X5_refuse
  refine j_aload_n dX5_refuse_0 rfl ?_
  refine j_iload_n dX5_refuse_1 rfl ?_
  refine jp_X5_283 z_0 dX5_refuse_2 ?_
  refine j_aload_n dX5_refuse_5 rfl ?_
  refine jg_X5_41 z_0 dX5_refuse_6 ?_
  refine j_iload_n dX5_refuse_9 rfl ?_
  refine j_dup2 dX5_refuse_10 rfl rfl ?_
  refine j_iald (ic_19 _) z_19 dX5_refuse_11 (fun q1 => ?_)
  refine j_iconst (v := (1 : Int32)) dX5_refuse_12 (by decide) ?_
  refine j_iadd dX5_refuse_13 ?_
  refine j_iast (ic_19 _) z_19 dX5_refuse_14 (fun q2 => ?_)
  refine j_bipush (v := (-3 : Int32)) dX5_refuse_15 (by decide) ?_
  exact j_iret dX5_refuse_17
set_option maxRecDepth 20000 in
theorem ct_X5_upper   (h : Hp) : Ct encL yX5_upper cX5_upper 1 (some .long) 0 [aR 0 0] h (f_X5_upper  h) := by
  refine ct_of [(0, aR 0 0)] (by decide) (fun _ => rfl) (fun _ => Nat.le_of_ble_eq_true rfl) ?_
  show J encL RX5 cX5_upper 1 (some .long) 0 0 [(0, aR 0 0)] [] h (f_X5_upper  h)
  unfold f_X5_upper
  refine j_aload_n dX5_upper_0 rfl ?_
  refine jg_X5_273 z_0 dX5_upper_1 ?_
  exact j_lret dX5_upper_4
set_option maxRecDepth 20000 in
theorem ct_X6_ask (a1 : Int32) (a2 : Int32)  (h : Hp) : Ct encI yX6_ask cX6_ask 3 (some .int) 0 [aR 20 0, aI a1, aI a2] h (f_X6_ask a1 a2 h) := by
  refine ct_of [(0, aR 20 0), (1, aI a1), (2, aI a2)] (by decide) (fun _ => rfl) (fun _ => Nat.le_of_ble_eq_true rfl) ?_
  show J encI RX6 cX6_ask 3 (some .int) 0 0 [(0, aR 20 0), (1, aI a1), (2, aI a2)] [] h (f_X6_ask a1 a2 h)
  unfold f_X6_ask
  refine j_aload_n dX6_ask_0 rfl ?_
  refine j_iload_n dX6_ask_1 rfl ?_
  refine jp_X6_45 z_20 dX6_ask_2 ?_
  refine j_iload_n dX6_ask_5 rfl ?_
  exact j_iret dX6_ask_6
set_option maxRecDepth 20000 in
theorem ct_X6_asked   (h : Hp) : Ct encI yX6_asked cX6_asked 1 (some .int) 0 [aR 20 0] h (f_X6_asked  h) := by
  refine ct_of [(0, aR 20 0)] (by decide) (fun _ => rfl) (fun _ => Nat.le_of_ble_eq_true rfl) ?_
  show J encI RX6 cX6_asked 1 (some .int) 0 0 [(0, aR 20 0)] [] h (f_X6_asked  h)
  unfold f_X6_asked
  refine j_aload_n dX6_asked_0 rfl ?_
  refine jg_X6_45 z_20 dX6_asked_1 ?_
  exact j_iret dX6_asked_4
set_option maxRecDepth 20000 in
theorem ct_X6_finding   (h : Hp) : Ct encI yX6_finding cX6_finding 1 (some .int) 0 [aR 20 0] h (f_X6_finding  h) := by
  refine ct_of [(0, aR 20 0)] (by decide) (fun _ => rfl) (fun _ => Nat.le_of_ble_eq_true rfl) ?_
  show J encI RX6 cX6_finding 1 (some .int) 0 0 [(0, aR 20 0)] [] h (f_X6_finding  h)
  unfold f_X6_finding
  refine j_aload_n dX6_finding_0 rfl ?_
  refine jg_X6_41 z_20 dX6_finding_1 ?_
  exact j_iret dX6_finding_4
set_option maxRecDepth 20000 in
theorem ct_X6_has (a0 : Int32) (a1 : Int32)  (h : Hp) : Ct encI yX6_has cX6_has 2 (some .boolean) 0 [aI a0, aI a1] h (f_X6_has a0 a1 h) := by
  refine ct_of [(0, aI a0), (1, aI a1)] (by decide) (fun _ => rfl) (fun _ => Nat.le_of_ble_eq_true rfl) ?_
  show J encI RX6 cX6_has 2 (some .boolean) 0 0 [(0, aI a0), (1, aI a1)] [] h (f_X6_has a0 a1 h)
  unfold f_X6_has
  refine j_iload_n dX6_has_0 rfl ?_
  refine j_iload_n dX6_has_1 rfl ?_
  refine j_ishr dX6_has_2 ?_
  refine j_iconst (v := (1 : Int32)) dX6_has_3 (by decide) ?_
  refine j_iand dX6_has_4 ?_
  refine j_iconst (v := (1 : Int32)) dX6_has_5 (by decide) ?_
  refine j_icmp_ne (tgt := 13) dX6_has_6 (by decide) (fun c1 => ?_) (fun c1 => ?_)
  · refine j_iconst (v := (0 : Int32)) dX6_has_13 (by decide) ?_
    exact j_zret (Or.inl rfl) dX6_has_14
  · refine j_iconst (v := (1 : Int32)) dX6_has_9 (by decide) ?_
    refine j_goto (tgt := 14) dX6_has_10 (by decide) ?_
    exact j_zret (Or.inr rfl) dX6_has_14
set_option maxRecDepth 20000 in
theorem ct_X6_here (a1 : Int32)  (h : Hp) : Ct encI yX6_here cX6_here 2 (some .int) 0 [aR 20 0, aI a1] h (f_X6_here a1 h) := by
  refine ct_of [(0, aR 20 0), (1, aI a1)] (by decide) (fun _ => rfl) (fun _ => Nat.le_of_ble_eq_true rfl) ?_
  show J encI RX6 cX6_here 2 (some .int) 0 0 [(0, aR 20 0), (1, aI a1)] [] h (f_X6_here a1 h)
  unfold f_X6_here
  refine j_aload_n dX6_here_0 rfl ?_
  refine jg_X6_86 z_20 dX6_here_1 ?_
  refine j_aload_n dX6_here_4 rfl ?_
  refine jg_X6_26 z_20 dX6_here_5 ?_
  refine j_iload_n dX6_here_8 rfl ?_
  refine j_iald (ic_25 _) z_25 dX6_here_9 (fun q1 => ?_)
  refine j_icmp_ge (tgt := 30) dX6_here_10 (by decide) (fun c2 => ?_) (fun c2 => ?_)
  · refine j_bipush (v := (-9 : Int32)) dX6_here_30 (by decide) ?_
    exact j_iret dX6_here_32
  · refine j_aload_n dX6_here_13 rfl ?_
    refine jg_X6_29 z_20 dX6_here_14 ?_
    refine j_bipush (v := (100 : Int32)) dX6_here_17 (by decide) ?_
    refine j_iload_n dX6_here_19 rfl ?_
    refine j_imul dX6_here_20 ?_
    refine j_aload_n dX6_here_21 rfl ?_
    refine jg_X6_86 z_20 dX6_here_22 ?_
    refine j_iadd dX6_here_25 ?_
    refine j_iald (ic_26 _) z_26 dX6_here_26 (fun q3 => ?_)
    refine j_goto (tgt := 32) dX6_here_27 (by decide) ?_
    exact j_iret dX6_here_32
set_option maxRecDepth 20000 in
theorem ct_X6_in (a0 : Int32) (a1 : Int32) (a2 : Int32)  (h : Hp) : Ct encI yX6_in cX6_in 3 (some .boolean) 0 [aI a0, aI a1, aI a2] h (f_X6_in a0 a1 a2 h) := by
  refine ct_of [(0, aI a0), (1, aI a1), (2, aI a2)] (by decide) (fun _ => rfl) (fun _ => Nat.le_of_ble_eq_true rfl) ?_
  show J encI RX6 cX6_in 3 (some .boolean) 0 0 [(0, aI a0), (1, aI a1), (2, aI a2)] [] h (f_X6_in a0 a1 a2 h)
  unfold f_X6_in
  refine j_iload_n dX6_in_0 rfl ?_
  refine j_iload_n dX6_in_1 rfl ?_
  refine j_icmp_lt (tgt := 14) dX6_in_2 (by decide) (fun c1 => ?_) (fun c1 => ?_)
  · refine j_iconst (v := (0 : Int32)) dX6_in_14 (by decide) ?_
    exact j_zret (Or.inl rfl) dX6_in_15
  · refine j_iload_n dX6_in_5 rfl ?_
    refine j_iload_n dX6_in_6 rfl ?_
    refine j_icmp_gt (tgt := 14) dX6_in_7 (by decide) (fun c2 => ?_) (fun c2 => ?_)
    · refine j_iconst (v := (0 : Int32)) dX6_in_14 (by decide) ?_
      exact j_zret (Or.inl rfl) dX6_in_15
    · refine j_iconst (v := (1 : Int32)) dX6_in_10 (by decide) ?_
      refine j_goto (tgt := 15) dX6_in_11 (by decide) ?_
      exact j_zret (Or.inr rfl) dX6_in_15
set_option maxRecDepth 20000 in
theorem ct_X6_kindOf (a0 : Int32)  (h : Hp) : Ct encI yX6_kindOf cX6_kindOf 1 (some .int) 0 [aI a0] h (f_X6_kindOf a0 h) := by
  refine ct_of [(0, aI a0)] (by decide) (fun _ => rfl) (fun _ => Nat.le_of_ble_eq_true rfl) ?_
  show J encI RX6 cX6_kindOf 1 (some .int) 0 0 [(0, aI a0)] [] h (f_X6_kindOf a0 h)
  unfold f_X6_kindOf
  refine j_iload_n dX6_kindOf_0 rfl ?_
  refine j_bipush (v := (98 : Int32)) dX6_kindOf_1 (by decide) ?_
  refine j_icmp_ne (tgt := 10) dX6_kindOf_3 (by decide) (fun c1 => ?_) (fun c1 => ?_)
  · refine j_iload_n dX6_kindOf_10 rfl ?_
    refine j_bipush (v := (99 : Int32)) dX6_kindOf_11 (by decide) ?_
    refine j_icmp_ne (tgt := 20) dX6_kindOf_13 (by decide) (fun c2 => ?_) (fun c2 => ?_)
    · refine j_iload_n dX6_kindOf_20 rfl ?_
      refine j_bipush (v := (102 : Int32)) dX6_kindOf_21 (by decide) ?_
      refine j_icmp_ne (tgt := 30) dX6_kindOf_23 (by decide) (fun c3 => ?_) (fun c3 => ?_)
      · refine j_iload_n dX6_kindOf_30 rfl ?_
        refine j_bipush (v := (116 : Int32)) dX6_kindOf_31 (by decide) ?_
        refine j_icmp_ne (tgt := 40) dX6_kindOf_33 (by decide) (fun c4 => ?_) (fun c4 => ?_)
        · refine j_iload_n dX6_kindOf_40 rfl ?_
          refine j_bipush (v := (114 : Int32)) dX6_kindOf_41 (by decide) ?_
          refine j_icmp_ne (tgt := 50) dX6_kindOf_43 (by decide) (fun c5 => ?_) (fun c5 => ?_)
          · refine j_iload_n dX6_kindOf_50 rfl ?_
            refine j_bipush (v := (97 : Int32)) dX6_kindOf_51 (by decide) ?_
            refine j_icmp_ne (tgt := 60) dX6_kindOf_53 (by decide) (fun c6 => ?_) (fun c6 => ?_)
            · refine j_bipush (v := (-9 : Int32)) dX6_kindOf_60 (by decide) ?_
              exact j_iret dX6_kindOf_62
            · refine j_iconst (v := (5 : Int32)) dX6_kindOf_56 (by decide) ?_
              refine j_goto (tgt := 62) dX6_kindOf_57 (by decide) ?_
              exact j_iret dX6_kindOf_62
          · refine j_iconst (v := (4 : Int32)) dX6_kindOf_46 (by decide) ?_
            refine j_goto (tgt := 62) dX6_kindOf_47 (by decide) ?_
            exact j_iret dX6_kindOf_62
        · refine j_iconst (v := (3 : Int32)) dX6_kindOf_36 (by decide) ?_
          refine j_goto (tgt := 62) dX6_kindOf_37 (by decide) ?_
          exact j_iret dX6_kindOf_62
      · refine j_iconst (v := (2 : Int32)) dX6_kindOf_26 (by decide) ?_
        refine j_goto (tgt := 62) dX6_kindOf_27 (by decide) ?_
        exact j_iret dX6_kindOf_62
    · refine j_iconst (v := (1 : Int32)) dX6_kindOf_16 (by decide) ?_
      refine j_goto (tgt := 62) dX6_kindOf_17 (by decide) ?_
      exact j_iret dX6_kindOf_62
  · refine j_iconst (v := (0 : Int32)) dX6_kindOf_6 (by decide) ?_
    refine j_goto (tgt := 62) dX6_kindOf_7 (by decide) ?_
    exact j_iret dX6_kindOf_62
set_option maxRecDepth 20000 in
theorem ct_X6_lower   (h : Hp) : Ct encL yX6_lower cX6_lower 1 (some .long) 0 [aR 20 0] h (f_X6_lower  h) := by
  refine ct_of [(0, aR 20 0)] (by decide) (fun _ => rfl) (fun _ => Nat.le_of_ble_eq_true rfl) ?_
  show J encL RX6 cX6_lower 1 (some .long) 0 0 [(0, aR 20 0)] [] h (f_X6_lower  h)
  unfold f_X6_lower
  refine j_aload_n dX6_lower_0 rfl ?_
  refine jg_X6_13 z_20 dX6_lower_1 ?_
  exact j_lret dX6_lower_4
set_option maxRecDepth 20000 in
theorem ct_X6_meet (a1 : Int32)  (h : Hp) : Ct encI yX6_meet cX6_meet 2 (some .int) 0 [aR 20 0, aI a1] h (f_X6_meet a1 h) := by
  refine ct_of [(0, aR 20 0), (1, aI a1)] (by decide) (fun _ => rfl) (fun _ => Nat.le_of_ble_eq_true rfl) ?_
  show J encI RX6 cX6_meet 2 (some .int) 0 0 [(0, aR 20 0), (1, aI a1)] [] h (f_X6_meet a1 h)
  unfold f_X6_meet
  refine j_aload_n dX6_meet_0 rfl ?_
  refine j_iload_n dX6_meet_1 rfl ?_
  refine jp_X6_41 z_20 dX6_meet_2 ?_
  refine j_aload_n dX6_meet_5 rfl ?_
  refine jg_X6_7 z_20 dX6_meet_6 ?_
  refine j_iload_n dX6_meet_9 rfl ?_
  refine j_dup2 dX6_meet_10 rfl rfl ?_
  refine j_iald (ic_21 _) z_21 dX6_meet_11 (fun q1 => ?_)
  refine j_iconst (v := (1 : Int32)) dX6_meet_12 (by decide) ?_
  refine j_iadd dX6_meet_13 ?_
  refine j_iast (ic_21 _) z_21 dX6_meet_14 (fun q2 => ?_)
  refine j_bipush (v := (-3 : Int32)) dX6_meet_15 (by decide) ?_
  exact j_iret dX6_meet_17
set_option maxRecDepth 20000 in
theorem ct_X6_mix (a1 : Int32)  (h : Hp) : Ct encU yX6_mix cX6_mix 2 none 0 [aR 20 0, aI a1] h (f_X6_mix a1 h) := by
  refine ct_of [(0, aR 20 0), (1, aI a1)] (by decide) (fun _ => rfl) (fun _ => Nat.le_of_ble_eq_true rfl) ?_
  show J encU RX6 cX6_mix 2 none 0 0 [(0, aR 20 0), (1, aI a1)] [] h (f_X6_mix a1 h)
  unfold f_X6_mix
  refine j_aload_n dX6_mix_0 rfl ?_
  refine j_ldc2 (v := (31 : Int64)) dX6_mix_1 (gt_m 1246 rfl rfl) ?_
  refine j_aload_n dX6_mix_4 rfl ?_
  refine jg_X6_229 z_20 dX6_mix_5 ?_
  refine j_lmul dX6_mix_8 ?_
  refine j_iload_n dX6_mix_9 rfl ?_
  refine j_i2l dX6_mix_10 ?_
  refine j_ladd dX6_mix_11 ?_
  refine jp_X6_229 z_20 dX6_mix_12 ?_
  exact j_vret dX6_mix_15
set_option maxRecDepth 20000 in
theorem ct_X6_of (a1 : Int32) (a2 : Int32)  (h : Hp) : Ct encI yX6_of cX6_of 3 (some .int) 0 [aR 20 0, aI a1, aI a2] h (f_X6_of a1 a2 h) := by
  refine ct_of [(0, aR 20 0), (1, aI a1), (2, aI a2)] (by decide) (fun _ => rfl) (fun _ => Nat.le_of_ble_eq_true rfl) ?_
  show J encI RX6 cX6_of 3 (some .int) 0 0 [(0, aR 20 0), (1, aI a1), (2, aI a2)] [] h (f_X6_of a1 a2 h)
  unfold f_X6_of
  refine j_aload_n dX6_of_0 rfl ?_
  refine jg_X6_32 z_20 dX6_of_1 ?_
  refine j_bipush (v := (7 : Int32)) dX6_of_4 (by decide) ?_
  refine j_iload_n dX6_of_6 rfl ?_
  refine j_imul dX6_of_7 ?_
  refine j_iload_n dX6_of_8 rfl ?_
  refine j_iadd dX6_of_9 ?_
  refine j_iald (ic_27 _) z_27 dX6_of_10 (fun q1 => ?_)
  exact j_iret dX6_of_11
set_option maxRecDepth 20000 in
theorem w_X6_part_b6  : ∀ (n : Nat) (a1 : Int64) (a3 : Int64) (a5 : Int32) (a6 : Int64) (a8 : Int64)  (h : Hp), J encI RX6 cX6_part 12 (some .int) 0 6 [(0, aR 20 0), (1, aL a1), (3, aL a3), (5, aI a5), (6, aL a6), (8, aL a8)] [] h (f_X6_part_b6  n a1 a3 a5 a6 a8 h) := by
  intro n
  induction n with
  | zero =>
    intros
    exact j_none
  | succ n hk6 =>
    intro a1 a3 a5 a6 a8  h
    show J encI RX6 cX6_part 12 (some .int) 0 6 [(0, aR 20 0), (1, aL a1), (3, aL a3), (5, aI a5), (6, aL a6), (8, aL a8)] [] h (f_X6_part_b6_body  (f_X6_part_b6  n) a1 a3 a5 a6 a8 h)
    unfold f_X6_part_b6_body
    refine j_lload dX6_part_6 rfl ?_
    refine j_lconst (v := (0 : Int64)) dX6_part_8 (by decide) ?_
    refine j_lcmp dX6_part_9 ?_
    refine j_if_eq (tgt := 31) dX6_part_10 (by decide) (fun c1 => ?_) (fun c1 => ?_)
    · refine j_aload_n dX6_part_31 rfl ?_
      refine j_lload_n dX6_part_32 rfl ?_
      refine j_lload dX6_part_33 rfl ?_
      refine j_gd (fun n2 => ?_)
      refine j_ldiv dX6_part_35 n2 ?_
      refine jp_X6_48 z_20 dX6_part_36 ?_
      refine j_aload_n dX6_part_39 rfl ?_
      refine j_lload_n dX6_part_40 rfl ?_
      refine j_lload dX6_part_41 rfl ?_
      refine j_gd (fun n3 => ?_)
      refine j_ldiv dX6_part_43 n3 ?_
      refine jp_X6_13 z_20 dX6_part_44 ?_
      refine j_iload dX6_part_47 rfl ?_
      exact j_iret dX6_part_49
    · refine j_lload dX6_part_13 rfl ?_
      refine j_lload dX6_part_15 rfl ?_
      refine j_gd (fun n4 => ?_)
      refine j_lrem dX6_part_17 n4 ?_
      refine j_lstore dX6_part_18 (by decide) ?_
      refine j_lload dX6_part_20 rfl ?_
      refine j_lstore dX6_part_22 (by decide) ?_
      refine j_lload dX6_part_24 rfl ?_
      refine j_lstore dX6_part_26 (by decide) ?_
      refine j_goto (tgt := 6) dX6_part_28 (by decide) ?_
      exact j_weak rfl (hk6 _ _ _ _ _  _)
set_option maxRecDepth 20000 in
theorem ct_X6_part (a1 : Int64) (a3 : Int64) (a5 : Int32)  (h : Hp) : Ct encI yX6_part cX6_part 12 (some .int) 0 [aR 20 0, aL a1, aL a3, aI a5] h (f_X6_part a1 a3 a5 h) := by
  refine ct_of [(0, aR 20 0), (1, aL a1), (3, aL a3), (5, aI a5)] (by decide) (fun _ => rfl) (fun _ => Nat.le_of_ble_eq_true rfl) ?_
  show J encI RX6 cX6_part 12 (some .int) 0 0 [(0, aR 20 0), (1, aL a1), (3, aL a3), (5, aI a5)] [] h (f_X6_part a1 a3 a5 h)
  unfold f_X6_part
  refine j_lload_n dX6_part_0 rfl ?_
  refine j_lstore dX6_part_1 (by decide) ?_
  refine j_lload_n dX6_part_3 rfl ?_
  refine j_lstore dX6_part_4 (by decide) ?_
  exact j_weak rfl (w_X6_part_b6  _ _ _ _ _ _  _)
set_option maxRecDepth 20000 in
theorem ct_X6_rowAt (a1 : Int32) (a2 : Int32)  (h : Hp) : Ct encI yX6_rowAt cX6_rowAt 3 (some .int) 0 [aR 20 0, aI a1, aI a2] h (f_X6_rowAt a1 a2 h) := by
  refine ct_of [(0, aR 20 0), (1, aI a1), (2, aI a2)] (by decide) (fun _ => rfl) (fun _ => Nat.le_of_ble_eq_true rfl) ?_
  show J encI RX6 cX6_rowAt 3 (some .int) 0 0 [(0, aR 20 0), (1, aI a1), (2, aI a2)] [] h (f_X6_rowAt a1 a2 h)
  unfold f_X6_rowAt
  refine j_aload_n dX6_rowAt_0 rfl ?_
  refine jg_X6_20 z_20 dX6_rowAt_1 ?_
  refine j_bipush (v := (40 : Int32)) dX6_rowAt_4 (by decide) ?_
  refine j_iload_n dX6_rowAt_6 rfl ?_
  refine j_imul dX6_rowAt_7 ?_
  refine j_iload_n dX6_rowAt_8 rfl ?_
  refine j_iadd dX6_rowAt_9 ?_
  refine j_iald (ic_23 _) z_23 dX6_rowAt_10 (fun q1 => ?_)
  exact j_iret dX6_rowAt_11
set_option maxRecDepth 20000 in
theorem ct_X6_setRow (a1 : Int32) (a2 : Int32) (a3 : Int32)  (h : Hp) : Ct encU yX6_setRow cX6_setRow 4 none 0 [aR 20 0, aI a1, aI a2, aI a3] h (f_X6_setRow a1 a2 a3 h) := by
  refine ct_of [(0, aR 20 0), (1, aI a1), (2, aI a2), (3, aI a3)] (by decide) (fun _ => rfl) (fun _ => Nat.le_of_ble_eq_true rfl) ?_
  show J encU RX6 cX6_setRow 4 none 0 0 [(0, aR 20 0), (1, aI a1), (2, aI a2), (3, aI a3)] [] h (f_X6_setRow a1 a2 a3 h)
  unfold f_X6_setRow
  refine j_aload_n dX6_setRow_0 rfl ?_
  refine jg_X6_20 z_20 dX6_setRow_1 ?_
  refine j_bipush (v := (40 : Int32)) dX6_setRow_4 (by decide) ?_
  refine j_iload_n dX6_setRow_6 rfl ?_
  refine j_imul dX6_setRow_7 ?_
  refine j_iload_n dX6_setRow_8 rfl ?_
  refine j_iadd dX6_setRow_9 ?_
  refine j_iload_n dX6_setRow_10 rfl ?_
  refine j_iast (ic_23 _) z_23 dX6_setRow_11 (fun q1 => ?_)
  exact j_vret dX6_setRow_12
set_option maxRecDepth 20000 in
theorem w_X6_sizeOf_b4  : ∀ (n : Nat) (a0 : Int32) (a1 : Int32) (a2 : Int32)  (h : Hp), J encI RX6 cX6_sizeOf 3 (some .int) 0 4 [(0, aI a0), (1, aI a1), (2, aI a2)] [] h (f_X6_sizeOf_b4  n a0 a1 a2 h) := by
  intro n
  induction n with
  | zero =>
    intros
    exact j_none
  | succ n hk4 =>
    intro a0 a1 a2  h
    show J encI RX6 cX6_sizeOf 3 (some .int) 0 4 [(0, aI a0), (1, aI a1), (2, aI a2)] [] h (f_X6_sizeOf_b4_body  (f_X6_sizeOf_b4  n) a0 a1 a2 h)
    unfold f_X6_sizeOf_b4_body
    refine j_iload_n dX6_sizeOf_4 rfl ?_
    refine j_bipush (v := (14 : Int32)) dX6_sizeOf_5 (by decide) ?_
    refine j_icmp_ge (tgt := 24) dX6_sizeOf_7 (by decide) (fun c1 => ?_) (fun c1 => ?_)
    · refine j_iload_n dX6_sizeOf_24 rfl ?_
      exact j_iret dX6_sizeOf_25
    · refine j_iload_n dX6_sizeOf_10 rfl ?_
      refine j_iload_n dX6_sizeOf_11 rfl ?_
      refine j_iload_n dX6_sizeOf_12 rfl ?_
      refine j_ishr dX6_sizeOf_13 ?_
      refine j_iconst (v := (1 : Int32)) dX6_sizeOf_14 (by decide) ?_
      refine j_iand dX6_sizeOf_15 ?_
      refine j_iadd dX6_sizeOf_16 ?_
      refine j_istore_n dX6_sizeOf_17 (by decide) ?_
      refine j_iinc (v := (1 : Int32)) dX6_sizeOf_18 rfl (by decide) (by decide) ?_
      refine j_goto (tgt := 4) dX6_sizeOf_21 (by decide) ?_
      exact j_weak rfl (hk4 _ _ _  _)
set_option maxRecDepth 20000 in
theorem ct_X6_sizeOf (a0 : Int32)  (h : Hp) : Ct encI yX6_sizeOf cX6_sizeOf 3 (some .int) 0 [aI a0] h (f_X6_sizeOf a0 h) := by
  refine ct_of [(0, aI a0)] (by decide) (fun _ => rfl) (fun _ => Nat.le_of_ble_eq_true rfl) ?_
  show J encI RX6 cX6_sizeOf 3 (some .int) 0 0 [(0, aI a0)] [] h (f_X6_sizeOf a0 h)
  unfold f_X6_sizeOf
  refine j_iconst (v := (0 : Int32)) dX6_sizeOf_0 (by decide) ?_
  refine j_istore_n dX6_sizeOf_1 (by decide) ?_
  refine j_iconst (v := (0 : Int32)) dX6_sizeOf_2 (by decide) ?_
  refine j_istore_n dX6_sizeOf_3 (by decide) ?_
  exact j_weak rfl (w_X6_sizeOf_b4  _ _ _ _  _)
set_option maxRecDepth 20000 in
theorem ct_X6_upper   (h : Hp) : Ct encL yX6_upper cX6_upper 1 (some .long) 0 [aR 20 0] h (f_X6_upper  h) := by
  refine ct_of [(0, aR 20 0)] (by decide) (fun _ => rfl) (fun _ => Nat.le_of_ble_eq_true rfl) ?_
  show J encL RX6 cX6_upper 1 (some .long) 0 0 [(0, aR 20 0)] [] h (f_X6_upper  h)
  unfold f_X6_upper
  refine j_aload_n dX6_upper_0 rfl ?_
  refine jg_X6_48 z_20 dX6_upper_1 ?_
  exact j_lret dX6_upper_4
set_option maxRecDepth 20000 in
theorem ct_X6_widthOf (a0 : Int32)  (h : Hp) : Ct encI yX6_widthOf cX6_widthOf 1 (some .int) 0 [aI a0] h (f_X6_widthOf a0 h) := by
  refine ct_of [(0, aI a0)] (by decide) (fun _ => rfl) (fun _ => Nat.le_of_ble_eq_true rfl) ?_
  show J encI RX6 cX6_widthOf 1 (some .int) 0 0 [(0, aI a0)] [] h (f_X6_widthOf a0 h)
  unfold f_X6_widthOf
  refine j_iload_n dX6_widthOf_0 rfl ?_
  refine j_iconst (v := (4 : Int32)) dX6_widthOf_1 (by decide) ?_
  refine j_icmp_lt (tgt := 9) dX6_widthOf_2 (by decide) (fun c1 => ?_) (fun c1 => ?_)
  · refine j_iconst (v := (2 : Int32)) dX6_widthOf_9 (by decide) ?_
    exact j_iret dX6_widthOf_10
  · refine j_iconst (v := (3 : Int32)) dX6_widthOf_5 (by decide) ?_
    refine j_goto (tgt := 10) dX6_widthOf_6 (by decide) ?_
    exact j_iret dX6_widthOf_10
set_option maxRecDepth 20000 in
theorem ct_X6_write (a1 : Int32) (a2 : Int32) (a3 : Int32)  (h : Hp) : Ct encU yX6_write cX6_write 4 none 0 [aR 20 0, aI a1, aI a2, aI a3] h (f_X6_write a1 a2 a3 h) := by
  refine ct_of [(0, aR 20 0), (1, aI a1), (2, aI a2), (3, aI a3)] (by decide) (fun _ => rfl) (fun _ => Nat.le_of_ble_eq_true rfl) ?_
  show J encU RX6 cX6_write 4 none 0 0 [(0, aR 20 0), (1, aI a1), (2, aI a2), (3, aI a3)] [] h (f_X6_write a1 a2 a3 h)
  unfold f_X6_write
  refine j_aload_n dX6_write_0 rfl ?_
  refine jg_X6_32 z_20 dX6_write_1 ?_
  refine j_bipush (v := (7 : Int32)) dX6_write_4 (by decide) ?_
  refine j_iload_n dX6_write_6 rfl ?_
  refine j_imul dX6_write_7 ?_
  refine j_iload_n dX6_write_8 rfl ?_
  refine j_iadd dX6_write_9 ?_
  refine j_iload_n dX6_write_10 rfl ?_
  refine j_iast (ic_27 _) z_27 dX6_write_11 (fun q1 => ?_)
  exact j_vret dX6_write_12
set_option maxRecDepth 20000 in
theorem ct_X0_holds (a0 : Nat) (a1 : Int32) (a2 : Int32) (h_a0 : a0 < cnt 17) (h : Hp) : Ct encI yX0_holds cX0_holds 5 (some .boolean) 1 [aR 17 a0, aI a1, aI a2] h (f_X0_holds a0 a1 a2 h) := by
  refine ct_of [(0, aR 17 a0), (1, aI a1), (2, aI a2)] (by decide) (fun _ => rfl) (fun _ => Nat.le_of_ble_eq_true rfl) ?_
  show J encI RX0 cX0_holds 5 (some .boolean) 1 0 [(0, aR 17 a0), (1, aI a1), (2, aI a2)] [] h (f_X0_holds a0 a1 a2 h)
  unfold f_X0_holds
  refine j_aload_n dX0_holds_0 rfl ?_
  refine jg_X0_25 h_a0 dX0_holds_1 ?_
  refine j_aload_n dX0_holds_4 rfl ?_
  refine jc_X0_47 (ct_X0_middle _ h_a0 _) (by decide) h_a0 (Nat.le_of_ble_eq_true rfl) dX0_holds_5 (fun v1 h2 e3 => ?_)
  refine j_iconst (v := (-1 : Int32)) dX0_holds_8 (by decide) ?_
  refine j_ixor dX0_holds_9 ?_
  refine j_iand dX0_holds_10 ?_
  refine j_istore_n dX0_holds_11 (by decide) ?_
  refine j_aload_n dX0_holds_12 rfl ?_
  refine jc_X0_51 (ct_X0_sides _ h_a0 _) (by decide) h_a0 (Nat.le_of_ble_eq_true rfl) dX0_holds_13 (fun v4 h5 e6 => ?_)
  refine j_istore dX0_holds_16 (by decide) ?_
  refine j_aload_n dX0_holds_18 rfl ?_
  refine jg_X0_9 h_a0 dX0_holds_19 ?_
  refine j_if (fun c7 => ?_) (fun c7 => ?_)
  · refine j_tsIn (tgt := 56) (off := 34) dX0_holds_22 (by rw [c7]; decide) (by rw [c7]; decide) (by rw [c7]; rfl) (by decide) ?_
    refine j_iload_n dX0_holds_56 rfl ?_
    refine j_aload_n dX0_holds_57 rfl ?_
    refine jg_X0_25 h_a0 dX0_holds_58 ?_
    refine j_iand dX0_holds_61 ?_
    refine j_aload_n dX0_holds_62 rfl ?_
    refine jg_X0_25 h_a0 dX0_holds_63 ?_
    refine j_icmp_ne (tgt := 73) dX0_holds_66 (by decide) (fun c8 => ?_) (fun c8 => ?_)
    · refine j_iconst (v := (0 : Int32)) dX0_holds_73 (by decide) ?_
      exact j_zret (Or.inl rfl) dX0_holds_74
    · refine j_iconst (v := (1 : Int32)) dX0_holds_69 (by decide) ?_
      refine j_goto (tgt := 74) dX0_holds_70 (by decide) ?_
      exact j_zret (Or.inr rfl) dX0_holds_74
  refine j_if (fun c9 => ?_) (fun c9 => ?_)
  · refine j_tsIn (tgt := 75) (off := 53) dX0_holds_22 (by rw [c9]; decide) (by rw [c9]; decide) (by rw [c9]; rfl) (by decide) ?_
    refine j_iload_n dX0_holds_75 rfl ?_
    refine j_iload_n dX0_holds_76 rfl ?_
    refine j_iand dX0_holds_77 ?_
    refine j_iload_n dX0_holds_78 rfl ?_
    refine j_icmp_ne (tgt := 86) dX0_holds_79 (by decide) (fun c10 => ?_) (fun c10 => ?_)
    · refine j_iconst (v := (0 : Int32)) dX0_holds_86 (by decide) ?_
      exact j_zret (Or.inl rfl) dX0_holds_87
    · refine j_iconst (v := (1 : Int32)) dX0_holds_82 (by decide) ?_
      refine j_goto (tgt := 87) dX0_holds_83 (by decide) ?_
      exact j_zret (Or.inr rfl) dX0_holds_87
  refine j_if (fun c11 => ?_) (fun c11 => ?_)
  · refine j_tsIn (tgt := 88) (off := 66) dX0_holds_22 (by rw [c11]; decide) (by rw [c11]; decide) (by rw [c11]; rfl) (by decide) ?_
    refine j_iload_n dX0_holds_88 rfl ?_
    refine j_iload_n dX0_holds_89 rfl ?_
    refine j_iand dX0_holds_90 ?_
    refine j_iload_n dX0_holds_91 rfl ?_
    refine j_icmp_eq (tgt := 104) dX0_holds_92 (by decide) (fun c12 => ?_) (fun c12 => ?_)
    · refine j_iconst (v := (1 : Int32)) dX0_holds_104 (by decide) ?_
      refine j_goto (tgt := 109) dX0_holds_105 (by decide) ?_
      exact j_zret (Or.inr rfl) dX0_holds_109
    · refine j_iload_n dX0_holds_95 rfl ?_
      refine j_iload dX0_holds_96 rfl ?_
      refine j_iand dX0_holds_98 ?_
      refine j_iload dX0_holds_99 rfl ?_
      refine j_icmp_ne (tgt := 108) dX0_holds_101 (by decide) (fun c13 => ?_) (fun c13 => ?_)
      · refine j_iconst (v := (0 : Int32)) dX0_holds_108 (by decide) ?_
        exact j_zret (Or.inl rfl) dX0_holds_109
      · refine j_iconst (v := (1 : Int32)) dX0_holds_104 (by decide) ?_
        refine j_goto (tgt := 109) dX0_holds_105 (by decide) ?_
        exact j_zret (Or.inr rfl) dX0_holds_109
  refine j_tsG (tgt := 110) dX0_holds_22 ?_ (by decide) ?_
  · have hts : ∀ z : Int, 1 ≤ z → z ≤ 5 → ((h5.1 17 a0 0)) = Int32.ofInt z → (#[34, 88, 88, 53, 66] : Array Int)[(z - 1).toNat]? = some 88 := by
      intro z z1 z2 z3
      rcases (show z = 1 ∨ z = 2 ∨ z = 3 ∨ z = 4 ∨ z = 5 by omega) with rfl | rfl | rfl | rfl | rfl
      · exact absurd (z3.trans (by decide)) c7
      · rfl
      · rfl
      · exact absurd (z3.trans (by decide)) c9
      · exact absurd (z3.trans (by decide)) c11
    exact ts_all hts
  · refine j_iload_n dX0_holds_110 rfl ?_
    refine j_aload_n dX0_holds_111 rfl ?_
    refine jg_X0_25 h_a0 dX0_holds_112 ?_
    refine j_iand dX0_holds_115 ?_
    refine j_if_eq (tgt := 123) dX0_holds_116 (by decide) (fun c14 => ?_) (fun c14 => ?_)
    · refine j_iconst (v := (0 : Int32)) dX0_holds_123 (by decide) ?_
      exact j_zret (Or.inl rfl) dX0_holds_124
    · refine j_iconst (v := (1 : Int32)) dX0_holds_119 (by decide) ?_
      refine j_goto (tgt := 124) dX0_holds_120 (by decide) ?_
      exact j_zret (Or.inr rfl) dX0_holds_124
set_option maxRecDepth 20000 in
theorem ct_X0_lieAt (a0 : Nat) (a1 : Int32) (a2 : Int32) (a3 : Int32) (h_a0 : a0 < cnt 17) (h : Hp) : Ct encU yX0_lieAt cX0_lieAt 4 none 1 [aR 17 a0, aI a1, aI a2, aI a3] h (f_X0_lieAt a0 a1 a2 a3 h) := by
  refine ct_of [(0, aR 17 a0), (1, aI a1), (2, aI a2), (3, aI a3)] (by decide) (fun _ => rfl) (fun _ => Nat.le_of_ble_eq_true rfl) ?_
  show J encU RX0 cX0_lieAt 4 none 1 0 [(0, aR 17 a0), (1, aI a1), (2, aI a2), (3, aI a3)] [] h (f_X0_lieAt a0 a1 a2 a3 h)
  unfold f_X0_lieAt
  refine j_aload_n dX0_lieAt_0 rfl ?_
  refine j_iload_n dX0_lieAt_1 rfl ?_
  refine jp_X0_9 h_a0 dX0_lieAt_2 ?_
  refine j_aload_n dX0_lieAt_5 rfl ?_
  refine j_iload_n dX0_lieAt_6 rfl ?_
  refine jp_X0_15 h_a0 dX0_lieAt_7 ?_
  refine j_aload_n dX0_lieAt_10 rfl ?_
  refine j_iload_n dX0_lieAt_11 rfl ?_
  refine jp_X0_18 h_a0 dX0_lieAt_12 ?_
  refine j_aload_n dX0_lieAt_15 rfl ?_
  refine j_iload_n dX0_lieAt_16 rfl ?_
  refine j_iload_n dX0_lieAt_17 rfl ?_
  refine jc_X0_21 (ct_X0_maskOf _ _  _) (by decide) (Nat.le_of_ble_eq_true rfl) dX0_lieAt_18 (fun v1 h2 e3 => ?_)
  refine jp_X0_25 h_a0 dX0_lieAt_21 ?_
  refine j_aload_n dX0_lieAt_24 rfl ?_
  refine j_bipush (v := (-9 : Int32)) dX0_lieAt_25 (by decide) ?_
  refine jp_X0_28 h_a0 dX0_lieAt_27 ?_
  exact j_vret dX0_lieAt_30
set_option maxRecDepth 20000 in
theorem w_X0_touches_b31  (a0 : Nat) (a1 : Nat) (s0 : Int32) (h_a0 : a0 < cnt 17) (h_a1 : a1 < cnt 17) (h : Hp) : J encI RX0 cX0_touches 3 (some .boolean) 1 31 [(0, aR 17 a0), (1, aR 17 a1)] [aI s0] h (f_X0_touches_b31  a0 a1 s0 h) := by
  unfold f_X0_touches_b31
  refine j_istore_n dX0_touches_31 (by decide) ?_
  refine j_aload_n dX0_touches_32 rfl ?_
  refine jg_X0_15 h_a0 dX0_touches_33 ?_
  refine j_aload_n dX0_touches_36 rfl ?_
  refine jg_X0_15 h_a1 dX0_touches_37 ?_
  refine j_isub dX0_touches_40 ?_
  refine j_mabs (gt_m 735 rfl rfl) (gt_m 736 rfl rfl) (gt_m 56 rfl rfl) (gt_m 737 rfl rfl) (by decide) (Nat.le_of_ble_eq_true rfl) dX0_touches_41 ?_
  refine j_iconst (v := (1 : Int32)) dX0_touches_44 (by decide) ?_
  refine j_icmp_gt (tgt := 61) dX0_touches_45 (by decide) (fun c1 => ?_) (fun c1 => ?_)
  · refine j_iconst (v := (0 : Int32)) dX0_touches_61 (by decide) ?_
    exact j_zret (Or.inl rfl) dX0_touches_62
  · refine j_iload_n dX0_touches_48 rfl ?_
    refine j_aload_n dX0_touches_49 rfl ?_
    refine jg_X0_25 h_a1 dX0_touches_50 ?_
    refine j_iand dX0_touches_53 ?_
    refine j_if_eq (tgt := 61) dX0_touches_54 (by decide) (fun c2 => ?_) (fun c2 => ?_)
    · refine j_iconst (v := (0 : Int32)) dX0_touches_61 (by decide) ?_
      exact j_zret (Or.inl rfl) dX0_touches_62
    · refine j_iconst (v := (1 : Int32)) dX0_touches_57 (by decide) ?_
      refine j_goto (tgt := 62) dX0_touches_58 (by decide) ?_
      exact j_zret (Or.inr rfl) dX0_touches_62
set_option maxRecDepth 20000 in
theorem ct_X0_touches (a0 : Nat) (a1 : Nat) (h_a0 : a0 < cnt 17) (h_a1 : a1 < cnt 17) (h : Hp) : Ct encI yX0_touches cX0_touches 3 (some .boolean) 1 [aR 17 a0, aR 17 a1] h (f_X0_touches a0 a1 h) := by
  refine ct_of [(0, aR 17 a0), (1, aR 17 a1)] (by decide) (fun _ => rfl) (fun _ => Nat.le_of_ble_eq_true rfl) ?_
  show J encI RX0 cX0_touches 3 (some .boolean) 1 0 [(0, aR 17 a0), (1, aR 17 a1)] [] h (f_X0_touches a0 a1 h)
  unfold f_X0_touches
  refine j_aload_n dX0_touches_0 rfl ?_
  refine jg_X0_15 h_a0 dX0_touches_1 ?_
  refine j_aload_n dX0_touches_4 rfl ?_
  refine jg_X0_15 h_a1 dX0_touches_5 ?_
  refine j_icmp_ne (tgt := 27) dX0_touches_8 (by decide) (fun c1 => ?_) (fun c1 => ?_)
  · refine j_aload_n dX0_touches_27 rfl ?_
    refine jg_X0_25 h_a0 dX0_touches_28 ?_
    exact j_weak rfl (w_X0_touches_b31  _ _ _ h_a0 h_a1 _)
  · refine j_aload_n dX0_touches_11 rfl ?_
    refine jg_X0_25 h_a0 dX0_touches_12 ?_
    refine j_iconst (v := (1 : Int32)) dX0_touches_15 (by decide) ?_
    refine j_ishl dX0_touches_16 ?_
    refine j_aload_n dX0_touches_17 rfl ?_
    refine jg_X0_25 h_a0 dX0_touches_18 ?_
    refine j_iconst (v := (1 : Int32)) dX0_touches_21 (by decide) ?_
    refine j_ishr dX0_touches_22 ?_
    refine j_ior dX0_touches_23 ?_
    refine j_goto (tgt := 31) dX0_touches_24 (by decide) ?_
    exact j_weak rfl (w_X0_touches_b31  _ _ _ h_a0 h_a1 _)
set_option maxRecDepth 20000 in
theorem ct_X1_readPerson (a1 : Int32) (a2 : Int32)  (h : Hp) : Ct encI yX1_readPerson cX1_readPerson 4 (some .int) 1 [aR 9 0, aI a1, aI a2] h (f_X1_readPerson a1 a2 h) := by
  refine ct_of [(0, aR 9 0), (1, aI a1), (2, aI a2)] (by decide) (fun _ => rfl) (fun _ => Nat.le_of_ble_eq_true rfl) ?_
  show J encI RX1 cX1_readPerson 4 (some .int) 1 0 [(0, aR 9 0), (1, aI a1), (2, aI a2)] [] h (f_X1_readPerson a1 a2 h)
  unfold f_X1_readPerson
  refine j_aload_n dX1_readPerson_0 rfl ?_
  refine jc_X1_42 (ct_X1_sign   _) (by decide) z_9 (Nat.le_of_ble_eq_true rfl) dX1_readPerson_1 (fun v1 h2 e3 => ?_)
  refine j_bipush (v := (65 : Int32)) dX1_readPerson_4 (by decide) ?_
  refine j_isub dX1_readPerson_6 ?_
  refine j_istore_n dX1_readPerson_7 (by decide) ?_
  refine j_iload_n dX1_readPerson_8 rfl ?_
  refine jc_X1_84 (ct_X5_isPerson _  _) (by decide) (Nat.le_of_ble_eq_true rfl) dX1_readPerson_9 (fun v4 h5 e6 => ?_)
  refine j_if_eq (tgt := 25) dX1_readPerson_12 (by decide) (fun c7 => ?_) (fun c7 => ?_)
  · refine j_bipush (v := (-9 : Int32)) dX1_readPerson_25 (by decide) ?_
    exact j_iret dX1_readPerson_27
  · refine j_iload_n dX1_readPerson_15 rfl ?_
    refine j_iload_n dX1_readPerson_16 rfl ?_
    refine j_icmp_eq (tgt := 25) dX1_readPerson_17 (by decide) (fun c8 => ?_) (fun c8 => ?_)
    · refine j_bipush (v := (-9 : Int32)) dX1_readPerson_25 (by decide) ?_
      exact j_iret dX1_readPerson_27
    · refine j_iload_n dX1_readPerson_20 rfl ?_
      refine j_iload_n dX1_readPerson_21 rfl ?_
      refine j_icmp_ne (tgt := 28) dX1_readPerson_22 (by decide) (fun c9 => ?_) (fun c9 => ?_)
      · refine j_aload_n dX1_readPerson_28 rfl ?_
        refine j_dup dX1_readPerson_29 rfl ?_
        refine jg_X1_26 z_9 dX1_readPerson_30 ?_
        refine j_iconst (v := (1 : Int32)) dX1_readPerson_33 (by decide) ?_
        refine j_iadd dX1_readPerson_34 ?_
        refine jp_X1_26 z_9 dX1_readPerson_35 ?_
        refine j_iload_n dX1_readPerson_38 rfl ?_
        exact j_iret dX1_readPerson_39
      · refine j_bipush (v := (-9 : Int32)) dX1_readPerson_25 (by decide) ?_
        exact j_iret dX1_readPerson_27
set_option maxRecDepth 20000 in
theorem ct_X1_readWidth   (h : Hp) : Ct encI yX1_readWidth cX1_readWidth 2 (some .boolean) 1 [aR 9 0] h (f_X1_readWidth  h) := by
  refine ct_of [(0, aR 9 0)] (by decide) (fun _ => rfl) (fun _ => Nat.le_of_ble_eq_true rfl) ?_
  show J encI RX1 cX1_readWidth 2 (some .boolean) 1 0 [(0, aR 9 0)] [] h (f_X1_readWidth  h)
  unfold f_X1_readWidth
  refine j_aload_n dX1_readWidth_0 rfl ?_
  refine jc_X1_42 (ct_X1_sign   _) (by decide) z_9 (Nat.le_of_ble_eq_true rfl) dX1_readWidth_1 (fun v1 h2 e3 => ?_)
  refine j_bipush (v := (119 : Int32)) dX1_readWidth_4 (by decide) ?_
  refine j_icmp_eq (tgt := 11) dX1_readWidth_6 (by decide) (fun c4 => ?_) (fun c4 => ?_)
  · refine j_aload_n dX1_readWidth_11 rfl ?_
    refine j_dup dX1_readWidth_12 rfl ?_
    refine jg_X1_26 z_9 dX1_readWidth_13 ?_
    refine j_iconst (v := (1 : Int32)) dX1_readWidth_16 (by decide) ?_
    refine j_iadd dX1_readWidth_17 ?_
    refine jp_X1_26 z_9 dX1_readWidth_18 ?_
    refine j_aload_n dX1_readWidth_21 rfl ?_
    refine jc_X1_42 (ct_X1_sign   _) (by decide) z_9 (Nat.le_of_ble_eq_true rfl) dX1_readWidth_22 (fun v5 h6 e7 => ?_)
    refine j_bipush (v := (48 : Int32)) dX1_readWidth_25 (by decide) ?_
    refine j_isub dX1_readWidth_27 ?_
    refine j_istore_n dX1_readWidth_28 (by decide) ?_
    refine j_iload_n dX1_readWidth_29 rfl ?_
    refine j_iconst (v := (2 : Int32)) dX1_readWidth_30 (by decide) ?_
    refine j_icmp_lt (tgt := 40) dX1_readWidth_31 (by decide) (fun c8 => ?_) (fun c8 => ?_)
    · refine j_iconst (v := (0 : Int32)) dX1_readWidth_40 (by decide) ?_
      exact j_zret (Or.inl rfl) dX1_readWidth_41
    · refine j_iload_n dX1_readWidth_34 rfl ?_
      refine j_bipush (v := (9 : Int32)) dX1_readWidth_35 (by decide) ?_
      refine j_icmp_le (tgt := 42) dX1_readWidth_37 (by decide) (fun c9 => ?_) (fun c9 => ?_)
      · refine j_aload_n dX1_readWidth_42 rfl ?_
        refine jg_X1_12 z_9 dX1_readWidth_43 ?_
        refine j_iload_n dX1_readWidth_46 rfl ?_
        refine jp_X1_46 (Nat.le_of_ble_eq_true rfl) dX1_readWidth_47 ?_
        refine j_aload_n dX1_readWidth_50 rfl ?_
        refine jg_X1_12 z_9 dX1_readWidth_51 ?_
        refine j_iconst (v := (1 : Int32)) dX1_readWidth_54 (by decide) ?_
        refine jp_X1_49 (Nat.le_of_ble_eq_true rfl) dX1_readWidth_55 (fun q10 => ?_)
        refine j_aload_n dX1_readWidth_58 rfl ?_
        refine j_dup dX1_readWidth_59 rfl ?_
        refine jg_X1_26 z_9 dX1_readWidth_60 ?_
        refine j_iconst (v := (1 : Int32)) dX1_readWidth_63 (by decide) ?_
        refine j_iadd dX1_readWidth_64 ?_
        refine jp_X1_26 z_9 dX1_readWidth_65 ?_
        refine j_iconst (v := (1 : Int32)) dX1_readWidth_68 (by decide) ?_
        exact j_zret (Or.inr rfl) dX1_readWidth_69
      · refine j_iconst (v := (0 : Int32)) dX1_readWidth_40 (by decide) ?_
        exact j_zret (Or.inl rfl) dX1_readWidth_41
  · refine j_iconst (v := (0 : Int32)) dX1_readWidth_9 (by decide) ?_
    exact j_zret (Or.inl rfl) dX1_readWidth_10
set_option maxRecDepth 20000 in
theorem w_X1_skipBlanks_b0  : ∀ (n : Nat)   (h : Hp), J encU RX1 cX1_skipBlanks 1 none 1 0 [(0, aR 9 0)] [] h (f_X1_skipBlanks_b0  n  h) := by
  intro n
  induction n with
  | zero =>
    intros
    exact j_none
  | succ n hk0 =>
    intro   h
    show J encU RX1 cX1_skipBlanks 1 none 1 0 [(0, aR 9 0)] [] h (f_X1_skipBlanks_b0_body  (f_X1_skipBlanks_b0  n)  h)
    unfold f_X1_skipBlanks_b0_body
    refine j_aload_n dX1_skipBlanks_0 rfl ?_
    refine jg_X1_26 z_9 dX1_skipBlanks_1 ?_
    refine j_aload_n dX1_skipBlanks_4 rfl ?_
    refine jg_X1_22 z_9 dX1_skipBlanks_5 ?_
    refine j_icmp_ge (tgt := 33) dX1_skipBlanks_8 (by decide) (fun c1 => ?_) (fun c1 => ?_)
    · exact j_vret dX1_skipBlanks_33
    · refine j_aload_n dX1_skipBlanks_11 rfl ?_
      refine jc_X1_42 (ct_X1_sign   _) (by decide) z_9 (Nat.le_of_ble_eq_true rfl) dX1_skipBlanks_12 (fun v2 h3 e4 => ?_)
      refine j_bipush (v := (32 : Int32)) dX1_skipBlanks_15 (by decide) ?_
      refine j_icmp_ne (tgt := 33) dX1_skipBlanks_17 (by decide) (fun c5 => ?_) (fun c5 => ?_)
      · exact j_vret dX1_skipBlanks_33
      · refine j_aload_n dX1_skipBlanks_20 rfl ?_
        refine j_dup dX1_skipBlanks_21 rfl ?_
        refine jg_X1_26 z_9 dX1_skipBlanks_22 ?_
        refine j_iconst (v := (1 : Int32)) dX1_skipBlanks_25 (by decide) ?_
        refine j_iadd dX1_skipBlanks_26 ?_
        refine jp_X1_26 z_9 dX1_skipBlanks_27 ?_
        refine j_goto (tgt := 0) dX1_skipBlanks_30 (by decide) ?_
        exact j_weak rfl (hk0   _)
set_option maxRecDepth 20000 in
theorem ct_X1_skipBlanks   (h : Hp) : Ct encU yX1_skipBlanks cX1_skipBlanks 1 none 1 [aR 9 0] h (f_X1_skipBlanks  h) := by
  refine ct_of [(0, aR 9 0)] (by decide) (fun _ => rfl) (fun _ => Nat.le_of_ble_eq_true rfl) ?_
  show J encU RX1 cX1_skipBlanks 1 none 1 0 [(0, aR 9 0)] [] h (f_X1_skipBlanks  h)
  unfold f_X1_skipBlanks
  exact j_weak rfl (w_X1_skipBlanks_b0  _   _)
set_option maxRecDepth 20000 in
theorem w_X4_askedToDraw_b28  (a0 : Nat) (a1 : Int32) (h_a0 : a0 < cnt 11) (h : Hp) : J encI RX4 cX4_askedToDraw 3 (some .int) 1 28 [(0, aR 11 a0), (1, aI a1)] [] h (f_X4_askedToDraw_b28  a0 a1 h) := by
  unfold f_X4_askedToDraw_b28
  refine j_aload_n dX4_askedToDraw_28 rfl ?_
  refine jg_X4_11 h_a0 dX4_askedToDraw_29 ?_
  refine j_iload_n dX4_askedToDraw_32 rfl ?_
  refine ja_12 h_a0 dX4_askedToDraw_33 (fun q1 z2 => ?_)
  refine jc_X4_159 (ct_X0_people _ z2 _) (by decide) z2 (Nat.le_of_ble_eq_true rfl) dX4_askedToDraw_34 (fun v3 h4 e5 => ?_)
  exact j_iret dX4_askedToDraw_37
set_option maxRecDepth 20000 in
theorem ct_X4_askedToDraw (a0 : Nat) (a1 : Int32) (h_a0 : a0 < cnt 11) (h : Hp) : Ct encI yX4_askedToDraw cX4_askedToDraw 3 (some .int) 1 [aR 11 a0, aI a1] h (f_X4_askedToDraw a0 a1 h) := by
  refine ct_of [(0, aR 11 a0), (1, aI a1)] (by decide) (fun _ => rfl) (fun _ => Nat.le_of_ble_eq_true rfl) ?_
  show J encI RX4 cX4_askedToDraw 3 (some .int) 1 0 [(0, aR 11 a0), (1, aI a1)] [] h (f_X4_askedToDraw a0 a1 h)
  unfold f_X4_askedToDraw
  refine j_aload_n dX4_askedToDraw_0 rfl ?_
  refine jg_X4_11 h_a0 dX4_askedToDraw_1 ?_
  refine j_iload_n dX4_askedToDraw_4 rfl ?_
  refine ja_12 h_a0 dX4_askedToDraw_5 (fun q1 z2 => ?_)
  refine jg_X4_132 z2 dX4_askedToDraw_6 ?_
  refine j_istore_n dX4_askedToDraw_9 (by decide) ?_
  refine j_iload_n dX4_askedToDraw_10 rfl ?_
  refine j_bipush (v := (-9 : Int32)) dX4_askedToDraw_11 (by decide) ?_
  refine j_icmp_eq (tgt := 28) dX4_askedToDraw_13 (by decide) (fun c3 => ?_) (fun c3 => ?_)
  · exact j_weak rfl (w_X4_askedToDraw_b28  _ _ h_a0 _)
  · refine j_aload_n dX4_askedToDraw_16 rfl ?_
    refine j_iload_n dX4_askedToDraw_17 rfl ?_
    refine jc_X4_155 (ct_X4_isIn _ _ h_a0 _) (by decide) h_a0 (Nat.le_of_ble_eq_true rfl) dX4_askedToDraw_18 (fun v4 h5 e6 => ?_)
    refine j_if_ne (tgt := 28) dX4_askedToDraw_21 (by decide) (fun c7 => ?_) (fun c7 => ?_)
    · exact j_weak rfl (w_X4_askedToDraw_b28  _ _ h_a0 _)
    · refine j_iconst (v := (0 : Int32)) dX4_askedToDraw_24 (by decide) ?_
      refine j_goto (tgt := 37) dX4_askedToDraw_25 (by decide) ?_
      exact j_iret dX4_askedToDraw_37
set_option maxRecDepth 20000 in
theorem w_X4_bridges_b30 (kont4 : Nat → Int32 → Int32 → Hp → Option (Int32 × Hp)) (hk4 : ∀ (a0 : Nat) (a1 : Int32) (a2 : Int32) (h_a0 : a0 < cnt 11) (h : Hp), J encI RX4 cX4_bridges 3 (some .int) 1 4 [(0, aR 11 a0), (1, aI a1), (2, aI a2)] [] h (kont4 a0 a1 a2 h)) (a0 : Nat) (a2 : Int32) (s0 : Int32) (s1 : Int32) (h_a0 : a0 < cnt 11) (h : Hp) : J encI RX4 cX4_bridges 3 (some .int) 1 30 [(0, aR 11 a0), (2, aI a2)] [aI s1, aI s0] h (f_X4_bridges_b30 kont4 a0 a2 s0 s1 h) := by
  unfold f_X4_bridges_b30
  refine j_iadd dX4_bridges_30 ?_
  refine j_istore_n dX4_bridges_31 (by decide) ?_
  refine j_iinc (v := (1 : Int32)) dX4_bridges_32 rfl (by decide) (by decide) ?_
  refine j_goto (tgt := 4) dX4_bridges_35 (by decide) ?_
  exact j_weak rfl (hk4 _ _ _ h_a0 _)
set_option maxRecDepth 20000 in
theorem w_X4_bridges_b4  : ∀ (n : Nat) (a0 : Nat) (a1 : Int32) (a2 : Int32) (h_a0 : a0 < cnt 11) (h : Hp), J encI RX4 cX4_bridges 3 (some .int) 1 4 [(0, aR 11 a0), (1, aI a1), (2, aI a2)] [] h (f_X4_bridges_b4  n a0 a1 a2 h) := by
  intro n
  induction n with
  | zero =>
    intros
    exact j_none
  | succ n hk4 =>
    intro a0 a1 a2 h_a0 h
    show J encI RX4 cX4_bridges 3 (some .int) 1 4 [(0, aR 11 a0), (1, aI a1), (2, aI a2)] [] h (f_X4_bridges_b4_body  (f_X4_bridges_b4  n) a0 a1 a2 h)
    unfold f_X4_bridges_b4_body
    refine j_iload_n dX4_bridges_4 rfl ?_
    refine j_aload_n dX4_bridges_5 rfl ?_
    refine jg_X4_39 h_a0 dX4_bridges_6 ?_
    refine j_icmp_ge (tgt := 38) dX4_bridges_9 (by decide) (fun c1 => ?_) (fun c1 => ?_)
    · refine j_iload_n dX4_bridges_38 rfl ?_
      exact j_iret dX4_bridges_39
    · refine j_iload_n dX4_bridges_12 rfl ?_
      refine j_aload_n dX4_bridges_13 rfl ?_
      refine jg_X4_11 h_a0 dX4_bridges_14 ?_
      refine j_iload_n dX4_bridges_17 rfl ?_
      refine ja_12 h_a0 dX4_bridges_18 (fun q2 z3 => ?_)
      refine jc_X4_146 (ct_X0_isBridge _ z3 _) (by decide) z3 (Nat.le_of_ble_eq_true rfl) dX4_bridges_19 (fun v4 h5 e6 => ?_)
      refine j_if_eq (tgt := 29) dX4_bridges_22 (by decide) (fun c7 => ?_) (fun c7 => ?_)
      · refine j_iconst (v := (0 : Int32)) dX4_bridges_29 (by decide) ?_
        exact j_weak rfl (w_X4_bridges_b30 _ hk4 _ _ _ _ h_a0 _)
      · refine j_iconst (v := (1 : Int32)) dX4_bridges_25 (by decide) ?_
        refine j_goto (tgt := 30) dX4_bridges_26 (by decide) ?_
        exact j_weak rfl (w_X4_bridges_b30 _ hk4 _ _ _ _ h_a0 _)
set_option maxRecDepth 20000 in
theorem ct_X4_bridges (a0 : Nat) (h_a0 : a0 < cnt 11) (h : Hp) : Ct encI yX4_bridges cX4_bridges 3 (some .int) 1 [aR 11 a0] h (f_X4_bridges a0 h) := by
  refine ct_of [(0, aR 11 a0)] (by decide) (fun _ => rfl) (fun _ => Nat.le_of_ble_eq_true rfl) ?_
  show J encI RX4 cX4_bridges 3 (some .int) 1 0 [(0, aR 11 a0)] [] h (f_X4_bridges a0 h)
  unfold f_X4_bridges
  refine j_iconst (v := (0 : Int32)) dX4_bridges_0 (by decide) ?_
  refine j_istore_n dX4_bridges_1 (by decide) ?_
  refine j_iconst (v := (0 : Int32)) dX4_bridges_2 (by decide) ?_
  refine j_istore_n dX4_bridges_3 (by decide) ?_
  exact j_weak rfl (w_X4_bridges_b4  _ _ _ _ h_a0 _)
set_option maxRecDepth 20000 in
theorem w_X4_crack_b81 (kont9 : Nat → Int32 → Int64 → Int32 → Int32 → Hp → Option (Int32 × Hp)) (hk9 : ∀ (a0 : Nat) (a2 : Int32) (a3 : Int64) (a5 : Int32) (a6 : Int32) (h_a0 : a0 < cnt 11) (h : Hp), J encI RX4 cX4_crack 7 (some .int) 1 9 [(0, aR 11 a0), (2, aI a2), (3, aL a3), (5, aI a5), (6, aI a6)] [] h (kont9 a0 a2 a3 a5 a6 h)) (a0 : Nat) (a2 : Int32) (a3 : Int64) (a5 : Int32) (a6 : Int32) (h_a0 : a0 < cnt 11) (h : Hp) : J encI RX4 cX4_crack 7 (some .int) 1 81 [(0, aR 11 a0), (2, aI a2), (3, aL a3), (5, aI a5), (6, aI a6)] [] h (f_X4_crack_b81 kont9 a0 a2 a3 a5 a6 h) := by
  unfold f_X4_crack_b81
  refine j_iinc (v := (1 : Int32)) dX4_crack_81 rfl (by decide) (by decide) ?_
  refine j_goto (tgt := 9) dX4_crack_84 (by decide) ?_
  exact j_weak rfl (hk9 _ _ _ _ _ h_a0 _)
set_option maxRecDepth 20000 in
theorem w_X4_crack_b9  : ∀ (n : Nat) (a0 : Nat) (a2 : Int32) (a3 : Int64) (a5 : Int32) (a6 : Int32) (h_a0 : a0 < cnt 11) (h : Hp), J encI RX4 cX4_crack 7 (some .int) 1 9 [(0, aR 11 a0), (2, aI a2), (3, aL a3), (5, aI a5), (6, aI a6)] [] h (f_X4_crack_b9  n a0 a2 a3 a5 a6 h) := by
  intro n
  induction n with
  | zero =>
    intros
    exact j_none
  | succ n hk9 =>
    intro a0 a2 a3 a5 a6 h_a0 h
    show J encI RX4 cX4_crack 7 (some .int) 1 9 [(0, aR 11 a0), (2, aI a2), (3, aL a3), (5, aI a5), (6, aI a6)] [] h (f_X4_crack_b9_body  (f_X4_crack_b9  n) a0 a2 a3 a5 a6 h)
    unfold f_X4_crack_b9_body
    refine j_iload dX4_crack_9 rfl ?_
    refine j_aload_n dX4_crack_11 rfl ?_
    refine jg_X4_39 h_a0 dX4_crack_12 ?_
    refine j_icmp_ge (tgt := 87) dX4_crack_15 (by decide) (fun c1 => ?_) (fun c1 => ?_)
    · refine j_iload dX4_crack_87 rfl ?_
      exact j_iret dX4_crack_89
    · refine j_aload_n dX4_crack_18 rfl ?_
      refine j_iload dX4_crack_19 rfl ?_
      refine jc_X4_155 (ct_X4_isIn _ _ h_a0 _) (by decide) h_a0 (Nat.le_of_ble_eq_true rfl) dX4_crack_21 (fun v2 h3 e4 => ?_)
      refine j_if_eq (tgt := 81) dX4_crack_24 (by decide) (fun c5 => ?_) (fun c5 => ?_)
      · exact j_weak rfl (w_X4_crack_b81 _ hk9 _ _ _ _ _ h_a0 _)
      · refine j_lload_n dX4_crack_27 rfl ?_
        refine j_ldc2 (v := (48271 : Int64)) dX4_crack_28 (gt_m 692 rfl rfl) ?_
        refine j_lmul dX4_crack_31 ?_
        refine j_ldc2 (v := (2147483647 : Int64)) dX4_crack_32 (gt_m 693 rfl rfl) ?_
        refine j_gd (fun n6 => ?_)
        refine j_lrem dX4_crack_35 n6 ?_
        refine j_lstore_n dX4_crack_36 (by decide) ?_
        refine j_lload_n dX4_crack_37 rfl ?_
        refine j_ldc2 (v := (12 : Int64)) dX4_crack_38 (gt_m 694 rfl rfl) ?_
        refine j_gd (fun n7 => ?_)
        refine j_lrem dX4_crack_41 n7 ?_
        refine j_iload_n dX4_crack_42 rfl ?_
        refine j_i2l dX4_crack_43 ?_
        refine j_lcmp dX4_crack_44 ?_
        refine j_if_ge (tgt := 81) dX4_crack_45 (by decide) (fun c8 => ?_) (fun c8 => ?_)
        · exact j_weak rfl (w_X4_crack_b81 _ hk9 _ _ _ _ _ h_a0 _)
        · refine j_aload_n dX4_crack_48 rfl ?_
          refine jg_X4_11 h_a0 dX4_crack_49 ?_
          refine j_iload dX4_crack_52 rfl ?_
          refine ja_12 h_a0 dX4_crack_54 (fun q9 z10 => ?_)
          refine jg_X4_106 z10 dX4_crack_55 ?_
          refine j_if_ne (tgt := 81) dX4_crack_58 (by decide) (fun c11 => ?_) (fun c11 => ?_)
          · exact j_weak rfl (w_X4_crack_b81 _ hk9 _ _ _ _ _ h_a0 _)
          · refine j_aload_n dX4_crack_61 rfl ?_
            refine jg_X4_11 h_a0 dX4_crack_62 ?_
            refine j_iload dX4_crack_65 rfl ?_
            refine ja_12 h_a0 dX4_crack_67 (fun q12 z13 => ?_)
            refine j_iconst (v := (1 : Int32)) dX4_crack_68 (by decide) ?_
            refine jp_X4_106 z13 dX4_crack_69 ?_
            refine j_iload dX4_crack_72 rfl ?_
            refine j_iconst (v := (1 : Int32)) dX4_crack_74 (by decide) ?_
            refine j_iload dX4_crack_75 rfl ?_
            refine j_ishl dX4_crack_77 ?_
            refine j_ior dX4_crack_78 ?_
            refine j_istore dX4_crack_79 (by decide) ?_
            exact j_weak rfl (w_X4_crack_b81 _ hk9 _ _ _ _ _ h_a0 _)
set_option maxRecDepth 20000 in
theorem ct_X4_crack (a0 : Nat) (a1 : Int32) (a2 : Int32) (h_a0 : a0 < cnt 11) (h : Hp) : Ct encI yX4_crack cX4_crack 7 (some .int) 1 [aR 11 a0, aI a1, aI a2] h (f_X4_crack a0 a1 a2 h) := by
  refine ct_of [(0, aR 11 a0), (1, aI a1), (2, aI a2)] (by decide) (fun _ => rfl) (fun _ => Nat.le_of_ble_eq_true rfl) ?_
  show J encI RX4 cX4_crack 7 (some .int) 1 0 [(0, aR 11 a0), (1, aI a1), (2, aI a2)] [] h (f_X4_crack a0 a1 a2 h)
  unfold f_X4_crack
  refine j_iload_n dX4_crack_0 rfl ?_
  refine j_i2l dX4_crack_1 ?_
  refine j_lstore_n dX4_crack_2 (by decide) ?_
  refine j_iconst (v := (0 : Int32)) dX4_crack_3 (by decide) ?_
  refine j_istore dX4_crack_4 (by decide) ?_
  refine j_iconst (v := (0 : Int32)) dX4_crack_6 (by decide) ?_
  refine j_istore dX4_crack_7 (by decide) ?_
  exact j_weak rfl (w_X4_crack_b9  _ _ _ _ _ _ h_a0 _)
set_option maxRecDepth 20000 in
theorem ct_X4_drawOut (a0 : Nat) (a1 : Int32) (h_a0 : a0 < cnt 11) (h : Hp) : Ct encU yX4_drawOut cX4_drawOut 2 none 1 [aR 11 a0, aI a1] h (f_X4_drawOut a0 a1 h) := by
  refine ct_of [(0, aR 11 a0), (1, aI a1)] (by decide) (fun _ => rfl) (fun _ => Nat.le_of_ble_eq_true rfl) ?_
  show J encU RX4 cX4_drawOut 2 none 1 0 [(0, aR 11 a0), (1, aI a1)] [] h (f_X4_drawOut a0 a1 h)
  unfold f_X4_drawOut
  refine j_aload_n dX4_drawOut_0 rfl ?_
  refine j_iconst (v := (1 : Int32)) dX4_drawOut_1 (by decide) ?_
  refine j_iload_n dX4_drawOut_2 rfl ?_
  refine j_ishl dX4_drawOut_3 ?_
  refine jc_X4_168 (ct_X4_takeOut _ _ h_a0 _) (by decide) h_a0 (Nat.le_of_ble_eq_true rfl) dX4_drawOut_4 (fun v1 h2 e3 => ?_)
  refine j_aload_n dX4_drawOut_7 rfl ?_
  refine jg_X4_57 h_a0 dX4_drawOut_8 ?_
  refine j_bipush (v := (14 : Int32)) dX4_drawOut_11 (by decide) ?_
  refine j_icmp_ge (tgt := 36) dX4_drawOut_13 (by decide) (fun c4 => ?_) (fun c4 => ?_)
  · exact j_vret dX4_drawOut_36
  · refine j_aload_n dX4_drawOut_16 rfl ?_
    refine jg_X4_21 h_a0 dX4_drawOut_17 ?_
    refine j_aload_n dX4_drawOut_20 rfl ?_
    refine jg_X4_57 h_a0 dX4_drawOut_21 ?_
    refine j_iload_n dX4_drawOut_24 rfl ?_
    refine j_iast (ic_14 _) h_a0 dX4_drawOut_25 (fun q5 => ?_)
    refine j_aload_n dX4_drawOut_26 rfl ?_
    refine j_dup dX4_drawOut_27 rfl ?_
    refine jg_X4_57 h_a0 dX4_drawOut_28 ?_
    refine j_iconst (v := (1 : Int32)) dX4_drawOut_31 (by decide) ?_
    refine j_iadd dX4_drawOut_32 ?_
    refine jp_X4_57 h_a0 dX4_drawOut_33 ?_
    exact j_vret dX4_drawOut_36
set_option maxRecDepth 20000 in
theorem w_X4_hasRoom_b18  (a0 : Nat) (a1 : Int32) (a2 : Int32) (a3 : Int32) (s0 : Int32) (h_a0 : a0 < cnt 11) (h : Hp) : J encI RX4 cX4_hasRoom 5 (some .boolean) 1 18 [(0, aR 11 a0), (1, aI a1), (2, aI a2), (3, aI a3)] [aI s0] h (f_X4_hasRoom_b18  a0 a1 a2 a3 s0 h) := by
  unfold f_X4_hasRoom_b18
  refine j_istore dX4_hasRoom_18 (by decide) ?_
  refine j_iload dX4_hasRoom_20 rfl ?_
  refine j_if_eq (tgt := 46) dX4_hasRoom_22 (by decide) (fun c1 => ?_) (fun c1 => ?_)
  · refine j_iconst (v := (0 : Int32)) dX4_hasRoom_46 (by decide) ?_
    exact j_zret (Or.inl rfl) dX4_hasRoom_47
  · refine j_aload_n dX4_hasRoom_25 rfl ?_
    refine j_iload_n dX4_hasRoom_26 rfl ?_
    refine j_iload_n dX4_hasRoom_27 rfl ?_
    refine j_iload_n dX4_hasRoom_28 rfl ?_
    refine jc_X4_68 (ct_X0_maskOf _ _  _) (by decide) (Nat.le_of_ble_eq_true rfl) dX4_hasRoom_29 (fun v2 h3 e4 => ?_)
    refine j_aload_n dX4_hasRoom_32 rfl ?_
    refine jg_X4_42 h_a0 dX4_hasRoom_33 ?_
    refine jc_X4_72 (ct_X4_over _ _ _ _ h_a0 _) (by decide) h_a0 (Nat.le_of_ble_eq_true rfl) dX4_hasRoom_36 (fun v5 h6 e7 => ?_)
    refine j_if_ne (tgt := 46) dX4_hasRoom_39 (by decide) (fun c8 => ?_) (fun c8 => ?_)
    · refine j_iconst (v := (0 : Int32)) dX4_hasRoom_46 (by decide) ?_
      exact j_zret (Or.inl rfl) dX4_hasRoom_47
    · refine j_iconst (v := (1 : Int32)) dX4_hasRoom_42 (by decide) ?_
      refine j_goto (tgt := 47) dX4_hasRoom_43 (by decide) ?_
      exact j_zret (Or.inr rfl) dX4_hasRoom_47
set_option maxRecDepth 20000 in
theorem ct_X4_hasRoom (a0 : Nat) (a1 : Int32) (a2 : Int32) (a3 : Int32) (h_a0 : a0 < cnt 11) (h : Hp) : Ct encI yX4_hasRoom cX4_hasRoom 5 (some .boolean) 1 [aR 11 a0, aI a1, aI a2, aI a3] h (f_X4_hasRoom a0 a1 a2 a3 h) := by
  refine ct_of [(0, aR 11 a0), (1, aI a1), (2, aI a2), (3, aI a3)] (by decide) (fun _ => rfl) (fun _ => Nat.le_of_ble_eq_true rfl) ?_
  show J encI RX4 cX4_hasRoom 5 (some .boolean) 1 0 [(0, aR 11 a0), (1, aI a1), (2, aI a2), (3, aI a3)] [] h (f_X4_hasRoom a0 a1 a2 a3 h)
  unfold f_X4_hasRoom
  refine j_iload_n dX4_hasRoom_0 rfl ?_
  refine j_iload_n dX4_hasRoom_1 rfl ?_
  refine jc_X4_64 (ct_X0_lengthOf _  _) (by decide) (Nat.le_of_ble_eq_true rfl) dX4_hasRoom_2 (fun v1 h2 e3 => ?_)
  refine j_iadd dX4_hasRoom_5 ?_
  refine j_aload_n dX4_hasRoom_6 rfl ?_
  refine jg_X4_35 h_a0 dX4_hasRoom_7 ?_
  refine j_icmp_gt (tgt := 17) dX4_hasRoom_10 (by decide) (fun c4 => ?_) (fun c4 => ?_)
  · refine j_iconst (v := (0 : Int32)) dX4_hasRoom_17 (by decide) ?_
    exact j_weak rfl (w_X4_hasRoom_b18  _ _ _ _ _ h_a0 _)
  · refine j_iconst (v := (1 : Int32)) dX4_hasRoom_13 (by decide) ?_
    refine j_goto (tgt := 18) dX4_hasRoom_14 (by decide) ?_
    exact j_weak rfl (w_X4_hasRoom_b18  _ _ _ _ _ h_a0 _)
set_option maxRecDepth 20000 in
theorem w_X4_listFromTop_b62 (kont6 : Nat → Int32 → Nat → Int32 → Int32 → Hp → Option (Unit × Hp)) (hk6 : ∀ (a0 : Nat) (a1 : Int32) (a2 : Nat) (a3 : Int32) (a4 : Int32) (h_a0 : a0 < cnt 11) (h_a2 : a2 < cnt 3) (h : Hp), J encU RX4 cX4_listFromTop 6 none 1 6 [(0, aR 11 a0), (1, aI a1), (2, aR 3 a2), (3, aI a3), (4, aI a4)] [] h (kont6 a0 a1 a2 a3 a4 h)) (kont14 : Nat → Int32 → Nat → Int32 → Int32 → Int32 → Hp → Option (Unit × Hp)) (hk14 : ∀ (a0 : Nat) (a1 : Int32) (a2 : Nat) (a3 : Int32) (a4 : Int32) (a5 : Int32) (h_a0 : a0 < cnt 11) (h_a2 : a2 < cnt 3) (h : Hp), J encU RX4 cX4_listFromTop 6 none 1 14 [(0, aR 11 a0), (1, aI a1), (2, aR 3 a2), (3, aI a3), (4, aI a4), (5, aI a5)] [] h (kont14 a0 a1 a2 a3 a4 a5 h)) (a0 : Nat) (a1 : Int32) (a2 : Nat) (a3 : Int32) (a4 : Int32) (a5 : Int32) (h_a0 : a0 < cnt 11) (h_a2 : a2 < cnt 3) (h : Hp) : J encU RX4 cX4_listFromTop 6 none 1 62 [(0, aR 11 a0), (1, aI a1), (2, aR 3 a2), (3, aI a3), (4, aI a4), (5, aI a5)] [] h (f_X4_listFromTop_b62 kont6 kont14 a0 a1 a2 a3 a4 a5 h) := by
  unfold f_X4_listFromTop_b62
  refine j_iinc (v := (1 : Int32)) dX4_listFromTop_62 rfl (by decide) (by decide) ?_
  refine j_goto (tgt := 14) dX4_listFromTop_65 (by decide) ?_
  exact j_weak rfl (hk14 _ _ _ _ _ _ h_a0 h_a2 _)
set_option maxRecDepth 20000 in
theorem w_X4_listFromTop_b14 (kont6 : Nat → Int32 → Nat → Int32 → Int32 → Hp → Option (Unit × Hp)) (hk6 : ∀ (a0 : Nat) (a1 : Int32) (a2 : Nat) (a3 : Int32) (a4 : Int32) (h_a0 : a0 < cnt 11) (h_a2 : a2 < cnt 3) (h : Hp), J encU RX4 cX4_listFromTop 6 none 1 6 [(0, aR 11 a0), (1, aI a1), (2, aR 3 a2), (3, aI a3), (4, aI a4)] [] h (kont6 a0 a1 a2 a3 a4 h)) : ∀ (n : Nat) (a0 : Nat) (a1 : Int32) (a2 : Nat) (a3 : Int32) (a4 : Int32) (a5 : Int32) (h_a0 : a0 < cnt 11) (h_a2 : a2 < cnt 3) (h : Hp), J encU RX4 cX4_listFromTop 6 none 1 14 [(0, aR 11 a0), (1, aI a1), (2, aR 3 a2), (3, aI a3), (4, aI a4), (5, aI a5)] [] h (f_X4_listFromTop_b14 kont6 n a0 a1 a2 a3 a4 a5 h) := by
  intro n
  induction n with
  | zero =>
    intros
    exact j_none
  | succ n hk14 =>
    intro a0 a1 a2 a3 a4 a5 h_a0 h_a2 h
    show J encU RX4 cX4_listFromTop 6 none 1 14 [(0, aR 11 a0), (1, aI a1), (2, aR 3 a2), (3, aI a3), (4, aI a4), (5, aI a5)] [] h (f_X4_listFromTop_b14_body kont6 (f_X4_listFromTop_b14 kont6 n) a0 a1 a2 a3 a4 a5 h)
    unfold f_X4_listFromTop_b14_body
    refine j_iload dX4_listFromTop_14 rfl ?_
    refine j_aload_n dX4_listFromTop_16 rfl ?_
    refine jg_X4_39 h_a0 dX4_listFromTop_17 ?_
    refine j_icmp_ge (tgt := 68) dX4_listFromTop_20 (by decide) (fun c1 => ?_) (fun c1 => ?_)
    · refine j_iinc (v := (-1 : Int32)) dX4_listFromTop_68 rfl (by decide) (by decide) ?_
      refine j_goto (tgt := 6) dX4_listFromTop_71 (by decide) ?_
      exact j_weak rfl (hk6 _ _ _ _ _ h_a0 h_a2 _)
    · refine j_iload_n dX4_listFromTop_23 rfl ?_
      refine j_iload dX4_listFromTop_24 rfl ?_
      refine j_ishr dX4_listFromTop_26 ?_
      refine j_iconst (v := (1 : Int32)) dX4_listFromTop_27 (by decide) ?_
      refine j_iand dX4_listFromTop_28 ?_
      refine j_iconst (v := (1 : Int32)) dX4_listFromTop_29 (by decide) ?_
      refine j_icmp_ne (tgt := 62) dX4_listFromTop_30 (by decide) (fun c2 => ?_) (fun c2 => ?_)
      · exact j_weak rfl (w_X4_listFromTop_b62 _ hk6 _ hk14 _ _ _ _ _ _ h_a0 h_a2 _)
      · refine j_aload_n dX4_listFromTop_33 rfl ?_
        refine jg_X4_11 h_a0 dX4_listFromTop_34 ?_
        refine j_iload dX4_listFromTop_37 rfl ?_
        refine ja_12 h_a0 dX4_listFromTop_39 (fun q3 z4 => ?_)
        refine jc_X4_86 (ct_X0_rank _ z4 _) (by decide) z4 (Nat.le_of_ble_eq_true rfl) dX4_listFromTop_40 (fun v5 h6 e7 => ?_)
        refine j_iload dX4_listFromTop_43 rfl ?_
        refine j_icmp_ne (tgt := 62) dX4_listFromTop_45 (by decide) (fun c8 => ?_) (fun c8 => ?_)
        · exact j_weak rfl (w_X4_listFromTop_b62 _ hk6 _ hk14 _ _ _ _ _ _ h_a0 h_a2 _)
        · refine j_iload_n dX4_listFromTop_48 rfl ?_
          refine j_aload_n dX4_listFromTop_49 rfl ?_
          refine j_alen (v := (40 : Int32)) (t0 := 0) (ic_3 _) (fun _ => rfl) (by decide) h_a2 dX4_listFromTop_50 ?_
          refine j_icmp_ge (tgt := 62) dX4_listFromTop_51 (by decide) (fun c9 => ?_) (fun c9 => ?_)
          · exact j_weak rfl (w_X4_listFromTop_b62 _ hk6 _ hk14 _ _ _ _ _ _ h_a0 h_a2 _)
          · refine j_aload_n dX4_listFromTop_54 rfl ?_
            refine j_iload_n dX4_listFromTop_55 rfl ?_
            refine j_iload dX4_listFromTop_56 rfl ?_
            refine j_iast (ic_3 _) h_a2 dX4_listFromTop_58 (fun q10 => ?_)
            refine j_iinc (v := (1 : Int32)) dX4_listFromTop_59 rfl (by decide) (by decide) ?_
            exact j_weak rfl (w_X4_listFromTop_b62 _ hk6 _ hk14 _ _ _ _ _ _ h_a0 h_a2 _)
set_option maxRecDepth 20000 in
theorem w_X4_listFromTop_b6  : ∀ (n : Nat) (a0 : Nat) (a1 : Int32) (a2 : Nat) (a3 : Int32) (a4 : Int32) (h_a0 : a0 < cnt 11) (h_a2 : a2 < cnt 3) (h : Hp), J encU RX4 cX4_listFromTop 6 none 1 6 [(0, aR 11 a0), (1, aI a1), (2, aR 3 a2), (3, aI a3), (4, aI a4)] [] h (f_X4_listFromTop_b6  n a0 a1 a2 a3 a4 h) := by
  intro n
  induction n with
  | zero =>
    intros
    exact j_none
  | succ n hk6 =>
    intro a0 a1 a2 a3 a4 h_a0 h_a2 h
    show J encU RX4 cX4_listFromTop 6 none 1 6 [(0, aR 11 a0), (1, aI a1), (2, aR 3 a2), (3, aI a3), (4, aI a4)] [] h (f_X4_listFromTop_b6_body  (f_X4_listFromTop_b6  n) a0 a1 a2 a3 a4 h)
    unfold f_X4_listFromTop_b6_body
    refine j_iload dX4_listFromTop_6 rfl ?_
    refine j_if_lt (tgt := 74) dX4_listFromTop_8 (by decide) (fun c1 => ?_) (fun c1 => ?_)
    · exact j_vret dX4_listFromTop_74
    · refine j_iconst (v := (0 : Int32)) dX4_listFromTop_11 (by decide) ?_
      refine j_istore dX4_listFromTop_12 (by decide) ?_
      exact j_weak rfl (w_X4_listFromTop_b14 _ hk6 _ _ _ _ _ _ _ h_a0 h_a2 _)
set_option maxRecDepth 20000 in
theorem ct_X4_listFromTop (a0 : Nat) (a1 : Int32) (a2 : Nat) (h_a0 : a0 < cnt 11) (h_a2 : a2 < cnt 3) (h : Hp) : Ct encU yX4_listFromTop cX4_listFromTop 6 none 1 [aR 11 a0, aI a1, aR 3 a2] h (f_X4_listFromTop a0 a1 a2 h) := by
  refine ct_of [(0, aR 11 a0), (1, aI a1), (2, aR 3 a2)] (by decide) (fun _ => rfl) (fun _ => Nat.le_of_ble_eq_true rfl) ?_
  show J encU RX4 cX4_listFromTop 6 none 1 0 [(0, aR 11 a0), (1, aI a1), (2, aR 3 a2)] [] h (f_X4_listFromTop a0 a1 a2 h)
  unfold f_X4_listFromTop
  refine j_iconst (v := (0 : Int32)) dX4_listFromTop_0 (by decide) ?_
  refine j_istore_n dX4_listFromTop_1 (by decide) ?_
  refine j_bipush (v := (11 : Int32)) dX4_listFromTop_2 (by decide) ?_
  refine j_istore dX4_listFromTop_4 (by decide) ?_
  exact j_weak rfl (w_X4_listFromTop_b6  _ _ _ _ _ _ h_a0 h_a2 _)
set_option maxRecDepth 20000 in
theorem w_X4_mixInto_b37 (kont26 : Nat → Int64 → Int32 → Hp → Option (Int64 × Hp)) (hk26 : ∀ (a0 : Nat) (a1 : Int64) (a3 : Int32) (h_a0 : a0 < cnt 11) (h : Hp), J encL RX4 cX4_mixInto 5 (some .long) 1 26 [(0, aR 11 a0), (1, aL a1), (3, aI a3)] [] h (kont26 a0 a1 a3 h)) : ∀ (n : Nat) (a0 : Nat) (a1 : Int64) (a3 : Int32) (a4 : Int32) (h_a0 : a0 < cnt 11) (h : Hp), J encL RX4 cX4_mixInto 5 (some .long) 1 37 [(0, aR 11 a0), (1, aL a1), (3, aI a3), (4, aI a4)] [] h (f_X4_mixInto_b37 kont26 n a0 a1 a3 a4 h) := by
  intro n
  induction n with
  | zero =>
    intros
    exact j_none
  | succ n hk37 =>
    intro a0 a1 a3 a4 h_a0 h
    show J encL RX4 cX4_mixInto 5 (some .long) 1 37 [(0, aR 11 a0), (1, aL a1), (3, aI a3), (4, aI a4)] [] h (f_X4_mixInto_b37_body kont26 (f_X4_mixInto_b37 kont26 n) a0 a1 a3 a4 h)
    unfold f_X4_mixInto_b37_body
    refine j_iload dX4_mixInto_37 rfl ?_
    refine j_bipush (v := (8 : Int32)) dX4_mixInto_39 (by decide) ?_
    refine j_icmp_gt (tgt := 65) dX4_mixInto_41 (by decide) (fun c1 => ?_) (fun c1 => ?_)
    · refine j_iinc (v := (1 : Int32)) dX4_mixInto_65 rfl (by decide) (by decide) ?_
      refine j_goto (tgt := 26) dX4_mixInto_68 (by decide) ?_
      exact j_weak rfl (hk26 _ _ _ h_a0 _)
    · refine j_ldc2 (v := (31 : Int64)) dX4_mixInto_44 (gt_m 797 rfl rfl) ?_
      refine j_lload_n dX4_mixInto_47 rfl ?_
      refine j_lmul dX4_mixInto_48 ?_
      refine j_aload_n dX4_mixInto_49 rfl ?_
      refine j_iload_n dX4_mixInto_50 rfl ?_
      refine j_iload dX4_mixInto_51 rfl ?_
      refine jc_X4_152 (ct_X4_tells _ _ _ h_a0 _) (by decide) h_a0 (Nat.le_of_ble_eq_true rfl) dX4_mixInto_53 (fun v2 h3 e4 => ?_)
      refine j_i2l dX4_mixInto_56 ?_
      refine j_ladd dX4_mixInto_57 ?_
      refine j_lstore_n dX4_mixInto_58 (by decide) ?_
      refine j_iinc (v := (1 : Int32)) dX4_mixInto_59 rfl (by decide) (by decide) ?_
      refine j_goto (tgt := 37) dX4_mixInto_62 (by decide) ?_
      exact j_weak rfl (hk37 _ _ _ _ h_a0 _)
set_option maxRecDepth 20000 in
theorem w_X4_mixInto_b73  : ∀ (n : Nat) (a0 : Nat) (a1 : Int64) (a3 : Int32) (h_a0 : a0 < cnt 11) (h : Hp), J encL RX4 cX4_mixInto 5 (some .long) 1 73 [(0, aR 11 a0), (1, aL a1), (3, aI a3)] [] h (f_X4_mixInto_b73  n a0 a1 a3 h) := by
  intro n
  induction n with
  | zero =>
    intros
    exact j_none
  | succ n hk73 =>
    intro a0 a1 a3 h_a0 h
    show J encL RX4 cX4_mixInto 5 (some .long) 1 73 [(0, aR 11 a0), (1, aL a1), (3, aI a3)] [] h (f_X4_mixInto_b73_body  (f_X4_mixInto_b73  n) a0 a1 a3 h)
    unfold f_X4_mixInto_b73_body
    refine j_iload_n dX4_mixInto_73 rfl ?_
    refine j_aload_n dX4_mixInto_74 rfl ?_
    refine jg_X4_57 h_a0 dX4_mixInto_75 ?_
    refine j_icmp_ge (tgt := 101) dX4_mixInto_78 (by decide) (fun c1 => ?_) (fun c1 => ?_)
    · refine j_lload_n dX4_mixInto_101 rfl ?_
      exact j_lret dX4_mixInto_102
    · refine j_ldc2 (v := (31 : Int64)) dX4_mixInto_81 (gt_m 797 rfl rfl) ?_
      refine j_lload_n dX4_mixInto_84 rfl ?_
      refine j_lmul dX4_mixInto_85 ?_
      refine j_aload_n dX4_mixInto_86 rfl ?_
      refine jg_X4_21 h_a0 dX4_mixInto_87 ?_
      refine j_iload_n dX4_mixInto_90 rfl ?_
      refine j_iald (ic_14 _) h_a0 dX4_mixInto_91 (fun q2 => ?_)
      refine j_i2l dX4_mixInto_92 ?_
      refine j_ladd dX4_mixInto_93 ?_
      refine j_lstore_n dX4_mixInto_94 (by decide) ?_
      refine j_iinc (v := (1 : Int32)) dX4_mixInto_95 rfl (by decide) (by decide) ?_
      refine j_goto (tgt := 73) dX4_mixInto_98 (by decide) ?_
      exact j_weak rfl (hk73 _ _ _ h_a0 _)
set_option maxRecDepth 20000 in
theorem w_X4_mixInto_b26  : ∀ (n : Nat) (a0 : Nat) (a1 : Int64) (a3 : Int32) (h_a0 : a0 < cnt 11) (h : Hp), J encL RX4 cX4_mixInto 5 (some .long) 1 26 [(0, aR 11 a0), (1, aL a1), (3, aI a3)] [] h (f_X4_mixInto_b26  n a0 a1 a3 h) := by
  intro n
  induction n with
  | zero =>
    intros
    exact j_none
  | succ n hk26 =>
    intro a0 a1 a3 h_a0 h
    show J encL RX4 cX4_mixInto 5 (some .long) 1 26 [(0, aR 11 a0), (1, aL a1), (3, aI a3)] [] h (f_X4_mixInto_b26_body  (f_X4_mixInto_b26  n) a0 a1 a3 h)
    unfold f_X4_mixInto_b26_body
    refine j_iload_n dX4_mixInto_26 rfl ?_
    refine j_aload_n dX4_mixInto_27 rfl ?_
    refine jg_X4_39 h_a0 dX4_mixInto_28 ?_
    refine j_icmp_ge (tgt := 71) dX4_mixInto_31 (by decide) (fun c1 => ?_) (fun c1 => ?_)
    · refine j_iconst (v := (0 : Int32)) dX4_mixInto_71 (by decide) ?_
      refine j_istore_n dX4_mixInto_72 (by decide) ?_
      exact j_weak rfl (w_X4_mixInto_b73  _ _ _ _ h_a0 _)
    · refine j_iconst (v := (0 : Int32)) dX4_mixInto_34 (by decide) ?_
      refine j_istore dX4_mixInto_35 (by decide) ?_
      exact j_weak rfl (w_X4_mixInto_b37 _ hk26 _ _ _ _ _ h_a0 _)
set_option maxRecDepth 20000 in
theorem ct_X4_mixInto (a0 : Nat) (a1 : Int64) (h_a0 : a0 < cnt 11) (h : Hp) : Ct encL yX4_mixInto cX4_mixInto 5 (some .long) 1 [aR 11 a0, aL a1] h (f_X4_mixInto a0 a1 h) := by
  refine ct_of [(0, aR 11 a0), (1, aL a1)] (by decide) (fun _ => rfl) (fun _ => Nat.le_of_ble_eq_true rfl) ?_
  show J encL RX4 cX4_mixInto 5 (some .long) 1 0 [(0, aR 11 a0), (1, aL a1)] [] h (f_X4_mixInto a0 a1 h)
  unfold f_X4_mixInto
  refine j_ldc2 (v := (31 : Int64)) dX4_mixInto_0 (gt_m 797 rfl rfl) ?_
  refine j_lload_n dX4_mixInto_3 rfl ?_
  refine j_lmul dX4_mixInto_4 ?_
  refine j_aload_n dX4_mixInto_5 rfl ?_
  refine jg_X4_35 h_a0 dX4_mixInto_6 ?_
  refine j_i2l dX4_mixInto_9 ?_
  refine j_ladd dX4_mixInto_10 ?_
  refine j_lstore_n dX4_mixInto_11 (by decide) ?_
  refine j_ldc2 (v := (31 : Int64)) dX4_mixInto_12 (gt_m 797 rfl rfl) ?_
  refine j_lload_n dX4_mixInto_15 rfl ?_
  refine j_lmul dX4_mixInto_16 ?_
  refine j_aload_n dX4_mixInto_17 rfl ?_
  refine jg_X4_51 h_a0 dX4_mixInto_18 ?_
  refine j_i2l dX4_mixInto_21 ?_
  refine j_ladd dX4_mixInto_22 ?_
  refine j_lstore_n dX4_mixInto_23 (by decide) ?_
  refine j_iconst (v := (0 : Int32)) dX4_mixInto_24 (by decide) ?_
  refine j_istore_n dX4_mixInto_25 (by decide) ?_
  exact j_weak rfl (w_X4_mixInto_b26  _ _ _ _ h_a0 _)
set_option maxRecDepth 20000 in
theorem w_X4_netDebt_b51 (kont5 : Nat → Int32 → Int32 → Int32 → Int32 → Hp → Option (Int32 × Hp)) (hk5 : ∀ (a0 : Nat) (a1 : Int32) (a2 : Int32) (a3 : Int32) (a4 : Int32) (h_a0 : a0 < cnt 11) (h : Hp), J encI RX4 cX4_netDebt 5 (some .int) 1 5 [(0, aR 11 a0), (1, aI a1), (2, aI a2), (3, aI a3), (4, aI a4)] [] h (kont5 a0 a1 a2 a3 a4 h)) (a0 : Nat) (a1 : Int32) (a2 : Int32) (a3 : Int32) (a4 : Int32) (h_a0 : a0 < cnt 11) (h : Hp) : J encI RX4 cX4_netDebt 5 (some .int) 1 51 [(0, aR 11 a0), (1, aI a1), (2, aI a2), (3, aI a3), (4, aI a4)] [] h (f_X4_netDebt_b51 kont5 a0 a1 a2 a3 a4 h) := by
  unfold f_X4_netDebt_b51
  refine j_iinc (v := (1 : Int32)) dX4_netDebt_51 rfl (by decide) (by decide) ?_
  refine j_goto (tgt := 5) dX4_netDebt_54 (by decide) ?_
  exact j_weak rfl (hk5 _ _ _ _ _ h_a0 _)
set_option maxRecDepth 20000 in
theorem w_X4_netDebt_b5  : ∀ (n : Nat) (a0 : Nat) (a1 : Int32) (a2 : Int32) (a3 : Int32) (a4 : Int32) (h_a0 : a0 < cnt 11) (h : Hp), J encI RX4 cX4_netDebt 5 (some .int) 1 5 [(0, aR 11 a0), (1, aI a1), (2, aI a2), (3, aI a3), (4, aI a4)] [] h (f_X4_netDebt_b5  n a0 a1 a2 a3 a4 h) := by
  intro n
  induction n with
  | zero =>
    intros
    exact j_none
  | succ n hk5 =>
    intro a0 a1 a2 a3 a4 h_a0 h
    show J encI RX4 cX4_netDebt 5 (some .int) 1 5 [(0, aR 11 a0), (1, aI a1), (2, aI a2), (3, aI a3), (4, aI a4)] [] h (f_X4_netDebt_b5_body  (f_X4_netDebt_b5  n) a0 a1 a2 a3 a4 h)
    unfold f_X4_netDebt_b5_body
    refine j_iload dX4_netDebt_5 rfl ?_
    refine j_aload_n dX4_netDebt_7 rfl ?_
    refine jg_X4_39 h_a0 dX4_netDebt_8 ?_
    refine j_icmp_ge (tgt := 57) dX4_netDebt_11 (by decide) (fun c1 => ?_) (fun c1 => ?_)
    · refine j_iload_n dX4_netDebt_57 rfl ?_
      exact j_iret dX4_netDebt_58
    · refine j_aload_n dX4_netDebt_14 rfl ?_
      refine j_iload dX4_netDebt_15 rfl ?_
      refine jc_X4_155 (ct_X4_isIn _ _ h_a0 _) (by decide) h_a0 (Nat.le_of_ble_eq_true rfl) dX4_netDebt_17 (fun v2 h3 e4 => ?_)
      refine j_if_eq (tgt := 51) dX4_netDebt_20 (by decide) (fun c5 => ?_) (fun c5 => ?_)
      · exact j_weak rfl (w_X4_netDebt_b51 _ hk5 _ _ _ _ _ h_a0 _)
      · refine j_iload_n dX4_netDebt_23 rfl ?_
        refine j_aload_n dX4_netDebt_24 rfl ?_
        refine jg_X4_11 h_a0 dX4_netDebt_25 ?_
        refine j_iload dX4_netDebt_28 rfl ?_
        refine ja_12 h_a0 dX4_netDebt_30 (fun q6 z7 => ?_)
        refine j_iload_n dX4_netDebt_31 rfl ?_
        refine j_iload_n dX4_netDebt_32 rfl ?_
        refine jc_X4_189 (ct_X0_debt _ _ _ z7 _) (by decide) z7 (Nat.le_of_ble_eq_true rfl) dX4_netDebt_33 (fun v8 h9 e10 => ?_)
        refine j_aload_n dX4_netDebt_36 rfl ?_
        refine jg_X4_11 h_a0 dX4_netDebt_37 ?_
        refine j_iload dX4_netDebt_40 rfl ?_
        refine ja_12 h_a0 dX4_netDebt_42 (fun q11 z12 => ?_)
        refine j_iload_n dX4_netDebt_43 rfl ?_
        refine j_iload_n dX4_netDebt_44 rfl ?_
        refine jc_X4_189 (ct_X0_debt _ _ _ z12 _) (by decide) z12 (Nat.le_of_ble_eq_true rfl) dX4_netDebt_45 (fun v13 h14 e15 => ?_)
        refine j_isub dX4_netDebt_48 ?_
        refine j_iadd dX4_netDebt_49 ?_
        refine j_istore_n dX4_netDebt_50 (by decide) ?_
        exact j_weak rfl (w_X4_netDebt_b51 _ hk5 _ _ _ _ _ h_a0 _)
set_option maxRecDepth 20000 in
theorem ct_X4_netDebt (a0 : Nat) (a1 : Int32) (a2 : Int32) (h_a0 : a0 < cnt 11) (h : Hp) : Ct encI yX4_netDebt cX4_netDebt 5 (some .int) 1 [aR 11 a0, aI a1, aI a2] h (f_X4_netDebt a0 a1 a2 h) := by
  refine ct_of [(0, aR 11 a0), (1, aI a1), (2, aI a2)] (by decide) (fun _ => rfl) (fun _ => Nat.le_of_ble_eq_true rfl) ?_
  show J encI RX4 cX4_netDebt 5 (some .int) 1 0 [(0, aR 11 a0), (1, aI a1), (2, aI a2)] [] h (f_X4_netDebt a0 a1 a2 h)
  unfold f_X4_netDebt
  refine j_iconst (v := (0 : Int32)) dX4_netDebt_0 (by decide) ?_
  refine j_istore_n dX4_netDebt_1 (by decide) ?_
  refine j_iconst (v := (0 : Int32)) dX4_netDebt_2 (by decide) ?_
  refine j_istore dX4_netDebt_3 (by decide) ?_
  exact j_weak rfl (w_X4_netDebt_b5  _ _ _ _ _ _ h_a0 _)
set_option maxRecDepth 20000 in
theorem w_X4_reachesAll_b35 (kont2 : Nat → Int32 → Int32 → Int32 → Hp → Option (Int32 × Hp)) (hk2 : ∀ (a0 : Nat) (a1 : Int32) (a2 : Int32) (a3 : Int32) (h_a0 : a0 < cnt 11) (h : Hp), J encI RX4 cX4_reachesAll 4 (some .boolean) 1 2 [(0, aR 11 a0), (1, aI a1), (2, aI a2), (3, aI a3)] [] h (kont2 a0 a1 a2 a3 h)) (a0 : Nat) (a1 : Int32) (a2 : Int32) (a3 : Int32) (h_a0 : a0 < cnt 11) (h : Hp) : J encI RX4 cX4_reachesAll 4 (some .boolean) 1 35 [(0, aR 11 a0), (1, aI a1), (2, aI a2), (3, aI a3)] [] h (f_X4_reachesAll_b35 kont2 a0 a1 a2 a3 h) := by
  unfold f_X4_reachesAll_b35
  refine j_iinc (v := (1 : Int32)) dX4_reachesAll_35 rfl (by decide) (by decide) ?_
  refine j_goto (tgt := 2) dX4_reachesAll_38 (by decide) ?_
  exact j_weak rfl (hk2 _ _ _ _ h_a0 _)
set_option maxRecDepth 20000 in
theorem w_X4_reachesAll_b2  : ∀ (n : Nat) (a0 : Nat) (a1 : Int32) (a2 : Int32) (a3 : Int32) (h_a0 : a0 < cnt 11) (h : Hp), J encI RX4 cX4_reachesAll 4 (some .boolean) 1 2 [(0, aR 11 a0), (1, aI a1), (2, aI a2), (3, aI a3)] [] h (f_X4_reachesAll_b2  n a0 a1 a2 a3 h) := by
  intro n
  induction n with
  | zero =>
    intros
    exact j_none
  | succ n hk2 =>
    intro a0 a1 a2 a3 h_a0 h
    show J encI RX4 cX4_reachesAll 4 (some .boolean) 1 2 [(0, aR 11 a0), (1, aI a1), (2, aI a2), (3, aI a3)] [] h (f_X4_reachesAll_b2_body  (f_X4_reachesAll_b2  n) a0 a1 a2 a3 h)
    unfold f_X4_reachesAll_b2_body
    refine j_iload_n dX4_reachesAll_2 rfl ?_
    refine j_aload_n dX4_reachesAll_3 rfl ?_
    refine jg_X4_39 h_a0 dX4_reachesAll_4 ?_
    refine j_icmp_ge (tgt := 41) dX4_reachesAll_7 (by decide) (fun c1 => ?_) (fun c1 => ?_)
    · refine j_iconst (v := (1 : Int32)) dX4_reachesAll_41 (by decide) ?_
      exact j_zret (Or.inr rfl) dX4_reachesAll_42
    · refine j_iload_n dX4_reachesAll_10 rfl ?_
      refine j_iload_n dX4_reachesAll_11 rfl ?_
      refine j_ishr dX4_reachesAll_12 ?_
      refine j_iconst (v := (1 : Int32)) dX4_reachesAll_13 (by decide) ?_
      refine j_iand dX4_reachesAll_14 ?_
      refine j_iconst (v := (1 : Int32)) dX4_reachesAll_15 (by decide) ?_
      refine j_icmp_ne (tgt := 35) dX4_reachesAll_16 (by decide) (fun c2 => ?_) (fun c2 => ?_)
      · exact j_weak rfl (w_X4_reachesAll_b35 _ hk2 _ _ _ _ h_a0 _)
      · refine j_aload_n dX4_reachesAll_19 rfl ?_
        refine jg_X4_11 h_a0 dX4_reachesAll_20 ?_
        refine j_iload_n dX4_reachesAll_23 rfl ?_
        refine ja_12 h_a0 dX4_reachesAll_24 (fun q3 z4 => ?_)
        refine jc_X4_159 (ct_X0_people _ z4 _) (by decide) z4 (Nat.le_of_ble_eq_true rfl) dX4_reachesAll_25 (fun v5 h6 e7 => ?_)
        refine j_iload_n dX4_reachesAll_28 rfl ?_
        refine j_iand dX4_reachesAll_29 ?_
        refine j_if_ne (tgt := 35) dX4_reachesAll_30 (by decide) (fun c8 => ?_) (fun c8 => ?_)
        · exact j_weak rfl (w_X4_reachesAll_b35 _ hk2 _ _ _ _ h_a0 _)
        · refine j_iconst (v := (0 : Int32)) dX4_reachesAll_33 (by decide) ?_
          exact j_zret (Or.inl rfl) dX4_reachesAll_34
set_option maxRecDepth 20000 in
theorem ct_X4_reachesAll (a0 : Nat) (a1 : Int32) (a2 : Int32) (h_a0 : a0 < cnt 11) (h : Hp) : Ct encI yX4_reachesAll cX4_reachesAll 4 (some .boolean) 1 [aR 11 a0, aI a1, aI a2] h (f_X4_reachesAll a0 a1 a2 h) := by
  refine ct_of [(0, aR 11 a0), (1, aI a1), (2, aI a2)] (by decide) (fun _ => rfl) (fun _ => Nat.le_of_ble_eq_true rfl) ?_
  show J encI RX4 cX4_reachesAll 4 (some .boolean) 1 0 [(0, aR 11 a0), (1, aI a1), (2, aI a2)] [] h (f_X4_reachesAll a0 a1 a2 h)
  unfold f_X4_reachesAll
  refine j_iconst (v := (0 : Int32)) dX4_reachesAll_0 (by decide) ?_
  refine j_istore_n dX4_reachesAll_1 (by decide) ?_
  exact j_weak rfl (w_X4_reachesAll_b2  _ _ _ _ _ h_a0 _)
set_option maxRecDepth 20000 in
theorem w_X5_alone_b84 (kont25 : Int32 → Int32 → Int32 → Int32 → Hp → Option (Int32 × Hp)) (hk25 : ∀ (a1 : Int32) (a2 : Int32) (a3 : Int32) (a4 : Int32)  (h : Hp), J encI RX5 cX5_alone 6 (some .int) 1 25 [(0, aR 0 0), (1, aI a1), (2, aI a2), (3, aI a3), (4, aI a4)] [] h (kont25 a1 a2 a3 a4 h)) (a1 : Int32) (a2 : Int32) (a3 : Int32) (a4 : Int32)  (h : Hp) : J encI RX5 cX5_alone 6 (some .int) 1 84 [(0, aR 0 0), (1, aI a1), (2, aI a2), (3, aI a3), (4, aI a4)] [] h (f_X5_alone_b84 kont25 a1 a2 a3 a4 h) := by
  unfold f_X5_alone_b84
  refine j_iinc (v := (1 : Int32)) dX5_alone_84 rfl (by decide) (by decide) ?_
  refine j_goto (tgt := 25) dX5_alone_87 (by decide) ?_
  exact j_weak rfl (hk25 _ _ _ _  _)
set_option maxRecDepth 20000 in
theorem w_X5_alone_b82 (kont25 : Int32 → Int32 → Int32 → Int32 → Hp → Option (Int32 × Hp)) (hk25 : ∀ (a1 : Int32) (a2 : Int32) (a3 : Int32) (a4 : Int32)  (h : Hp), J encI RX5 cX5_alone 6 (some .int) 1 25 [(0, aR 0 0), (1, aI a1), (2, aI a2), (3, aI a3), (4, aI a4)] [] h (kont25 a1 a2 a3 a4 h)) (a1 : Int32) (a2 : Int32) (a4 : Int32) (s0 : Int32) (s1 : Int32)  (h : Hp) : J encI RX5 cX5_alone 6 (some .int) 1 82 [(0, aR 0 0), (1, aI a1), (2, aI a2), (4, aI a4)] [aI s1, aI s0] h (f_X5_alone_b82 kont25 a1 a2 a4 s0 s1 h) := by
  unfold f_X5_alone_b82
  refine j_iadd dX5_alone_82 ?_
  refine j_istore_n dX5_alone_83 (by decide) ?_
  exact j_weak rfl (w_X5_alone_b84 _ hk25 _ _ _ _  _)
set_option maxRecDepth 20000 in
theorem w_X5_alone_b25  : ∀ (n : Nat) (a1 : Int32) (a2 : Int32) (a3 : Int32) (a4 : Int32)  (h : Hp), J encI RX5 cX5_alone 6 (some .int) 1 25 [(0, aR 0 0), (1, aI a1), (2, aI a2), (3, aI a3), (4, aI a4)] [] h (f_X5_alone_b25  n a1 a2 a3 a4 h) := by
  intro n
  induction n with
  | zero =>
    intros
    exact j_none
  | succ n hk25 =>
    intro a1 a2 a3 a4  h
    show J encI RX5 cX5_alone 6 (some .int) 1 25 [(0, aR 0 0), (1, aI a1), (2, aI a2), (3, aI a3), (4, aI a4)] [] h (f_X5_alone_b25_body  (f_X5_alone_b25  n) a1 a2 a3 a4 h)
    unfold f_X5_alone_b25_body
    refine j_iload dX5_alone_25 rfl ?_
    refine j_aload_n dX5_alone_27 rfl ?_
    refine jg_X5_33 z_0 dX5_alone_28 ?_
    refine jg_X5_110 (Nat.le_of_ble_eq_true rfl) dX5_alone_31 ?_
    refine j_icmp_ge (tgt := 90) dX5_alone_34 (by decide) (fun c1 => ?_) (fun c1 => ?_)
    · refine j_aload_n dX5_alone_90 rfl ?_
      refine j_iload_n dX5_alone_91 rfl ?_
      refine jp_X5_68 z_0 dX5_alone_92 ?_
      refine j_iload_n dX5_alone_95 rfl ?_
      exact j_iret dX5_alone_96
    · refine j_iload_n dX5_alone_37 rfl ?_
      refine j_iload dX5_alone_38 rfl ?_
      refine j_ishr dX5_alone_40 ?_
      refine j_iconst (v := (1 : Int32)) dX5_alone_41 (by decide) ?_
      refine j_iand dX5_alone_42 ?_
      refine j_iconst (v := (1 : Int32)) dX5_alone_43 (by decide) ?_
      refine j_icmp_ne (tgt := 84) dX5_alone_44 (by decide) (fun c2 => ?_) (fun c2 => ?_)
      · exact j_weak rfl (w_X5_alone_b84 _ hk25 _ _ _ _  _)
      · refine j_aload_n dX5_alone_47 rfl ?_
        refine jg_X5_33 z_0 dX5_alone_48 ?_
        refine jg_X5_123 (Nat.le_of_ble_eq_true rfl) dX5_alone_51 ?_
        refine j_iload dX5_alone_54 rfl ?_
        refine ja_12 (Nat.le_of_ble_eq_true rfl) dX5_alone_56 (fun q3 z4 => ?_)
        refine jc_X5_233 (ct_X0_people _ z4 _) (by decide) z4 (Nat.le_of_ble_eq_true rfl) dX5_alone_57 (fun v5 h6 e7 => ?_)
        refine j_istore dX5_alone_60 (by decide) ?_
        refine j_iload_n dX5_alone_62 rfl ?_
        refine j_iload dX5_alone_63 rfl ?_
        refine j_iand dX5_alone_65 ?_
        refine j_istore_n dX5_alone_66 (by decide) ?_
        refine j_iload_n dX5_alone_67 rfl ?_
        refine j_iload dX5_alone_68 rfl ?_
        refine jc_X5_160 (ct_J6_bitCount _  _) (by decide) (Nat.le_of_ble_eq_true rfl) dX5_alone_70 (fun v8 h9 e10 => ?_)
        refine j_iconst (v := (1 : Int32)) dX5_alone_73 (by decide) ?_
        refine j_icmp_ne (tgt := 81) dX5_alone_74 (by decide) (fun c11 => ?_) (fun c11 => ?_)
        · refine j_iconst (v := (0 : Int32)) dX5_alone_81 (by decide) ?_
          exact j_weak rfl (w_X5_alone_b82 _ hk25 _ _ _ _ _  _)
        · refine j_iconst (v := (1 : Int32)) dX5_alone_77 (by decide) ?_
          refine j_goto (tgt := 82) dX5_alone_78 (by decide) ?_
          exact j_weak rfl (w_X5_alone_b82 _ hk25 _ _ _ _ _  _)
set_option maxRecDepth 20000 in
theorem ct_X5_alone (a1 : Int32)  (h : Hp) : Ct encI yX5_alone cX5_alone 6 (some .int) 1 [aR 0 0, aI a1] h (f_X5_alone a1 h) := by
  refine ct_of [(0, aR 0 0), (1, aI a1)] (by decide) (fun _ => rfl) (fun _ => Nat.le_of_ble_eq_true rfl) ?_
  show J encI RX5 cX5_alone 6 (some .int) 1 0 [(0, aR 0 0), (1, aI a1)] [] h (f_X5_alone a1 h)
  unfold f_X5_alone
  refine j_aload_n dX5_alone_0 rfl ?_
  refine jg_X5_33 z_0 dX5_alone_1 ?_
  refine j_iload_n dX5_alone_4 rfl ?_
  refine jc_X5_171 (ct_X4_hasAll _ _ (Nat.le_of_ble_eq_true rfl) _) (by decide) (Nat.le_of_ble_eq_true rfl) (Nat.le_of_ble_eq_true rfl) dX5_alone_5 (fun v1 h2 e3 => ?_)
  refine j_if_eq (tgt := 15) dX5_alone_8 (by decide) (fun c4 => ?_) (fun c4 => ?_)
  · refine j_iconst (v := (-1 : Int32)) dX5_alone_15 (by decide) ?_
    exact j_iret dX5_alone_16
  · refine j_iload_n dX5_alone_11 rfl ?_
    refine j_if_ne (tgt := 17) dX5_alone_12 (by decide) (fun c5 => ?_) (fun c5 => ?_)
    · refine j_bipush (v := (63 : Int32)) dX5_alone_17 (by decide) ?_
      refine j_istore_n dX5_alone_19 (by decide) ?_
      refine j_iconst (v := (0 : Int32)) dX5_alone_20 (by decide) ?_
      refine j_istore_n dX5_alone_21 (by decide) ?_
      refine j_iconst (v := (0 : Int32)) dX5_alone_22 (by decide) ?_
      refine j_istore dX5_alone_23 (by decide) ?_
      exact j_weak rfl (w_X5_alone_b25  _ _ _ _ _  _)
    · refine j_iconst (v := (-1 : Int32)) dX5_alone_15 (by decide) ?_
      exact j_iret dX5_alone_16
