set_option maxRecDepth 20000 in
theorem w_X6_ahead_b84 (kont76 : Int32 → Int32 → Int32 → Int32 → Int32 → Hp → Option (Int32 × Hp)) (hk76 : ∀ (a2 : Int32) (a4 : Int32) (a5 : Int32) (a6 : Int32) (a7 : Int32)  (h : Hp), J encI RX6 cX6_ahead 10 (some .int) 6 76 [(0, aR 20 0), (2, aI a2), (4, aI a4), (5, aI a5), (6, aI a6), (7, aI a7)] [] h (kont76 a2 a4 a5 a6 a7 h)) : ∀ (n : Nat) (a2 : Int32) (a4 : Int32) (a5 : Int32) (a6 : Int32) (a7 : Int32) (a8 : Int32)  (h : Hp), J encI RX6 cX6_ahead 10 (some .int) 6 84 [(0, aR 20 0), (2, aI a2), (4, aI a4), (5, aI a5), (6, aI a6), (7, aI a7), (8, aI a8)] [] h (f_X6_ahead_b84 kont76 n a2 a4 a5 a6 a7 a8 h) := by
  intro n
  induction n with
  | zero =>
    intros
    exact j_none
  | succ n hk84 =>
    intro a2 a4 a5 a6 a7 a8  h
    show J encI RX6 cX6_ahead 10 (some .int) 6 84 [(0, aR 20 0), (2, aI a2), (4, aI a4), (5, aI a5), (6, aI a6), (7, aI a7), (8, aI a8)] [] h (f_X6_ahead_b84_body kont76 (f_X6_ahead_b84 kont76 n) a2 a4 a5 a6 a7 a8 h)
    unfold f_X6_ahead_b84_body
    refine j_iload dX6_ahead_84 rfl ?_
    refine j_if_lt (tgt := 188) dX6_ahead_86 (by decide) (fun c1 => ?_) (fun c1 => ?_)
    · refine j_iinc (v := (-1 : Int32)) dX6_ahead_188 rfl (by decide) (by decide) ?_
      refine j_goto (tgt := 76) dX6_ahead_191 (by decide) ?_
      exact j_weak rfl (hk76 _ _ _ _ _  _)
    · refine j_iconst (v := (0 : Int32)) dX6_ahead_89 (by decide) ?_
      refine j_istore dX6_ahead_90 (by decide) ?_
      exact j_weak rfl (w_X6_ahead_b92 _ hk76 _ hk84 _ _ _ _ _ _ _ _  _)
set_option maxRecDepth 20000 in
theorem w_X6_ahead_b76  : ∀ (n : Nat) (a2 : Int32) (a4 : Int32) (a5 : Int32) (a6 : Int32) (a7 : Int32)  (h : Hp), J encI RX6 cX6_ahead 10 (some .int) 6 76 [(0, aR 20 0), (2, aI a2), (4, aI a4), (5, aI a5), (6, aI a6), (7, aI a7)] [] h (f_X6_ahead_b76  n a2 a4 a5 a6 a7 h) := by
  intro n
  induction n with
  | zero =>
    intros
    exact j_none
  | succ n hk76 =>
    intro a2 a4 a5 a6 a7  h
    show J encI RX6 cX6_ahead 10 (some .int) 6 76 [(0, aR 20 0), (2, aI a2), (4, aI a4), (5, aI a5), (6, aI a6), (7, aI a7)] [] h (f_X6_ahead_b76_body  (f_X6_ahead_b76  n) a2 a4 a5 a6 a7 h)
    unfold f_X6_ahead_b76_body
    refine j_iload dX6_ahead_76 rfl ?_
    refine j_if_lt (tgt := 194) dX6_ahead_78 (by decide) (fun c1 => ?_) (fun c1 => ?_)
    · refine j_aload_n dX6_ahead_194 rfl ?_
      refine j_iload dX6_ahead_195 rfl ?_
      refine j_iload dX6_ahead_197 rfl ?_
      refine jc_X6_77 (ct_X6_ask _ _  _) (by decide) z_20 (Nat.le_of_ble_eq_true rfl) dX6_ahead_199 (fun v2 h3 e4 => ?_)
      exact j_iret dX6_ahead_202
    · refine j_iconst (v := (1 : Int32)) dX6_ahead_81 (by decide) ?_
      refine j_istore dX6_ahead_82 (by decide) ?_
      exact j_weak rfl (w_X6_ahead_b84 _ hk76 _ _ _ _ _ _ _  _)
set_option maxRecDepth 20000 in
theorem ct_X6_ahead (a1 : Int32) (a2 : Int32)  (h : Hp) : Ct encI yX6_ahead cX6_ahead 10 (some .int) 6 [aR 20 0, aI a1, aI a2] h (f_X6_ahead a1 a2 h) := by
  refine ct_of [(0, aR 20 0), (1, aI a1), (2, aI a2)] (by decide) (fun _ => rfl) (fun _ => Nat.le_of_ble_eq_true rfl) ?_
  show J encI RX6 cX6_ahead 10 (some .int) 6 0 [(0, aR 20 0), (1, aI a1), (2, aI a2)] [] h (f_X6_ahead a1 a2 h)
  unfold f_X6_ahead
  refine j_aload_n dX6_ahead_0 rfl ?_
  refine j_iload_n dX6_ahead_1 rfl ?_
  refine jc_X6_153 (ct_X6_isBrick _  _) (by decide) z_20 (Nat.le_of_ble_eq_true rfl) dX6_ahead_2 (fun v1 h2 e3 => ?_)
  refine j_if_eq (tgt := 15) dX6_ahead_5 (by decide) (fun c4 => ?_) (fun c4 => ?_)
  · refine j_iconst (v := (-1 : Int32)) dX6_ahead_15 (by decide) ?_
    exact j_iret dX6_ahead_16
  · refine j_iload_n dX6_ahead_8 rfl ?_
    refine jc_X6_55 (ct_X6_isRow _  _) (by decide) (Nat.le_of_ble_eq_true rfl) dX6_ahead_9 (fun v5 h6 e7 => ?_)
    refine j_if_ne (tgt := 17) dX6_ahead_12 (by decide) (fun c8 => ?_) (fun c8 => ?_)
    · refine j_aload_n dX6_ahead_17 rfl ?_
      refine j_iload_n dX6_ahead_18 rfl ?_
      refine jc_X6_183 (ct_X6_askedIn _  _) (by decide) z_20 (Nat.le_of_ble_eq_true rfl) dX6_ahead_19 (fun v9 h10 e11 => ?_)
      refine j_istore_n dX6_ahead_22 (by decide) ?_
      refine j_iload_n dX6_ahead_23 rfl ?_
      refine j_if_ge (tgt := 29) dX6_ahead_24 (by decide) (fun c12 => ?_) (fun c12 => ?_)
      · refine j_aload_n dX6_ahead_29 rfl ?_
        refine jg_X6_138 z_20 dX6_ahead_30 ?_
        refine j_iload_n dX6_ahead_33 rfl ?_
        refine jc_X6_150 (ct_X6_has _ _  _) (by decide) (Nat.le_of_ble_eq_true rfl) dX6_ahead_34 (fun v13 h14 e15 => ?_)
        refine j_if_eq (tgt := 43) dX6_ahead_37 (by decide) (fun c16 => ?_) (fun c16 => ?_)
        · refine j_aload_n dX6_ahead_43 rfl ?_
          refine j_iconst (v := (1 : Int32)) dX6_ahead_44 (by decide) ?_
          refine j_iload_n dX6_ahead_45 rfl ?_
          refine j_ishl dX6_ahead_46 ?_
          refine jc_X6_189 (ct_X6_fallsOf _  _) (by decide) z_20 (Nat.le_of_ble_eq_true rfl) dX6_ahead_47 (fun v17 h18 e19 => ?_)
          refine j_istore dX6_ahead_50 (by decide) ?_
          refine j_aload_n dX6_ahead_52 rfl ?_
          refine j_iload_n dX6_ahead_53 rfl ?_
          refine jc_X6_195 (ct_X6_asksOf _  _) (by decide) z_20 (Nat.le_of_ble_eq_true rfl) dX6_ahead_54 (fun v20 h21 e22 => ?_)
          refine j_istore dX6_ahead_57 (by decide) ?_
          refine j_aload_n dX6_ahead_59 rfl ?_
          refine j_iload_n dX6_ahead_60 rfl ?_
          refine j_iload dX6_ahead_61 rfl ?_
          refine jc_X6_174 (ct_X6_sizeOf _  _) (by decide) (Nat.le_of_ble_eq_true rfl) dX6_ahead_63 (fun v23 h24 e25 => ?_)
          refine jc_X6_204 (ct_X6_row _ _  _) (by decide) z_20 (Nat.le_of_ble_eq_true rfl) dX6_ahead_66 (fun v26 h27 e28 => ?_)
          refine j_pop dX6_ahead_69 rfl ?_
          refine j_iconst (v := (0 : Int32)) dX6_ahead_70 (by decide) ?_
          refine j_istore dX6_ahead_71 (by decide) ?_
          refine j_iconst (v := (5 : Int32)) dX6_ahead_73 (by decide) ?_
          refine j_istore dX6_ahead_74 (by decide) ?_
          exact j_weak rfl (w_X6_ahead_b76  _ _ _ _ _ _  _)
        · refine j_bipush (v := (-4 : Int32)) dX6_ahead_40 (by decide) ?_
          exact j_iret dX6_ahead_42
      · refine j_iload_n dX6_ahead_27 rfl ?_
        exact j_iret dX6_ahead_28
    · refine j_iconst (v := (-1 : Int32)) dX6_ahead_15 (by decide) ?_
      exact j_iret dX6_ahead_16
set_option maxRecDepth 20000 in
theorem ct_X6_falls (a1 : Int32)  (h : Hp) : Ct encI yX6_falls cX6_falls 2 (some .int) 6 [aR 20 0, aI a1] h (f_X6_falls a1 h) := by
  refine ct_of [(0, aR 20 0), (1, aI a1)] (by decide) (fun _ => rfl) (fun _ => Nat.le_of_ble_eq_true rfl) ?_
  show J encI RX6 cX6_falls 2 (some .int) 6 0 [(0, aR 20 0), (1, aI a1)] [] h (f_X6_falls a1 h)
  unfold f_X6_falls
  refine j_aload_n dX6_falls_0 rfl ?_
  refine j_iload_n dX6_falls_1 rfl ?_
  refine jc_X6_186 (ct_X6_isSet _  _) (by decide) z_20 (Nat.le_of_ble_eq_true rfl) dX6_falls_2 (fun v1 h2 e3 => ?_)
  refine j_if_ne (tgt := 10) dX6_falls_5 (by decide) (fun c4 => ?_) (fun c4 => ?_)
  · refine j_iload_n dX6_falls_10 rfl ?_
    refine j_aload_n dX6_falls_11 rfl ?_
    refine jg_X6_132 z_20 dX6_falls_12 ?_
    refine j_iconst (v := (-1 : Int32)) dX6_falls_15 (by decide) ?_
    refine j_ixor dX6_falls_16 ?_
    refine j_iand dX6_falls_17 ?_
    refine j_if_eq (tgt := 29) dX6_falls_18 (by decide) (fun c5 => ?_) (fun c5 => ?_)
    · refine j_aload_n dX6_falls_29 rfl ?_
      refine j_iload_n dX6_falls_30 rfl ?_
      refine jc_X6_189 (ct_X6_fallsOf _  _) (by decide) z_20 (Nat.le_of_ble_eq_true rfl) dX6_falls_31 (fun v6 h7 e8 => ?_)
      exact j_iret dX6_falls_34
    · refine j_aload_n dX6_falls_21 rfl ?_
      refine j_iconst (v := (1 : Int32)) dX6_falls_22 (by decide) ?_
      refine jc_X6_59 (ct_X6_meet _  _) (by decide) z_20 (Nat.le_of_ble_eq_true rfl) dX6_falls_23 (fun v9 h10 e11 => ?_)
      refine j_goto (tgt := 34) dX6_falls_26 (by decide) ?_
      exact j_iret dX6_falls_34
  · refine j_iconst (v := (-1 : Int32)) dX6_falls_8 (by decide) ?_
    exact j_iret dX6_falls_9
set_option maxRecDepth 20000 in
theorem w_X6_great_b66 (kont7 : Int32 → Int32 → Int32 → Hp → Option (Int32 × Hp)) (hk7 : ∀ (a1 : Int32) (a2 : Int32) (a3 : Int32)  (h : Hp), J encI RX6 cX6_great 5 (some .int) 6 7 [(0, aR 20 0), (1, aI a1), (2, aI a2), (3, aI a3)] [] h (kont7 a1 a2 a3 h)) (a1 : Int32) (a3 : Int32) (s0 : Int32)  (h : Hp) : J encI RX6 cX6_great 5 (some .int) 6 66 [(0, aR 20 0), (1, aI a1), (3, aI a3)] [aI s0] h (f_X6_great_b66 kont7 a1 a3 s0 h) := by
  unfold f_X6_great_b66
  refine j_istore_n dX6_great_66 (by decide) ?_
  refine j_iinc (v := (1 : Int32)) dX6_great_67 rfl (by decide) (by decide) ?_
  refine j_goto (tgt := 7) dX6_great_70 (by decide) ?_
  exact j_weak rfl (hk7 _ _ _  _)
set_option maxRecDepth 20000 in
theorem w_X6_great_b53 (kont7 : Int32 → Int32 → Int32 → Hp → Option (Int32 × Hp)) (hk7 : ∀ (a1 : Int32) (a2 : Int32) (a3 : Int32)  (h : Hp), J encI RX6 cX6_great 5 (some .int) 6 7 [(0, aR 20 0), (1, aI a1), (2, aI a2), (3, aI a3)] [] h (kont7 a1 a2 a3 h)) (a2 : Int32) (a3 : Int32) (a4 : Int32) (s0 : Int32)  (h : Hp) : J encI RX6 cX6_great 5 (some .int) 6 53 [(0, aR 20 0), (2, aI a2), (3, aI a3), (4, aI a4)] [aI s0] h (f_X6_great_b53 kont7 a2 a3 a4 s0 h) := by
  unfold f_X6_great_b53
  refine j_istore_n dX6_great_53 (by decide) ?_
  refine j_iload dX6_great_54 rfl ?_
  refine j_iload_n dX6_great_56 rfl ?_
  refine j_icmp_le (tgt := 65) dX6_great_57 (by decide) (fun c1 => ?_) (fun c1 => ?_)
  · refine j_iload_n dX6_great_65 rfl ?_
    exact j_weak rfl (w_X6_great_b66 _ hk7 _ _ _  _)
  · refine j_iload dX6_great_60 rfl ?_
    refine j_goto (tgt := 66) dX6_great_62 (by decide) ?_
    exact j_weak rfl (w_X6_great_b66 _ hk7 _ _ _  _)
set_option maxRecDepth 20000 in
theorem w_X6_great_b40 (kont7 : Int32 → Int32 → Int32 → Hp → Option (Int32 × Hp)) (hk7 : ∀ (a1 : Int32) (a2 : Int32) (a3 : Int32)  (h : Hp), J encI RX6 cX6_great 5 (some .int) 6 7 [(0, aR 20 0), (1, aI a1), (2, aI a2), (3, aI a3)] [] h (kont7 a1 a2 a3 h)) (a1 : Int32) (a2 : Int32) (a3 : Int32) (s0 : Int32)  (h : Hp) : J encI RX6 cX6_great 5 (some .int) 6 40 [(0, aR 20 0), (1, aI a1), (2, aI a2), (3, aI a3)] [aI s0] h (f_X6_great_b40 kont7 a1 a2 a3 s0 h) := by
  unfold f_X6_great_b40
  refine j_istore dX6_great_40 (by decide) ?_
  refine j_iload dX6_great_42 rfl ?_
  refine j_iload_n dX6_great_44 rfl ?_
  refine j_icmp_le (tgt := 52) dX6_great_45 (by decide) (fun c1 => ?_) (fun c1 => ?_)
  · refine j_iload_n dX6_great_52 rfl ?_
    exact j_weak rfl (w_X6_great_b53 _ hk7 _ _ _ _  _)
  · refine j_iload_n dX6_great_48 rfl ?_
    refine j_goto (tgt := 53) dX6_great_49 (by decide) ?_
    exact j_weak rfl (w_X6_great_b53 _ hk7 _ _ _ _  _)
set_option maxRecDepth 20000 in
theorem w_X6_great_b7  : ∀ (n : Nat) (a1 : Int32) (a2 : Int32) (a3 : Int32)  (h : Hp), J encI RX6 cX6_great 5 (some .int) 6 7 [(0, aR 20 0), (1, aI a1), (2, aI a2), (3, aI a3)] [] h (f_X6_great_b7  n a1 a2 a3 h) := by
  intro n
  induction n with
  | zero =>
    intros
    exact j_none
  | succ n hk7 =>
    intro a1 a2 a3  h
    show J encI RX6 cX6_great 5 (some .int) 6 7 [(0, aR 20 0), (1, aI a1), (2, aI a2), (3, aI a3)] [] h (f_X6_great_b7_body  (f_X6_great_b7  n) a1 a2 a3 h)
    unfold f_X6_great_b7_body
    refine j_iload_n dX6_great_7 rfl ?_
    refine j_aload_n dX6_great_8 rfl ?_
    refine jg_X6_129 z_20 dX6_great_9 ?_
    refine j_icmp_ge (tgt := 73) dX6_great_12 (by decide) (fun c1 => ?_) (fun c1 => ?_)
    · refine j_iload_n dX6_great_73 rfl ?_
      refine j_bipush (v := (-9 : Int32)) dX6_great_74 (by decide) ?_
      refine j_icmp_ne (tgt := 84) dX6_great_76 (by decide) (fun c2 => ?_) (fun c2 => ?_)
      · refine j_aload_n dX6_great_84 rfl ?_
        refine j_iload_n dX6_great_85 rfl ?_
        refine j_iload_n dX6_great_86 rfl ?_
        refine jc_X6_77 (ct_X6_ask _ _  _) (by decide) z_20 (Nat.le_of_ble_eq_true rfl) dX6_great_87 (fun v3 h4 e5 => ?_)
        exact j_iret dX6_great_90
      · refine j_bipush (v := (-9 : Int32)) dX6_great_79 (by decide) ?_
        refine j_goto (tgt := 90) dX6_great_81 (by decide) ?_
        exact j_iret dX6_great_90
    · refine j_aload_n dX6_great_15 rfl ?_
      refine jg_X6_132 z_20 dX6_great_16 ?_
      refine j_iload_n dX6_great_19 rfl ?_
      refine jc_X6_150 (ct_X6_has _ _  _) (by decide) (Nat.le_of_ble_eq_true rfl) dX6_great_20 (fun v6 h7 e8 => ?_)
      refine j_if_eq (tgt := 39) dX6_great_23 (by decide) (fun c9 => ?_) (fun c9 => ?_)
      · refine j_iconst (v := (-1 : Int32)) dX6_great_39 (by decide) ?_
        exact j_weak rfl (w_X6_great_b40 _ hk7 _ _ _ _  _)
      · refine j_aload_n dX6_great_26 rfl ?_
        refine j_iconst (v := (1 : Int32)) dX6_great_27 (by decide) ?_
        refine j_iload_n dX6_great_28 rfl ?_
        refine j_ishl dX6_great_29 ?_
        refine jc_X6_189 (ct_X6_fallsOf _  _) (by decide) z_20 (Nat.le_of_ble_eq_true rfl) dX6_great_30 (fun v10 h11 e12 => ?_)
        refine jc_X6_174 (ct_X6_sizeOf _  _) (by decide) (Nat.le_of_ble_eq_true rfl) dX6_great_33 (fun v13 h14 e15 => ?_)
        refine j_goto (tgt := 40) dX6_great_36 (by decide) ?_
        exact j_weak rfl (w_X6_great_b40 _ hk7 _ _ _ _  _)
set_option maxRecDepth 20000 in
theorem ct_X6_great   (h : Hp) : Ct encI yX6_great cX6_great 5 (some .int) 6 [aR 20 0] h (f_X6_great  h) := by
  refine ct_of [(0, aR 20 0)] (by decide) (fun _ => rfl) (fun _ => Nat.le_of_ble_eq_true rfl) ?_
  show J encI RX6 cX6_great 5 (some .int) 6 0 [(0, aR 20 0)] [] h (f_X6_great  h)
  unfold f_X6_great
  refine j_bipush (v := (-9 : Int32)) dX6_great_0 (by decide) ?_
  refine j_istore_n dX6_great_2 (by decide) ?_
  refine j_iconst (v := (-1 : Int32)) dX6_great_3 (by decide) ?_
  refine j_istore_n dX6_great_4 (by decide) ?_
  refine j_iconst (v := (0 : Int32)) dX6_great_5 (by decide) ?_
  refine j_istore_n dX6_great_6 (by decide) ?_
  exact j_weak rfl (w_X6_great_b7  _ _ _ _  _)
set_option maxRecDepth 20000 in
theorem ct_X6_load (a1 : Int32)  (h : Hp) : Ct encI yX6_load cX6_load 3 (some .int) 6 [aR 20 0, aI a1] h (f_X6_load a1 h) := by
  refine ct_of [(0, aR 20 0), (1, aI a1)] (by decide) (fun _ => rfl) (fun _ => Nat.le_of_ble_eq_true rfl) ?_
  show J encI RX6 cX6_load 3 (some .int) 6 0 [(0, aR 20 0), (1, aI a1)] [] h (f_X6_load a1 h)
  unfold f_X6_load
  refine j_aload_n dX6_load_0 rfl ?_
  refine j_iload_n dX6_load_1 rfl ?_
  refine jc_X6_183 (ct_X6_askedIn _  _) (by decide) z_20 (Nat.le_of_ble_eq_true rfl) dX6_load_2 (fun v1 h2 e3 => ?_)
  refine j_istore_n dX6_load_5 (by decide) ?_
  refine j_iload_n dX6_load_6 rfl ?_
  refine j_if_ge (tgt := 14) dX6_load_7 (by decide) (fun c4 => ?_) (fun c4 => ?_)
  · refine j_aload_n dX6_load_14 rfl ?_
    refine j_iconst (v := (1 : Int32)) dX6_load_15 (by decide) ?_
    refine j_iload_n dX6_load_16 rfl ?_
    refine j_ishl dX6_load_17 ?_
    refine jc_X6_189 (ct_X6_fallsOf _  _) (by decide) z_20 (Nat.le_of_ble_eq_true rfl) dX6_load_18 (fun v5 h6 e7 => ?_)
    refine jc_X6_174 (ct_X6_sizeOf _  _) (by decide) (Nat.le_of_ble_eq_true rfl) dX6_load_21 (fun v8 h9 e10 => ?_)
    exact j_iret dX6_load_24
  · refine j_iload_n dX6_load_10 rfl ?_
    refine j_goto (tgt := 24) dX6_load_11 (by decide) ?_
    exact j_iret dX6_load_24
set_option maxRecDepth 20000 in
theorem w_X6_mark_b66  (a1 : Int32) (a2 : Int32) (s0 : Int32)  (h : Hp) : J encI RX6 cX6_mark 4 (some .int) 6 66 [(0, aR 20 0), (1, aI a1), (2, aI a2)] [aI s0] h (f_X6_mark_b66  a1 a2 s0 h) := by
  unfold f_X6_mark_b66
  refine j_istore_n dX6_mark_66 (by decide) ?_
  refine j_iload_n dX6_mark_67 rfl ?_
  refine j_if_eq (tgt := 80) dX6_mark_68 (by decide) (fun c1 => ?_) (fun c1 => ?_)
  · refine j_aload_n dX6_mark_80 rfl ?_
    refine j_iconst (v := (3 : Int32)) dX6_mark_81 (by decide) ?_
    refine jc_X6_59 (ct_X6_meet _  _) (by decide) z_20 (Nat.le_of_ble_eq_true rfl) dX6_mark_82 (fun v2 h3 e4 => ?_)
    exact j_iret dX6_mark_85
  · refine j_aload_n dX6_mark_71 rfl ?_
    refine j_iload_n dX6_mark_72 rfl ?_
    refine j_iload_n dX6_mark_73 rfl ?_
    refine jc_X6_177 (ct_X6_marked _ _  _) (by decide) z_20 (Nat.le_of_ble_eq_true rfl) dX6_mark_74 (fun v5 h6 e7 => ?_)
    refine j_goto (tgt := 85) dX6_mark_77 (by decide) ?_
    exact j_iret dX6_mark_85
set_option maxRecDepth 20000 in
theorem w_X6_mark_b61  (a1 : Int32) (a2 : Int32)  (h : Hp) : J encI RX6 cX6_mark 4 (some .int) 6 61 [(0, aR 20 0), (1, aI a1), (2, aI a2)] [] h (f_X6_mark_b61  a1 a2 h) := by
  unfold f_X6_mark_b61
  refine j_iconst (v := (1 : Int32)) dX6_mark_61 (by decide) ?_
  refine j_goto (tgt := 66) dX6_mark_62 (by decide) ?_
  exact j_weak rfl (w_X6_mark_b66  _ _ _  _)
set_option maxRecDepth 20000 in
theorem w_X6_mark_b65  (a1 : Int32) (a2 : Int32)  (h : Hp) : J encI RX6 cX6_mark 4 (some .int) 6 65 [(0, aR 20 0), (1, aI a1), (2, aI a2)] [] h (f_X6_mark_b65  a1 a2 h) := by
  unfold f_X6_mark_b65
  refine j_iconst (v := (0 : Int32)) dX6_mark_65 (by decide) ?_
  exact j_weak rfl (w_X6_mark_b66  _ _ _  _)
set_option maxRecDepth 20000 in
theorem ct_X6_mark (a1 : Int32) (a2 : Int32)  (h : Hp) : Ct encI yX6_mark cX6_mark 4 (some .int) 6 [aR 20 0, aI a1, aI a2] h (f_X6_mark a1 a2 h) := by
  refine ct_of [(0, aR 20 0), (1, aI a1), (2, aI a2)] (by decide) (fun _ => rfl) (fun _ => Nat.le_of_ble_eq_true rfl) ?_
  show J encI RX6 cX6_mark 4 (some .int) 6 0 [(0, aR 20 0), (1, aI a1), (2, aI a2)] [] h (f_X6_mark a1 a2 h)
  unfold f_X6_mark
  refine j_aload_n dX6_mark_0 rfl ?_
  refine j_iload_n dX6_mark_1 rfl ?_
  refine jc_X6_153 (ct_X6_isBrick _  _) (by decide) z_20 (Nat.le_of_ble_eq_true rfl) dX6_mark_2 (fun v1 h2 e3 => ?_)
  refine j_if_eq (tgt := 17) dX6_mark_5 (by decide) (fun c4 => ?_) (fun c4 => ?_)
  · refine j_iconst (v := (-1 : Int32)) dX6_mark_17 (by decide) ?_
    exact j_iret dX6_mark_18
  · refine j_iload_n dX6_mark_8 rfl ?_
    refine j_iconst (v := (1 : Int32)) dX6_mark_9 (by decide) ?_
    refine j_iconst (v := (5 : Int32)) dX6_mark_10 (by decide) ?_
    refine jc_X6_51 (ct_X6_in _ _ _  _) (by decide) (Nat.le_of_ble_eq_true rfl) dX6_mark_11 (fun v5 h6 e7 => ?_)
    refine j_if_ne (tgt := 19) dX6_mark_14 (by decide) (fun c8 => ?_) (fun c8 => ?_)
    · refine j_aload_n dX6_mark_19 rfl ?_
      refine jg_X6_132 z_20 dX6_mark_20 ?_
      refine j_iload_n dX6_mark_23 rfl ?_
      refine jc_X6_150 (ct_X6_has _ _  _) (by decide) (Nat.le_of_ble_eq_true rfl) dX6_mark_24 (fun v9 h10 e11 => ?_)
      refine j_if_ne (tgt := 36) dX6_mark_27 (by decide) (fun c12 => ?_) (fun c12 => ?_)
      · refine j_aload_n dX6_mark_36 rfl ?_
        refine j_iload_n dX6_mark_37 rfl ?_
        refine j_iconst (v := (0 : Int32)) dX6_mark_38 (by decide) ?_
        refine jc_X6_89 (ct_X6_of _ _  _) (by decide) z_20 (Nat.le_of_ble_eq_true rfl) dX6_mark_39 (fun v13 h14 e15 => ?_)
        refine j_iload_n dX6_mark_42 rfl ?_
        refine j_icmp_eq (tgt := 61) dX6_mark_43 (by decide) (fun c16 => ?_) (fun c16 => ?_)
        · exact j_weak rfl (w_X6_mark_b61  _ _  _)
        · refine j_iload_n dX6_mark_46 rfl ?_
          refine j_iconst (v := (4 : Int32)) dX6_mark_47 (by decide) ?_
          refine j_icmp_ne (tgt := 65) dX6_mark_48 (by decide) (fun c17 => ?_) (fun c17 => ?_)
          · exact j_weak rfl (w_X6_mark_b65  _ _  _)
          · refine j_aload_n dX6_mark_51 rfl ?_
            refine j_iload_n dX6_mark_52 rfl ?_
            refine j_iconst (v := (0 : Int32)) dX6_mark_53 (by decide) ?_
            refine jc_X6_89 (ct_X6_of _ _  _) (by decide) z_20 (Nat.le_of_ble_eq_true rfl) dX6_mark_54 (fun v18 h19 e20 => ?_)
            refine j_iconst (v := (5 : Int32)) dX6_mark_57 (by decide) ?_
            refine j_icmp_ne (tgt := 65) dX6_mark_58 (by decide) (fun c21 => ?_) (fun c21 => ?_)
            · exact j_weak rfl (w_X6_mark_b65  _ _  _)
            · exact j_weak rfl (w_X6_mark_b61  _ _  _)
      · refine j_aload_n dX6_mark_30 rfl ?_
        refine j_iconst (v := (1 : Int32)) dX6_mark_31 (by decide) ?_
        refine jc_X6_59 (ct_X6_meet _  _) (by decide) z_20 (Nat.le_of_ble_eq_true rfl) dX6_mark_32 (fun v22 h23 e24 => ?_)
        exact j_iret dX6_mark_35
    · refine j_iconst (v := (-1 : Int32)) dX6_mark_17 (by decide) ?_
      exact j_iret dX6_mark_18
set_option maxRecDepth 20000 in
theorem ct_X6_mayDraw (a1 : Int32) (a2 : Int32)  (h : Hp) : Ct encI yX6_mayDraw cX6_mayDraw 3 (some .boolean) 6 [aR 20 0, aI a1, aI a2] h (f_X6_mayDraw a1 a2 h) := by
  refine ct_of [(0, aR 20 0), (1, aI a1), (2, aI a2)] (by decide) (fun _ => rfl) (fun _ => Nat.le_of_ble_eq_true rfl) ?_
  show J encI RX6 cX6_mayDraw 3 (some .boolean) 6 0 [(0, aR 20 0), (1, aI a1), (2, aI a2)] [] h (f_X6_mayDraw a1 a2 h)
  unfold f_X6_mayDraw
  refine j_aload_n dX6_mayDraw_0 rfl ?_
  refine jg_X6_132 z_20 dX6_mayDraw_1 ?_
  refine j_iload_n dX6_mayDraw_4 rfl ?_
  refine jc_X6_150 (ct_X6_has _ _  _) (by decide) (Nat.le_of_ble_eq_true rfl) dX6_mayDraw_5 (fun v1 h2 e3 => ?_)
  refine j_if_eq (tgt := 48) dX6_mayDraw_8 (by decide) (fun c4 => ?_) (fun c4 => ?_)
  · refine j_iconst (v := (0 : Int32)) dX6_mayDraw_48 (by decide) ?_
    exact j_zret (Or.inl rfl) dX6_mayDraw_49
  · refine j_aload_n dX6_mayDraw_11 rfl ?_
    refine j_iload_n dX6_mayDraw_12 rfl ?_
    refine jc_X6_195 (ct_X6_asksOf _  _) (by decide) z_20 (Nat.le_of_ble_eq_true rfl) dX6_mayDraw_13 (fun v5 h6 e7 => ?_)
    refine j_iload_n dX6_mayDraw_16 rfl ?_
    refine j_iconst (v := (-1 : Int32)) dX6_mayDraw_17 (by decide) ?_
    refine j_ixor dX6_mayDraw_18 ?_
    refine j_iand dX6_mayDraw_19 ?_
    refine j_if_ne (tgt := 48) dX6_mayDraw_20 (by decide) (fun c8 => ?_) (fun c8 => ?_)
    · refine j_iconst (v := (0 : Int32)) dX6_mayDraw_48 (by decide) ?_
      exact j_zret (Or.inl rfl) dX6_mayDraw_49
    · refine j_aload_n dX6_mayDraw_23 rfl ?_
      refine jg_X6_138 z_20 dX6_mayDraw_24 ?_
      refine j_iload_n dX6_mayDraw_27 rfl ?_
      refine jc_X6_150 (ct_X6_has _ _  _) (by decide) (Nat.le_of_ble_eq_true rfl) dX6_mayDraw_28 (fun v9 h10 e11 => ?_)
      refine j_if_ne (tgt := 48) dX6_mayDraw_31 (by decide) (fun c12 => ?_) (fun c12 => ?_)
      · refine j_iconst (v := (0 : Int32)) dX6_mayDraw_48 (by decide) ?_
        exact j_zret (Or.inl rfl) dX6_mayDraw_49
      · refine j_aload_n dX6_mayDraw_34 rfl ?_
        refine j_iconst (v := (1 : Int32)) dX6_mayDraw_35 (by decide) ?_
        refine j_iload_n dX6_mayDraw_36 rfl ?_
        refine j_ishl dX6_mayDraw_37 ?_
        refine jc_X6_189 (ct_X6_fallsOf _  _) (by decide) z_20 (Nat.le_of_ble_eq_true rfl) dX6_mayDraw_38 (fun v13 h14 e15 => ?_)
        refine j_if_ne (tgt := 48) dX6_mayDraw_41 (by decide) (fun c16 => ?_) (fun c16 => ?_)
        · refine j_iconst (v := (0 : Int32)) dX6_mayDraw_48 (by decide) ?_
          exact j_zret (Or.inl rfl) dX6_mayDraw_49
        · refine j_iconst (v := (1 : Int32)) dX6_mayDraw_44 (by decide) ?_
          refine j_goto (tgt := 49) dX6_mayDraw_45 (by decide) ?_
          exact j_zret (Or.inr rfl) dX6_mayDraw_49
set_option maxRecDepth 20000 in
theorem w_X6_props_b105 (kont39 : Int32 → Int32 → Int32 → Int32 → Int32 → Hp → Option (Int32 × Hp)) (hk39 : ∀ (a1 : Int32) (a3 : Int32) (a4 : Int32) (a5 : Int32) (a6 : Int32)  (h : Hp), J encI RX6 cX6_props 7 (some .int) 6 39 [(0, aR 20 0), (1, aI a1), (3, aI a3), (4, aI a4), (5, aI a5), (6, aI a6)] [] h (kont39 a1 a3 a4 a5 a6 h)) (a1 : Int32) (a3 : Int32) (a4 : Int32) (a5 : Int32) (a6 : Int32)  (h : Hp) : J encI RX6 cX6_props 7 (some .int) 6 105 [(0, aR 20 0), (1, aI a1), (3, aI a3), (4, aI a4), (5, aI a5), (6, aI a6)] [] h (f_X6_props_b105 kont39 a1 a3 a4 a5 a6 h) := by
  unfold f_X6_props_b105
  refine j_iinc (v := (1 : Int32)) dX6_props_105 rfl (by decide) (by decide) ?_
  refine j_goto (tgt := 39) dX6_props_108 (by decide) ?_
  exact j_weak rfl (hk39 _ _ _ _ _  _)
set_option maxRecDepth 20000 in
theorem w_X6_props_b39  : ∀ (n : Nat) (a1 : Int32) (a3 : Int32) (a4 : Int32) (a5 : Int32) (a6 : Int32)  (h : Hp), J encI RX6 cX6_props 7 (some .int) 6 39 [(0, aR 20 0), (1, aI a1), (3, aI a3), (4, aI a4), (5, aI a5), (6, aI a6)] [] h (f_X6_props_b39  n a1 a3 a4 a5 a6 h) := by
  intro n
  induction n with
  | zero =>
    intros
    exact j_none
  | succ n hk39 =>
    intro a1 a3 a4 a5 a6  h
    show J encI RX6 cX6_props 7 (some .int) 6 39 [(0, aR 20 0), (1, aI a1), (3, aI a3), (4, aI a4), (5, aI a5), (6, aI a6)] [] h (f_X6_props_b39_body  (f_X6_props_b39  n) a1 a3 a4 a5 a6 h)
    unfold f_X6_props_b39_body
    refine j_iload dX6_props_39 rfl ?_
    refine j_iload_n dX6_props_41 rfl ?_
    refine j_icmp_gt (tgt := 111) dX6_props_42 (by decide) (fun c1 => ?_) (fun c1 => ?_)
    · refine j_aload_n dX6_props_111 rfl ?_
      refine j_iload dX6_props_112 rfl ?_
      refine j_iload dX6_props_114 rfl ?_
      refine jc_X6_174 (ct_X6_sizeOf _  _) (by decide) (Nat.le_of_ble_eq_true rfl) dX6_props_116 (fun v2 h3 e4 => ?_)
      refine jc_X6_77 (ct_X6_ask _ _  _) (by decide) z_20 (Nat.le_of_ble_eq_true rfl) dX6_props_119 (fun v5 h6 e7 => ?_)
      exact j_iret dX6_props_122
    · refine j_iload dX6_props_45 rfl ?_
      refine j_iload_n dX6_props_47 rfl ?_
      refine j_iconst (v := (-1 : Int32)) dX6_props_48 (by decide) ?_
      refine j_ixor dX6_props_49 ?_
      refine j_iand dX6_props_50 ?_
      refine j_if_ne (tgt := 105) dX6_props_51 (by decide) (fun c8 => ?_) (fun c8 => ?_)
      · exact j_weak rfl (w_X6_props_b105 _ hk39 _ _ _ _ _  _)
      · refine j_iload dX6_props_54 rfl ?_
        refine jc_X6_174 (ct_X6_sizeOf _  _) (by decide) (Nat.le_of_ble_eq_true rfl) dX6_props_56 (fun v9 h10 e11 => ?_)
        refine j_iload dX6_props_59 rfl ?_
        refine jc_X6_174 (ct_X6_sizeOf _  _) (by decide) (Nat.le_of_ble_eq_true rfl) dX6_props_61 (fun v12 h13 e14 => ?_)
        refine j_icmp_ge (tgt := 105) dX6_props_64 (by decide) (fun c15 => ?_) (fun c15 => ?_)
        · exact j_weak rfl (w_X6_props_b105 _ hk39 _ _ _ _ _  _)
        · refine j_iload dX6_props_67 rfl ?_
          refine j_aload_n dX6_props_69 rfl ?_
          refine j_aload_n dX6_props_70 rfl ?_
          refine jg_X6_132 z_20 dX6_props_71 ?_
          refine j_iconst (v := (1 : Int32)) dX6_props_74 (by decide) ?_
          refine j_iload_n dX6_props_75 rfl ?_
          refine j_ishl dX6_props_76 ?_
          refine j_iconst (v := (-1 : Int32)) dX6_props_77 (by decide) ?_
          refine j_ixor dX6_props_78 ?_
          refine j_iand dX6_props_79 ?_
          refine j_aload_n dX6_props_80 rfl ?_
          refine jg_X6_135 z_20 dX6_props_81 ?_
          refine j_aload_n dX6_props_84 rfl ?_
          refine jg_X6_138 z_20 dX6_props_85 ?_
          refine j_ior dX6_props_88 ?_
          refine j_iload dX6_props_89 rfl ?_
          refine j_ior dX6_props_91 ?_
          refine jc_X6_168 (ct_X6_standing _ _  _) (by decide) z_20 (Nat.le_of_ble_eq_true rfl) dX6_props_92 (fun v16 h17 e18 => ?_)
          refine j_iconst (v := (-1 : Int32)) dX6_props_95 (by decide) ?_
          refine j_ixor dX6_props_96 ?_
          refine j_iand dX6_props_97 ?_
          refine j_if_ne (tgt := 105) dX6_props_98 (by decide) (fun c19 => ?_) (fun c19 => ?_)
          · exact j_weak rfl (w_X6_props_b105 _ hk39 _ _ _ _ _  _)
          · refine j_iload dX6_props_101 rfl ?_
            refine j_istore dX6_props_103 (by decide) ?_
            exact j_weak rfl (w_X6_props_b105 _ hk39 _ _ _ _ _  _)
set_option maxRecDepth 20000 in
theorem ct_X6_props (a1 : Int32)  (h : Hp) : Ct encI yX6_props cX6_props 7 (some .int) 6 [aR 20 0, aI a1] h (f_X6_props a1 h) := by
  refine ct_of [(0, aR 20 0), (1, aI a1)] (by decide) (fun _ => rfl) (fun _ => Nat.le_of_ble_eq_true rfl) ?_
  show J encI RX6 cX6_props 7 (some .int) 6 0 [(0, aR 20 0), (1, aI a1)] [] h (f_X6_props a1 h)
  unfold f_X6_props
  refine j_aload_n dX6_props_0 rfl ?_
  refine j_iload_n dX6_props_1 rfl ?_
  refine jc_X6_183 (ct_X6_askedIn _  _) (by decide) z_20 (Nat.le_of_ble_eq_true rfl) dX6_props_2 (fun v1 h2 e3 => ?_)
  refine j_istore_n dX6_props_5 (by decide) ?_
  refine j_iload_n dX6_props_6 rfl ?_
  refine j_if_ge (tgt := 12) dX6_props_7 (by decide) (fun c4 => ?_) (fun c4 => ?_)
  · refine j_aload_n dX6_props_12 rfl ?_
    refine j_iconst (v := (1 : Int32)) dX6_props_13 (by decide) ?_
    refine j_iload_n dX6_props_14 rfl ?_
    refine j_ishl dX6_props_15 ?_
    refine jc_X6_189 (ct_X6_fallsOf _  _) (by decide) z_20 (Nat.le_of_ble_eq_true rfl) dX6_props_16 (fun v5 h6 e7 => ?_)
    refine j_istore_n dX6_props_19 (by decide) ?_
    refine j_aload_n dX6_props_20 rfl ?_
    refine j_iconst (v := (0 : Int32)) dX6_props_21 (by decide) ?_
    refine jc_X6_171 (ct_X6_standingNow _  _) (by decide) z_20 (Nat.le_of_ble_eq_true rfl) dX6_props_22 (fun v8 h9 e10 => ?_)
    refine j_iconst (v := (1 : Int32)) dX6_props_25 (by decide) ?_
    refine j_iload_n dX6_props_26 rfl ?_
    refine j_ishl dX6_props_27 ?_
    refine j_iconst (v := (-1 : Int32)) dX6_props_28 (by decide) ?_
    refine j_ixor dX6_props_29 ?_
    refine j_iand dX6_props_30 ?_
    refine j_istore dX6_props_31 (by decide) ?_
    refine j_iload_n dX6_props_33 rfl ?_
    refine j_istore dX6_props_34 (by decide) ?_
    refine j_iconst (v := (0 : Int32)) dX6_props_36 (by decide) ?_
    refine j_istore dX6_props_37 (by decide) ?_
    exact j_weak rfl (w_X6_props_b39  _ _ _ _ _ _  _)
  · refine j_iload_n dX6_props_10 rfl ?_
    exact j_iret dX6_props_11
set_option maxRecDepth 20000 in
theorem ct_X6_draw (a1 : Int32)  (h : Hp) : Ct encI yX6_draw cX6_draw 3 (some .int) 7 [aR 20 0, aI a1] h (f_X6_draw a1 h) := by
  refine ct_of [(0, aR 20 0), (1, aI a1)] (by decide) (fun _ => rfl) (fun _ => Nat.le_of_ble_eq_true rfl) ?_
  show J encI RX6 cX6_draw 3 (some .int) 7 0 [(0, aR 20 0), (1, aI a1)] [] h (f_X6_draw a1 h)
  unfold f_X6_draw
  refine j_aload_n dX6_draw_0 rfl ?_
  refine j_iload_n dX6_draw_1 rfl ?_
  refine jc_X6_183 (ct_X6_askedIn _  _) (by decide) z_20 (Nat.le_of_ble_eq_true rfl) dX6_draw_2 (fun v1 h2 e3 => ?_)
  refine j_istore_n dX6_draw_5 (by decide) ?_
  refine j_iload_n dX6_draw_6 rfl ?_
  refine j_if_ge (tgt := 12) dX6_draw_7 (by decide) (fun c4 => ?_) (fun c4 => ?_)
  · refine j_aload_n dX6_draw_12 rfl ?_
    refine j_iload_n dX6_draw_13 rfl ?_
    refine j_aload_n dX6_draw_14 rfl ?_
    refine jg_X6_141 z_20 dX6_draw_15 ?_
    refine jc_X6_198 (ct_X6_mayDraw _ _  _) (by decide) z_20 (Nat.le_of_ble_eq_true rfl) dX6_draw_18 (fun v5 h6 e7 => ?_)
    refine j_if_ne (tgt := 27) dX6_draw_21 (by decide) (fun c8 => ?_) (fun c8 => ?_)
    · refine j_aload_n dX6_draw_27 rfl ?_
      refine j_dup dX6_draw_28 rfl ?_
      refine jg_X6_132 z_20 dX6_draw_29 ?_
      refine j_iconst (v := (1 : Int32)) dX6_draw_32 (by decide) ?_
      refine j_iload_n dX6_draw_33 rfl ?_
      refine j_ishl dX6_draw_34 ?_
      refine j_iconst (v := (-1 : Int32)) dX6_draw_35 (by decide) ?_
      refine j_ixor dX6_draw_36 ?_
      refine j_iand dX6_draw_37 ?_
      refine jp_X6_132 z_20 dX6_draw_38 ?_
      refine j_aload_n dX6_draw_41 rfl ?_
      refine j_dup dX6_draw_42 rfl ?_
      refine jg_X6_135 z_20 dX6_draw_43 ?_
      refine j_aload_n dX6_draw_46 rfl ?_
      refine jg_X6_132 z_20 dX6_draw_47 ?_
      refine j_iand dX6_draw_50 ?_
      refine jp_X6_135 z_20 dX6_draw_51 ?_
      refine j_aload_n dX6_draw_54 rfl ?_
      refine jg_X6_35 z_20 dX6_draw_55 ?_
      refine j_aload_n dX6_draw_58 rfl ?_
      refine jg_X6_147 z_20 dX6_draw_59 ?_
      refine j_iload_n dX6_draw_62 rfl ?_
      refine j_iast (ic_28 _) z_28 dX6_draw_63 (fun q9 => ?_)
      refine j_aload_n dX6_draw_64 rfl ?_
      refine j_dup dX6_draw_65 rfl ?_
      refine jg_X6_147 z_20 dX6_draw_66 ?_
      refine j_iconst (v := (1 : Int32)) dX6_draw_69 (by decide) ?_
      refine j_iadd dX6_draw_70 ?_
      refine jp_X6_147 z_20 dX6_draw_71 ?_
      refine j_iconst (v := (1 : Int32)) dX6_draw_74 (by decide) ?_
      exact j_iret dX6_draw_75
    · refine j_bipush (v := (-4 : Int32)) dX6_draw_24 (by decide) ?_
      exact j_iret dX6_draw_26
  · refine j_iload_n dX6_draw_10 rfl ?_
    exact j_iret dX6_draw_11
set_option maxRecDepth 20000 in
theorem w_X6_free_b54 (kont6 : Int32 → Int32 → Int32 → Hp → Option (Int32 × Hp)) (hk6 : ∀ (a1 : Int32) (a2 : Int32) (a3 : Int32)  (h : Hp), J encI RX6 cX6_free 4 (some .int) 7 6 [(0, aR 20 0), (1, aI a1), (2, aI a2), (3, aI a3)] [] h (kont6 a1 a2 a3 h)) (a1 : Int32) (a3 : Int32) (s0 : Int32) (s1 : Int32)  (h : Hp) : J encI RX6 cX6_free 4 (some .int) 7 54 [(0, aR 20 0), (1, aI a1), (3, aI a3)] [aI s1, aI s0] h (f_X6_free_b54 kont6 a1 a3 s0 s1 h) := by
  unfold f_X6_free_b54
  refine j_ior dX6_free_54 ?_
  refine j_istore_n dX6_free_55 (by decide) ?_
  refine j_iinc (v := (1 : Int32)) dX6_free_56 rfl (by decide) (by decide) ?_
  refine j_goto (tgt := 6) dX6_free_59 (by decide) ?_
  exact j_weak rfl (hk6 _ _ _  _)
set_option maxRecDepth 20000 in
theorem w_X6_free_b34 (kont6 : Int32 → Int32 → Int32 → Hp → Option (Int32 × Hp)) (hk6 : ∀ (a1 : Int32) (a2 : Int32) (a3 : Int32)  (h : Hp), J encI RX6 cX6_free 4 (some .int) 7 6 [(0, aR 20 0), (1, aI a1), (2, aI a2), (3, aI a3)] [] h (kont6 a1 a2 a3 h)) (a2 : Int32) (a3 : Int32) (s0 : Int32) (s1 : Int32)  (h : Hp) : J encI RX6 cX6_free 4 (some .int) 7 34 [(0, aR 20 0), (2, aI a2), (3, aI a3)] [aI s1, aI s0] h (f_X6_free_b34 kont6 a2 a3 s0 s1 h) := by
  unfold f_X6_free_b34
  refine j_ior dX6_free_34 ?_
  refine j_istore_n dX6_free_35 (by decide) ?_
  refine j_iload_n dX6_free_36 rfl ?_
  refine j_aload_n dX6_free_37 rfl ?_
  refine j_iload_n dX6_free_38 rfl ?_
  refine j_bipush (v := (63 : Int32)) dX6_free_39 (by decide) ?_
  refine jc_X6_198 (ct_X6_mayDraw _ _  _) (by decide) z_20 (Nat.le_of_ble_eq_true rfl) dX6_free_41 (fun v1 h2 e3 => ?_)
  refine j_if_eq (tgt := 53) dX6_free_44 (by decide) (fun c4 => ?_) (fun c4 => ?_)
  · refine j_iconst (v := (0 : Int32)) dX6_free_53 (by decide) ?_
    exact j_weak rfl (w_X6_free_b54 _ hk6 _ _ _ _  _)
  · refine j_iconst (v := (1 : Int32)) dX6_free_47 (by decide) ?_
    refine j_iload_n dX6_free_48 rfl ?_
    refine j_ishl dX6_free_49 ?_
    refine j_goto (tgt := 54) dX6_free_50 (by decide) ?_
    exact j_weak rfl (w_X6_free_b54 _ hk6 _ _ _ _  _)
set_option maxRecDepth 20000 in
theorem w_X6_free_b6  : ∀ (n : Nat) (a1 : Int32) (a2 : Int32) (a3 : Int32)  (h : Hp), J encI RX6 cX6_free 4 (some .int) 7 6 [(0, aR 20 0), (1, aI a1), (2, aI a2), (3, aI a3)] [] h (f_X6_free_b6  n a1 a2 a3 h) := by
  intro n
  induction n with
  | zero =>
    intros
    exact j_none
  | succ n hk6 =>
    intro a1 a2 a3  h
    show J encI RX6 cX6_free 4 (some .int) 7 6 [(0, aR 20 0), (1, aI a1), (2, aI a2), (3, aI a3)] [] h (f_X6_free_b6_body  (f_X6_free_b6  n) a1 a2 a3 h)
    unfold f_X6_free_b6_body
    refine j_iload_n dX6_free_6 rfl ?_
    refine j_aload_n dX6_free_7 rfl ?_
    refine jg_X6_129 z_20 dX6_free_8 ?_
    refine j_icmp_ge (tgt := 62) dX6_free_11 (by decide) (fun c1 => ?_) (fun c1 => ?_)
    · refine j_aload_n dX6_free_62 rfl ?_
      refine j_iload_n dX6_free_63 rfl ?_
      refine j_iload_n dX6_free_64 rfl ?_
      refine jc_X6_77 (ct_X6_ask _ _  _) (by decide) z_20 (Nat.le_of_ble_eq_true rfl) dX6_free_65 (fun v2 h3 e4 => ?_)
      exact j_iret dX6_free_68
    · refine j_iload_n dX6_free_14 rfl ?_
      refine j_aload_n dX6_free_15 rfl ?_
      refine j_iload_n dX6_free_16 rfl ?_
      refine j_aload_n dX6_free_17 rfl ?_
      refine jg_X6_141 z_20 dX6_free_18 ?_
      refine jc_X6_198 (ct_X6_mayDraw _ _  _) (by decide) z_20 (Nat.le_of_ble_eq_true rfl) dX6_free_21 (fun v5 h6 e7 => ?_)
      refine j_if_eq (tgt := 33) dX6_free_24 (by decide) (fun c8 => ?_) (fun c8 => ?_)
      · refine j_iconst (v := (0 : Int32)) dX6_free_33 (by decide) ?_
        exact j_weak rfl (w_X6_free_b34 _ hk6 _ _ _ _  _)
      · refine j_iconst (v := (1 : Int32)) dX6_free_27 (by decide) ?_
        refine j_iload_n dX6_free_28 rfl ?_
        refine j_ishl dX6_free_29 ?_
        refine j_goto (tgt := 34) dX6_free_30 (by decide) ?_
        exact j_weak rfl (w_X6_free_b34 _ hk6 _ _ _ _  _)
set_option maxRecDepth 20000 in
theorem ct_X6_free   (h : Hp) : Ct encI yX6_free cX6_free 4 (some .int) 7 [aR 20 0] h (f_X6_free  h) := by
  refine ct_of [(0, aR 20 0)] (by decide) (fun _ => rfl) (fun _ => Nat.le_of_ble_eq_true rfl) ?_
  show J encI RX6 cX6_free 4 (some .int) 7 0 [(0, aR 20 0)] [] h (f_X6_free  h)
  unfold f_X6_free
  refine j_iconst (v := (0 : Int32)) dX6_free_0 (by decide) ?_
  refine j_istore_n dX6_free_1 (by decide) ?_
  refine j_iconst (v := (0 : Int32)) dX6_free_2 (by decide) ?_
  refine j_istore_n dX6_free_3 (by decide) ?_
  refine j_iconst (v := (0 : Int32)) dX6_free_4 (by decide) ?_
  refine j_istore_n dX6_free_5 (by decide) ?_
  exact j_weak rfl (w_X6_free_b6  _ _ _ _  _)
