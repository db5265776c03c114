set_option maxRecDepth 20000 in
theorem w_X6_few_b19  : ∀ (n : Nat) (a1 : Int32) (a2 : Int32) (a3 : Int32)  (h : Hp), J encI RX6 cX6_few 6 (some .int) 2 19 [(0, aR 20 0), (1, aI a1), (2, aI a2), (3, aI a3)] [] h (f_X6_few_b19  n a1 a2 a3 h) := by
  intro n
  induction n with
  | zero =>
    intros
    exact j_none
  | succ n hk19 =>
    intro a1 a2 a3  h
    show J encI RX6 cX6_few 6 (some .int) 2 19 [(0, aR 20 0), (1, aI a1), (2, aI a2), (3, aI a3)] [] h (f_X6_few_b19_body  (f_X6_few_b19  n) a1 a2 a3 h)
    unfold f_X6_few_b19_body
    refine j_iload_n dX6_few_19 rfl ?_
    refine j_bipush (v := (64 : Int32)) dX6_few_20 (by decide) ?_
    refine j_icmp_ge (tgt := 106) dX6_few_22 (by decide) (fun c1 => ?_) (fun c1 => ?_)
    · refine j_aload_n dX6_few_106 rfl ?_
      refine j_iload_n dX6_few_107 rfl ?_
      refine j_iload_n dX6_few_108 rfl ?_
      refine jc_X6_174 (ct_X6_sizeOf _  _) (by decide) (Nat.le_of_ble_eq_true rfl) dX6_few_109 (fun v2 h3 e4 => ?_)
      refine jc_X6_77 (ct_X6_ask _ _  _) (by decide) z_20 (Nat.le_of_ble_eq_true rfl) dX6_few_112 (fun v5 h6 e7 => ?_)
      exact j_iret dX6_few_115
    · refine j_iconst (v := (1 : Int32)) dX6_few_25 (by decide) ?_
      refine j_istore dX6_few_26 (by decide) ?_
      refine j_iconst (v := (0 : Int32)) dX6_few_28 (by decide) ?_
      refine j_istore dX6_few_29 (by decide) ?_
      exact j_weak rfl (w_X6_few_b31 _ hk19 _ _ _ _ _ _  _)
set_option maxRecDepth 20000 in
theorem ct_X6_few (a1 : Int32)  (h : Hp) : Ct encI yX6_few cX6_few 6 (some .int) 2 [aR 20 0, aI a1] h (f_X6_few a1 h) := by
  refine ct_of [(0, aR 20 0), (1, aI a1)] (by decide) (fun _ => rfl) (fun _ => Nat.le_of_ble_eq_true rfl) ?_
  show J encI RX6 cX6_few 6 (some .int) 2 0 [(0, aR 20 0), (1, aI a1)] [] h (f_X6_few a1 h)
  unfold f_X6_few
  refine j_aload_n dX6_few_0 rfl ?_
  refine j_iload_n dX6_few_1 rfl ?_
  refine jc_X6_186 (ct_X6_isSet _  _) (by decide) z_20 (Nat.le_of_ble_eq_true rfl) dX6_few_2 (fun v1 h2 e3 => ?_)
  refine j_if_eq (tgt := 12) dX6_few_5 (by decide) (fun c4 => ?_) (fun c4 => ?_)
  · refine j_iconst (v := (-1 : Int32)) dX6_few_12 (by decide) ?_
    exact j_iret dX6_few_13
  · refine j_iload_n dX6_few_8 rfl ?_
    refine j_if_ne (tgt := 14) dX6_few_9 (by decide) (fun c5 => ?_) (fun c5 => ?_)
    · refine j_bipush (v := (63 : Int32)) dX6_few_14 (by decide) ?_
      refine j_istore_n dX6_few_16 (by decide) ?_
      refine j_iconst (v := (1 : Int32)) dX6_few_17 (by decide) ?_
      refine j_istore_n dX6_few_18 (by decide) ?_
      exact j_weak rfl (w_X6_few_b19  _ _ _ _  _)
    · refine j_iconst (v := (-1 : Int32)) dX6_few_12 (by decide) ?_
      exact j_iret dX6_few_13
set_option maxRecDepth 20000 in
theorem w_X6_go_b154 (kont29 : Int32 → Int32 → Hp → Option (Int32 × Hp)) (hk29 : ∀ (a1 : Int32) (a2 : Int32)  (h : Hp), J encI RX6 cX6_go 8 (some .int) 2 29 [(0, aR 20 0), (1, aI a1), (2, aI a2)] [] h (kont29 a1 a2 h)) (kont45 : Int32 → Int32 → Int32 → Int32 → Hp → Option (Int32 × Hp)) (hk45 : ∀ (a1 : Int32) (a2 : Int32) (a3 : Int32) (a4 : Int32)  (h : Hp), J encI RX6 cX6_go 8 (some .int) 2 45 [(0, aR 20 0), (1, aI a1), (2, aI a2), (3, aI a3), (4, aI a4)] [] h (kont45 a1 a2 a3 a4 h)) (kont56 : Int32 → Int32 → Int32 → Int32 → Int32 → Int32 → Hp → Option (Int32 × Hp)) (hk56 : ∀ (a1 : Int32) (a2 : Int32) (a3 : Int32) (a4 : Int32) (a5 : Int32) (a6 : Int32)  (h : Hp), J encI RX6 cX6_go 8 (some .int) 2 56 [(0, aR 20 0), (1, aI a1), (2, aI a2), (3, aI a3), (4, aI a4), (5, aI a5), (6, aI a6)] [] h (kont56 a1 a2 a3 a4 a5 a6 h)) (a1 : Int32) (a2 : Int32) (a3 : Int32) (a4 : Int32) (a6 : Int32) (s0 : Int32)  (h : Hp) : J encI RX6 cX6_go 8 (some .int) 2 154 [(0, aR 20 0), (1, aI a1), (2, aI a2), (3, aI a3), (4, aI a4), (6, aI a6)] [aI s0] h (f_X6_go_b154 kont29 kont45 kont56 a1 a2 a3 a4 a6 s0 h) := by
  unfold f_X6_go_b154
  refine j_istore dX6_go_154 (by decide) ?_
  refine j_iinc (v := (1 : Int32)) dX6_go_156 rfl (by decide) (by decide) ?_
  refine j_goto (tgt := 56) dX6_go_159 (by decide) ?_
  exact j_weak rfl (hk56 _ _ _ _ _ _  _)
set_option maxRecDepth 20000 in
theorem w_X6_go_b149 (kont29 : Int32 → Int32 → Hp → Option (Int32 × Hp)) (hk29 : ∀ (a1 : Int32) (a2 : Int32)  (h : Hp), J encI RX6 cX6_go 8 (some .int) 2 29 [(0, aR 20 0), (1, aI a1), (2, aI a2)] [] h (kont29 a1 a2 h)) (kont45 : Int32 → Int32 → Int32 → Int32 → Hp → Option (Int32 × Hp)) (hk45 : ∀ (a1 : Int32) (a2 : Int32) (a3 : Int32) (a4 : Int32)  (h : Hp), J encI RX6 cX6_go 8 (some .int) 2 45 [(0, aR 20 0), (1, aI a1), (2, aI a2), (3, aI a3), (4, aI a4)] [] h (kont45 a1 a2 a3 a4 h)) (kont56 : Int32 → Int32 → Int32 → Int32 → Int32 → Int32 → Hp → Option (Int32 × Hp)) (hk56 : ∀ (a1 : Int32) (a2 : Int32) (a3 : Int32) (a4 : Int32) (a5 : Int32) (a6 : Int32)  (h : Hp), J encI RX6 cX6_go 8 (some .int) 2 56 [(0, aR 20 0), (1, aI a1), (2, aI a2), (3, aI a3), (4, aI a4), (5, aI a5), (6, aI a6)] [] h (kont56 a1 a2 a3 a4 a5 a6 h)) (a1 : Int32) (a2 : Int32) (a3 : Int32) (a4 : Int32) (a6 : Int32)  (h : Hp) : J encI RX6 cX6_go 8 (some .int) 2 149 [(0, aR 20 0), (1, aI a1), (2, aI a2), (3, aI a3), (4, aI a4), (6, aI a6)] [] h (f_X6_go_b149 kont29 kont45 kont56 a1 a2 a3 a4 a6 h) := by
  unfold f_X6_go_b149
  refine j_iconst (v := (1 : Int32)) dX6_go_149 (by decide) ?_
  refine j_goto (tgt := 154) dX6_go_150 (by decide) ?_
  exact j_weak rfl (w_X6_go_b154 _ hk29 _ hk45 _ hk56 _ _ _ _ _ _  _)
set_option maxRecDepth 20000 in
theorem w_X6_go_b153 (kont29 : Int32 → Int32 → Hp → Option (Int32 × Hp)) (hk29 : ∀ (a1 : Int32) (a2 : Int32)  (h : Hp), J encI RX6 cX6_go 8 (some .int) 2 29 [(0, aR 20 0), (1, aI a1), (2, aI a2)] [] h (kont29 a1 a2 h)) (kont45 : Int32 → Int32 → Int32 → Int32 → Hp → Option (Int32 × Hp)) (hk45 : ∀ (a1 : Int32) (a2 : Int32) (a3 : Int32) (a4 : Int32)  (h : Hp), J encI RX6 cX6_go 8 (some .int) 2 45 [(0, aR 20 0), (1, aI a1), (2, aI a2), (3, aI a3), (4, aI a4)] [] h (kont45 a1 a2 a3 a4 h)) (kont56 : Int32 → Int32 → Int32 → Int32 → Int32 → Int32 → Hp → Option (Int32 × Hp)) (hk56 : ∀ (a1 : Int32) (a2 : Int32) (a3 : Int32) (a4 : Int32) (a5 : Int32) (a6 : Int32)  (h : Hp), J encI RX6 cX6_go 8 (some .int) 2 56 [(0, aR 20 0), (1, aI a1), (2, aI a2), (3, aI a3), (4, aI a4), (5, aI a5), (6, aI a6)] [] h (kont56 a1 a2 a3 a4 a5 a6 h)) (a1 : Int32) (a2 : Int32) (a3 : Int32) (a4 : Int32) (a6 : Int32)  (h : Hp) : J encI RX6 cX6_go 8 (some .int) 2 153 [(0, aR 20 0), (1, aI a1), (2, aI a2), (3, aI a3), (4, aI a4), (6, aI a6)] [] h (f_X6_go_b153 kont29 kont45 kont56 a1 a2 a3 a4 a6 h) := by
  unfold f_X6_go_b153
  refine j_iconst (v := (0 : Int32)) dX6_go_153 (by decide) ?_
  exact j_weak rfl (w_X6_go_b154 _ hk29 _ hk45 _ hk56 _ _ _ _ _ _  _)
set_option maxRecDepth 20000 in
theorem w_X6_go_b138 (kont29 : Int32 → Int32 → Hp → Option (Int32 × Hp)) (hk29 : ∀ (a1 : Int32) (a2 : Int32)  (h : Hp), J encI RX6 cX6_go 8 (some .int) 2 29 [(0, aR 20 0), (1, aI a1), (2, aI a2)] [] h (kont29 a1 a2 h)) (kont45 : Int32 → Int32 → Int32 → Int32 → Hp → Option (Int32 × Hp)) (hk45 : ∀ (a1 : Int32) (a2 : Int32) (a3 : Int32) (a4 : Int32)  (h : Hp), J encI RX6 cX6_go 8 (some .int) 2 45 [(0, aR 20 0), (1, aI a1), (2, aI a2), (3, aI a3), (4, aI a4)] [] h (kont45 a1 a2 a3 a4 h)) (kont56 : Int32 → Int32 → Int32 → Int32 → Int32 → Int32 → Hp → Option (Int32 × Hp)) (hk56 : ∀ (a1 : Int32) (a2 : Int32) (a3 : Int32) (a4 : Int32) (a5 : Int32) (a6 : Int32)  (h : Hp), J encI RX6 cX6_go 8 (some .int) 2 56 [(0, aR 20 0), (1, aI a1), (2, aI a2), (3, aI a3), (4, aI a4), (5, aI a5), (6, aI a6)] [] h (kont56 a1 a2 a3 a4 a5 a6 h)) (a1 : Int32) (a2 : Int32) (a3 : Int32) (a4 : Int32) (a6 : Int32)  (h : Hp) : J encI RX6 cX6_go 8 (some .int) 2 138 [(0, aR 20 0), (1, aI a1), (2, aI a2), (3, aI a3), (4, aI a4), (6, aI a6)] [] h (f_X6_go_b138 kont29 kont45 kont56 a1 a2 a3 a4 a6 h) := by
  unfold f_X6_go_b138
  refine j_aload_n dX6_go_138 rfl ?_
  refine j_iload dX6_go_139 rfl ?_
  refine j_iload dX6_go_141 rfl ?_
  refine jc_X6_110 (ct_X6_over _ _  _) (by decide) z_20 (Nat.le_of_ble_eq_true rfl) dX6_go_143 (fun v1 h2 e3 => ?_)
  refine j_if_eq (tgt := 153) dX6_go_146 (by decide) (fun c4 => ?_) (fun c4 => ?_)
  · exact j_weak rfl (w_X6_go_b153 _ hk29 _ hk45 _ hk56 _ _ _ _ _  _)
  · exact j_weak rfl (w_X6_go_b149 _ hk29 _ hk45 _ hk56 _ _ _ _ _  _)
set_option maxRecDepth 20000 in
theorem w_X6_go_b197 (kont29 : Int32 → Int32 → Hp → Option (Int32 × Hp)) (hk29 : ∀ (a1 : Int32) (a2 : Int32)  (h : Hp), J encI RX6 cX6_go 8 (some .int) 2 29 [(0, aR 20 0), (1, aI a1), (2, aI a2)] [] h (kont29 a1 a2 h)) (kont45 : Int32 → Int32 → Int32 → Int32 → Hp → Option (Int32 × Hp)) (hk45 : ∀ (a1 : Int32) (a2 : Int32) (a3 : Int32) (a4 : Int32)  (h : Hp), J encI RX6 cX6_go 8 (some .int) 2 45 [(0, aR 20 0), (1, aI a1), (2, aI a2), (3, aI a3), (4, aI a4)] [] h (kont45 a1 a2 a3 a4 h)) (a1 : Int32) (a2 : Int32) (a4 : Int32) (s0 : Int32)  (h : Hp) : J encI RX6 cX6_go 8 (some .int) 2 197 [(0, aR 20 0), (1, aI a1), (2, aI a2), (4, aI a4)] [aI s0] h (f_X6_go_b197 kont29 kont45 a1 a2 a4 s0 h) := by
  unfold f_X6_go_b197
  refine j_istore_n dX6_go_197 (by decide) ?_
  refine j_iinc (v := (-1 : Int32)) dX6_go_198 rfl (by decide) (by decide) ?_
  refine j_goto (tgt := 45) dX6_go_201 (by decide) ?_
  exact j_weak rfl (hk45 _ _ _ _  _)
set_option maxRecDepth 20000 in
theorem w_X6_go_b196 (kont29 : Int32 → Int32 → Hp → Option (Int32 × Hp)) (hk29 : ∀ (a1 : Int32) (a2 : Int32)  (h : Hp), J encI RX6 cX6_go 8 (some .int) 2 29 [(0, aR 20 0), (1, aI a1), (2, aI a2)] [] h (kont29 a1 a2 h)) (kont45 : Int32 → Int32 → Int32 → Int32 → Hp → Option (Int32 × Hp)) (hk45 : ∀ (a1 : Int32) (a2 : Int32) (a3 : Int32) (a4 : Int32)  (h : Hp), J encI RX6 cX6_go 8 (some .int) 2 45 [(0, aR 20 0), (1, aI a1), (2, aI a2), (3, aI a3), (4, aI a4)] [] h (kont45 a1 a2 a3 a4 h)) (a1 : Int32) (a2 : Int32) (a3 : Int32) (a4 : Int32)  (h : Hp) : J encI RX6 cX6_go 8 (some .int) 2 196 [(0, aR 20 0), (1, aI a1), (2, aI a2), (3, aI a3), (4, aI a4)] [] h (f_X6_go_b196 kont29 kont45 a1 a2 a3 a4 h) := by
  unfold f_X6_go_b196
  refine j_iload_n dX6_go_196 rfl ?_
  exact j_weak rfl (w_X6_go_b197 _ hk29 _ hk45 _ _ _ _  _)
set_option maxRecDepth 20000 in
theorem w_X6_go_b56 (kont29 : Int32 → Int32 → Hp → Option (Int32 × Hp)) (hk29 : ∀ (a1 : Int32) (a2 : Int32)  (h : Hp), J encI RX6 cX6_go 8 (some .int) 2 29 [(0, aR 20 0), (1, aI a1), (2, aI a2)] [] h (kont29 a1 a2 h)) (kont45 : Int32 → Int32 → Int32 → Int32 → Hp → Option (Int32 × Hp)) (hk45 : ∀ (a1 : Int32) (a2 : Int32) (a3 : Int32) (a4 : Int32)  (h : Hp), J encI RX6 cX6_go 8 (some .int) 2 45 [(0, aR 20 0), (1, aI a1), (2, aI a2), (3, aI a3), (4, aI a4)] [] h (kont45 a1 a2 a3 a4 h)) : ∀ (n : Nat) (a1 : Int32) (a2 : Int32) (a3 : Int32) (a4 : Int32) (a5 : Int32) (a6 : Int32)  (h : Hp), J encI RX6 cX6_go 8 (some .int) 2 56 [(0, aR 20 0), (1, aI a1), (2, aI a2), (3, aI a3), (4, aI a4), (5, aI a5), (6, aI a6)] [] h (f_X6_go_b56 kont29 kont45 n a1 a2 a3 a4 a5 a6 h) := by
  intro n
  induction n with
  | zero =>
    intros
    exact j_none
  | succ n hk56 =>
    intro a1 a2 a3 a4 a5 a6  h
    show J encI RX6 cX6_go 8 (some .int) 2 56 [(0, aR 20 0), (1, aI a1), (2, aI a2), (3, aI a3), (4, aI a4), (5, aI a5), (6, aI a6)] [] h (f_X6_go_b56_body kont29 kont45 (f_X6_go_b56 kont29 kont45 n) a1 a2 a3 a4 a5 a6 h)
    unfold f_X6_go_b56_body
    refine j_iload dX6_go_56 rfl ?_
    refine j_aload_n dX6_go_58 rfl ?_
    refine jg_X6_129 z_20 dX6_go_59 ?_
    refine j_icmp_ge (tgt := 162) dX6_go_62 (by decide) (fun c1 => ?_) (fun c1 => ?_)
    · refine j_iload dX6_go_162 rfl ?_
      refine j_if_eq (tgt := 196) dX6_go_164 (by decide) (fun c2 => ?_) (fun c2 => ?_)
      · exact j_weak rfl (w_X6_go_b196 _ hk29 _ hk45 _ _ _ _  _)
      · refine j_aload_n dX6_go_167 rfl ?_
        refine jg_X6_132 z_20 dX6_go_168 ?_
        refine j_iload dX6_go_171 rfl ?_
        refine jc_X6_150 (ct_X6_has _ _  _) (by decide) (Nat.le_of_ble_eq_true rfl) dX6_go_173 (fun v3 h4 e5 => ?_)
        refine j_if_eq (tgt := 196) dX6_go_176 (by decide) (fun c6 => ?_) (fun c6 => ?_)
        · exact j_weak rfl (w_X6_go_b196 _ hk29 _ hk45 _ _ _ _  _)
        · refine j_aload_n dX6_go_179 rfl ?_
          refine jg_X6_138 z_20 dX6_go_180 ?_
          refine j_iload dX6_go_183 rfl ?_
          refine jc_X6_150 (ct_X6_has _ _  _) (by decide) (Nat.le_of_ble_eq_true rfl) dX6_go_185 (fun v7 h8 e9 => ?_)
          refine j_if_ne (tgt := 196) dX6_go_188 (by decide) (fun c10 => ?_) (fun c10 => ?_)
          · exact j_weak rfl (w_X6_go_b196 _ hk29 _ hk45 _ _ _ _  _)
          · refine j_iload dX6_go_191 rfl ?_
            refine j_goto (tgt := 197) dX6_go_193 (by decide) ?_
            exact j_weak rfl (w_X6_go_b197 _ hk29 _ hk45 _ _ _ _  _)
    · refine j_aload_n dX6_go_65 rfl ?_
      refine j_iload dX6_go_66 rfl ?_
      refine j_iconst (v := (1 : Int32)) dX6_go_68 (by decide) ?_
      refine jc_X6_89 (ct_X6_of _ _  _) (by decide) z_20 (Nat.le_of_ble_eq_true rfl) dX6_go_69 (fun v11 h12 e13 => ?_)
      refine j_aload_n dX6_go_72 rfl ?_
      refine j_iload dX6_go_73 rfl ?_
      refine j_iconst (v := (1 : Int32)) dX6_go_75 (by decide) ?_
      refine jc_X6_89 (ct_X6_of _ _  _) (by decide) z_20 (Nat.le_of_ble_eq_true rfl) dX6_go_76 (fun v14 h15 e16 => ?_)
      refine j_isub dX6_go_79 ?_
      refine j_istore dX6_go_80 (by decide) ?_
      refine j_iload dX6_go_82 rfl ?_
      refine j_if_ne (tgt := 149) dX6_go_84 (by decide) (fun c17 => ?_) (fun c17 => ?_)
      · exact j_weak rfl (w_X6_go_b149 _ hk29 _ hk45 _ hk56 _ _ _ _ _  _)
      · refine j_aload_n dX6_go_87 rfl ?_
        refine jg_X6_138 z_20 dX6_go_88 ?_
        refine j_aload_n dX6_go_91 rfl ?_
        refine jg_X6_132 z_20 dX6_go_92 ?_
        refine j_iand dX6_go_95 ?_
        refine j_iload dX6_go_96 rfl ?_
        refine jc_X6_150 (ct_X6_has _ _  _) (by decide) (Nat.le_of_ble_eq_true rfl) dX6_go_98 (fun v18 h19 e20 => ?_)
        refine j_if_eq (tgt := 153) dX6_go_101 (by decide) (fun c21 => ?_) (fun c21 => ?_)
        · exact j_weak rfl (w_X6_go_b153 _ hk29 _ hk45 _ hk56 _ _ _ _ _  _)
        · refine j_aload_n dX6_go_104 rfl ?_
          refine j_iload dX6_go_105 rfl ?_
          refine j_iload dX6_go_107 rfl ?_
          refine jc_X6_162 (ct_X6_touches _ _  _) (by decide) z_20 (Nat.le_of_ble_eq_true rfl) dX6_go_109 (fun v22 h23 e24 => ?_)
          refine j_if_ne (tgt := 149) dX6_go_112 (by decide) (fun c25 => ?_) (fun c25 => ?_)
          · exact j_weak rfl (w_X6_go_b149 _ hk29 _ hk45 _ hk56 _ _ _ _ _  _)
          · refine j_aload_n dX6_go_115 rfl ?_
            refine j_iload dX6_go_116 rfl ?_
            refine j_iload dX6_go_118 rfl ?_
            refine jc_X6_162 (ct_X6_touches _ _  _) (by decide) z_20 (Nat.le_of_ble_eq_true rfl) dX6_go_120 (fun v26 h27 e28 => ?_)
            refine j_if_ne (tgt := 149) dX6_go_123 (by decide) (fun c29 => ?_) (fun c29 => ?_)
            · exact j_weak rfl (w_X6_go_b149 _ hk29 _ hk45 _ hk56 _ _ _ _ _  _)
            · refine j_iload dX6_go_126 rfl ?_
              refine j_iconst (v := (1 : Int32)) dX6_go_128 (by decide) ?_
              refine j_icmp_eq (tgt := 138) dX6_go_129 (by decide) (fun c30 => ?_) (fun c30 => ?_)
              · exact j_weak rfl (w_X6_go_b138 _ hk29 _ hk45 _ hk56 _ _ _ _ _  _)
              · refine j_iload dX6_go_132 rfl ?_
                refine j_iconst (v := (-1 : Int32)) dX6_go_134 (by decide) ?_
                refine j_icmp_ne (tgt := 153) dX6_go_135 (by decide) (fun c31 => ?_) (fun c31 => ?_)
                · exact j_weak rfl (w_X6_go_b153 _ hk29 _ hk45 _ hk56 _ _ _ _ _  _)
                · exact j_weak rfl (w_X6_go_b138 _ hk29 _ hk45 _ hk56 _ _ _ _ _  _)
set_option maxRecDepth 20000 in
theorem w_X6_go_b222 (kont29 : Int32 → Int32 → Hp → Option (Int32 × Hp)) (hk29 : ∀ (a1 : Int32) (a2 : Int32)  (h : Hp), J encI RX6 cX6_go 8 (some .int) 2 29 [(0, aR 20 0), (1, aI a1), (2, aI a2)] [] h (kont29 a1 a2 h)) (a1 : Int32) (a2 : Int32) (s1 : Int32) (s2 : Int32)  (h : Hp) : J encI RX6 cX6_go 8 (some .int) 2 222 [(0, aR 20 0), (1, aI a1), (2, aI a2)] [aI s2, aI s1, aR 20 0] h (f_X6_go_b222 kont29 a1 a2 s1 s2 h) := by
  unfold f_X6_go_b222
  refine j_ior dX6_go_222 ?_
  refine jp_X6_138 z_20 dX6_go_223 ?_
  refine j_aload_n dX6_go_226 rfl ?_
  refine j_dup dX6_go_227 rfl ?_
  refine jg_X6_144 z_20 dX6_go_228 ?_
  refine j_iconst (v := (1 : Int32)) dX6_go_231 (by decide) ?_
  refine j_iadd dX6_go_232 ?_
  refine jp_X6_144 z_20 dX6_go_233 ?_
  refine j_iinc (v := (1 : Int32)) dX6_go_236 rfl (by decide) (by decide) ?_
  refine j_goto (tgt := 29) dX6_go_239 (by decide) ?_
  exact j_weak rfl (hk29 _ _  _)
set_option maxRecDepth 20000 in
theorem w_X6_go_b45 (kont29 : Int32 → Int32 → Hp → Option (Int32 × Hp)) (hk29 : ∀ (a1 : Int32) (a2 : Int32)  (h : Hp), J encI RX6 cX6_go 8 (some .int) 2 29 [(0, aR 20 0), (1, aI a1), (2, aI a2)] [] h (kont29 a1 a2 h)) : ∀ (n : Nat) (a1 : Int32) (a2 : Int32) (a3 : Int32) (a4 : Int32)  (h : Hp), J encI RX6 cX6_go 8 (some .int) 2 45 [(0, aR 20 0), (1, aI a1), (2, aI a2), (3, aI a3), (4, aI a4)] [] h (f_X6_go_b45 kont29 n a1 a2 a3 a4 h) := by
  intro n
  induction n with
  | zero =>
    intros
    exact j_none
  | succ n hk45 =>
    intro a1 a2 a3 a4  h
    show J encI RX6 cX6_go 8 (some .int) 2 45 [(0, aR 20 0), (1, aI a1), (2, aI a2), (3, aI a3), (4, aI a4)] [] h (f_X6_go_b45_body kont29 (f_X6_go_b45 kont29 n) a1 a2 a3 a4 h)
    unfold f_X6_go_b45_body
    refine j_iload dX6_go_45 rfl ?_
    refine j_if_lt (tgt := 204) dX6_go_47 (by decide) (fun c1 => ?_) (fun c1 => ?_)
    · refine j_aload_n dX6_go_204 rfl ?_
      refine j_dup dX6_go_205 rfl ?_
      refine jg_X6_138 z_20 dX6_go_206 ?_
      refine j_iload_n dX6_go_209 rfl ?_
      refine j_bipush (v := (-9 : Int32)) dX6_go_210 (by decide) ?_
      refine j_icmp_ne (tgt := 219) dX6_go_212 (by decide) (fun c2 => ?_) (fun c2 => ?_)
      · refine j_iconst (v := (1 : Int32)) dX6_go_219 (by decide) ?_
        refine j_iload_n dX6_go_220 rfl ?_
        refine j_ishl dX6_go_221 ?_
        exact j_weak rfl (w_X6_go_b222 _ hk29 _ _ _ _  _)
      · refine j_iconst (v := (0 : Int32)) dX6_go_215 (by decide) ?_
        refine j_goto (tgt := 222) dX6_go_216 (by decide) ?_
        exact j_weak rfl (w_X6_go_b222 _ hk29 _ _ _ _  _)
    · refine j_iconst (v := (0 : Int32)) dX6_go_50 (by decide) ?_
      refine j_istore dX6_go_51 (by decide) ?_
      refine j_iconst (v := (0 : Int32)) dX6_go_53 (by decide) ?_
      refine j_istore dX6_go_54 (by decide) ?_
      exact j_weak rfl (w_X6_go_b56 _ hk29 _ hk45 _ _ _ _ _ _ _  _)
set_option maxRecDepth 20000 in
theorem w_X6_go_b29  : ∀ (n : Nat) (a1 : Int32) (a2 : Int32)  (h : Hp), J encI RX6 cX6_go 8 (some .int) 2 29 [(0, aR 20 0), (1, aI a1), (2, aI a2)] [] h (f_X6_go_b29  n a1 a2 h) := by
  intro n
  induction n with
  | zero =>
    intros
    exact j_none
  | succ n hk29 =>
    intro a1 a2  h
    show J encI RX6 cX6_go 8 (some .int) 2 29 [(0, aR 20 0), (1, aI a1), (2, aI a2)] [] h (f_X6_go_b29_body  (f_X6_go_b29  n) a1 a2 h)
    unfold f_X6_go_b29_body
    refine j_iload_n dX6_go_29 rfl ?_
    refine j_iload_n dX6_go_30 rfl ?_
    refine j_icmp_ge (tgt := 242) dX6_go_31 (by decide) (fun c1 => ?_) (fun c1 => ?_)
    · refine j_aload_n dX6_go_242 rfl ?_
      refine jg_X6_138 z_20 dX6_go_243 ?_
      refine jc_X6_174 (ct_X6_sizeOf _  _) (by decide) (Nat.le_of_ble_eq_true rfl) dX6_go_246 (fun v2 h3 e4 => ?_)
      exact j_iret dX6_go_249
    · refine j_bipush (v := (-9 : Int32)) dX6_go_34 (by decide) ?_
      refine j_istore_n dX6_go_36 (by decide) ?_
      refine j_aload_n dX6_go_37 rfl ?_
      refine jg_X6_129 z_20 dX6_go_38 ?_
      refine j_iconst (v := (1 : Int32)) dX6_go_41 (by decide) ?_
      refine j_isub dX6_go_42 ?_
      refine j_istore dX6_go_43 (by decide) ?_
      exact j_weak rfl (w_X6_go_b45 _ hk29 _ _ _ _ _  _)
set_option maxRecDepth 20000 in
theorem ct_X6_go (a1 : Int32)  (h : Hp) : Ct encI yX6_go cX6_go 8 (some .int) 2 [aR 20 0, aI a1] h (f_X6_go a1 h) := by
  refine ct_of [(0, aR 20 0), (1, aI a1)] (by decide) (fun _ => rfl) (fun _ => Nat.le_of_ble_eq_true rfl) ?_
  show J encI RX6 cX6_go 8 (some .int) 2 0 [(0, aR 20 0), (1, aI a1)] [] h (f_X6_go a1 h)
  unfold f_X6_go
  refine j_iload_n dX6_go_0 rfl ?_
  refine j_iconst (v := (0 : Int32)) dX6_go_1 (by decide) ?_
  refine j_bipush (v := (20 : Int32)) dX6_go_2 (by decide) ?_
  refine jc_X6_51 (ct_X6_in _ _ _  _) (by decide) (Nat.le_of_ble_eq_true rfl) dX6_go_4 (fun v1 h2 e3 => ?_)
  refine j_if_ne (tgt := 12) dX6_go_7 (by decide) (fun c4 => ?_) (fun c4 => ?_)
  · refine j_aload_n dX6_go_12 rfl ?_
    refine jg_X6_144 z_20 dX6_go_13 ?_
    refine j_iload_n dX6_go_16 rfl ?_
    refine j_iadd dX6_go_17 ?_
    refine j_sipush (v := (1000 : Int32)) dX6_go_18 (by decide) ?_
    refine j_icmp_le (tgt := 27) dX6_go_21 (by decide) (fun c5 => ?_) (fun c5 => ?_)
    · refine j_iconst (v := (0 : Int32)) dX6_go_27 (by decide) ?_
      refine j_istore_n dX6_go_28 (by decide) ?_
      exact j_weak rfl (w_X6_go_b29  _ _ _  _)
    · refine j_bipush (v := (-6 : Int32)) dX6_go_24 (by decide) ?_
      exact j_iret dX6_go_26
  · refine j_iconst (v := (-1 : Int32)) dX6_go_10 (by decide) ?_
    exact j_iret dX6_go_11
set_option maxRecDepth 20000 in
theorem w_X6_hang_b29  (a1 : Int32) (a2 : Int32)  (h : Hp) : J encI RX6 cX6_hang 4 (some .int) 2 29 [(0, aR 20 0), (1, aI a1), (2, aI a2)] [] h (f_X6_hang_b29  a1 a2 h) := by
  unfold f_X6_hang_b29
  refine j_aload_n dX6_hang_29 rfl ?_
  refine j_iload_n dX6_hang_30 rfl ?_
  refine j_bipush (v := (6 : Int32)) dX6_hang_31 (by decide) ?_
  refine jc_X6_89 (ct_X6_of _ _  _) (by decide) z_20 (Nat.le_of_ble_eq_true rfl) dX6_hang_33 (fun v1 h2 e3 => ?_)
  refine j_istore_n dX6_hang_36 (by decide) ?_
  refine j_aload_n dX6_hang_37 rfl ?_
  refine j_iload_n dX6_hang_38 rfl ?_
  refine j_bipush (v := (6 : Int32)) dX6_hang_39 (by decide) ?_
  refine j_iload_n dX6_hang_41 rfl ?_
  refine jc_X6_101 (ct_X6_write _ _ _  _) (by decide) z_20 (Nat.le_of_ble_eq_true rfl) dX6_hang_42 (fun v4 h5 e6 => ?_)
  refine j_iload_n dX6_hang_45 rfl ?_
  exact j_iret dX6_hang_46
set_option maxRecDepth 20000 in
theorem ct_X6_hang (a1 : Int32) (a2 : Int32)  (h : Hp) : Ct encI yX6_hang cX6_hang 4 (some .int) 2 [aR 20 0, aI a1, aI a2] h (f_X6_hang a1 a2 h) := by
  refine ct_of [(0, aR 20 0), (1, aI a1), (2, aI a2)] (by decide) (fun _ => rfl) (fun _ => Nat.le_of_ble_eq_true rfl) ?_
  show J encI RX6 cX6_hang 4 (some .int) 2 0 [(0, aR 20 0), (1, aI a1), (2, aI a2)] [] h (f_X6_hang a1 a2 h)
  unfold f_X6_hang
  refine j_aload_n dX6_hang_0 rfl ?_
  refine j_iload_n dX6_hang_1 rfl ?_
  refine jc_X6_153 (ct_X6_isBrick _  _) (by decide) z_20 (Nat.le_of_ble_eq_true rfl) dX6_hang_2 (fun v1 h2 e3 => ?_)
  refine j_if_eq (tgt := 27) dX6_hang_5 (by decide) (fun c4 => ?_) (fun c4 => ?_)
  · refine j_iconst (v := (-1 : Int32)) dX6_hang_27 (by decide) ?_
    exact j_iret dX6_hang_28
  · refine j_iload_n dX6_hang_8 rfl ?_
    refine j_bipush (v := (-9 : Int32)) dX6_hang_9 (by decide) ?_
    refine j_icmp_eq (tgt := 29) dX6_hang_11 (by decide) (fun c5 => ?_) (fun c5 => ?_)
    · exact j_weak rfl (w_X6_hang_b29  _ _  _)
    · refine j_aload_n dX6_hang_14 rfl ?_
      refine j_iload_n dX6_hang_15 rfl ?_
      refine jc_X6_153 (ct_X6_isBrick _  _) (by decide) z_20 (Nat.le_of_ble_eq_true rfl) dX6_hang_16 (fun v6 h7 e8 => ?_)
      refine j_if_eq (tgt := 27) dX6_hang_19 (by decide) (fun c9 => ?_) (fun c9 => ?_)
      · refine j_iconst (v := (-1 : Int32)) dX6_hang_27 (by decide) ?_
        exact j_iret dX6_hang_28
      · refine j_iload_n dX6_hang_22 rfl ?_
        refine j_iload_n dX6_hang_23 rfl ?_
        refine j_icmp_ne (tgt := 29) dX6_hang_24 (by decide) (fun c10 => ?_) (fun c10 => ?_)
        · exact j_weak rfl (w_X6_hang_b29  _ _  _)
        · refine j_iconst (v := (-1 : Int32)) dX6_hang_27 (by decide) ?_
          exact j_iret dX6_hang_28
set_option maxRecDepth 20000 in
theorem w_X6_heir_b101 (kont26 : Int32 → Int32 → Int32 → Int32 → Hp → Option (Int32 × Hp)) (hk26 : ∀ (a1 : Int32) (a2 : Int32) (a3 : Int32) (a4 : Int32)  (h : Hp), J encI RX6 cX6_heir 6 (some .int) 2 26 [(0, aR 20 0), (1, aI a1), (2, aI a2), (3, aI a3), (4, aI a4)] [] h (kont26 a1 a2 a3 a4 h)) (kont38 : Int32 → Int32 → Int32 → Int32 → Int32 → Hp → Option (Int32 × Hp)) (hk38 : ∀ (a1 : Int32) (a2 : Int32) (a3 : Int32) (a4 : Int32) (a5 : Int32)  (h : Hp), J encI RX6 cX6_heir 6 (some .int) 2 38 [(0, aR 20 0), (1, aI a1), (2, aI a2), (3, aI a3), (4, aI a4), (5, aI a5)] [] h (kont38 a1 a2 a3 a4 a5 h)) (a1 : Int32) (a2 : Int32) (a3 : Int32) (a4 : Int32) (a5 : Int32) (s1 : Int32) (s2 : Int32) (s3 : Int32)  (h : Hp) : J encI RX6 cX6_heir 6 (some .int) 2 101 [(0, aR 20 0), (1, aI a1), (2, aI a2), (3, aI a3), (4, aI a4), (5, aI a5)] [aI s3, aI s2, aI s1, aR 20 0] h (f_X6_heir_b101 kont26 kont38 a1 a2 a3 a4 a5 s1 s2 s3 h) := by
  unfold f_X6_heir_b101
  refine jc_X6_101 (ct_X6_write _ _ _  _) (by decide) z_20 (Nat.le_of_ble_eq_true rfl) dX6_heir_101 (fun v1 h2 e3 => ?_)
  refine j_iinc (v := (1 : Int32)) dX6_heir_104 rfl (by decide) (by decide) ?_
  refine j_goto (tgt := 38) dX6_heir_107 (by decide) ?_
  exact j_weak rfl (hk38 _ _ _ _ _  _)
set_option maxRecDepth 20000 in
theorem w_X6_heir_b64 (kont26 : Int32 → Int32 → Int32 → Int32 → Hp → Option (Int32 × Hp)) (hk26 : ∀ (a1 : Int32) (a2 : Int32) (a3 : Int32) (a4 : Int32)  (h : Hp), J encI RX6 cX6_heir 6 (some .int) 2 26 [(0, aR 20 0), (1, aI a1), (2, aI a2), (3, aI a3), (4, aI a4)] [] h (kont26 a1 a2 a3 a4 h)) (kont38 : Int32 → Int32 → Int32 → Int32 → Int32 → Hp → Option (Int32 × Hp)) (hk38 : ∀ (a1 : Int32) (a2 : Int32) (a3 : Int32) (a4 : Int32) (a5 : Int32)  (h : Hp), J encI RX6 cX6_heir 6 (some .int) 2 38 [(0, aR 20 0), (1, aI a1), (2, aI a2), (3, aI a3), (4, aI a4), (5, aI a5)] [] h (kont38 a1 a2 a3 a4 a5 h)) (a1 : Int32) (a2 : Int32) (a4 : Int32) (a5 : Int32) (s0 : Int32) (s1 : Int32)  (h : Hp) : J encI RX6 cX6_heir 6 (some .int) 2 64 [(0, aR 20 0), (1, aI a1), (2, aI a2), (4, aI a4), (5, aI a5)] [aI s1, aI s0] h (f_X6_heir_b64 kont26 kont38 a1 a2 a4 a5 s0 s1 h) := by
  unfold f_X6_heir_b64
  refine j_iadd dX6_heir_64 ?_
  refine j_istore_n dX6_heir_65 (by decide) ?_
  refine j_aload_n dX6_heir_66 rfl ?_
  refine j_iload dX6_heir_67 rfl ?_
  refine j_iconst (v := (3 : Int32)) dX6_heir_69 (by decide) ?_
  refine j_iload dX6_heir_70 rfl ?_
  refine j_iadd dX6_heir_72 ?_
  refine j_aload_n dX6_heir_73 rfl ?_
  refine j_iload dX6_heir_74 rfl ?_
  refine j_iconst (v := (3 : Int32)) dX6_heir_76 (by decide) ?_
  refine j_iload dX6_heir_77 rfl ?_
  refine j_iadd dX6_heir_79 ?_
  refine jc_X6_89 (ct_X6_of _ _  _) (by decide) z_20 (Nat.le_of_ble_eq_true rfl) dX6_heir_80 (fun v1 h2 e3 => ?_)
  refine j_iload_n dX6_heir_83 rfl ?_
  refine j_icmp_ne (tgt := 91) dX6_heir_84 (by decide) (fun c4 => ?_) (fun c4 => ?_)
  · refine j_aload_n dX6_heir_91 rfl ?_
    refine j_iload dX6_heir_92 rfl ?_
    refine j_iconst (v := (3 : Int32)) dX6_heir_94 (by decide) ?_
    refine j_iload dX6_heir_95 rfl ?_
    refine j_iadd dX6_heir_97 ?_
    refine jc_X6_89 (ct_X6_of _ _  _) (by decide) z_20 (Nat.le_of_ble_eq_true rfl) dX6_heir_98 (fun v5 h6 e7 => ?_)
    exact j_weak rfl (w_X6_heir_b101 _ hk26 _ hk38 _ _ _ _ _ _ _ _  _)
  · refine j_iload_n dX6_heir_87 rfl ?_
    refine j_goto (tgt := 101) dX6_heir_88 (by decide) ?_
    exact j_weak rfl (w_X6_heir_b101 _ hk26 _ hk38 _ _ _ _ _ _ _ _  _)
set_option maxRecDepth 20000 in
theorem w_X6_heir_b38 (kont26 : Int32 → Int32 → Int32 → Int32 → Hp → Option (Int32 × Hp)) (hk26 : ∀ (a1 : Int32) (a2 : Int32) (a3 : Int32) (a4 : Int32)  (h : Hp), J encI RX6 cX6_heir 6 (some .int) 2 26 [(0, aR 20 0), (1, aI a1), (2, aI a2), (3, aI a3), (4, aI a4)] [] h (kont26 a1 a2 a3 a4 h)) : ∀ (n : Nat) (a1 : Int32) (a2 : Int32) (a3 : Int32) (a4 : Int32) (a5 : Int32)  (h : Hp), J encI RX6 cX6_heir 6 (some .int) 2 38 [(0, aR 20 0), (1, aI a1), (2, aI a2), (3, aI a3), (4, aI a4), (5, aI a5)] [] h (f_X6_heir_b38 kont26 n a1 a2 a3 a4 a5 h) := by
  intro n
  induction n with
  | zero =>
    intros
    exact j_none
  | succ n hk38 =>
    intro a1 a2 a3 a4 a5  h
    show J encI RX6 cX6_heir 6 (some .int) 2 38 [(0, aR 20 0), (1, aI a1), (2, aI a2), (3, aI a3), (4, aI a4), (5, aI a5)] [] h (f_X6_heir_b38_body kont26 (f_X6_heir_b38 kont26 n) a1 a2 a3 a4 a5 h)
    unfold f_X6_heir_b38_body
    refine j_iload dX6_heir_38 rfl ?_
    refine j_iconst (v := (3 : Int32)) dX6_heir_40 (by decide) ?_
    refine j_icmp_ge (tgt := 110) dX6_heir_41 (by decide) (fun c1 => ?_) (fun c1 => ?_)
    · refine j_iinc (v := (1 : Int32)) dX6_heir_110 rfl (by decide) (by decide) ?_
      refine j_goto (tgt := 26) dX6_heir_113 (by decide) ?_
      exact j_weak rfl (hk26 _ _ _ _  _)
    · refine j_iload_n dX6_heir_44 rfl ?_
      refine j_aload_n dX6_heir_45 rfl ?_
      refine j_iload dX6_heir_46 rfl ?_
      refine j_iconst (v := (3 : Int32)) dX6_heir_48 (by decide) ?_
      refine j_iload dX6_heir_49 rfl ?_
      refine j_iadd dX6_heir_51 ?_
      refine jc_X6_89 (ct_X6_of _ _  _) (by decide) z_20 (Nat.le_of_ble_eq_true rfl) dX6_heir_52 (fun v2 h3 e4 => ?_)
      refine j_iload_n dX6_heir_55 rfl ?_
      refine j_icmp_ne (tgt := 63) dX6_heir_56 (by decide) (fun c5 => ?_) (fun c5 => ?_)
      · refine j_iconst (v := (0 : Int32)) dX6_heir_63 (by decide) ?_
        exact j_weak rfl (w_X6_heir_b64 _ hk26 _ hk38 _ _ _ _ _ _  _)
      · refine j_iconst (v := (1 : Int32)) dX6_heir_59 (by decide) ?_
        refine j_goto (tgt := 64) dX6_heir_60 (by decide) ?_
        exact j_weak rfl (w_X6_heir_b64 _ hk26 _ hk38 _ _ _ _ _ _  _)
set_option maxRecDepth 20000 in
theorem w_X6_heir_b26  : ∀ (n : Nat) (a1 : Int32) (a2 : Int32) (a3 : Int32) (a4 : Int32)  (h : Hp), J encI RX6 cX6_heir 6 (some .int) 2 26 [(0, aR 20 0), (1, aI a1), (2, aI a2), (3, aI a3), (4, aI a4)] [] h (f_X6_heir_b26  n a1 a2 a3 a4 h) := by
  intro n
  induction n with
  | zero =>
    intros
    exact j_none
  | succ n hk26 =>
    intro a1 a2 a3 a4  h
    show J encI RX6 cX6_heir 6 (some .int) 2 26 [(0, aR 20 0), (1, aI a1), (2, aI a2), (3, aI a3), (4, aI a4)] [] h (f_X6_heir_b26_body  (f_X6_heir_b26  n) a1 a2 a3 a4 h)
    unfold f_X6_heir_b26_body
    refine j_iload dX6_heir_26 rfl ?_
    refine j_aload_n dX6_heir_28 rfl ?_
    refine jg_X6_129 z_20 dX6_heir_29 ?_
    refine j_icmp_ge (tgt := 116) dX6_heir_32 (by decide) (fun c1 => ?_) (fun c1 => ?_)
    · refine j_iload_n dX6_heir_116 rfl ?_
      exact j_iret dX6_heir_117
    · refine j_iconst (v := (0 : Int32)) dX6_heir_35 (by decide) ?_
      refine j_istore dX6_heir_36 (by decide) ?_
      exact j_weak rfl (w_X6_heir_b38 _ hk26 _ _ _ _ _ _  _)
set_option maxRecDepth 20000 in
theorem ct_X6_heir (a1 : Int32) (a2 : Int32)  (h : Hp) : Ct encI yX6_heir cX6_heir 6 (some .int) 2 [aR 20 0, aI a1, aI a2] h (f_X6_heir a1 a2 h) := by
  refine ct_of [(0, aR 20 0), (1, aI a1), (2, aI a2)] (by decide) (fun _ => rfl) (fun _ => Nat.le_of_ble_eq_true rfl) ?_
  show J encI RX6 cX6_heir 6 (some .int) 2 0 [(0, aR 20 0), (1, aI a1), (2, aI a2)] [] h (f_X6_heir a1 a2 h)
  unfold f_X6_heir
  refine j_iload_n dX6_heir_0 rfl ?_
  refine jc_X6_180 (ct_X6_isOne _  _) (by decide) (Nat.le_of_ble_eq_true rfl) dX6_heir_1 (fun v1 h2 e3 => ?_)
  refine j_if_eq (tgt := 19) dX6_heir_4 (by decide) (fun c4 => ?_) (fun c4 => ?_)
  · refine j_iconst (v := (-1 : Int32)) dX6_heir_19 (by decide) ?_
    exact j_iret dX6_heir_20
  · refine j_iload_n dX6_heir_7 rfl ?_
    refine jc_X6_180 (ct_X6_isOne _  _) (by decide) (Nat.le_of_ble_eq_true rfl) dX6_heir_8 (fun v5 h6 e7 => ?_)
    refine j_if_eq (tgt := 19) dX6_heir_11 (by decide) (fun c8 => ?_) (fun c8 => ?_)
    · refine j_iconst (v := (-1 : Int32)) dX6_heir_19 (by decide) ?_
      exact j_iret dX6_heir_20
    · refine j_iload_n dX6_heir_14 rfl ?_
      refine j_iload_n dX6_heir_15 rfl ?_
      refine j_icmp_ne (tgt := 21) dX6_heir_16 (by decide) (fun c9 => ?_) (fun c9 => ?_)
      · refine j_iconst (v := (0 : Int32)) dX6_heir_21 (by decide) ?_
        refine j_istore_n dX6_heir_22 (by decide) ?_
        refine j_iconst (v := (0 : Int32)) dX6_heir_23 (by decide) ?_
        refine j_istore dX6_heir_24 (by decide) ?_
        exact j_weak rfl (w_X6_heir_b26  _ _ _ _ _  _)
      · refine j_iconst (v := (-1 : Int32)) dX6_heir_19 (by decide) ?_
        exact j_iret dX6_heir_20
set_option maxRecDepth 20000 in
theorem w_X6_isTaken_b61 (kont4 : Int32 → Int32 → Int32 → Hp → Option (Int32 × Hp)) (hk4 : ∀ (a1 : Int32) (a2 : Int32) (a3 : Int32)  (h : Hp), J encI RX6 cX6_isTaken 4 (some .boolean) 2 4 [(0, aR 20 0), (1, aI a1), (2, aI a2), (3, aI a3)] [] h (kont4 a1 a2 a3 h)) (a1 : Int32) (a3 : Int32) (s0 : Int32)  (h : Hp) : J encI RX6 cX6_isTaken 4 (some .boolean) 2 61 [(0, aR 20 0), (1, aI a1), (3, aI a3)] [aI s0] h (f_X6_isTaken_b61 kont4 a1 a3 s0 h) := by
  unfold f_X6_isTaken_b61
  refine j_istore_n dX6_isTaken_61 (by decide) ?_
  refine j_iinc (v := (1 : Int32)) dX6_isTaken_62 rfl (by decide) (by decide) ?_
  refine j_goto (tgt := 4) dX6_isTaken_65 (by decide) ?_
  exact j_weak rfl (hk4 _ _ _  _)
set_option maxRecDepth 20000 in
theorem w_X6_isTaken_b56 (kont4 : Int32 → Int32 → Int32 → Hp → Option (Int32 × Hp)) (hk4 : ∀ (a1 : Int32) (a2 : Int32) (a3 : Int32)  (h : Hp), J encI RX6 cX6_isTaken 4 (some .boolean) 2 4 [(0, aR 20 0), (1, aI a1), (2, aI a2), (3, aI a3)] [] h (kont4 a1 a2 a3 h)) (a1 : Int32) (a3 : Int32)  (h : Hp) : J encI RX6 cX6_isTaken 4 (some .boolean) 2 56 [(0, aR 20 0), (1, aI a1), (3, aI a3)] [] h (f_X6_isTaken_b56 kont4 a1 a3 h) := by
  unfold f_X6_isTaken_b56
  refine j_iconst (v := (1 : Int32)) dX6_isTaken_56 (by decide) ?_
  refine j_goto (tgt := 61) dX6_isTaken_57 (by decide) ?_
  exact j_weak rfl (w_X6_isTaken_b61 _ hk4 _ _ _  _)
set_option maxRecDepth 20000 in
theorem w_X6_isTaken_b60 (kont4 : Int32 → Int32 → Int32 → Hp → Option (Int32 × Hp)) (hk4 : ∀ (a1 : Int32) (a2 : Int32) (a3 : Int32)  (h : Hp), J encI RX6 cX6_isTaken 4 (some .boolean) 2 4 [(0, aR 20 0), (1, aI a1), (2, aI a2), (3, aI a3)] [] h (kont4 a1 a2 a3 h)) (a1 : Int32) (a3 : Int32)  (h : Hp) : J encI RX6 cX6_isTaken 4 (some .boolean) 2 60 [(0, aR 20 0), (1, aI a1), (3, aI a3)] [] h (f_X6_isTaken_b60 kont4 a1 a3 h) := by
  unfold f_X6_isTaken_b60
  refine j_iconst (v := (0 : Int32)) dX6_isTaken_60 (by decide) ?_
  exact j_weak rfl (w_X6_isTaken_b61 _ hk4 _ _ _  _)
set_option maxRecDepth 20000 in
theorem w_X6_isTaken_b4  : ∀ (n : Nat) (a1 : Int32) (a2 : Int32) (a3 : Int32)  (h : Hp), J encI RX6 cX6_isTaken 4 (some .boolean) 2 4 [(0, aR 20 0), (1, aI a1), (2, aI a2), (3, aI a3)] [] h (f_X6_isTaken_b4  n a1 a2 a3 h) := by
  intro n
  induction n with
  | zero =>
    intros
    exact j_none
  | succ n hk4 =>
    intro a1 a2 a3  h
    show J encI RX6 cX6_isTaken 4 (some .boolean) 2 4 [(0, aR 20 0), (1, aI a1), (2, aI a2), (3, aI a3)] [] h (f_X6_isTaken_b4_body  (f_X6_isTaken_b4  n) a1 a2 a3 h)
    unfold f_X6_isTaken_b4_body
    refine j_iload_n dX6_isTaken_4 rfl ?_
    refine j_aload_n dX6_isTaken_5 rfl ?_
    refine jg_X6_129 z_20 dX6_isTaken_6 ?_
    refine j_icmp_ge (tgt := 68) dX6_isTaken_9 (by decide) (fun c1 => ?_) (fun c1 => ?_)
    · refine j_iload_n dX6_isTaken_68 rfl ?_
      exact j_gd (fun q2 => j_zret q2 dX6_isTaken_69)
    · refine j_iload_n dX6_isTaken_12 rfl ?_
      refine j_if_ne (tgt := 56) dX6_isTaken_13 (by decide) (fun c3 => ?_) (fun c3 => ?_)
      · exact j_weak rfl (w_X6_isTaken_b56 _ hk4 _ _  _)
      · refine j_iload_n dX6_isTaken_16 rfl ?_
        refine j_iload_n dX6_isTaken_17 rfl ?_
        refine j_icmp_eq (tgt := 60) dX6_isTaken_18 (by decide) (fun c4 => ?_) (fun c4 => ?_)
        · exact j_weak rfl (w_X6_isTaken_b60 _ hk4 _ _  _)
        · refine j_aload_n dX6_isTaken_21 rfl ?_
          refine jg_X6_132 z_20 dX6_isTaken_22 ?_
          refine j_iload_n dX6_isTaken_25 rfl ?_
          refine jc_X6_150 (ct_X6_has _ _  _) (by decide) (Nat.le_of_ble_eq_true rfl) dX6_isTaken_26 (fun v5 h6 e7 => ?_)
          refine j_if_eq (tgt := 60) dX6_isTaken_29 (by decide) (fun c8 => ?_) (fun c8 => ?_)
          · exact j_weak rfl (w_X6_isTaken_b60 _ hk4 _ _  _)
          · refine j_aload_n dX6_isTaken_32 rfl ?_
            refine j_iload_n dX6_isTaken_33 rfl ?_
            refine j_iconst (v := (1 : Int32)) dX6_isTaken_34 (by decide) ?_
            refine jc_X6_89 (ct_X6_of _ _  _) (by decide) z_20 (Nat.le_of_ble_eq_true rfl) dX6_isTaken_35 (fun v9 h10 e11 => ?_)
            refine j_aload_n dX6_isTaken_38 rfl ?_
            refine j_iload_n dX6_isTaken_39 rfl ?_
            refine j_iconst (v := (1 : Int32)) dX6_isTaken_40 (by decide) ?_
            refine jc_X6_89 (ct_X6_of _ _  _) (by decide) z_20 (Nat.le_of_ble_eq_true rfl) dX6_isTaken_41 (fun v12 h13 e14 => ?_)
            refine j_icmp_ne (tgt := 60) dX6_isTaken_44 (by decide) (fun c15 => ?_) (fun c15 => ?_)
            · exact j_weak rfl (w_X6_isTaken_b60 _ hk4 _ _  _)
            · refine j_aload_n dX6_isTaken_47 rfl ?_
              refine j_iload_n dX6_isTaken_48 rfl ?_
              refine j_iload_n dX6_isTaken_49 rfl ?_
              refine jc_X6_110 (ct_X6_over _ _  _) (by decide) z_20 (Nat.le_of_ble_eq_true rfl) dX6_isTaken_50 (fun v16 h17 e18 => ?_)
              refine j_if_eq (tgt := 60) dX6_isTaken_53 (by decide) (fun c19 => ?_) (fun c19 => ?_)
              · exact j_weak rfl (w_X6_isTaken_b60 _ hk4 _ _  _)
              · exact j_weak rfl (w_X6_isTaken_b56 _ hk4 _ _  _)
set_option maxRecDepth 20000 in
theorem ct_X6_isTaken (a1 : Int32)  (h : Hp) : Ct encI yX6_isTaken cX6_isTaken 4 (some .boolean) 2 [aR 20 0, aI a1] h (f_X6_isTaken a1 h) := by
  refine ct_of [(0, aR 20 0), (1, aI a1)] (by decide) (fun _ => rfl) (fun _ => Nat.le_of_ble_eq_true rfl) ?_
  show J encI RX6 cX6_isTaken 4 (some .boolean) 2 0 [(0, aR 20 0), (1, aI a1)] [] h (f_X6_isTaken a1 h)
  unfold f_X6_isTaken
  refine j_iconst (v := (0 : Int32)) dX6_isTaken_0 (by decide) ?_
  refine j_istore_n dX6_isTaken_1 (by decide) ?_
  refine j_iconst (v := (0 : Int32)) dX6_isTaken_2 (by decide) ?_
  refine j_istore_n dX6_isTaken_3 (by decide) ?_
  exact j_weak rfl (w_X6_isTaken_b4  _ _ _ _  _)
set_option maxRecDepth 20000 in
theorem w_X6_mixWall_b28 (kont18 : Int32 → Hp → Option (Unit × Hp)) (hk18 : ∀ (a1 : Int32)  (h : Hp), J encU RX6 cX6_mixWall 3 none 2 18 [(0, aR 20 0), (1, aI a1)] [] h (kont18 a1 h)) : ∀ (n : Nat) (a1 : Int32) (a2 : Int32)  (h : Hp), J encU RX6 cX6_mixWall 3 none 2 28 [(0, aR 20 0), (1, aI a1), (2, aI a2)] [] h (f_X6_mixWall_b28 kont18 n a1 a2 h) := by
  intro n
  induction n with
  | zero =>
    intros
    exact j_none
  | succ n hk28 =>
    intro a1 a2  h
    show J encU RX6 cX6_mixWall 3 none 2 28 [(0, aR 20 0), (1, aI a1), (2, aI a2)] [] h (f_X6_mixWall_b28_body kont18 (f_X6_mixWall_b28 kont18 n) a1 a2 h)
    unfold f_X6_mixWall_b28_body
    refine j_iload_n dX6_mixWall_28 rfl ?_
    refine j_bipush (v := (8 : Int32)) dX6_mixWall_29 (by decide) ?_
    refine j_icmp_gt (tgt := 50) dX6_mixWall_31 (by decide) (fun c1 => ?_) (fun c1 => ?_)
    · refine j_iinc (v := (1 : Int32)) dX6_mixWall_50 rfl (by decide) (by decide) ?_
      refine j_goto (tgt := 18) dX6_mixWall_53 (by decide) ?_
      exact j_weak rfl (hk18 _  _)
    · refine j_aload_n dX6_mixWall_34 rfl ?_
      refine j_aload_n dX6_mixWall_35 rfl ?_
      refine j_iload_n dX6_mixWall_36 rfl ?_
      refine j_iload_n dX6_mixWall_37 rfl ?_
      refine jc_X6_156 (ct_X6_brickOf _ _  _) (by decide) z_20 (Nat.le_of_ble_eq_true rfl) dX6_mixWall_38 (fun v2 h3 e4 => ?_)
      refine jc_X6_232 (ct_X6_mix _  _) (by decide) z_20 (Nat.le_of_ble_eq_true rfl) dX6_mixWall_41 (fun v5 h6 e7 => ?_)
      refine j_iinc (v := (1 : Int32)) dX6_mixWall_44 rfl (by decide) (by decide) ?_
      refine j_goto (tgt := 28) dX6_mixWall_47 (by decide) ?_
      exact j_weak rfl (hk28 _ _  _)
set_option maxRecDepth 20000 in
theorem w_X6_mixWall_b117 (kont84 : Int32 → Hp → Option (Unit × Hp)) (hk84 : ∀ (a1 : Int32)  (h : Hp), J encU RX6 cX6_mixWall 3 none 2 84 [(0, aR 20 0), (1, aI a1)] [] h (kont84 a1 h)) (a1 : Int32) (s1 : Int32)  (h : Hp) : J encU RX6 cX6_mixWall 3 none 2 117 [(0, aR 20 0), (1, aI a1)] [aI s1, aR 20 0] h (f_X6_mixWall_b117 kont84 a1 s1 h) := by
  unfold f_X6_mixWall_b117
  refine jc_X6_232 (ct_X6_mix _  _) (by decide) z_20 (Nat.le_of_ble_eq_true rfl) dX6_mixWall_117 (fun v1 h2 e3 => ?_)
  refine j_iinc (v := (1 : Int32)) dX6_mixWall_120 rfl (by decide) (by decide) ?_
  refine j_goto (tgt := 84) dX6_mixWall_123 (by decide) ?_
  exact j_weak rfl (hk84 _  _)
set_option maxRecDepth 20000 in
theorem w_X6_mixWall_b84  : ∀ (n : Nat) (a1 : Int32)  (h : Hp), J encU RX6 cX6_mixWall 3 none 2 84 [(0, aR 20 0), (1, aI a1)] [] h (f_X6_mixWall_b84  n a1 h) := by
  intro n
  induction n with
  | zero =>
    intros
    exact j_none
  | succ n hk84 =>
    intro a1  h
    show J encU RX6 cX6_mixWall 3 none 2 84 [(0, aR 20 0), (1, aI a1)] [] h (f_X6_mixWall_b84_body  (f_X6_mixWall_b84  n) a1 h)
    unfold f_X6_mixWall_b84_body
    refine j_iload_n dX6_mixWall_84 rfl ?_
    refine j_iconst (v := (3 : Int32)) dX6_mixWall_85 (by decide) ?_
    refine j_icmp_ge (tgt := 126) dX6_mixWall_86 (by decide) (fun c1 => ?_) (fun c1 => ?_)
    · exact j_vret dX6_mixWall_126
    · refine j_aload_n dX6_mixWall_89 rfl ?_
      refine j_aload_n dX6_mixWall_90 rfl ?_
      refine jg_X6_38 z_20 dX6_mixWall_91 ?_
      refine j_bipush (v := (120 : Int32)) dX6_mixWall_94 (by decide) ?_
      refine j_iload_n dX6_mixWall_96 rfl ?_
      refine j_imul dX6_mixWall_97 ?_
      refine j_iald (ic_29 _) z_29 dX6_mixWall_98 (fun q2 => ?_)
      refine j_bipush (v := (-9 : Int32)) dX6_mixWall_99 (by decide) ?_
      refine j_icmp_ne (tgt := 108) dX6_mixWall_101 (by decide) (fun c3 => ?_) (fun c3 => ?_)
      · refine j_aload_n dX6_mixWall_108 rfl ?_
        refine jg_X6_38 z_20 dX6_mixWall_109 ?_
        refine j_bipush (v := (120 : Int32)) dX6_mixWall_112 (by decide) ?_
        refine j_iload_n dX6_mixWall_114 rfl ?_
        refine j_imul dX6_mixWall_115 ?_
        refine j_iald (ic_29 _) z_29 dX6_mixWall_116 (fun q4 => ?_)
        exact j_weak rfl (w_X6_mixWall_b117 _ hk84 _ _  _)
      · refine j_iconst (v := (-1 : Int32)) dX6_mixWall_104 (by decide) ?_
        refine j_goto (tgt := 117) dX6_mixWall_105 (by decide) ?_
        exact j_weak rfl (w_X6_mixWall_b117 _ hk84 _ _  _)
set_option maxRecDepth 20000 in
theorem w_X6_mixWall_b58  : ∀ (n : Nat) (a1 : Int32)  (h : Hp), J encU RX6 cX6_mixWall 3 none 2 58 [(0, aR 20 0), (1, aI a1)] [] h (f_X6_mixWall_b58  n a1 h) := by
  intro n
  induction n with
  | zero =>
    intros
    exact j_none
  | succ n hk58 =>
    intro a1  h
    show J encU RX6 cX6_mixWall 3 none 2 58 [(0, aR 20 0), (1, aI a1)] [] h (f_X6_mixWall_b58_body  (f_X6_mixWall_b58  n) a1 h)
    unfold f_X6_mixWall_b58_body
    refine j_iload_n dX6_mixWall_58 rfl ?_
    refine j_aload_n dX6_mixWall_59 rfl ?_
    refine jg_X6_147 z_20 dX6_mixWall_60 ?_
    refine j_icmp_ge (tgt := 82) dX6_mixWall_63 (by decide) (fun c1 => ?_) (fun c1 => ?_)
    · refine j_iconst (v := (0 : Int32)) dX6_mixWall_82 (by decide) ?_
      refine j_istore_n dX6_mixWall_83 (by decide) ?_
      exact j_weak rfl (w_X6_mixWall_b84  _ _  _)
    · refine j_aload_n dX6_mixWall_66 rfl ?_
      refine j_aload_n dX6_mixWall_67 rfl ?_
      refine jg_X6_35 z_20 dX6_mixWall_68 ?_
      refine j_iload_n dX6_mixWall_71 rfl ?_
      refine j_iald (ic_28 _) z_28 dX6_mixWall_72 (fun q2 => ?_)
      refine jc_X6_232 (ct_X6_mix _  _) (by decide) z_20 (Nat.le_of_ble_eq_true rfl) dX6_mixWall_73 (fun v3 h4 e5 => ?_)
      refine j_iinc (v := (1 : Int32)) dX6_mixWall_76 rfl (by decide) (by decide) ?_
      refine j_goto (tgt := 58) dX6_mixWall_79 (by decide) ?_
      exact j_weak rfl (hk58 _  _)
set_option maxRecDepth 20000 in
theorem w_X6_mixWall_b18  : ∀ (n : Nat) (a1 : Int32)  (h : Hp), J encU RX6 cX6_mixWall 3 none 2 18 [(0, aR 20 0), (1, aI a1)] [] h (f_X6_mixWall_b18  n a1 h) := by
  intro n
  induction n with
  | zero =>
    intros
    exact j_none
  | succ n hk18 =>
    intro a1  h
    show J encU RX6 cX6_mixWall 3 none 2 18 [(0, aR 20 0), (1, aI a1)] [] h (f_X6_mixWall_b18_body  (f_X6_mixWall_b18  n) a1 h)
    unfold f_X6_mixWall_b18_body
    refine j_iload_n dX6_mixWall_18 rfl ?_
    refine j_aload_n dX6_mixWall_19 rfl ?_
    refine jg_X6_129 z_20 dX6_mixWall_20 ?_
    refine j_icmp_ge (tgt := 56) dX6_mixWall_23 (by decide) (fun c1 => ?_) (fun c1 => ?_)
    · refine j_iconst (v := (0 : Int32)) dX6_mixWall_56 (by decide) ?_
      refine j_istore_n dX6_mixWall_57 (by decide) ?_
      exact j_weak rfl (w_X6_mixWall_b58  _ _  _)
    · refine j_iconst (v := (0 : Int32)) dX6_mixWall_26 (by decide) ?_
      refine j_istore_n dX6_mixWall_27 (by decide) ?_
      exact j_weak rfl (w_X6_mixWall_b28 _ hk18 _ _ _  _)
set_option maxRecDepth 20000 in
theorem ct_X6_mixWall   (h : Hp) : Ct encU yX6_mixWall cX6_mixWall 3 none 2 [aR 20 0] h (f_X6_mixWall  h) := by
  refine ct_of [(0, aR 20 0)] (by decide) (fun _ => rfl) (fun _ => Nat.le_of_ble_eq_true rfl) ?_
  show J encU RX6 cX6_mixWall 3 none 2 0 [(0, aR 20 0)] [] h (f_X6_mixWall  h)
  unfold f_X6_mixWall
  refine j_aload_n dX6_mixWall_0 rfl ?_
  refine j_aload_n dX6_mixWall_1 rfl ?_
  refine jg_X6_126 z_20 dX6_mixWall_2 ?_
  refine jc_X6_232 (ct_X6_mix _  _) (by decide) z_20 (Nat.le_of_ble_eq_true rfl) dX6_mixWall_5 (fun v1 h2 e3 => ?_)
  refine j_aload_n dX6_mixWall_8 rfl ?_
  refine j_aload_n dX6_mixWall_9 rfl ?_
  refine jg_X6_141 z_20 dX6_mixWall_10 ?_
  refine jc_X6_232 (ct_X6_mix _  _) (by decide) z_20 (Nat.le_of_ble_eq_true rfl) dX6_mixWall_13 (fun v4 h5 e6 => ?_)
  refine j_iconst (v := (0 : Int32)) dX6_mixWall_16 (by decide) ?_
  refine j_istore_n dX6_mixWall_17 (by decide) ?_
  exact j_weak rfl (w_X6_mixWall_b18  _ _  _)
set_option maxRecDepth 20000 in
theorem ct_X6_owes (a1 : Int32) (a2 : Int32)  (h : Hp) : Ct encI yX6_owes cX6_owes 3 (some .int) 2 [aR 20 0, aI a1, aI a2] h (f_X6_owes a1 a2 h) := by
  refine ct_of [(0, aR 20 0), (1, aI a1), (2, aI a2)] (by decide) (fun _ => rfl) (fun _ => Nat.le_of_ble_eq_true rfl) ?_
  show J encI RX6 cX6_owes 3 (some .int) 2 0 [(0, aR 20 0), (1, aI a1), (2, aI a2)] [] h (f_X6_owes a1 a2 h)
  unfold f_X6_owes
  refine j_iload_n dX6_owes_0 rfl ?_
  refine jc_X6_180 (ct_X6_isOne _  _) (by decide) (Nat.le_of_ble_eq_true rfl) dX6_owes_1 (fun v1 h2 e3 => ?_)
  refine j_if_eq (tgt := 35) dX6_owes_4 (by decide) (fun c4 => ?_) (fun c4 => ?_)
  · refine j_iconst (v := (-1 : Int32)) dX6_owes_35 (by decide) ?_
    exact j_iret dX6_owes_36
  · refine j_iload_n dX6_owes_7 rfl ?_
    refine jc_X6_180 (ct_X6_isOne _  _) (by decide) (Nat.le_of_ble_eq_true rfl) dX6_owes_8 (fun v5 h6 e7 => ?_)
    refine j_if_eq (tgt := 35) dX6_owes_11 (by decide) (fun c8 => ?_) (fun c8 => ?_)
    · refine j_iconst (v := (-1 : Int32)) dX6_owes_35 (by decide) ?_
      exact j_iret dX6_owes_36
    · refine j_iload_n dX6_owes_14 rfl ?_
      refine j_iload_n dX6_owes_15 rfl ?_
      refine j_icmp_eq (tgt := 35) dX6_owes_16 (by decide) (fun c9 => ?_) (fun c9 => ?_)
      · refine j_iconst (v := (-1 : Int32)) dX6_owes_35 (by decide) ?_
        exact j_iret dX6_owes_36
      · refine j_aload_n dX6_owes_19 rfl ?_
        refine j_iload_n dX6_owes_20 rfl ?_
        refine j_iload_n dX6_owes_21 rfl ?_
        refine jc_X6_210 (ct_X6_owed _ _  _) (by decide) z_20 (Nat.le_of_ble_eq_true rfl) dX6_owes_22 (fun v10 h11 e12 => ?_)
        refine j_aload_n dX6_owes_25 rfl ?_
        refine j_iload_n dX6_owes_26 rfl ?_
        refine j_iload_n dX6_owes_27 rfl ?_
        refine jc_X6_210 (ct_X6_owed _ _  _) (by decide) z_20 (Nat.le_of_ble_eq_true rfl) dX6_owes_28 (fun v13 h14 e15 => ?_)
        refine j_isub dX6_owes_31 ?_
        refine j_goto (tgt := 36) dX6_owes_32 (by decide) ?_
        exact j_iret dX6_owes_36
set_option maxRecDepth 20000 in
theorem w_X6_readsBrick_b168 (kont134 : Int32 → Int32 → Int32 → Int32 → Hp → Option (Int32 × Hp)) (hk134 : ∀ (a1 : Int32) (a2 : Int32) (a3 : Int32) (a5 : Int32)  (h : Hp), J encI RX6 cX6_readsBrick 6 (some .boolean) 2 134 [(0, aR 20 0), (1, aI a1), (2, aI a2), (3, aI a3), (5, aI a5)] [] h (kont134 a1 a2 a3 a5 h)) (a1 : Int32) (a2 : Int32) (a3 : Int32) (a5 : Int32)  (h : Hp) : J encI RX6 cX6_readsBrick 6 (some .boolean) 2 168 [(0, aR 20 0), (1, aI a1), (2, aI a2), (3, aI a3), (5, aI a5)] [] h (f_X6_readsBrick_b168 kont134 a1 a2 a3 a5 h) := by
  unfold f_X6_readsBrick_b168
  refine j_iinc (v := (1 : Int32)) dX6_readsBrick_168 rfl (by decide) (by decide) ?_
  refine j_goto (tgt := 134) dX6_readsBrick_171 (by decide) ?_
  exact j_weak rfl (hk134 _ _ _ _  _)
set_option maxRecDepth 20000 in
theorem w_X6_readsBrick_b216 (kont204 : Int32 → Int32 → Int32 → Int32 → Hp → Option (Int32 × Hp)) (hk204 : ∀ (a1 : Int32) (a2 : Int32) (a3 : Int32) (a5 : Int32)  (h : Hp), J encI RX6 cX6_readsBrick 6 (some .boolean) 2 204 [(0, aR 20 0), (1, aI a1), (2, aI a2), (3, aI a3), (5, aI a5)] [] h (kont204 a1 a2 a3 a5 h)) (a1 : Int32) (a2 : Int32) (a3 : Int32) (a5 : Int32) (s0 : Int32) (s1 : Int32)  (h : Hp) : J encI RX6 cX6_readsBrick 6 (some .boolean) 2 216 [(0, aR 20 0), (1, aI a1), (2, aI a2), (3, aI a3), (5, aI a5)] [aI s1, aI s0] h (f_X6_readsBrick_b216 kont204 a1 a2 a3 a5 s0 s1 h) := by
  unfold f_X6_readsBrick_b216
  refine j_icmp_ge (tgt := 238) dX6_readsBrick_216 (by decide) (fun c1 => ?_) (fun c1 => ?_)
  · refine j_aload_n dX6_readsBrick_238 rfl ?_
    refine j_dup dX6_readsBrick_239 rfl ?_
    refine jg_X6_107 z_20 dX6_readsBrick_240 ?_
    refine j_iconst (v := (1 : Int32)) dX6_readsBrick_243 (by decide) ?_
    refine j_iadd dX6_readsBrick_244 ?_
    refine jp_X6_107 z_20 dX6_readsBrick_245 ?_
    refine j_iconst (v := (1 : Int32)) dX6_readsBrick_248 (by decide) ?_
    exact j_zret (Or.inr rfl) dX6_readsBrick_249
  · refine j_aload_n dX6_readsBrick_219 rfl ?_
    refine j_iload_n dX6_readsBrick_220 rfl ?_
    refine j_iload_n dX6_readsBrick_221 rfl ?_
    refine j_iload dX6_readsBrick_222 rfl ?_
    refine jc_X6_114 (ct_X6_readsMark _ _ _  _) (by decide) z_20 (Nat.le_of_ble_eq_true rfl) dX6_readsBrick_224 (fun v2 h3 e4 => ?_)
    refine j_if_ne (tgt := 232) dX6_readsBrick_227 (by decide) (fun c5 => ?_) (fun c5 => ?_)
    · refine j_iinc (v := (1 : Int32)) dX6_readsBrick_232 rfl (by decide) (by decide) ?_
      refine j_goto (tgt := 204) dX6_readsBrick_235 (by decide) ?_
      exact j_weak rfl (hk204 _ _ _ _  _)
    · refine j_iconst (v := (0 : Int32)) dX6_readsBrick_230 (by decide) ?_
      exact j_zret (Or.inl rfl) dX6_readsBrick_231
set_option maxRecDepth 20000 in
theorem w_X6_readsBrick_b204  : ∀ (n : Nat) (a1 : Int32) (a2 : Int32) (a3 : Int32) (a5 : Int32)  (h : Hp), J encI RX6 cX6_readsBrick 6 (some .boolean) 2 204 [(0, aR 20 0), (1, aI a1), (2, aI a2), (3, aI a3), (5, aI a5)] [] h (f_X6_readsBrick_b204  n a1 a2 a3 a5 h) := by
  intro n
  induction n with
  | zero =>
    intros
    exact j_none
  | succ n hk204 =>
    intro a1 a2 a3 a5  h
    show J encI RX6 cX6_readsBrick 6 (some .boolean) 2 204 [(0, aR 20 0), (1, aI a1), (2, aI a2), (3, aI a3), (5, aI a5)] [] h (f_X6_readsBrick_b204_body  (f_X6_readsBrick_b204  n) a1 a2 a3 a5 h)
    unfold f_X6_readsBrick_b204_body
    refine j_iload dX6_readsBrick_204 rfl ?_
    refine j_iload_n dX6_readsBrick_206 rfl ?_
    refine j_iconst (v := (3 : Int32)) dX6_readsBrick_207 (by decide) ?_
    refine j_icmp_ne (tgt := 215) dX6_readsBrick_208 (by decide) (fun c1 => ?_) (fun c1 => ?_)
    · refine j_iconst (v := (2 : Int32)) dX6_readsBrick_215 (by decide) ?_
      exact j_weak rfl (w_X6_readsBrick_b216 _ hk204 _ _ _ _ _ _  _)
    · refine j_iconst (v := (3 : Int32)) dX6_readsBrick_211 (by decide) ?_
      refine j_goto (tgt := 216) dX6_readsBrick_212 (by decide) ?_
      exact j_weak rfl (w_X6_readsBrick_b216 _ hk204 _ _ _ _ _ _  _)
set_option maxRecDepth 20000 in
theorem w_X6_readsBrick_b134  : ∀ (n : Nat) (a1 : Int32) (a2 : Int32) (a3 : Int32) (a5 : Int32)  (h : Hp), J encI RX6 cX6_readsBrick 6 (some .boolean) 2 134 [(0, aR 20 0), (1, aI a1), (2, aI a2), (3, aI a3), (5, aI a5)] [] h (f_X6_readsBrick_b134  n a1 a2 a3 a5 h) := by
  intro n
  induction n with
  | zero =>
    intros
    exact j_none
  | succ n hk134 =>
    intro a1 a2 a3 a5  h
    show J encI RX6 cX6_readsBrick 6 (some .boolean) 2 134 [(0, aR 20 0), (1, aI a1), (2, aI a2), (3, aI a3), (5, aI a5)] [] h (f_X6_readsBrick_b134_body  (f_X6_readsBrick_b134  n) a1 a2 a3 a5 h)
    unfold f_X6_readsBrick_b134_body
    refine j_iload dX6_readsBrick_134 rfl ?_
    refine j_iload_n dX6_readsBrick_136 rfl ?_
    refine j_icmp_ge (tgt := 174) dX6_readsBrick_137 (by decide) (fun c1 => ?_) (fun c1 => ?_)
    · refine j_aload_n dX6_readsBrick_174 rfl ?_
      refine j_dup dX6_readsBrick_175 rfl ?_
      refine jg_X6_86 z_20 dX6_readsBrick_176 ?_
      refine j_iconst (v := (1 : Int32)) dX6_readsBrick_179 (by decide) ?_
      refine j_iadd dX6_readsBrick_180 ?_
      refine jp_X6_86 z_20 dX6_readsBrick_181 ?_
      refine j_aload_n dX6_readsBrick_184 rfl ?_
      refine j_iload_n dX6_readsBrick_185 rfl ?_
      refine j_iconst (v := (5 : Int32)) dX6_readsBrick_186 (by decide) ?_
      refine j_bipush (v := (-9 : Int32)) dX6_readsBrick_187 (by decide) ?_
      refine jc_X6_101 (ct_X6_write _ _ _  _) (by decide) z_20 (Nat.le_of_ble_eq_true rfl) dX6_readsBrick_189 (fun v2 h3 e4 => ?_)
      refine j_aload_n dX6_readsBrick_192 rfl ?_
      refine j_iload_n dX6_readsBrick_193 rfl ?_
      refine j_bipush (v := (6 : Int32)) dX6_readsBrick_194 (by decide) ?_
      refine j_bipush (v := (-9 : Int32)) dX6_readsBrick_196 (by decide) ?_
      refine jc_X6_101 (ct_X6_write _ _ _  _) (by decide) z_20 (Nat.le_of_ble_eq_true rfl) dX6_readsBrick_198 (fun v5 h6 e7 => ?_)
      refine j_iconst (v := (0 : Int32)) dX6_readsBrick_201 (by decide) ?_
      refine j_istore dX6_readsBrick_202 (by decide) ?_
      exact j_weak rfl (w_X6_readsBrick_b204  _ _ _ _ _  _)
    · refine j_aload_n dX6_readsBrick_140 rfl ?_
      refine j_iload dX6_readsBrick_141 rfl ?_
      refine j_iconst (v := (1 : Int32)) dX6_readsBrick_143 (by decide) ?_
      refine jc_X6_89 (ct_X6_of _ _  _) (by decide) z_20 (Nat.le_of_ble_eq_true rfl) dX6_readsBrick_144 (fun v8 h9 e10 => ?_)
      refine j_aload_n dX6_readsBrick_147 rfl ?_
      refine j_iload_n dX6_readsBrick_148 rfl ?_
      refine j_iconst (v := (1 : Int32)) dX6_readsBrick_149 (by decide) ?_
      refine jc_X6_89 (ct_X6_of _ _  _) (by decide) z_20 (Nat.le_of_ble_eq_true rfl) dX6_readsBrick_150 (fun v11 h12 e13 => ?_)
      refine j_icmp_ne (tgt := 168) dX6_readsBrick_153 (by decide) (fun c14 => ?_) (fun c14 => ?_)
      · exact j_weak rfl (w_X6_readsBrick_b168 _ hk134 _ _ _ _  _)
      · refine j_aload_n dX6_readsBrick_156 rfl ?_
        refine j_iload dX6_readsBrick_157 rfl ?_
        refine j_iload_n dX6_readsBrick_159 rfl ?_
        refine jc_X6_110 (ct_X6_over _ _  _) (by decide) z_20 (Nat.le_of_ble_eq_true rfl) dX6_readsBrick_160 (fun v15 h16 e17 => ?_)
        refine j_if_eq (tgt := 168) dX6_readsBrick_163 (by decide) (fun c18 => ?_) (fun c18 => ?_)
        · exact j_weak rfl (w_X6_readsBrick_b168 _ hk134 _ _ _ _  _)
        · refine j_iconst (v := (0 : Int32)) dX6_readsBrick_166 (by decide) ?_
          exact j_zret (Or.inl rfl) dX6_readsBrick_167
set_option maxRecDepth 20000 in
theorem ct_X6_readsBrick (a1 : Int32)  (h : Hp) : Ct encI yX6_readsBrick cX6_readsBrick 6 (some .boolean) 2 [aR 20 0, aI a1] h (f_X6_readsBrick a1 h) := by
  refine ct_of [(0, aR 20 0), (1, aI a1)] (by decide) (fun _ => rfl) (fun _ => Nat.le_of_ble_eq_true rfl) ?_
  show J encI RX6 cX6_readsBrick 6 (some .boolean) 2 0 [(0, aR 20 0), (1, aI a1)] [] h (f_X6_readsBrick a1 h)
  unfold f_X6_readsBrick
  refine j_aload_n dX6_readsBrick_0 rfl ?_
  refine j_iload_n dX6_readsBrick_1 rfl ?_
  refine jc_X6_95 (ct_X6_here _  _) (by decide) z_20 (Nat.le_of_ble_eq_true rfl) dX6_readsBrick_2 (fun v1 h2 e3 => ?_)
  refine jc_X6_104 (ct_X6_kindOf _  _) (by decide) (Nat.le_of_ble_eq_true rfl) dX6_readsBrick_5 (fun v4 h5 e6 => ?_)
  refine j_istore_n dX6_readsBrick_8 (by decide) ?_
  refine j_iload_n dX6_readsBrick_9 rfl ?_
  refine j_bipush (v := (-9 : Int32)) dX6_readsBrick_10 (by decide) ?_
  refine j_icmp_eq (tgt := 24) dX6_readsBrick_12 (by decide) (fun c7 => ?_) (fun c7 => ?_)
  · refine j_iconst (v := (0 : Int32)) dX6_readsBrick_24 (by decide) ?_
    exact j_zret (Or.inl rfl) dX6_readsBrick_25
  · refine j_aload_n dX6_readsBrick_15 rfl ?_
    refine jg_X6_107 z_20 dX6_readsBrick_16 ?_
    refine j_bipush (v := (14 : Int32)) dX6_readsBrick_19 (by decide) ?_
    refine j_icmp_ne (tgt := 26) dX6_readsBrick_21 (by decide) (fun c8 => ?_) (fun c8 => ?_)
    · refine j_aload_n dX6_readsBrick_26 rfl ?_
      refine j_dup dX6_readsBrick_27 rfl ?_
      refine jg_X6_86 z_20 dX6_readsBrick_28 ?_
      refine j_iconst (v := (1 : Int32)) dX6_readsBrick_31 (by decide) ?_
      refine j_iadd dX6_readsBrick_32 ?_
      refine jp_X6_86 z_20 dX6_readsBrick_33 ?_
      refine j_bipush (v := (14 : Int32)) dX6_readsBrick_36 (by decide) ?_
      refine j_aload_n dX6_readsBrick_38 rfl ?_
      refine jg_X6_107 z_20 dX6_readsBrick_39 ?_
      refine j_iadd dX6_readsBrick_42 ?_
      refine j_istore_n dX6_readsBrick_43 (by decide) ?_
      refine j_aload_n dX6_readsBrick_44 rfl ?_
      refine j_iload_n dX6_readsBrick_45 rfl ?_
      refine j_iconst (v := (0 : Int32)) dX6_readsBrick_46 (by decide) ?_
      refine j_iload_n dX6_readsBrick_47 rfl ?_
      refine jc_X6_101 (ct_X6_write _ _ _  _) (by decide) z_20 (Nat.le_of_ble_eq_true rfl) dX6_readsBrick_48 (fun v9 h10 e11 => ?_)
      refine j_aload_n dX6_readsBrick_51 rfl ?_
      refine j_iload_n dX6_readsBrick_52 rfl ?_
      refine jc_X6_95 (ct_X6_here _  _) (by decide) z_20 (Nat.le_of_ble_eq_true rfl) dX6_readsBrick_53 (fun v12 h13 e14 => ?_)
      refine j_bipush (v := (48 : Int32)) dX6_readsBrick_56 (by decide) ?_
      refine j_bipush (v := (53 : Int32)) dX6_readsBrick_58 (by decide) ?_
      refine jc_X6_51 (ct_X6_in _ _ _  _) (by decide) (Nat.le_of_ble_eq_true rfl) dX6_readsBrick_60 (fun v15 h16 e17 => ?_)
      refine j_if_ne (tgt := 68) dX6_readsBrick_63 (by decide) (fun c18 => ?_) (fun c18 => ?_)
      · refine j_aload_n dX6_readsBrick_68 rfl ?_
        refine j_iload_n dX6_readsBrick_69 rfl ?_
        refine j_iconst (v := (1 : Int32)) dX6_readsBrick_70 (by decide) ?_
        refine j_aload_n dX6_readsBrick_71 rfl ?_
        refine j_iload_n dX6_readsBrick_72 rfl ?_
        refine jc_X6_95 (ct_X6_here _  _) (by decide) z_20 (Nat.le_of_ble_eq_true rfl) dX6_readsBrick_73 (fun v19 h20 e21 => ?_)
        refine j_bipush (v := (48 : Int32)) dX6_readsBrick_76 (by decide) ?_
        refine j_isub dX6_readsBrick_78 ?_
        refine jc_X6_101 (ct_X6_write _ _ _  _) (by decide) z_20 (Nat.le_of_ble_eq_true rfl) dX6_readsBrick_79 (fun v22 h23 e24 => ?_)
        refine j_aload_n dX6_readsBrick_82 rfl ?_
        refine j_dup dX6_readsBrick_83 rfl ?_
        refine jg_X6_86 z_20 dX6_readsBrick_84 ?_
        refine j_iconst (v := (1 : Int32)) dX6_readsBrick_87 (by decide) ?_
        refine j_iadd dX6_readsBrick_88 ?_
        refine jp_X6_86 z_20 dX6_readsBrick_89 ?_
        refine j_aload_n dX6_readsBrick_92 rfl ?_
        refine j_iload_n dX6_readsBrick_93 rfl ?_
        refine jc_X6_95 (ct_X6_here _  _) (by decide) z_20 (Nat.le_of_ble_eq_true rfl) dX6_readsBrick_94 (fun v25 h26 e27 => ?_)
        refine j_bipush (v := (48 : Int32)) dX6_readsBrick_97 (by decide) ?_
        refine j_isub dX6_readsBrick_99 ?_
        refine j_istore dX6_readsBrick_100 (by decide) ?_
        refine j_iload dX6_readsBrick_102 rfl ?_
        refine j_iconst (v := (0 : Int32)) dX6_readsBrick_104 (by decide) ?_
        refine j_aload_n dX6_readsBrick_105 rfl ?_
        refine jg_X6_98 z_20 dX6_readsBrick_106 ?_
        refine j_iload_n dX6_readsBrick_109 rfl ?_
        refine jc_X6_92 (ct_X6_widthOf _  _) (by decide) (Nat.le_of_ble_eq_true rfl) dX6_readsBrick_110 (fun v28 h29 e30 => ?_)
        refine j_isub dX6_readsBrick_113 ?_
        refine jc_X6_51 (ct_X6_in _ _ _  _) (by decide) (Nat.le_of_ble_eq_true rfl) dX6_readsBrick_114 (fun v31 h32 e33 => ?_)
        refine j_if_ne (tgt := 122) dX6_readsBrick_117 (by decide) (fun c34 => ?_) (fun c34 => ?_)
        · refine j_aload_n dX6_readsBrick_122 rfl ?_
          refine j_iload_n dX6_readsBrick_123 rfl ?_
          refine j_iconst (v := (2 : Int32)) dX6_readsBrick_124 (by decide) ?_
          refine j_iload dX6_readsBrick_125 rfl ?_
          refine jc_X6_101 (ct_X6_write _ _ _  _) (by decide) z_20 (Nat.le_of_ble_eq_true rfl) dX6_readsBrick_127 (fun v35 h36 e37 => ?_)
          refine j_bipush (v := (14 : Int32)) dX6_readsBrick_130 (by decide) ?_
          refine j_istore dX6_readsBrick_132 (by decide) ?_
          exact j_weak rfl (w_X6_readsBrick_b134  _ _ _ _ _  _)
        · refine j_iconst (v := (0 : Int32)) dX6_readsBrick_120 (by decide) ?_
          exact j_zret (Or.inl rfl) dX6_readsBrick_121
      · refine j_iconst (v := (0 : Int32)) dX6_readsBrick_66 (by decide) ?_
        exact j_zret (Or.inl rfl) dX6_readsBrick_67
    · refine j_iconst (v := (0 : Int32)) dX6_readsBrick_24 (by decide) ?_
      exact j_zret (Or.inl rfl) dX6_readsBrick_25
set_option maxRecDepth 20000 in
theorem w_X6_rich_b54 (kont8 : Int32 → Int32 → Int32 → Hp → Option (Int32 × Hp)) (hk8 : ∀ (a1 : Int32) (a2 : Int32) (a3 : Int32)  (h : Hp), J encI RX6 cX6_rich 6 (some .int) 2 8 [(0, aR 20 0), (1, aI a1), (2, aI a2), (3, aI a3)] [] h (kont8 a1 a2 a3 h)) (kont20 : Int32 → Int32 → Int32 → Int32 → Int32 → Hp → Option (Int32 × Hp)) (hk20 : ∀ (a1 : Int32) (a2 : Int32) (a3 : Int32) (a4 : Int32) (a5 : Int32)  (h : Hp), J encI RX6 cX6_rich 6 (some .int) 2 20 [(0, aR 20 0), (1, aI a1), (2, aI a2), (3, aI a3), (4, aI a4), (5, aI a5)] [] h (kont20 a1 a2 a3 a4 a5 h)) (a1 : Int32) (a2 : Int32) (a3 : Int32) (a5 : Int32) (s0 : Int32) (s1 : Int32)  (h : Hp) : J encI RX6 cX6_rich 6 (some .int) 2 54 [(0, aR 20 0), (1, aI a1), (2, aI a2), (3, aI a3), (5, aI a5)] [aI s1, aI s0] h (f_X6_rich_b54 kont8 kont20 a1 a2 a3 a5 s0 s1 h) := by
  unfold f_X6_rich_b54
  refine j_iadd dX6_rich_54 ?_
  refine j_istore dX6_rich_55 (by decide) ?_
  refine j_iinc (v := (1 : Int32)) dX6_rich_57 rfl (by decide) (by decide) ?_
  refine j_goto (tgt := 20) dX6_rich_60 (by decide) ?_
  exact j_weak rfl (hk20 _ _ _ _ _  _)
set_option maxRecDepth 20000 in
theorem w_X6_rich_b87 (kont8 : Int32 → Int32 → Int32 → Hp → Option (Int32 × Hp)) (hk8 : ∀ (a1 : Int32) (a2 : Int32) (a3 : Int32)  (h : Hp), J encI RX6 cX6_rich 6 (some .int) 2 8 [(0, aR 20 0), (1, aI a1), (2, aI a2), (3, aI a3)] [] h (kont8 a1 a2 a3 h)) (a1 : Int32) (a3 : Int32) (s0 : Int32)  (h : Hp) : J encI RX6 cX6_rich 6 (some .int) 2 87 [(0, aR 20 0), (1, aI a1), (3, aI a3)] [aI s0] h (f_X6_rich_b87 kont8 a1 a3 s0 h) := by
  unfold f_X6_rich_b87
  refine j_istore_n dX6_rich_87 (by decide) ?_
  refine j_iinc (v := (1 : Int32)) dX6_rich_88 rfl (by decide) (by decide) ?_
  refine j_goto (tgt := 8) dX6_rich_91 (by decide) ?_
  exact j_weak rfl (hk8 _ _ _  _)
set_option maxRecDepth 20000 in
theorem w_X6_rich_b74 (kont8 : Int32 → Int32 → Int32 → Hp → Option (Int32 × Hp)) (hk8 : ∀ (a1 : Int32) (a2 : Int32) (a3 : Int32)  (h : Hp), J encI RX6 cX6_rich 6 (some .int) 2 8 [(0, aR 20 0), (1, aI a1), (2, aI a2), (3, aI a3)] [] h (kont8 a1 a2 a3 h)) (a2 : Int32) (a3 : Int32) (a4 : Int32) (s0 : Int32)  (h : Hp) : J encI RX6 cX6_rich 6 (some .int) 2 74 [(0, aR 20 0), (2, aI a2), (3, aI a3), (4, aI a4)] [aI s0] h (f_X6_rich_b74 kont8 a2 a3 a4 s0 h) := by
  unfold f_X6_rich_b74
  refine j_istore_n dX6_rich_74 (by decide) ?_
  refine j_iload dX6_rich_75 rfl ?_
  refine j_iload_n dX6_rich_77 rfl ?_
  refine j_icmp_le (tgt := 86) dX6_rich_78 (by decide) (fun c1 => ?_) (fun c1 => ?_)
  · refine j_iload_n dX6_rich_86 rfl ?_
    exact j_weak rfl (w_X6_rich_b87 _ hk8 _ _ _  _)
  · refine j_iload dX6_rich_81 rfl ?_
    refine j_goto (tgt := 87) dX6_rich_83 (by decide) ?_
    exact j_weak rfl (w_X6_rich_b87 _ hk8 _ _ _  _)
set_option maxRecDepth 20000 in
theorem w_X6_rich_b20 (kont8 : Int32 → Int32 → Int32 → Hp → Option (Int32 × Hp)) (hk8 : ∀ (a1 : Int32) (a2 : Int32) (a3 : Int32)  (h : Hp), J encI RX6 cX6_rich 6 (some .int) 2 8 [(0, aR 20 0), (1, aI a1), (2, aI a2), (3, aI a3)] [] h (kont8 a1 a2 a3 h)) : ∀ (n : Nat) (a1 : Int32) (a2 : Int32) (a3 : Int32) (a4 : Int32) (a5 : Int32)  (h : Hp), J encI RX6 cX6_rich 6 (some .int) 2 20 [(0, aR 20 0), (1, aI a1), (2, aI a2), (3, aI a3), (4, aI a4), (5, aI a5)] [] h (f_X6_rich_b20 kont8 n a1 a2 a3 a4 a5 h) := by
  intro n
  induction n with
  | zero =>
    intros
    exact j_none
  | succ n hk20 =>
    intro a1 a2 a3 a4 a5  h
    show J encI RX6 cX6_rich 6 (some .int) 2 20 [(0, aR 20 0), (1, aI a1), (2, aI a2), (3, aI a3), (4, aI a4), (5, aI a5)] [] h (f_X6_rich_b20_body kont8 (f_X6_rich_b20 kont8 n) a1 a2 a3 a4 a5 h)
    unfold f_X6_rich_b20_body
    refine j_iload dX6_rich_20 rfl ?_
    refine j_bipush (v := (6 : Int32)) dX6_rich_22 (by decide) ?_
    refine j_icmp_ge (tgt := 63) dX6_rich_24 (by decide) (fun c1 => ?_) (fun c1 => ?_)
    · refine j_iload dX6_rich_63 rfl ?_
      refine j_iload_n dX6_rich_65 rfl ?_
      refine j_icmp_le (tgt := 73) dX6_rich_66 (by decide) (fun c2 => ?_) (fun c2 => ?_)
      · refine j_iload_n dX6_rich_73 rfl ?_
        exact j_weak rfl (w_X6_rich_b74 _ hk8 _ _ _ _  _)
      · refine j_iload_n dX6_rich_69 rfl ?_
        refine j_goto (tgt := 74) dX6_rich_70 (by decide) ?_
        exact j_weak rfl (w_X6_rich_b74 _ hk8 _ _ _ _  _)
    · refine j_iload dX6_rich_27 rfl ?_
      refine j_iload dX6_rich_29 rfl ?_
      refine j_iload_n dX6_rich_31 rfl ?_
      refine j_icmp_ne (tgt := 39) dX6_rich_32 (by decide) (fun c3 => ?_) (fun c3 => ?_)
      · refine j_aload_n dX6_rich_39 rfl ?_
        refine j_iload dX6_rich_40 rfl ?_
        refine j_iload_n dX6_rich_42 rfl ?_
        refine jc_X6_210 (ct_X6_owed _ _  _) (by decide) z_20 (Nat.le_of_ble_eq_true rfl) dX6_rich_43 (fun v4 h5 e6 => ?_)
        refine j_aload_n dX6_rich_46 rfl ?_
        refine j_iload_n dX6_rich_47 rfl ?_
        refine j_iload dX6_rich_48 rfl ?_
        refine jc_X6_210 (ct_X6_owed _ _  _) (by decide) z_20 (Nat.le_of_ble_eq_true rfl) dX6_rich_50 (fun v7 h8 e9 => ?_)
        refine j_isub dX6_rich_53 ?_
        exact j_weak rfl (w_X6_rich_b54 _ hk8 _ hk20 _ _ _ _ _ _  _)
      · refine j_iconst (v := (0 : Int32)) dX6_rich_35 (by decide) ?_
        refine j_goto (tgt := 54) dX6_rich_36 (by decide) ?_
        exact j_weak rfl (w_X6_rich_b54 _ hk8 _ hk20 _ _ _ _ _ _  _)
set_option maxRecDepth 20000 in
theorem w_X6_rich_b8  : ∀ (n : Nat) (a1 : Int32) (a2 : Int32) (a3 : Int32)  (h : Hp), J encI RX6 cX6_rich 6 (some .int) 2 8 [(0, aR 20 0), (1, aI a1), (2, aI a2), (3, aI a3)] [] h (f_X6_rich_b8  n a1 a2 a3 h) := by
  intro n
  induction n with
  | zero =>
    intros
    exact j_none
  | succ n hk8 =>
    intro a1 a2 a3  h
    show J encI RX6 cX6_rich 6 (some .int) 2 8 [(0, aR 20 0), (1, aI a1), (2, aI a2), (3, aI a3)] [] h (f_X6_rich_b8_body  (f_X6_rich_b8  n) a1 a2 a3 h)
    unfold f_X6_rich_b8_body
    refine j_iload_n dX6_rich_8 rfl ?_
    refine j_bipush (v := (6 : Int32)) dX6_rich_9 (by decide) ?_
    refine j_icmp_ge (tgt := 94) dX6_rich_11 (by decide) (fun c1 => ?_) (fun c1 => ?_)
    · refine j_aload_n dX6_rich_94 rfl ?_
      refine j_iload_n dX6_rich_95 rfl ?_
      refine j_iload_n dX6_rich_96 rfl ?_
      refine jc_X6_77 (ct_X6_ask _ _  _) (by decide) z_20 (Nat.le_of_ble_eq_true rfl) dX6_rich_97 (fun v2 h3 e4 => ?_)
      exact j_iret dX6_rich_100
    · refine j_iconst (v := (0 : Int32)) dX6_rich_14 (by decide) ?_
      refine j_istore dX6_rich_15 (by decide) ?_
      refine j_iconst (v := (0 : Int32)) dX6_rich_17 (by decide) ?_
      refine j_istore dX6_rich_18 (by decide) ?_
      exact j_weak rfl (w_X6_rich_b20 _ hk8 _ _ _ _ _ _  _)
set_option maxRecDepth 20000 in
theorem ct_X6_rich   (h : Hp) : Ct encI yX6_rich cX6_rich 6 (some .int) 2 [aR 20 0] h (f_X6_rich  h) := by
  refine ct_of [(0, aR 20 0)] (by decide) (fun _ => rfl) (fun _ => Nat.le_of_ble_eq_true rfl) ?_
  show J encI RX6 cX6_rich 6 (some .int) 2 0 [(0, aR 20 0)] [] h (f_X6_rich  h)
  unfold f_X6_rich
  refine j_iconst (v := (0 : Int32)) dX6_rich_0 (by decide) ?_
  refine j_istore_n dX6_rich_1 (by decide) ?_
  refine j_sipush (v := (-1000 : Int32)) dX6_rich_2 (by decide) ?_
  refine j_istore_n dX6_rich_5 (by decide) ?_
  refine j_iconst (v := (0 : Int32)) dX6_rich_6 (by decide) ?_
  refine j_istore_n dX6_rich_7 (by decide) ?_
  exact j_weak rfl (w_X6_rich_b8  _ _ _ _  _)
set_option maxRecDepth 20000 in
theorem w_X6_row_b34  : ∀ (n : Nat) (a1 : Int32) (a2 : Int32) (a3 : Int32)  (h : Hp), J encI RX6 cX6_row 4 (some .int) 2 34 [(0, aR 20 0), (1, aI a1), (2, aI a2), (3, aI a3)] [] h (f_X6_row_b34  n a1 a2 a3 h) := by
  intro n
  induction n with
  | zero =>
    intros
    exact j_none
  | succ n hk34 =>
    intro a1 a2 a3  h
    show J encI RX6 cX6_row 4 (some .int) 2 34 [(0, aR 20 0), (1, aI a1), (2, aI a2), (3, aI a3)] [] h (f_X6_row_b34_body  (f_X6_row_b34  n) a1 a2 a3 h)
    unfold f_X6_row_b34_body
    refine j_iload_n dX6_row_34 rfl ?_
    refine j_bipush (v := (40 : Int32)) dX6_row_35 (by decide) ?_
    refine j_icmp_ge (tgt := 53) dX6_row_37 (by decide) (fun c1 => ?_) (fun c1 => ?_)
    · refine j_iload_n dX6_row_53 rfl ?_
      exact j_iret dX6_row_54
    · refine j_aload_n dX6_row_40 rfl ?_
      refine j_iload_n dX6_row_41 rfl ?_
      refine j_iload_n dX6_row_42 rfl ?_
      refine j_iconst (v := (0 : Int32)) dX6_row_43 (by decide) ?_
      refine jc_X6_66 (ct_X6_setRow _ _ _  _) (by decide) z_20 (Nat.le_of_ble_eq_true rfl) dX6_row_44 (fun v2 h3 e4 => ?_)
      refine j_iinc (v := (1 : Int32)) dX6_row_47 rfl (by decide) (by decide) ?_
      refine j_goto (tgt := 34) dX6_row_50 (by decide) ?_
      exact j_weak rfl (hk34 _ _ _  _)
set_option maxRecDepth 20000 in
theorem ct_X6_row (a1 : Int32) (a2 : Int32)  (h : Hp) : Ct encI yX6_row cX6_row 4 (some .int) 2 [aR 20 0, aI a1, aI a2] h (f_X6_row a1 a2 h) := by
  refine ct_of [(0, aR 20 0), (1, aI a1), (2, aI a2)] (by decide) (fun _ => rfl) (fun _ => Nat.le_of_ble_eq_true rfl) ?_
  show J encI RX6 cX6_row 4 (some .int) 2 0 [(0, aR 20 0), (1, aI a1), (2, aI a2)] [] h (f_X6_row a1 a2 h)
  unfold f_X6_row
  refine j_iload_n dX6_row_0 rfl ?_
  refine jc_X6_55 (ct_X6_isRow _  _) (by decide) (Nat.le_of_ble_eq_true rfl) dX6_row_1 (fun v1 h2 e3 => ?_)
  refine j_if_eq (tgt := 13) dX6_row_4 (by decide) (fun c4 => ?_) (fun c4 => ?_)
  · refine j_iconst (v := (-1 : Int32)) dX6_row_13 (by decide) ?_
    exact j_iret dX6_row_14
  · refine j_iload_n dX6_row_7 rfl ?_
    refine j_bipush (v := (40 : Int32)) dX6_row_8 (by decide) ?_
    refine j_icmp_le (tgt := 15) dX6_row_10 (by decide) (fun c5 => ?_) (fun c5 => ?_)
    · refine j_iload_n dX6_row_15 rfl ?_
      refine j_if_ge (tgt := 25) dX6_row_16 (by decide) (fun c6 => ?_) (fun c6 => ?_)
      · refine j_aload_n dX6_row_25 rfl ?_
        refine jg_X6_17 z_20 dX6_row_26 ?_
        refine j_iload_n dX6_row_29 rfl ?_
        refine j_iload_n dX6_row_30 rfl ?_
        refine j_iast (ic_22 _) z_22 dX6_row_31 (fun q7 => ?_)
        refine j_iconst (v := (0 : Int32)) dX6_row_32 (by decide) ?_
        refine j_istore_n dX6_row_33 (by decide) ?_
        exact j_weak rfl (w_X6_row_b34  _ _ _ _  _)
      · refine j_aload_n dX6_row_19 rfl ?_
        refine j_iconst (v := (5 : Int32)) dX6_row_20 (by decide) ?_
        refine jc_X6_59 (ct_X6_meet _  _) (by decide) z_20 (Nat.le_of_ble_eq_true rfl) dX6_row_21 (fun v8 h9 e10 => ?_)
        exact j_iret dX6_row_24
    · refine j_iconst (v := (-1 : Int32)) dX6_row_13 (by decide) ?_
      exact j_iret dX6_row_14
set_option maxRecDepth 20000 in
theorem w_X6_standsBy_b166 (kont72 : Int32 → Int32 → Int32 → Int32 → Int32 → Int32 → Int32 → Hp → Option (Int32 × Hp)) (hk72 : ∀ (a1 : Int32) (a2 : Int32) (a4 : Int32) (a5 : Int32) (a6 : Int32) (a7 : Int32) (a8 : Int32)  (h : Hp), J encI RX6 cX6_standsBy 10 (some .boolean) 2 72 [(0, aR 20 0), (1, aI a1), (2, aI a2), (4, aI a4), (5, aI a5), (6, aI a6), (7, aI a7), (8, aI a8)] [] h (kont72 a1 a2 a4 a5 a6 a7 a8 h)) (a1 : Int32) (a2 : Int32) (a4 : Int32) (a5 : Int32) (a6 : Int32) (a8 : Int32) (s0 : Int32)  (h : Hp) : J encI RX6 cX6_standsBy 10 (some .boolean) 2 166 [(0, aR 20 0), (1, aI a1), (2, aI a2), (4, aI a4), (5, aI a5), (6, aI a6), (8, aI a8)] [aI s0] h (f_X6_standsBy_b166 kont72 a1 a2 a4 a5 a6 a8 s0 h) := by
  unfold f_X6_standsBy_b166
  refine j_istore dX6_standsBy_166 (by decide) ?_
  refine j_iinc (v := (1 : Int32)) dX6_standsBy_168 rfl (by decide) (by decide) ?_
  refine j_goto (tgt := 72) dX6_standsBy_171 (by decide) ?_
  exact j_weak rfl (hk72 _ _ _ _ _ _ _  _)
set_option maxRecDepth 20000 in
theorem w_X6_standsBy_b161 (kont72 : Int32 → Int32 → Int32 → Int32 → Int32 → Int32 → Int32 → Hp → Option (Int32 × Hp)) (hk72 : ∀ (a1 : Int32) (a2 : Int32) (a4 : Int32) (a5 : Int32) (a6 : Int32) (a7 : Int32) (a8 : Int32)  (h : Hp), J encI RX6 cX6_standsBy 10 (some .boolean) 2 72 [(0, aR 20 0), (1, aI a1), (2, aI a2), (4, aI a4), (5, aI a5), (6, aI a6), (7, aI a7), (8, aI a8)] [] h (kont72 a1 a2 a4 a5 a6 a7 a8 h)) (a1 : Int32) (a2 : Int32) (a4 : Int32) (a5 : Int32) (a6 : Int32) (a8 : Int32)  (h : Hp) : J encI RX6 cX6_standsBy 10 (some .boolean) 2 161 [(0, aR 20 0), (1, aI a1), (2, aI a2), (4, aI a4), (5, aI a5), (6, aI a6), (8, aI a8)] [] h (f_X6_standsBy_b161 kont72 a1 a2 a4 a5 a6 a8 h) := by
  unfold f_X6_standsBy_b161
  refine j_iconst (v := (1 : Int32)) dX6_standsBy_161 (by decide) ?_
  refine j_goto (tgt := 166) dX6_standsBy_162 (by decide) ?_
  exact j_weak rfl (w_X6_standsBy_b166 _ hk72 _ _ _ _ _ _ _  _)
set_option maxRecDepth 20000 in
theorem w_X6_standsBy_b165 (kont72 : Int32 → Int32 → Int32 → Int32 → Int32 → Int32 → Int32 → Hp → Option (Int32 × Hp)) (hk72 : ∀ (a1 : Int32) (a2 : Int32) (a4 : Int32) (a5 : Int32) (a6 : Int32) (a7 : Int32) (a8 : Int32)  (h : Hp), J encI RX6 cX6_standsBy 10 (some .boolean) 2 72 [(0, aR 20 0), (1, aI a1), (2, aI a2), (4, aI a4), (5, aI a5), (6, aI a6), (7, aI a7), (8, aI a8)] [] h (kont72 a1 a2 a4 a5 a6 a7 a8 h)) (a1 : Int32) (a2 : Int32) (a4 : Int32) (a5 : Int32) (a6 : Int32) (a8 : Int32)  (h : Hp) : J encI RX6 cX6_standsBy 10 (some .boolean) 2 165 [(0, aR 20 0), (1, aI a1), (2, aI a2), (4, aI a4), (5, aI a5), (6, aI a6), (8, aI a8)] [] h (f_X6_standsBy_b165 kont72 a1 a2 a4 a5 a6 a8 h) := by
  unfold f_X6_standsBy_b165
  refine j_iconst (v := (0 : Int32)) dX6_standsBy_165 (by decide) ?_
  exact j_weak rfl (w_X6_standsBy_b166 _ hk72 _ _ _ _ _ _ _  _)
set_option maxRecDepth 20000 in
theorem w_X6_standsBy_b139 (kont72 : Int32 → Int32 → Int32 → Int32 → Int32 → Int32 → Int32 → Hp → Option (Int32 × Hp)) (hk72 : ∀ (a1 : Int32) (a2 : Int32) (a4 : Int32) (a5 : Int32) (a6 : Int32) (a7 : Int32) (a8 : Int32)  (h : Hp), J encI RX6 cX6_standsBy 10 (some .boolean) 2 72 [(0, aR 20 0), (1, aI a1), (2, aI a2), (4, aI a4), (5, aI a5), (6, aI a6), (7, aI a7), (8, aI a8)] [] h (kont72 a1 a2 a4 a5 a6 a7 a8 h)) (a1 : Int32) (a2 : Int32) (a4 : Int32) (a5 : Int32) (a7 : Int32) (a8 : Int32) (a9 : Int32) (s0 : Int32)  (h : Hp) : J encI RX6 cX6_standsBy 10 (some .boolean) 2 139 [(0, aR 20 0), (1, aI a1), (2, aI a2), (4, aI a4), (5, aI a5), (7, aI a7), (8, aI a8), (9, aI a9)] [aI s0] h (f_X6_standsBy_b139 kont72 a1 a2 a4 a5 a7 a8 a9 s0 h) := by
  unfold f_X6_standsBy_b139
  refine j_istore dX6_standsBy_139 (by decide) ?_
  refine j_iload dX6_standsBy_141 rfl ?_
  refine j_if_ne (tgt := 161) dX6_standsBy_143 (by decide) (fun c1 => ?_) (fun c1 => ?_)
  · exact j_weak rfl (w_X6_standsBy_b161 _ hk72 _ _ _ _ _ _  _)
  · refine j_iload dX6_standsBy_146 rfl ?_
    refine j_if_eq (tgt := 165) dX6_standsBy_148 (by decide) (fun c2 => ?_) (fun c2 => ?_)
    · exact j_weak rfl (w_X6_standsBy_b165 _ hk72 _ _ _ _ _ _  _)
    · refine j_aload_n dX6_standsBy_151 rfl ?_
      refine j_iload_n dX6_standsBy_152 rfl ?_
      refine j_iload dX6_standsBy_153 rfl ?_
      refine jc_X6_162 (ct_X6_touches _ _  _) (by decide) z_20 (Nat.le_of_ble_eq_true rfl) dX6_standsBy_155 (fun v3 h4 e5 => ?_)
      refine j_if_eq (tgt := 165) dX6_standsBy_158 (by decide) (fun c6 => ?_) (fun c6 => ?_)
      · exact j_weak rfl (w_X6_standsBy_b165 _ hk72 _ _ _ _ _ _  _)
      · exact j_weak rfl (w_X6_standsBy_b161 _ hk72 _ _ _ _ _ _  _)
set_option maxRecDepth 20000 in
theorem w_X6_standsBy_b134 (kont72 : Int32 → Int32 → Int32 → Int32 → Int32 → Int32 → Int32 → Hp → Option (Int32 × Hp)) (hk72 : ∀ (a1 : Int32) (a2 : Int32) (a4 : Int32) (a5 : Int32) (a6 : Int32) (a7 : Int32) (a8 : Int32)  (h : Hp), J encI RX6 cX6_standsBy 10 (some .boolean) 2 72 [(0, aR 20 0), (1, aI a1), (2, aI a2), (4, aI a4), (5, aI a5), (6, aI a6), (7, aI a7), (8, aI a8)] [] h (kont72 a1 a2 a4 a5 a6 a7 a8 h)) (a1 : Int32) (a2 : Int32) (a4 : Int32) (a5 : Int32) (a7 : Int32) (a8 : Int32) (a9 : Int32)  (h : Hp) : J encI RX6 cX6_standsBy 10 (some .boolean) 2 134 [(0, aR 20 0), (1, aI a1), (2, aI a2), (4, aI a4), (5, aI a5), (7, aI a7), (8, aI a8), (9, aI a9)] [] h (f_X6_standsBy_b134 kont72 a1 a2 a4 a5 a7 a8 a9 h) := by
  unfold f_X6_standsBy_b134
  refine j_iconst (v := (1 : Int32)) dX6_standsBy_134 (by decide) ?_
  refine j_goto (tgt := 139) dX6_standsBy_135 (by decide) ?_
  exact j_weak rfl (w_X6_standsBy_b139 _ hk72 _ _ _ _ _ _ _ _  _)
set_option maxRecDepth 20000 in
theorem w_X6_standsBy_b138 (kont72 : Int32 → Int32 → Int32 → Int32 → Int32 → Int32 → Int32 → Hp → Option (Int32 × Hp)) (hk72 : ∀ (a1 : Int32) (a2 : Int32) (a4 : Int32) (a5 : Int32) (a6 : Int32) (a7 : Int32) (a8 : Int32)  (h : Hp), J encI RX6 cX6_standsBy 10 (some .boolean) 2 72 [(0, aR 20 0), (1, aI a1), (2, aI a2), (4, aI a4), (5, aI a5), (6, aI a6), (7, aI a7), (8, aI a8)] [] h (kont72 a1 a2 a4 a5 a6 a7 a8 h)) (a1 : Int32) (a2 : Int32) (a4 : Int32) (a5 : Int32) (a7 : Int32) (a8 : Int32) (a9 : Int32)  (h : Hp) : J encI RX6 cX6_standsBy 10 (some .boolean) 2 138 [(0, aR 20 0), (1, aI a1), (2, aI a2), (4, aI a4), (5, aI a5), (7, aI a7), (8, aI a8), (9, aI a9)] [] h (f_X6_standsBy_b138 kont72 a1 a2 a4 a5 a7 a8 a9 h) := by
  unfold f_X6_standsBy_b138
  refine j_iconst (v := (0 : Int32)) dX6_standsBy_138 (by decide) ?_
  exact j_weak rfl (w_X6_standsBy_b139 _ hk72 _ _ _ _ _ _ _ _  _)
set_option maxRecDepth 20000 in
theorem w_X6_standsBy_b112 (kont72 : Int32 → Int32 → Int32 → Int32 → Int32 → Int32 → Int32 → Hp → Option (Int32 × Hp)) (hk72 : ∀ (a1 : Int32) (a2 : Int32) (a4 : Int32) (a5 : Int32) (a6 : Int32) (a7 : Int32) (a8 : Int32)  (h : Hp), J encI RX6 cX6_standsBy 10 (some .boolean) 2 72 [(0, aR 20 0), (1, aI a1), (2, aI a2), (4, aI a4), (5, aI a5), (6, aI a6), (7, aI a7), (8, aI a8)] [] h (kont72 a1 a2 a4 a5 a6 a7 a8 h)) (a1 : Int32) (a2 : Int32) (a4 : Int32) (a5 : Int32) (a6 : Int32) (a7 : Int32) (a8 : Int32) (s0 : Int32)  (h : Hp) : J encI RX6 cX6_standsBy 10 (some .boolean) 2 112 [(0, aR 20 0), (1, aI a1), (2, aI a2), (4, aI a4), (5, aI a5), (6, aI a6), (7, aI a7), (8, aI a8)] [aI s0] h (f_X6_standsBy_b112 kont72 a1 a2 a4 a5 a6 a7 a8 s0 h) := by
  unfold f_X6_standsBy_b112
  refine j_istore dX6_standsBy_112 (by decide) ?_
  refine j_iload dX6_standsBy_114 rfl ?_
  refine j_if_ne (tgt := 134) dX6_standsBy_116 (by decide) (fun c1 => ?_) (fun c1 => ?_)
  · exact j_weak rfl (w_X6_standsBy_b134 _ hk72 _ _ _ _ _ _ _  _)
  · refine j_iload dX6_standsBy_119 rfl ?_
    refine j_if_eq (tgt := 138) dX6_standsBy_121 (by decide) (fun c2 => ?_) (fun c2 => ?_)
    · exact j_weak rfl (w_X6_standsBy_b138 _ hk72 _ _ _ _ _ _ _  _)
    · refine j_aload_n dX6_standsBy_124 rfl ?_
      refine j_iload dX6_standsBy_125 rfl ?_
      refine j_iload_n dX6_standsBy_127 rfl ?_
      refine jc_X6_162 (ct_X6_touches _ _  _) (by decide) z_20 (Nat.le_of_ble_eq_true rfl) dX6_standsBy_128 (fun v3 h4 e5 => ?_)
      refine j_if_eq (tgt := 138) dX6_standsBy_131 (by decide) (fun c6 => ?_) (fun c6 => ?_)
      · exact j_weak rfl (w_X6_standsBy_b138 _ hk72 _ _ _ _ _ _ _  _)
      · exact j_weak rfl (w_X6_standsBy_b134 _ hk72 _ _ _ _ _ _ _  _)
set_option maxRecDepth 20000 in
theorem w_X6_standsBy_b111 (kont72 : Int32 → Int32 → Int32 → Int32 → Int32 → Int32 → Int32 → Hp → Option (Int32 × Hp)) (hk72 : ∀ (a1 : Int32) (a2 : Int32) (a4 : Int32) (a5 : Int32) (a6 : Int32) (a7 : Int32) (a8 : Int32)  (h : Hp), J encI RX6 cX6_standsBy 10 (some .boolean) 2 72 [(0, aR 20 0), (1, aI a1), (2, aI a2), (4, aI a4), (5, aI a5), (6, aI a6), (7, aI a7), (8, aI a8)] [] h (kont72 a1 a2 a4 a5 a6 a7 a8 h)) (a1 : Int32) (a2 : Int32) (a4 : Int32) (a5 : Int32) (a6 : Int32) (a7 : Int32) (a8 : Int32)  (h : Hp) : J encI RX6 cX6_standsBy 10 (some .boolean) 2 111 [(0, aR 20 0), (1, aI a1), (2, aI a2), (4, aI a4), (5, aI a5), (6, aI a6), (7, aI a7), (8, aI a8)] [] h (f_X6_standsBy_b111 kont72 a1 a2 a4 a5 a6 a7 a8 h) := by
  unfold f_X6_standsBy_b111
  refine j_iconst (v := (0 : Int32)) dX6_standsBy_111 (by decide) ?_
  exact j_weak rfl (w_X6_standsBy_b112 _ hk72 _ _ _ _ _ _ _ _  _)
set_option maxRecDepth 20000 in
theorem w_X6_standsBy_b174  (a4 : Int32) (a6 : Int32) (a7 : Int32)  (h : Hp) : J encI RX6 cX6_standsBy 10 (some .boolean) 2 174 [(4, aI a4), (6, aI a6), (7, aI a7)] [] h (f_X6_standsBy_b174  a4 a6 a7 h) := by
  unfold f_X6_standsBy_b174
  refine j_iload dX6_standsBy_174 rfl ?_
  refine j_iconst (v := (5 : Int32)) dX6_standsBy_176 (by decide) ?_
  refine j_iand dX6_standsBy_177 ?_
  refine j_iconst (v := (5 : Int32)) dX6_standsBy_178 (by decide) ?_
  refine j_icmp_eq (tgt := 192) dX6_standsBy_179 (by decide) (fun c1 => ?_) (fun c1 => ?_)
  · refine j_iconst (v := (1 : Int32)) dX6_standsBy_192 (by decide) ?_
    refine j_goto (tgt := 197) dX6_standsBy_193 (by decide) ?_
    exact j_zret (Or.inr rfl) dX6_standsBy_197
  · refine j_iload dX6_standsBy_182 rfl ?_
    refine j_if_eq (tgt := 196) dX6_standsBy_184 (by decide) (fun c2 => ?_) (fun c2 => ?_)
    · refine j_iconst (v := (0 : Int32)) dX6_standsBy_196 (by decide) ?_
      exact j_zret (Or.inl rfl) dX6_standsBy_197
    · refine j_iload dX6_standsBy_187 rfl ?_
      refine j_if_eq (tgt := 196) dX6_standsBy_189 (by decide) (fun c3 => ?_) (fun c3 => ?_)
      · refine j_iconst (v := (0 : Int32)) dX6_standsBy_196 (by decide) ?_
        exact j_zret (Or.inl rfl) dX6_standsBy_197
      · refine j_iconst (v := (1 : Int32)) dX6_standsBy_192 (by decide) ?_
        refine j_goto (tgt := 197) dX6_standsBy_193 (by decide) ?_
        exact j_zret (Or.inr rfl) dX6_standsBy_197
set_option maxRecDepth 20000 in
theorem w_X6_standsBy_b72  : ∀ (n : Nat) (a1 : Int32) (a2 : Int32) (a4 : Int32) (a5 : Int32) (a6 : Int32) (a7 : Int32) (a8 : Int32)  (h : Hp), J encI RX6 cX6_standsBy 10 (some .boolean) 2 72 [(0, aR 20 0), (1, aI a1), (2, aI a2), (4, aI a4), (5, aI a5), (6, aI a6), (7, aI a7), (8, aI a8)] [] h (f_X6_standsBy_b72  n a1 a2 a4 a5 a6 a7 a8 h) := by
  intro n
  induction n with
  | zero =>
    intros
    exact j_none
  | succ n hk72 =>
    intro a1 a2 a4 a5 a6 a7 a8  h
    show J encI RX6 cX6_standsBy 10 (some .boolean) 2 72 [(0, aR 20 0), (1, aI a1), (2, aI a2), (4, aI a4), (5, aI a5), (6, aI a6), (7, aI a7), (8, aI a8)] [] h (f_X6_standsBy_b72_body  (f_X6_standsBy_b72  n) a1 a2 a4 a5 a6 a7 a8 h)
    unfold f_X6_standsBy_b72_body
    refine j_iload dX6_standsBy_72 rfl ?_
    refine j_aload_n dX6_standsBy_74 rfl ?_
    refine jg_X6_129 z_20 dX6_standsBy_75 ?_
    refine j_icmp_ge (tgt := 174) dX6_standsBy_78 (by decide) (fun c1 => ?_) (fun c1 => ?_)
    · exact j_weak rfl (w_X6_standsBy_b174  _ _ _  _)
    · refine j_iload dX6_standsBy_81 rfl ?_
      refine j_iconst (v := (5 : Int32)) dX6_standsBy_83 (by decide) ?_
      refine j_icmp_ne (tgt := 174) dX6_standsBy_84 (by decide) (fun c2 => ?_) (fun c2 => ?_)
      · exact j_weak rfl (w_X6_standsBy_b174  _ _ _  _)
      · refine j_iload_n dX6_standsBy_87 rfl ?_
        refine j_iload dX6_standsBy_88 rfl ?_
        refine jc_X6_150 (ct_X6_has _ _  _) (by decide) (Nat.le_of_ble_eq_true rfl) dX6_standsBy_90 (fun v3 h4 e5 => ?_)
        refine j_if_eq (tgt := 111) dX6_standsBy_93 (by decide) (fun c6 => ?_) (fun c6 => ?_)
        · exact j_weak rfl (w_X6_standsBy_b111 _ hk72 _ _ _ _ _ _ _  _)
        · refine j_aload_n dX6_standsBy_96 rfl ?_
          refine j_iload dX6_standsBy_97 rfl ?_
          refine j_iconst (v := (0 : Int32)) dX6_standsBy_99 (by decide) ?_
          refine jc_X6_89 (ct_X6_of _ _  _) (by decide) z_20 (Nat.le_of_ble_eq_true rfl) dX6_standsBy_100 (fun v7 h8 e9 => ?_)
          refine j_iconst (v := (5 : Int32)) dX6_standsBy_103 (by decide) ?_
          refine j_icmp_eq (tgt := 111) dX6_standsBy_104 (by decide) (fun c10 => ?_) (fun c10 => ?_)
          · exact j_weak rfl (w_X6_standsBy_b111 _ hk72 _ _ _ _ _ _ _  _)
          · refine j_iconst (v := (1 : Int32)) dX6_standsBy_107 (by decide) ?_
            refine j_goto (tgt := 112) dX6_standsBy_108 (by decide) ?_
            exact j_weak rfl (w_X6_standsBy_b112 _ hk72 _ _ _ _ _ _ _ _  _)
set_option maxRecDepth 20000 in
theorem ct_X6_standsBy (a1 : Int32) (a2 : Int32) (a3 : Int32)  (h : Hp) : Ct encI yX6_standsBy cX6_standsBy 10 (some .boolean) 2 [aR 20 0, aI a1, aI a2, aI a3] h (f_X6_standsBy a1 a2 a3 h) := by
  refine ct_of [(0, aR 20 0), (1, aI a1), (2, aI a2), (3, aI a3)] (by decide) (fun _ => rfl) (fun _ => Nat.le_of_ble_eq_true rfl) ?_
  show J encI RX6 cX6_standsBy 10 (some .boolean) 2 0 [(0, aR 20 0), (1, aI a1), (2, aI a2), (3, aI a3)] [] h (f_X6_standsBy a1 a2 a3 h)
  unfold f_X6_standsBy
  refine j_iload_n dX6_standsBy_0 rfl ?_
  refine j_iload_n dX6_standsBy_1 rfl ?_
  refine jc_X6_150 (ct_X6_has _ _  _) (by decide) (Nat.le_of_ble_eq_true rfl) dX6_standsBy_2 (fun v1 h2 e3 => ?_)
  refine j_if_eq (tgt := 10) dX6_standsBy_5 (by decide) (fun c4 => ?_) (fun c4 => ?_)
  · refine j_aload_n dX6_standsBy_10 rfl ?_
    refine j_iload_n dX6_standsBy_11 rfl ?_
    refine j_iload_n dX6_standsBy_12 rfl ?_
    refine jc_X6_159 (ct_X6_restsOn _ _  _) (by decide) z_20 (Nat.le_of_ble_eq_true rfl) dX6_standsBy_13 (fun v5 h6 e7 => ?_)
    refine j_istore dX6_standsBy_16 (by decide) ?_
    refine j_aload_n dX6_standsBy_18 rfl ?_
    refine j_iload_n dX6_standsBy_19 rfl ?_
    refine j_iconst (v := (0 : Int32)) dX6_standsBy_20 (by decide) ?_
    refine jc_X6_89 (ct_X6_of _ _  _) (by decide) z_20 (Nat.le_of_ble_eq_true rfl) dX6_standsBy_21 (fun v8 h9 e10 => ?_)
    refine j_istore dX6_standsBy_24 (by decide) ?_
    refine j_iload dX6_standsBy_26 rfl ?_
    refine j_iconst (v := (4 : Int32)) dX6_standsBy_28 (by decide) ?_
    refine j_icmp_ge (tgt := 63) dX6_standsBy_29 (by decide) (fun c11 => ?_) (fun c11 => ?_)
    · refine j_iconst (v := (0 : Int32)) dX6_standsBy_63 (by decide) ?_
      refine j_istore dX6_standsBy_64 (by decide) ?_
      refine j_iconst (v := (0 : Int32)) dX6_standsBy_66 (by decide) ?_
      refine j_istore dX6_standsBy_67 (by decide) ?_
      refine j_iconst (v := (0 : Int32)) dX6_standsBy_69 (by decide) ?_
      refine j_istore dX6_standsBy_70 (by decide) ?_
      exact j_weak rfl (w_X6_standsBy_b72  _ _ _ _ _ _ _ _  _)
    · refine j_iload dX6_standsBy_32 rfl ?_
      refine j_iconst (v := (1 : Int32)) dX6_standsBy_34 (by decide) ?_
      refine j_icmp_ne (tgt := 52) dX6_standsBy_35 (by decide) (fun c12 => ?_) (fun c12 => ?_)
      · refine j_iload dX6_standsBy_52 rfl ?_
        refine j_if_eq (tgt := 61) dX6_standsBy_54 (by decide) (fun c13 => ?_) (fun c13 => ?_)
        · refine j_iconst (v := (0 : Int32)) dX6_standsBy_61 (by decide) ?_
          exact j_zret (Or.inl rfl) dX6_standsBy_62
        · refine j_iconst (v := (1 : Int32)) dX6_standsBy_57 (by decide) ?_
          refine j_goto (tgt := 62) dX6_standsBy_58 (by decide) ?_
          exact j_zret (Or.inr rfl) dX6_standsBy_62
      · refine j_iload dX6_standsBy_38 rfl ?_
        refine j_iconst (v := (3 : Int32)) dX6_standsBy_40 (by decide) ?_
        refine j_icmp_ne (tgt := 48) dX6_standsBy_41 (by decide) (fun c14 => ?_) (fun c14 => ?_)
        · refine j_iconst (v := (0 : Int32)) dX6_standsBy_48 (by decide) ?_
          refine j_goto (tgt := 62) dX6_standsBy_49 (by decide) ?_
          exact j_zret (Or.inl rfl) dX6_standsBy_62
        · refine j_iconst (v := (1 : Int32)) dX6_standsBy_44 (by decide) ?_
          refine j_goto (tgt := 62) dX6_standsBy_45 (by decide) ?_
          exact j_zret (Or.inr rfl) dX6_standsBy_62
  · refine j_iconst (v := (1 : Int32)) dX6_standsBy_8 (by decide) ?_
    exact j_zret (Or.inr rfl) dX6_standsBy_9
set_option maxRecDepth 20000 in
theorem w_X6_text_b34  : ∀ (n : Nat) (a1 : Int32) (a2 : Int32) (a3 : Int32)  (h : Hp), J encI RX6 cX6_text 4 (some .int) 2 34 [(0, aR 20 0), (1, aI a1), (2, aI a2), (3, aI a3)] [] h (f_X6_text_b34  n a1 a2 a3 h) := by
  intro n
  induction n with
  | zero =>
    intros
    exact j_none
  | succ n hk34 =>
    intro a1 a2 a3  h
    show J encI RX6 cX6_text 4 (some .int) 2 34 [(0, aR 20 0), (1, aI a1), (2, aI a2), (3, aI a3)] [] h (f_X6_text_b34_body  (f_X6_text_b34  n) a1 a2 a3 h)
    unfold f_X6_text_b34_body
    refine j_iload_n dX6_text_34 rfl ?_
    refine j_bipush (v := (100 : Int32)) dX6_text_35 (by decide) ?_
    refine j_icmp_ge (tgt := 59) dX6_text_37 (by decide) (fun c1 => ?_) (fun c1 => ?_)
    · refine j_iload_n dX6_text_59 rfl ?_
      exact j_iret dX6_text_60
    · refine j_aload_n dX6_text_40 rfl ?_
      refine jg_X6_29 z_20 dX6_text_41 ?_
      refine j_bipush (v := (100 : Int32)) dX6_text_44 (by decide) ?_
      refine j_iload_n dX6_text_46 rfl ?_
      refine j_imul dX6_text_47 ?_
      refine j_iload_n dX6_text_48 rfl ?_
      refine j_iadd dX6_text_49 ?_
      refine j_bipush (v := (32 : Int32)) dX6_text_50 (by decide) ?_
      refine j_iast (ic_26 _) z_26 dX6_text_52 (fun q2 => ?_)
      refine j_iinc (v := (1 : Int32)) dX6_text_53 rfl (by decide) (by decide) ?_
      refine j_goto (tgt := 34) dX6_text_56 (by decide) ?_
      exact j_weak rfl (hk34 _ _ _  _)
set_option maxRecDepth 20000 in
theorem ct_X6_text (a1 : Int32) (a2 : Int32)  (h : Hp) : Ct encI yX6_text cX6_text 4 (some .int) 2 [aR 20 0, aI a1, aI a2] h (f_X6_text a1 a2 h) := by
  refine ct_of [(0, aR 20 0), (1, aI a1), (2, aI a2)] (by decide) (fun _ => rfl) (fun _ => Nat.le_of_ble_eq_true rfl) ?_
  show J encI RX6 cX6_text 4 (some .int) 2 0 [(0, aR 20 0), (1, aI a1), (2, aI a2)] [] h (f_X6_text a1 a2 h)
  unfold f_X6_text
  refine j_iload_n dX6_text_0 rfl ?_
  refine jc_X6_63 (ct_X6_isText _  _) (by decide) (Nat.le_of_ble_eq_true rfl) dX6_text_1 (fun v1 h2 e3 => ?_)
  refine j_if_eq (tgt := 13) dX6_text_4 (by decide) (fun c4 => ?_) (fun c4 => ?_)
  · refine j_iconst (v := (-1 : Int32)) dX6_text_13 (by decide) ?_
    exact j_iret dX6_text_14
  · refine j_iload_n dX6_text_7 rfl ?_
    refine j_bipush (v := (100 : Int32)) dX6_text_8 (by decide) ?_
    refine j_icmp_le (tgt := 15) dX6_text_10 (by decide) (fun c5 => ?_) (fun c5 => ?_)
    · refine j_iload_n dX6_text_15 rfl ?_
      refine j_if_ge (tgt := 25) dX6_text_16 (by decide) (fun c6 => ?_) (fun c6 => ?_)
      · refine j_aload_n dX6_text_25 rfl ?_
        refine jg_X6_26 z_20 dX6_text_26 ?_
        refine j_iload_n dX6_text_29 rfl ?_
        refine j_iload_n dX6_text_30 rfl ?_
        refine j_iast (ic_25 _) z_25 dX6_text_31 (fun q7 => ?_)
        refine j_iconst (v := (0 : Int32)) dX6_text_32 (by decide) ?_
        refine j_istore_n dX6_text_33 (by decide) ?_
        exact j_weak rfl (w_X6_text_b34  _ _ _ _  _)
      · refine j_aload_n dX6_text_19 rfl ?_
        refine j_iconst (v := (5 : Int32)) dX6_text_20 (by decide) ?_
        refine jc_X6_59 (ct_X6_meet _  _) (by decide) z_20 (Nat.le_of_ble_eq_true rfl) dX6_text_21 (fun v8 h9 e10 => ?_)
        exact j_iret dX6_text_24
    · refine j_iconst (v := (-1 : Int32)) dX6_text_13 (by decide) ?_
      exact j_iret dX6_text_14
set_option maxRecDepth 20000 in
theorem w_X6_yes_b54  (a3 : Int32) (s1 : Int32)  (h : Hp) : J encI RX6 cX6_yes 4 (some .int) 2 54 [(3, aI a3)] [aI s1, aR 20 0] h (f_X6_yes_b54  a3 s1 h) := by
  unfold f_X6_yes_b54
  refine jp_X6_141 z_20 dX6_yes_54 ?_
  refine j_iload_n dX6_yes_57 rfl ?_
  exact j_iret dX6_yes_58
set_option maxRecDepth 20000 in
theorem ct_X6_yes (a1 : Int32) (a2 : Int32)  (h : Hp) : Ct encI yX6_yes cX6_yes 4 (some .int) 2 [aR 20 0, aI a1, aI a2] h (f_X6_yes a1 a2 h) := by
  refine ct_of [(0, aR 20 0), (1, aI a1), (2, aI a2)] (by decide) (fun _ => rfl) (fun _ => Nat.le_of_ble_eq_true rfl) ?_
  show J encI RX6 cX6_yes 4 (some .int) 2 0 [(0, aR 20 0), (1, aI a1), (2, aI a2)] [] h (f_X6_yes a1 a2 h)
  unfold f_X6_yes
  refine j_iload_n dX6_yes_0 rfl ?_
  refine jc_X6_180 (ct_X6_isOne _  _) (by decide) (Nat.le_of_ble_eq_true rfl) dX6_yes_1 (fun v1 h2 e3 => ?_)
  refine j_if_eq (tgt := 16) dX6_yes_4 (by decide) (fun c4 => ?_) (fun c4 => ?_)
  · refine j_iconst (v := (-1 : Int32)) dX6_yes_16 (by decide) ?_
    exact j_iret dX6_yes_17
  · refine j_iload_n dX6_yes_7 rfl ?_
    refine j_iconst (v := (0 : Int32)) dX6_yes_8 (by decide) ?_
    refine j_iconst (v := (1 : Int32)) dX6_yes_9 (by decide) ?_
    refine jc_X6_51 (ct_X6_in _ _ _  _) (by decide) (Nat.le_of_ble_eq_true rfl) dX6_yes_10 (fun v5 h6 e7 => ?_)
    refine j_if_ne (tgt := 18) dX6_yes_13 (by decide) (fun c8 => ?_) (fun c8 => ?_)
    · refine j_aload_n dX6_yes_18 rfl ?_
      refine jg_X6_141 z_20 dX6_yes_19 ?_
      refine j_iload_n dX6_yes_22 rfl ?_
      refine j_ishr dX6_yes_23 ?_
      refine j_iconst (v := (1 : Int32)) dX6_yes_24 (by decide) ?_
      refine j_iand dX6_yes_25 ?_
      refine j_istore_n dX6_yes_26 (by decide) ?_
      refine j_aload_n dX6_yes_27 rfl ?_
      refine j_iload_n dX6_yes_28 rfl ?_
      refine j_iconst (v := (1 : Int32)) dX6_yes_29 (by decide) ?_
      refine j_icmp_ne (tgt := 44) dX6_yes_30 (by decide) (fun c9 => ?_) (fun c9 => ?_)
      · refine j_aload_n dX6_yes_44 rfl ?_
        refine jg_X6_141 z_20 dX6_yes_45 ?_
        refine j_iconst (v := (1 : Int32)) dX6_yes_48 (by decide) ?_
        refine j_iload_n dX6_yes_49 rfl ?_
        refine j_ishl dX6_yes_50 ?_
        refine j_iconst (v := (-1 : Int32)) dX6_yes_51 (by decide) ?_
        refine j_ixor dX6_yes_52 ?_
        refine j_iand dX6_yes_53 ?_
        exact j_weak rfl (w_X6_yes_b54  _ _  _)
      · refine j_aload_n dX6_yes_33 rfl ?_
        refine jg_X6_141 z_20 dX6_yes_34 ?_
        refine j_iconst (v := (1 : Int32)) dX6_yes_37 (by decide) ?_
        refine j_iload_n dX6_yes_38 rfl ?_
        refine j_ishl dX6_yes_39 ?_
        refine j_ior dX6_yes_40 ?_
        refine j_goto (tgt := 54) dX6_yes_41 (by decide) ?_
        exact j_weak rfl (w_X6_yes_b54  _ _  _)
    · refine j_iconst (v := (-1 : Int32)) dX6_yes_16 (by decide) ?_
      exact j_iret dX6_yes_17
set_option maxRecDepth 20000 in
theorem w_X1_readMarks_b72  (a1 : Int32) (a2 : Int32) (a3 : Int32) (a4 : Int32) (a5 : Int32) (a6 : Int32)  (h : Hp) : J encI RX1 cX1_readMarks 7 (some .boolean) 3 72 [(0, aR 9 0), (1, aI a1), (2, aI a2), (3, aI a3), (4, aI a4), (5, aI a5), (6, aI a6)] [] h (f_X1_readMarks_b72  a1 a2 a3 a4 a5 a6 h) := by
  unfold f_X1_readMarks_b72
  refine j_aload_n dX1_readMarks_72 rfl ?_
  refine jg_X1_12 z_9 dX1_readMarks_73 ?_
  refine j_iload_n dX1_readMarks_76 rfl ?_
  refine j_iload_n dX1_readMarks_77 rfl ?_
  refine j_iload_n dX1_readMarks_78 rfl ?_
  refine jc_X1_71 (ct_X4_add _ _ _ _ (Nat.le_of_ble_eq_true rfl) _) (by decide) (Nat.le_of_ble_eq_true rfl) (Nat.le_of_ble_eq_true rfl) dX1_readMarks_79 (fun v1 h2 e3 => ?_)
  refine j_aload_n dX1_readMarks_82 rfl ?_
  refine jg_X1_12 z_9 dX1_readMarks_83 ?_
  refine jg_X1_75 (Nat.le_of_ble_eq_true rfl) dX1_readMarks_86 ?_
  refine j_aload_n dX1_readMarks_89 rfl ?_
  refine jg_X1_12 z_9 dX1_readMarks_90 ?_
  refine jg_X1_57 (Nat.le_of_ble_eq_true rfl) dX1_readMarks_93 ?_
  refine j_iconst (v := (1 : Int32)) dX1_readMarks_96 (by decide) ?_
  refine j_isub dX1_readMarks_97 ?_
  refine ja_12 (Nat.le_of_ble_eq_true rfl) dX1_readMarks_98 (fun q4 z5 => ?_)
  refine j_iload dX1_readMarks_99 rfl ?_
  refine j_iload dX1_readMarks_101 rfl ?_
  refine j_iload dX1_readMarks_103 rfl ?_
  refine jc_X1_79 (ct_X0_setMarks _ _ _ _ z5 _) (by decide) z5 (Nat.le_of_ble_eq_true rfl) dX1_readMarks_105 (fun v6 h7 e8 => ?_)
  refine j_iconst (v := (1 : Int32)) dX1_readMarks_108 (by decide) ?_
  exact j_zret (Or.inr rfl) dX1_readMarks_109
set_option maxRecDepth 20000 in
theorem w_X1_readMarks_b56  (a1 : Int32) (a2 : Int32) (a3 : Int32) (a4 : Int32) (a5 : Int32) (s0 : Int32)  (h : Hp) : J encI RX1 cX1_readMarks 7 (some .boolean) 3 56 [(0, aR 9 0), (1, aI a1), (2, aI a2), (3, aI a3), (4, aI a4), (5, aI a5)] [aI s0] h (f_X1_readMarks_b56  a1 a2 a3 a4 a5 s0 h) := by
  unfold f_X1_readMarks_b56
  refine j_istore dX1_readMarks_56 (by decide) ?_
  refine j_iload_n dX1_readMarks_58 rfl ?_
  refine j_iconst (v := (3 : Int32)) dX1_readMarks_59 (by decide) ?_
  refine j_icmp_ne (tgt := 72) dX1_readMarks_60 (by decide) (fun c1 => ?_) (fun c1 => ?_)
  · exact j_weak rfl (w_X1_readMarks_b72  _ _ _ _ _ _  _)
  · refine j_iload dX1_readMarks_63 rfl ?_
    refine j_bipush (v := (-9 : Int32)) dX1_readMarks_65 (by decide) ?_
    refine j_icmp_ne (tgt := 72) dX1_readMarks_67 (by decide) (fun c2 => ?_) (fun c2 => ?_)
    · exact j_weak rfl (w_X1_readMarks_b72  _ _ _ _ _ _  _)
    · refine j_iconst (v := (0 : Int32)) dX1_readMarks_70 (by decide) ?_
      exact j_zret (Or.inl rfl) dX1_readMarks_71
set_option maxRecDepth 20000 in
theorem ct_X1_readMarks (a1 : Int32) (a2 : Int32) (a3 : Int32)  (h : Hp) : Ct encI yX1_readMarks cX1_readMarks 7 (some .boolean) 3 [aR 9 0, aI a1, aI a2, aI a3] h (f_X1_readMarks a1 a2 a3 h) := by
  refine ct_of [(0, aR 9 0), (1, aI a1), (2, aI a2), (3, aI a3)] (by decide) (fun _ => rfl) (fun _ => Nat.le_of_ble_eq_true rfl) ?_
  show J encI RX1 cX1_readMarks 7 (some .boolean) 3 0 [(0, aR 9 0), (1, aI a1), (2, aI a2), (3, aI a3)] [] h (f_X1_readMarks a1 a2 a3 h)
  unfold f_X1_readMarks
  refine j_aload_n dX1_readMarks_0 rfl ?_
  refine j_bipush (v := (-9 : Int32)) dX1_readMarks_1 (by decide) ?_
  refine j_bipush (v := (-9 : Int32)) dX1_readMarks_3 (by decide) ?_
  refine jc_X1_67 (ct_X1_readPerson _ _  _) (by decide) z_9 (Nat.le_of_ble_eq_true rfl) dX1_readMarks_5 (fun v1 h2 e3 => ?_)
  refine j_istore dX1_readMarks_8 (by decide) ?_
  refine j_iload dX1_readMarks_10 rfl ?_
  refine j_bipush (v := (-9 : Int32)) dX1_readMarks_12 (by decide) ?_
  refine j_icmp_ne (tgt := 19) dX1_readMarks_14 (by decide) (fun c4 => ?_) (fun c4 => ?_)
  · refine j_aload_n dX1_readMarks_19 rfl ?_
    refine j_iload dX1_readMarks_20 rfl ?_
    refine j_bipush (v := (-9 : Int32)) dX1_readMarks_22 (by decide) ?_
    refine jc_X1_67 (ct_X1_readPerson _ _  _) (by decide) z_9 (Nat.le_of_ble_eq_true rfl) dX1_readMarks_24 (fun v5 h6 e7 => ?_)
    refine j_istore dX1_readMarks_27 (by decide) ?_
    refine j_iload dX1_readMarks_29 rfl ?_
    refine j_bipush (v := (-9 : Int32)) dX1_readMarks_31 (by decide) ?_
    refine j_icmp_ne (tgt := 38) dX1_readMarks_33 (by decide) (fun c8 => ?_) (fun c8 => ?_)
    · refine j_iload_n dX1_readMarks_38 rfl ?_
      refine j_iconst (v := (3 : Int32)) dX1_readMarks_39 (by decide) ?_
      refine j_icmp_ne (tgt := 54) dX1_readMarks_40 (by decide) (fun c9 => ?_) (fun c9 => ?_)
      · refine j_bipush (v := (-9 : Int32)) dX1_readMarks_54 (by decide) ?_
        exact j_weak rfl (w_X1_readMarks_b56  _ _ _ _ _ _  _)
      · refine j_aload_n dX1_readMarks_43 rfl ?_
        refine j_iload dX1_readMarks_44 rfl ?_
        refine j_iload dX1_readMarks_46 rfl ?_
        refine jc_X1_67 (ct_X1_readPerson _ _  _) (by decide) z_9 (Nat.le_of_ble_eq_true rfl) dX1_readMarks_48 (fun v10 h11 e12 => ?_)
        refine j_goto (tgt := 56) dX1_readMarks_51 (by decide) ?_
        exact j_weak rfl (w_X1_readMarks_b56  _ _ _ _ _ _  _)
    · refine j_iconst (v := (0 : Int32)) dX1_readMarks_36 (by decide) ?_
      exact j_zret (Or.inl rfl) dX1_readMarks_37
  · refine j_iconst (v := (0 : Int32)) dX1_readMarks_17 (by decide) ?_
    exact j_zret (Or.inl rfl) dX1_readMarks_18
set_option maxRecDepth 20000 in
theorem w_X4_become_b74  : ∀ (n : Nat) (a0 : Nat) (a1 : Nat) (a2 : Int32) (h_a0 : a0 < cnt 11) (h_a1 : a1 < cnt 11) (h : Hp), J encU RX4 cX4_become 3 none 3 74 [(0, aR 11 a0), (1, aR 11 a1), (2, aI a2)] [] h (f_X4_become_b74  n a0 a1 a2 h) := by
  intro n
  induction n with
  | zero =>
    intros
    exact j_none
  | succ n hk74 =>
    intro a0 a1 a2 h_a0 h_a1 h
    show J encU RX4 cX4_become 3 none 3 74 [(0, aR 11 a0), (1, aR 11 a1), (2, aI a2)] [] h (f_X4_become_b74_body  (f_X4_become_b74  n) a0 a1 a2 h)
    unfold f_X4_become_b74_body
    refine j_iload_n dX4_become_74 rfl ?_
    refine j_bipush (v := (14 : Int32)) dX4_become_75 (by decide) ?_
    refine j_icmp_ge (tgt := 125) dX4_become_77 (by decide) (fun c1 => ?_) (fun c1 => ?_)
    · exact j_vret dX4_become_125
    · refine j_aload_n dX4_become_80 rfl ?_
      refine jg_X4_11 h_a0 dX4_become_81 ?_
      refine j_iload_n dX4_become_84 rfl ?_
      refine ja_12 h_a0 dX4_become_85 (fun q2 z3 => ?_)
      refine j_aload_n dX4_become_86 rfl ?_
      refine jg_X4_11 h_a1 dX4_become_87 ?_
      refine j_iload_n dX4_become_90 rfl ?_
      refine ja_12 h_a1 dX4_become_91 (fun q4 z5 => ?_)
      refine jc_X4_60 (ct_X0_become _ _ z3 z5 _) (by decide) z3 (Nat.le_of_ble_eq_true rfl) dX4_become_92 (fun v6 h7 e8 => ?_)
      refine j_aload_n dX4_become_95 rfl ?_
      refine jg_X4_17 h_a0 dX4_become_96 ?_
      refine j_iload_n dX4_become_99 rfl ?_
      refine j_aload_n dX4_become_100 rfl ?_
      refine jg_X4_17 h_a1 dX4_become_101 ?_
      refine j_iload_n dX4_become_104 rfl ?_
      refine j_iald (ic_13 _) h_a1 dX4_become_105 (fun q9 => ?_)
      refine j_iast (ic_13 _) h_a0 dX4_become_106 (fun q10 => ?_)
      refine j_aload_n dX4_become_107 rfl ?_
      refine jg_X4_21 h_a0 dX4_become_108 ?_
      refine j_iload_n dX4_become_111 rfl ?_
      refine j_aload_n dX4_become_112 rfl ?_
      refine jg_X4_21 h_a1 dX4_become_113 ?_
      refine j_iload_n dX4_become_116 rfl ?_
      refine j_iald (ic_14 _) h_a1 dX4_become_117 (fun q11 => ?_)
      refine j_iast (ic_14 _) h_a0 dX4_become_118 (fun q12 => ?_)
      refine j_iinc (v := (1 : Int32)) dX4_become_119 rfl (by decide) (by decide) ?_
      refine j_goto (tgt := 74) dX4_become_122 (by decide) ?_
      exact j_weak rfl (hk74 _ _ _ h_a0 h_a1 _)
set_option maxRecDepth 20000 in
theorem ct_X4_become (a0 : Nat) (a1 : Nat) (h_a0 : a0 < cnt 11) (h_a1 : a1 < cnt 11) (h : Hp) : Ct encU yX4_become cX4_become 3 none 3 [aR 11 a0, aR 11 a1] h (f_X4_become a0 a1 h) := by
  refine ct_of [(0, aR 11 a0), (1, aR 11 a1)] (by decide) (fun _ => rfl) (fun _ => Nat.le_of_ble_eq_true rfl) ?_
  show J encU RX4 cX4_become 3 none 3 0 [(0, aR 11 a0), (1, aR 11 a1)] [] h (f_X4_become a0 a1 h)
  unfold f_X4_become
  refine j_aload_n dX4_become_0 rfl ?_
  refine j_aload_n dX4_become_1 rfl ?_
  refine jg_X4_31 h_a1 dX4_become_2 ?_
  refine jp_X4_31 h_a0 dX4_become_5 (fun q1 => ?_)
  refine j_aload_n dX4_become_8 rfl ?_
  refine j_aload_n dX4_become_9 rfl ?_
  refine jg_X4_35 h_a1 dX4_become_10 ?_
  refine jp_X4_35 h_a0 dX4_become_13 ?_
  refine j_aload_n dX4_become_16 rfl ?_
  refine j_aload_n dX4_become_17 rfl ?_
  refine jg_X4_39 h_a1 dX4_become_18 ?_
  refine jp_X4_39 h_a0 dX4_become_21 ?_
  refine j_aload_n dX4_become_24 rfl ?_
  refine j_aload_n dX4_become_25 rfl ?_
  refine jg_X4_42 h_a1 dX4_become_26 ?_
  refine jp_X4_42 h_a0 dX4_become_29 ?_
  refine j_aload_n dX4_become_32 rfl ?_
  refine j_aload_n dX4_become_33 rfl ?_
  refine jg_X4_45 h_a1 dX4_become_34 ?_
  refine jp_X4_45 h_a0 dX4_become_37 ?_
  refine j_aload_n dX4_become_40 rfl ?_
  refine j_aload_n dX4_become_41 rfl ?_
  refine jg_X4_48 h_a1 dX4_become_42 ?_
  refine jp_X4_48 h_a0 dX4_become_45 ?_
  refine j_aload_n dX4_become_48 rfl ?_
  refine j_aload_n dX4_become_49 rfl ?_
  refine jg_X4_51 h_a1 dX4_become_50 ?_
  refine jp_X4_51 h_a0 dX4_become_53 ?_
  refine j_aload_n dX4_become_56 rfl ?_
  refine j_aload_n dX4_become_57 rfl ?_
  refine jg_X4_54 h_a1 dX4_become_58 ?_
  refine jp_X4_54 h_a0 dX4_become_61 ?_
  refine j_aload_n dX4_become_64 rfl ?_
  refine j_aload_n dX4_become_65 rfl ?_
  refine jg_X4_57 h_a1 dX4_become_66 ?_
  refine jp_X4_57 h_a0 dX4_become_69 ?_
  refine j_iconst (v := (0 : Int32)) dX4_become_72 (by decide) ?_
  refine j_istore_n dX4_become_73 (by decide) ?_
  exact j_weak rfl (w_X4_become_b74  _ _ _ _ h_a0 h_a1 _)
set_option maxRecDepth 20000 in
theorem w_X4_canComeBack_b31  (a0 : Nat) (a1 : Int32) (s0 : Int32) (h_a0 : a0 < cnt 11) (h : Hp) : J encI RX4 cX4_canComeBack 4 (some .boolean) 3 31 [(0, aR 11 a0), (1, aI a1)] [aI s0] h (f_X4_canComeBack_b31  a0 a1 s0 h) := by
  unfold f_X4_canComeBack_b31
  refine j_istore_n dX4_canComeBack_31 (by decide) ?_
  refine j_iload_n dX4_canComeBack_32 rfl ?_
  refine j_if_ne (tgt := 64) dX4_canComeBack_33 (by decide) (fun c1 => ?_) (fun c1 => ?_)
  · refine j_iconst (v := (0 : Int32)) dX4_canComeBack_64 (by decide) ?_
    exact j_zret (Or.inl rfl) dX4_canComeBack_65
  · refine j_aload_n dX4_canComeBack_36 rfl ?_
    refine j_aload_n dX4_canComeBack_37 rfl ?_
    refine jg_X4_42 h_a0 dX4_canComeBack_38 ?_
    refine j_iconst (v := (1 : Int32)) dX4_canComeBack_41 (by decide) ?_
    refine j_iload_n dX4_canComeBack_42 rfl ?_
    refine j_ishl dX4_canComeBack_43 ?_
    refine j_ior dX4_canComeBack_44 ?_
    refine j_aload_n dX4_canComeBack_45 rfl ?_
    refine jg_X4_45 h_a0 dX4_canComeBack_46 ?_
    refine jc_X4_103 (ct_X4_standing _ _ _ h_a0 _) (by decide) h_a0 (Nat.le_of_ble_eq_true rfl) dX4_canComeBack_49 (fun v2 h3 e4 => ?_)
    refine j_iload_n dX4_canComeBack_52 rfl ?_
    refine j_ishr dX4_canComeBack_53 ?_
    refine j_iconst (v := (1 : Int32)) dX4_canComeBack_54 (by decide) ?_
    refine j_iand dX4_canComeBack_55 ?_
    refine j_iconst (v := (1 : Int32)) dX4_canComeBack_56 (by decide) ?_
    refine j_icmp_ne (tgt := 64) dX4_canComeBack_57 (by decide) (fun c5 => ?_) (fun c5 => ?_)
    · refine j_iconst (v := (0 : Int32)) dX4_canComeBack_64 (by decide) ?_
      exact j_zret (Or.inl rfl) dX4_canComeBack_65
    · refine j_iconst (v := (1 : Int32)) dX4_canComeBack_60 (by decide) ?_
      refine j_goto (tgt := 65) dX4_canComeBack_61 (by decide) ?_
      exact j_zret (Or.inr rfl) dX4_canComeBack_65
set_option maxRecDepth 20000 in
theorem ct_X4_canComeBack (a0 : Nat) (a1 : Int32) (h_a0 : a0 < cnt 11) (h : Hp) : Ct encI yX4_canComeBack cX4_canComeBack 4 (some .boolean) 3 [aR 11 a0, aI a1] h (f_X4_canComeBack a0 a1 h) := by
  refine ct_of [(0, aR 11 a0), (1, aI a1)] (by decide) (fun _ => rfl) (fun _ => Nat.le_of_ble_eq_true rfl) ?_
  show J encI RX4 cX4_canComeBack 4 (some .boolean) 3 0 [(0, aR 11 a0), (1, aI a1)] [] h (f_X4_canComeBack a0 a1 h)
  unfold f_X4_canComeBack
  refine j_aload_n dX4_canComeBack_0 rfl ?_
  refine jg_X4_11 h_a0 dX4_canComeBack_1 ?_
  refine j_iload_n dX4_canComeBack_4 rfl ?_
  refine ja_12 h_a0 dX4_canComeBack_5 (fun q1 z2 => ?_)
  refine j_astore_n dX4_canComeBack_6 (by decide) ?_
  refine j_aload_n dX4_canComeBack_7 rfl ?_
  refine j_aload_n dX4_canComeBack_8 rfl ?_
  refine jg_X4_76 z2 dX4_canComeBack_9 ?_
  refine j_aload_n dX4_canComeBack_12 rfl ?_
  refine jg_X4_79 z2 dX4_canComeBack_13 ?_
  refine j_aload_n dX4_canComeBack_16 rfl ?_
  refine jg_X4_42 h_a0 dX4_canComeBack_17 ?_
  refine jc_X4_72 (ct_X4_over _ _ _ _ h_a0 _) (by decide) h_a0 (Nat.le_of_ble_eq_true rfl) dX4_canComeBack_20 (fun v3 h4 e5 => ?_)
  refine j_if_eq (tgt := 30) dX4_canComeBack_23 (by decide) (fun c6 => ?_) (fun c6 => ?_)
  · refine j_iconst (v := (0 : Int32)) dX4_canComeBack_30 (by decide) ?_
    exact j_weak rfl (w_X4_canComeBack_b31  _ _ _ h_a0 _)
  · refine j_iconst (v := (1 : Int32)) dX4_canComeBack_26 (by decide) ?_
    refine j_goto (tgt := 31) dX4_canComeBack_27 (by decide) ?_
    exact j_weak rfl (w_X4_canComeBack_b31  _ _ _ h_a0 _)
set_option maxRecDepth 20000 in
theorem w_X4_chances_b89 (kont24 : Nat → Int32 → Int32 → Int32 → Int32 → Int64 → Int32 → Int32 → Hp → Option (Int64 × Hp)) (hk24 : ∀ (a0 : Nat) (a1 : Int32) (a2 : Int32) (a3 : Int32) (a4 : Int32) (a5 : Int64) (a7 : Int32) (a8 : Int32) (h_a0 : a0 < cnt 11) (h : Hp), J encL RX4 cX4_chances 10 (some .long) 3 24 [(0, aR 11 a0), (1, aI a1), (2, aI a2), (3, aI a3), (4, aI a4), (5, aL a5), (7, aI a7), (8, aI a8)] [] h (kont24 a0 a1 a2 a3 a4 a5 a7 a8 h)) (a0 : Nat) (a1 : Int32) (a2 : Int32) (a3 : Int32) (a4 : Int32) (a5 : Int64) (a7 : Int32) (a8 : Int32) (h_a0 : a0 < cnt 11) (h : Hp) : J encL RX4 cX4_chances 10 (some .long) 3 89 [(0, aR 11 a0), (1, aI a1), (2, aI a2), (3, aI a3), (4, aI a4), (5, aL a5), (7, aI a7), (8, aI a8)] [] h (f_X4_chances_b89 kont24 a0 a1 a2 a3 a4 a5 a7 a8 h) := by
  unfold f_X4_chances_b89
  refine j_iload dX4_chances_89 rfl ?_
  refine j_iload_n dX4_chances_91 rfl ?_
  refine j_isub dX4_chances_92 ?_
  refine j_iload_n dX4_chances_93 rfl ?_
  refine j_iand dX4_chances_94 ?_
  refine j_istore dX4_chances_95 (by decide) ?_
  refine j_iinc (v := (1 : Int32)) dX4_chances_97 rfl (by decide) (by decide) ?_
  refine j_goto (tgt := 24) dX4_chances_100 (by decide) ?_
  exact j_weak rfl (hk24 _ _ _ _ _ _ _ _ h_a0 _)
set_option maxRecDepth 20000 in
theorem w_X4_chances_b24  : ∀ (n : Nat) (a0 : Nat) (a1 : Int32) (a2 : Int32) (a3 : Int32) (a4 : Int32) (a5 : Int64) (a7 : Int32) (a8 : Int32) (h_a0 : a0 < cnt 11) (h : Hp), J encL RX4 cX4_chances 10 (some .long) 3 24 [(0, aR 11 a0), (1, aI a1), (2, aI a2), (3, aI a3), (4, aI a4), (5, aL a5), (7, aI a7), (8, aI a8)] [] h (f_X4_chances_b24  n a0 a1 a2 a3 a4 a5 a7 a8 h) := by
  intro n
  induction n with
  | zero =>
    intros
    exact j_none
  | succ n hk24 =>
    intro a0 a1 a2 a3 a4 a5 a7 a8 h_a0 h
    show J encL RX4 cX4_chances 10 (some .long) 3 24 [(0, aR 11 a0), (1, aI a1), (2, aI a2), (3, aI a3), (4, aI a4), (5, aL a5), (7, aI a7), (8, aI a8)] [] h (f_X4_chances_b24_body  (f_X4_chances_b24  n) a0 a1 a2 a3 a4 a5 a7 a8 h)
    unfold f_X4_chances_b24_body
    refine j_iload dX4_chances_24 rfl ?_
    refine j_iconst (v := (1 : Int32)) dX4_chances_26 (by decide) ?_
    refine j_iload dX4_chances_27 rfl ?_
    refine j_ishl dX4_chances_29 ?_
    refine j_icmp_ge (tgt := 103) dX4_chances_30 (by decide) (fun c1 => ?_) (fun c1 => ?_)
    · refine j_lload dX4_chances_103 rfl ?_
      exact j_lret dX4_chances_105
    · refine j_aload_n dX4_chances_33 rfl ?_
      refine j_aload_n dX4_chances_34 rfl ?_
      refine jg_X4_42 h_a0 dX4_chances_35 ?_
      refine j_iload dX4_chances_38 rfl ?_
      refine j_iconst (v := (-1 : Int32)) dX4_chances_40 (by decide) ?_
      refine j_ixor dX4_chances_41 ?_
      refine j_iand dX4_chances_42 ?_
      refine j_aload_n dX4_chances_43 rfl ?_
      refine jg_X4_45 h_a0 dX4_chances_44 ?_
      refine jc_X4_103 (ct_X4_standing _ _ _ h_a0 _) (by decide) h_a0 (Nat.le_of_ble_eq_true rfl) dX4_chances_47 (fun v2 h3 e4 => ?_)
      refine j_iload_n dX4_chances_50 rfl ?_
      refine j_ishr dX4_chances_51 ?_
      refine j_iconst (v := (1 : Int32)) dX4_chances_52 (by decide) ?_
      refine j_iand dX4_chances_53 ?_
      refine j_iconst (v := (1 : Int32)) dX4_chances_54 (by decide) ?_
      refine j_icmp_ne (tgt := 89) dX4_chances_55 (by decide) (fun c5 => ?_) (fun c5 => ?_)
      · exact j_weak rfl (w_X4_chances_b89 _ hk24 _ _ _ _ _ _ _ _ h_a0 _)
      · refine j_iload dX4_chances_58 rfl ?_
        refine jc_X4_115 (ct_J6_bitCount _  _) (by decide) (Nat.le_of_ble_eq_true rfl) dX4_chances_60 (fun v6 h7 e8 => ?_)
        refine j_istore dX4_chances_63 (by decide) ?_
        refine j_lload dX4_chances_65 rfl ?_
        refine j_iload_n dX4_chances_67 rfl ?_
        refine j_iload dX4_chances_68 rfl ?_
        refine jc_X4_201 (ct_X5_power _ _  _) (by decide) (Nat.le_of_ble_eq_true rfl) dX4_chances_70 (fun v9 h10 e11 => ?_)
        refine j_bipush (v := (12 : Int32)) dX4_chances_73 (by decide) ?_
        refine j_iload_n dX4_chances_75 rfl ?_
        refine j_isub dX4_chances_76 ?_
        refine j_iload dX4_chances_77 rfl ?_
        refine j_iload dX4_chances_79 rfl ?_
        refine j_isub dX4_chances_81 ?_
        refine jc_X4_201 (ct_X5_power _ _  _) (by decide) (Nat.le_of_ble_eq_true rfl) dX4_chances_82 (fun v12 h13 e14 => ?_)
        refine j_lmul dX4_chances_85 ?_
        refine j_ladd dX4_chances_86 ?_
        refine j_lstore dX4_chances_87 (by decide) ?_
        exact j_weak rfl (w_X4_chances_b89 _ hk24 _ _ _ _ _ _ _ _ h_a0 _)
set_option maxRecDepth 20000 in
theorem ct_X4_chances (a0 : Nat) (a1 : Int32) (a2 : Int32) (a3 : Int32) (h_a0 : a0 < cnt 11) (h : Hp) : Ct encL yX4_chances cX4_chances 10 (some .long) 3 [aR 11 a0, aI a1, aI a2, aI a3] h (f_X4_chances a0 a1 a2 a3 h) := by
  refine ct_of [(0, aR 11 a0), (1, aI a1), (2, aI a2), (3, aI a3)] (by decide) (fun _ => rfl) (fun _ => Nat.le_of_ble_eq_true rfl) ?_
  show J encL RX4 cX4_chances 10 (some .long) 3 0 [(0, aR 11 a0), (1, aI a1), (2, aI a2), (3, aI a3)] [] h (f_X4_chances a0 a1 a2 a3 h)
  unfold f_X4_chances
  refine j_iload_n dX4_chances_0 rfl ?_
  refine jc_X4_115 (ct_J6_bitCount _  _) (by decide) (Nat.le_of_ble_eq_true rfl) dX4_chances_1 (fun v1 h2 e3 => ?_)
  refine j_istore dX4_chances_4 (by decide) ?_
  refine j_iload dX4_chances_6 rfl ?_
  refine j_bipush (v := (9 : Int32)) dX4_chances_8 (by decide) ?_
  refine j_icmp_le (tgt := 15) dX4_chances_10 (by decide) (fun c4 => ?_) (fun c4 => ?_)
  · refine j_lconst (v := (0 : Int64)) dX4_chances_15 (by decide) ?_
    refine j_lstore dX4_chances_16 (by decide) ?_
    refine j_iconst (v := (0 : Int32)) dX4_chances_18 (by decide) ?_
    refine j_istore dX4_chances_19 (by decide) ?_
    refine j_iconst (v := (0 : Int32)) dX4_chances_21 (by decide) ?_
    refine j_istore dX4_chances_22 (by decide) ?_
    exact j_weak rfl (w_X4_chances_b24  _ _ _ _ _ _ _ _ _ h_a0 _)
  · refine j_lconst (v := (0 : Int64)) dX4_chances_13 (by decide) ?_
    exact j_lret dX4_chances_14
set_option maxRecDepth 20000 in
theorem w_X4_growVine_b47 (kont2 : Nat → Int32 → Hp → Option (Unit × Hp)) (hk2 : ∀ (a0 : Nat) (a1 : Int32) (h_a0 : a0 < cnt 11) (h : Hp), J encU RX4 cX4_growVine 2 none 3 2 [(0, aR 11 a0), (1, aI a1)] [] h (kont2 a0 a1 h)) (a0 : Nat) (a1 : Int32) (h_a0 : a0 < cnt 11) (h : Hp) : J encU RX4 cX4_growVine 2 none 3 47 [(0, aR 11 a0), (1, aI a1)] [] h (f_X4_growVine_b47 kont2 a0 a1 h) := by
  unfold f_X4_growVine_b47
  refine j_iinc (v := (1 : Int32)) dX4_growVine_47 rfl (by decide) (by decide) ?_
  refine j_goto (tgt := 2) dX4_growVine_50 (by decide) ?_
  exact j_weak rfl (hk2 _ _ h_a0 _)
set_option maxRecDepth 20000 in
theorem w_X4_growVine_b2  : ∀ (n : Nat) (a0 : Nat) (a1 : Int32) (h_a0 : a0 < cnt 11) (h : Hp), J encU RX4 cX4_growVine 2 none 3 2 [(0, aR 11 a0), (1, aI a1)] [] h (f_X4_growVine_b2  n a0 a1 h) := by
  intro n
  induction n with
  | zero =>
    intros
    exact j_none
  | succ n hk2 =>
    intro a0 a1 h_a0 h
    show J encU RX4 cX4_growVine 2 none 3 2 [(0, aR 11 a0), (1, aI a1)] [] h (f_X4_growVine_b2_body  (f_X4_growVine_b2  n) a0 a1 h)
    unfold f_X4_growVine_b2_body
    refine j_iload_n dX4_growVine_2 rfl ?_
    refine j_aload_n dX4_growVine_3 rfl ?_
    refine jg_X4_39 h_a0 dX4_growVine_4 ?_
    refine j_icmp_ge (tgt := 53) dX4_growVine_7 (by decide) (fun c1 => ?_) (fun c1 => ?_)
    · exact j_vret dX4_growVine_53
    · refine j_aload_n dX4_growVine_10 rfl ?_
      refine j_iload_n dX4_growVine_11 rfl ?_
      refine jc_X4_155 (ct_X4_isIn _ _ h_a0 _) (by decide) h_a0 (Nat.le_of_ble_eq_true rfl) dX4_growVine_12 (fun v2 h3 e4 => ?_)
      refine j_if_eq (tgt := 47) dX4_growVine_15 (by decide) (fun c5 => ?_) (fun c5 => ?_)
      · exact j_weak rfl (w_X4_growVine_b47 _ hk2 _ _ h_a0 _)
      · refine j_aload_n dX4_growVine_18 rfl ?_
        refine j_iload_n dX4_growVine_19 rfl ?_
        refine jc_X4_165 (ct_X4_hasVine _ _ h_a0 _) (by decide) h_a0 (Nat.le_of_ble_eq_true rfl) dX4_growVine_20 (fun v6 h7 e8 => ?_)
        refine j_if_ne (tgt := 47) dX4_growVine_23 (by decide) (fun c9 => ?_) (fun c9 => ?_)
        · exact j_weak rfl (w_X4_growVine_b47 _ hk2 _ _ h_a0 _)
        · refine j_aload_n dX4_growVine_26 rfl ?_
          refine j_iload_n dX4_growVine_27 rfl ?_
          refine jc_X4_205 (ct_X4_touchesVine _ _ h_a0 _) (by decide) h_a0 (Nat.le_of_ble_eq_true rfl) dX4_growVine_28 (fun v10 h11 e12 => ?_)
          refine j_if_eq (tgt := 47) dX4_growVine_31 (by decide) (fun c13 => ?_) (fun c13 => ?_)
          · exact j_weak rfl (w_X4_growVine_b47 _ hk2 _ _ h_a0 _)
          · refine j_aload_n dX4_growVine_34 rfl ?_
            refine j_dup dX4_growVine_35 rfl ?_
            refine jg_X4_48 h_a0 dX4_growVine_36 ?_
            refine j_iconst (v := (1 : Int32)) dX4_growVine_39 (by decide) ?_
            refine j_iload_n dX4_growVine_40 rfl ?_
            refine j_ishl dX4_growVine_41 ?_
            refine j_ior dX4_growVine_42 ?_
            refine jp_X4_48 h_a0 dX4_growVine_43 ?_
            exact j_vret dX4_growVine_46
set_option maxRecDepth 20000 in
theorem ct_X4_growVine (a0 : Nat) (h_a0 : a0 < cnt 11) (h : Hp) : Ct encU yX4_growVine cX4_growVine 2 none 3 [aR 11 a0] h (f_X4_growVine a0 h) := by
  refine ct_of [(0, aR 11 a0)] (by decide) (fun _ => rfl) (fun _ => Nat.le_of_ble_eq_true rfl) ?_
  show J encU RX4 cX4_growVine 2 none 3 0 [(0, aR 11 a0)] [] h (f_X4_growVine a0 h)
  unfold f_X4_growVine
  refine j_iconst (v := (0 : Int32)) dX4_growVine_0 (by decide) ?_
  refine j_istore_n dX4_growVine_1 (by decide) ?_
  exact j_weak rfl (w_X4_growVine_b2  _ _ _ h_a0 _)
set_option maxRecDepth 20000 in
theorem ct_X4_standingNow (a0 : Nat) (h_a0 : a0 < cnt 11) (h : Hp) : Ct encI yX4_standingNow cX4_standingNow 1 (some .int) 3 [aR 11 a0] h (f_X4_standingNow a0 h) := by
  refine ct_of [(0, aR 11 a0)] (by decide) (fun _ => rfl) (fun _ => Nat.le_of_ble_eq_true rfl) ?_
  show J encI RX4 cX4_standingNow 1 (some .int) 3 0 [(0, aR 11 a0)] [] h (f_X4_standingNow a0 h)
  unfold f_X4_standingNow
  refine j_aload_n dX4_standingNow_0 rfl ?_
  refine j_aload_n dX4_standingNow_1 rfl ?_
  refine jg_X4_42 h_a0 dX4_standingNow_2 ?_
  refine j_aload_n dX4_standingNow_5 rfl ?_
  refine jg_X4_45 h_a0 dX4_standingNow_6 ?_
  refine jc_X4_103 (ct_X4_standing _ _ _ h_a0 _) (by decide) h_a0 (Nat.le_of_ble_eq_true rfl) dX4_standingNow_9 (fun v1 h2 e3 => ?_)
  exact j_iret dX4_standingNow_12
set_option maxRecDepth 20000 in
theorem w_X5_digest_b77 (kont42 : Int64 → Int32 → Hp → Option (Int64 × Hp)) (hk42 : ∀ (a1 : Int64) (a3 : Int32)  (h : Hp), J encL RX5 cX5_digest 4 (some .long) 3 42 [(0, aR 0 0), (1, aL a1), (3, aI a3)] [] h (kont42 a1 a3 h)) (a3 : Int32) (s0 : Int64) (s1 : Int32)  (h : Hp) : J encL RX5 cX5_digest 4 (some .long) 3 77 [(0, aR 0 0), (3, aI a3)] [aI s1, aL s0] h (f_X5_digest_b77 kont42 a3 s0 s1 h) := by
  unfold f_X5_digest_b77
  refine j_i2l dX5_digest_77 ?_
  refine j_ladd dX5_digest_78 ?_
  refine j_lstore_n dX5_digest_79 (by decide) ?_
  refine j_iinc (v := (1 : Int32)) dX5_digest_80 rfl (by decide) (by decide) ?_
  refine j_goto (tgt := 42) dX5_digest_83 (by decide) ?_
  exact j_weak rfl (hk42 _ _  _)
set_option maxRecDepth 20000 in
theorem w_X5_digest_b42  : ∀ (n : Nat) (a1 : Int64) (a3 : Int32)  (h : Hp), J encL RX5 cX5_digest 4 (some .long) 3 42 [(0, aR 0 0), (1, aL a1), (3, aI a3)] [] h (f_X5_digest_b42  n a1 a3 h) := by
  intro n
  induction n with
  | zero =>
    intros
    exact j_none
  | succ n hk42 =>
    intro a1 a3  h
    show J encL RX5 cX5_digest 4 (some .long) 3 42 [(0, aR 0 0), (1, aL a1), (3, aI a3)] [] h (f_X5_digest_b42_body  (f_X5_digest_b42  n) a1 a3 h)
    unfold f_X5_digest_b42_body
    refine j_iload_n dX5_digest_42 rfl ?_
    refine j_iconst (v := (3 : Int32)) dX5_digest_43 (by decide) ?_
    refine j_icmp_ge (tgt := 86) dX5_digest_44 (by decide) (fun c1 => ?_) (fun c1 => ?_)
    · refine j_aload_n dX5_digest_86 rfl ?_
      refine jg_X5_19 z_0 dX5_digest_87 ?_
      refine j_aload_n dX5_digest_90 rfl ?_
      refine jg_X5_10 z_0 dX5_digest_91 ?_
      refine j_lload_n dX5_digest_94 rfl ?_
      refine jc_X5_297 (ct_X2_mixInto _  _) (by decide) z_1 (Nat.le_of_ble_eq_true rfl) dX5_digest_95 (fun v2 h3 e4 => ?_)
      refine jc_X5_298 (ct_X3_mixInto _  _) (by decide) z_5 (Nat.le_of_ble_eq_true rfl) dX5_digest_98 (fun v5 h6 e7 => ?_)
      exact j_lret dX5_digest_101
    · refine j_ldc2 (v := (31 : Int64)) dX5_digest_47 (gt_m 791 rfl rfl) ?_
      refine j_lload_n dX5_digest_50 rfl ?_
      refine j_lmul dX5_digest_51 ?_
      refine j_aload_n dX5_digest_52 rfl ?_
      refine jg_X5_37 z_0 dX5_digest_53 ?_
      refine j_iload_n dX5_digest_56 rfl ?_
      refine ja_18 z_18 dX5_digest_57 (fun q8 z9 => ?_)
      refine jg_X5_106 z9 dX5_digest_58 ?_
      refine j_if_eq (tgt := 76) dX5_digest_61 (by decide) (fun c10 => ?_) (fun c10 => ?_)
      · refine j_iconst (v := (-1 : Int32)) dX5_digest_76 (by decide) ?_
        exact j_weak rfl (w_X5_digest_b77 _ hk42 _ _ _  _)
      · refine j_aload_n dX5_digest_64 rfl ?_
        refine jg_X5_37 z_0 dX5_digest_65 ?_
        refine j_iload_n dX5_digest_68 rfl ?_
        refine ja_18 z_18 dX5_digest_69 (fun q11 z12 => ?_)
        refine jg_X5_154 z12 dX5_digest_70 ?_
        refine j_goto (tgt := 77) dX5_digest_73 (by decide) ?_
        exact j_weak rfl (w_X5_digest_b77 _ hk42 _ _ _  _)
set_option maxRecDepth 20000 in
theorem w_X5_digest_b6  : ∀ (n : Nat) (a1 : Int64) (a3 : Int32)  (h : Hp), J encL RX5 cX5_digest 4 (some .long) 3 6 [(0, aR 0 0), (1, aL a1), (3, aI a3)] [] h (f_X5_digest_b6  n a1 a3 h) := by
  intro n
  induction n with
  | zero =>
    intros
    exact j_none
  | succ n hk6 =>
    intro a1 a3  h
    show J encL RX5 cX5_digest 4 (some .long) 3 6 [(0, aR 0 0), (1, aL a1), (3, aI a3)] [] h (f_X5_digest_b6_body  (f_X5_digest_b6  n) a1 a3 h)
    unfold f_X5_digest_b6_body
    refine j_iload_n dX5_digest_6 rfl ?_
    refine j_bipush (v := (8 : Int32)) dX5_digest_7 (by decide) ?_
    refine j_icmp_ge (tgt := 31) dX5_digest_9 (by decide) (fun c1 => ?_) (fun c1 => ?_)
    · refine j_aload_n dX5_digest_31 rfl ?_
      refine jg_X5_33 z_0 dX5_digest_32 ?_
      refine j_lload_n dX5_digest_35 rfl ?_
      refine jc_X5_293 (ct_X4_mixInto _ _ (Nat.le_of_ble_eq_true rfl) _) (by decide) (Nat.le_of_ble_eq_true rfl) (Nat.le_of_ble_eq_true rfl) dX5_digest_36 (fun v2 h3 e4 => ?_)
      refine j_lstore_n dX5_digest_39 (by decide) ?_
      refine j_iconst (v := (0 : Int32)) dX5_digest_40 (by decide) ?_
      refine j_istore_n dX5_digest_41 (by decide) ?_
      exact j_weak rfl (w_X5_digest_b42  _ _ _  _)
    · refine j_ldc2 (v := (31 : Int64)) dX5_digest_12 (gt_m 791 rfl rfl) ?_
      refine j_lload_n dX5_digest_15 rfl ?_
      refine j_lmul dX5_digest_16 ?_
      refine j_aload_n dX5_digest_17 rfl ?_
      refine j_iload_n dX5_digest_18 rfl ?_
      refine jc_X5_290 (ct_X5_count _  _) (by decide) z_0 (Nat.le_of_ble_eq_true rfl) dX5_digest_19 (fun v5 h6 e7 => ?_)
      refine j_i2l dX5_digest_22 ?_
      refine j_ladd dX5_digest_23 ?_
      refine j_lstore_n dX5_digest_24 (by decide) ?_
      refine j_iinc (v := (1 : Int32)) dX5_digest_25 rfl (by decide) (by decide) ?_
      refine j_goto (tgt := 6) dX5_digest_28 (by decide) ?_
      exact j_weak rfl (hk6 _ _  _)
set_option maxRecDepth 20000 in
theorem ct_X5_digest   (h : Hp) : Ct encL yX5_digest cX5_digest 4 (some .long) 3 [aR 0 0] h (f_X5_digest  h) := by
  refine ct_of [(0, aR 0 0)] (by decide) (fun _ => rfl) (fun _ => Nat.le_of_ble_eq_true rfl) ?_
  show J encL RX5 cX5_digest 4 (some .long) 3 0 [(0, aR 0 0)] [] h (f_X5_digest  h)
  unfold f_X5_digest
  refine j_ldc2 (v := (17 : Int64)) dX5_digest_0 (gt_m 790 rfl rfl) ?_
  refine j_lstore_n dX5_digest_3 (by decide) ?_
  refine j_iconst (v := (0 : Int32)) dX5_digest_4 (by decide) ?_
  refine j_istore_n dX5_digest_5 (by decide) ?_
  exact j_weak rfl (w_X5_digest_b6  _ _ _  _)
set_option maxRecDepth 20000 in
theorem w_X5_rich_b40 (kont13 : Int32 → Int32 → Int32 → Hp → Option (Int32 × Hp)) (hk13 : ∀ (a1 : Int32) (a2 : Int32) (a3 : Int32)  (h : Hp), J encI RX5 cX5_rich 5 (some .int) 3 13 [(0, aR 0 0), (1, aI a1), (2, aI a2), (3, aI a3)] [] h (kont13 a1 a2 a3 h)) (a1 : Int32) (a2 : Int32) (a3 : Int32)  (h : Hp) : J encI RX5 cX5_rich 5 (some .int) 3 40 [(0, aR 0 0), (1, aI a1), (2, aI a2), (3, aI a3)] [] h (f_X5_rich_b40 kont13 a1 a2 a3 h) := by
  unfold f_X5_rich_b40
  refine j_iinc (v := (1 : Int32)) dX5_rich_40 rfl (by decide) (by decide) ?_
  refine j_goto (tgt := 13) dX5_rich_43 (by decide) ?_
  exact j_weak rfl (hk13 _ _ _  _)
set_option maxRecDepth 20000 in
theorem w_X5_rich_b13  : ∀ (n : Nat) (a1 : Int32) (a2 : Int32) (a3 : Int32)  (h : Hp), J encI RX5 cX5_rich 5 (some .int) 3 13 [(0, aR 0 0), (1, aI a1), (2, aI a2), (3, aI a3)] [] h (f_X5_rich_b13  n a1 a2 a3 h) := by
  intro n
  induction n with
  | zero =>
    intros
    exact j_none
  | succ n hk13 =>
    intro a1 a2 a3  h
    show J encI RX5 cX5_rich 5 (some .int) 3 13 [(0, aR 0 0), (1, aI a1), (2, aI a2), (3, aI a3)] [] h (f_X5_rich_b13_body  (f_X5_rich_b13  n) a1 a2 a3 h)
    unfold f_X5_rich_b13_body
    refine j_iload_n dX5_rich_13 rfl ?_
    refine j_bipush (v := (6 : Int32)) dX5_rich_14 (by decide) ?_
    refine j_icmp_ge (tgt := 46) dX5_rich_16 (by decide) (fun c1 => ?_) (fun c1 => ?_)
    · refine j_aload_n dX5_rich_46 rfl ?_
      refine j_iload_n dX5_rich_47 rfl ?_
      refine jp_X5_68 z_0 dX5_rich_48 ?_
      refine j_iload_n dX5_rich_51 rfl ?_
      exact j_iret dX5_rich_52
    · refine j_aload_n dX5_rich_19 rfl ?_
      refine jg_X5_33 z_0 dX5_rich_20 ?_
      refine j_iload_n dX5_rich_23 rfl ?_
      refine jc_X5_230 (ct_X4_netCredit _ _ (Nat.le_of_ble_eq_true rfl) _) (by decide) (Nat.le_of_ble_eq_true rfl) (Nat.le_of_ble_eq_true rfl) dX5_rich_24 (fun v2 h3 e4 => ?_)
      refine j_istore dX5_rich_27 (by decide) ?_
      refine j_iload dX5_rich_29 rfl ?_
      refine j_iload_n dX5_rich_31 rfl ?_
      refine j_icmp_le (tgt := 40) dX5_rich_32 (by decide) (fun c5 => ?_) (fun c5 => ?_)
      · exact j_weak rfl (w_X5_rich_b40 _ hk13 _ _ _  _)
      · refine j_iload dX5_rich_35 rfl ?_
        refine j_istore_n dX5_rich_37 (by decide) ?_
        refine j_iload_n dX5_rich_38 rfl ?_
        refine j_istore_n dX5_rich_39 (by decide) ?_
        exact j_weak rfl (w_X5_rich_b40 _ hk13 _ _ _  _)
set_option maxRecDepth 20000 in
theorem ct_X5_rich   (h : Hp) : Ct encI yX5_rich cX5_rich 5 (some .int) 3 [aR 0 0] h (f_X5_rich  h) := by
  refine ct_of [(0, aR 0 0)] (by decide) (fun _ => rfl) (fun _ => Nat.le_of_ble_eq_true rfl) ?_
  show J encI RX5 cX5_rich 5 (some .int) 3 0 [(0, aR 0 0)] [] h (f_X5_rich  h)
  unfold f_X5_rich
  refine j_iconst (v := (0 : Int32)) dX5_rich_0 (by decide) ?_
  refine j_istore_n dX5_rich_1 (by decide) ?_
  refine j_aload_n dX5_rich_2 rfl ?_
  refine jg_X5_33 z_0 dX5_rich_3 ?_
  refine j_iconst (v := (0 : Int32)) dX5_rich_6 (by decide) ?_
  refine jc_X5_230 (ct_X4_netCredit _ _ (Nat.le_of_ble_eq_true rfl) _) (by decide) (Nat.le_of_ble_eq_true rfl) (Nat.le_of_ble_eq_true rfl) dX5_rich_7 (fun v1 h2 e3 => ?_)
  refine j_istore_n dX5_rich_10 (by decide) ?_
  refine j_iconst (v := (1 : Int32)) dX5_rich_11 (by decide) ?_
  refine j_istore_n dX5_rich_12 (by decide) ?_
  exact j_weak rfl (w_X5_rich_b13  _ _ _ _  _)
set_option maxRecDepth 20000 in
theorem ct_X6_asks (a1 : Int32)  (h : Hp) : Ct encI yX6_asks cX6_asks 4 (some .int) 3 [aR 20 0, aI a1] h (f_X6_asks a1 h) := by
  refine ct_of [(0, aR 20 0), (1, aI a1)] (by decide) (fun _ => rfl) (fun _ => Nat.le_of_ble_eq_true rfl) ?_
  show J encI RX6 cX6_asks 4 (some .int) 3 0 [(0, aR 20 0), (1, aI a1)] [] h (f_X6_asks a1 h)
  unfold f_X6_asks
  refine j_aload_n dX6_asks_0 rfl ?_
  refine j_iload_n dX6_asks_1 rfl ?_
  refine jc_X6_183 (ct_X6_askedIn _  _) (by decide) z_20 (Nat.le_of_ble_eq_true rfl) dX6_asks_2 (fun v1 h2 e3 => ?_)
  refine j_istore_n dX6_asks_5 (by decide) ?_
  refine j_iload_n dX6_asks_6 rfl ?_
  refine j_if_ge (tgt := 12) dX6_asks_7 (by decide) (fun c4 => ?_) (fun c4 => ?_)
  · refine j_aload_n dX6_asks_12 rfl ?_
    refine j_iload_n dX6_asks_13 rfl ?_
    refine jc_X6_195 (ct_X6_asksOf _  _) (by decide) z_20 (Nat.le_of_ble_eq_true rfl) dX6_asks_14 (fun v5 h6 e7 => ?_)
    refine j_istore_n dX6_asks_17 (by decide) ?_
    refine j_aload_n dX6_asks_18 rfl ?_
    refine j_iload_n dX6_asks_19 rfl ?_
    refine j_aload_n dX6_asks_20 rfl ?_
    refine jg_X6_141 z_20 dX6_asks_21 ?_
    refine j_iconst (v := (-1 : Int32)) dX6_asks_24 (by decide) ?_
    refine j_ixor dX6_asks_25 ?_
    refine j_iand dX6_asks_26 ?_
    refine j_iload_n dX6_asks_27 rfl ?_
    refine jc_X6_77 (ct_X6_ask _ _  _) (by decide) z_20 (Nat.le_of_ble_eq_true rfl) dX6_asks_28 (fun v8 h9 e10 => ?_)
    exact j_iret dX6_asks_31
  · refine j_iload_n dX6_asks_10 rfl ?_
    exact j_iret dX6_asks_11
set_option maxRecDepth 20000 in
theorem ct_X6_at (a1 : Int32) (a2 : Int32)  (h : Hp) : Ct encI yX6_at cX6_at 4 (some .int) 3 [aR 20 0, aI a1, aI a2] h (f_X6_at a1 a2 h) := by
  refine ct_of [(0, aR 20 0), (1, aI a1), (2, aI a2)] (by decide) (fun _ => rfl) (fun _ => Nat.le_of_ble_eq_true rfl) ?_
  show J encI RX6 cX6_at 4 (some .int) 3 0 [(0, aR 20 0), (1, aI a1), (2, aI a2)] [] h (f_X6_at a1 a2 h)
  unfold f_X6_at
  refine j_aload_n dX6_at_0 rfl ?_
  refine j_iload_n dX6_at_1 rfl ?_
  refine jc_X6_70 (ct_X6_askedRow _  _) (by decide) z_20 (Nat.le_of_ble_eq_true rfl) dX6_at_2 (fun v1 h2 e3 => ?_)
  refine j_istore_n dX6_at_5 (by decide) ?_
  refine j_iload_n dX6_at_6 rfl ?_
  refine j_if_ge (tgt := 12) dX6_at_7 (by decide) (fun c4 => ?_) (fun c4 => ?_)
  · refine j_iload_n dX6_at_12 rfl ?_
    refine j_iconst (v := (0 : Int32)) dX6_at_13 (by decide) ?_
    refine j_aload_n dX6_at_14 rfl ?_
    refine jg_X6_17 z_20 dX6_at_15 ?_
    refine j_iload_n dX6_at_18 rfl ?_
    refine j_iald (ic_22 _) z_22 dX6_at_19 (fun q5 => ?_)
    refine j_iconst (v := (1 : Int32)) dX6_at_20 (by decide) ?_
    refine j_isub dX6_at_21 ?_
    refine jc_X6_51 (ct_X6_in _ _ _  _) (by decide) (Nat.le_of_ble_eq_true rfl) dX6_at_22 (fun v6 h7 e8 => ?_)
    refine j_if_eq (tgt := 42) dX6_at_25 (by decide) (fun c9 => ?_) (fun c9 => ?_)
    · refine j_aload_n dX6_at_42 rfl ?_
      refine j_iconst (v := (2 : Int32)) dX6_at_43 (by decide) ?_
      refine jc_X6_59 (ct_X6_meet _  _) (by decide) z_20 (Nat.le_of_ble_eq_true rfl) dX6_at_44 (fun v10 h11 e12 => ?_)
      exact j_iret dX6_at_47
    · refine j_aload_n dX6_at_28 rfl ?_
      refine j_aload_n dX6_at_29 rfl ?_
      refine j_iload_n dX6_at_30 rfl ?_
      refine j_iload_n dX6_at_31 rfl ?_
      refine jc_X6_73 (ct_X6_rowAt _ _  _) (by decide) z_20 (Nat.le_of_ble_eq_true rfl) dX6_at_32 (fun v13 h14 e15 => ?_)
      refine j_iconst (v := (1 : Int32)) dX6_at_35 (by decide) ?_
      refine jc_X6_77 (ct_X6_ask _ _  _) (by decide) z_20 (Nat.le_of_ble_eq_true rfl) dX6_at_36 (fun v16 h17 e18 => ?_)
      refine j_goto (tgt := 47) dX6_at_39 (by decide) ?_
      exact j_iret dX6_at_47
  · refine j_iload_n dX6_at_10 rfl ?_
    exact j_iret dX6_at_11
set_option maxRecDepth 20000 in
theorem w_X6_digest_b67 (kont36 : Int32 → Hp → Option (Int64 × Hp)) (hk36 : ∀ (a1 : Int32)  (h : Hp), J encL RX6 cX6_digest 3 (some .long) 3 36 [(0, aR 20 0), (1, aI a1)] [] h (kont36 a1 h)) : ∀ (n : Nat) (a1 : Int32) (a2 : Int32)  (h : Hp), J encL RX6 cX6_digest 3 (some .long) 3 67 [(0, aR 20 0), (1, aI a1), (2, aI a2)] [] h (f_X6_digest_b67 kont36 n a1 a2 h) := by
  intro n
  induction n with
  | zero =>
    intros
    exact j_none
  | succ n hk67 =>
    intro a1 a2  h
    show J encL RX6 cX6_digest 3 (some .long) 3 67 [(0, aR 20 0), (1, aI a1), (2, aI a2)] [] h (f_X6_digest_b67_body kont36 (f_X6_digest_b67 kont36 n) a1 a2 h)
    unfold f_X6_digest_b67_body
    refine j_iload_n dX6_digest_67 rfl ?_
    refine j_aload_n dX6_digest_68 rfl ?_
    refine jg_X6_17 z_20 dX6_digest_69 ?_
    refine j_iload_n dX6_digest_72 rfl ?_
    refine j_iald (ic_22 _) z_22 dX6_digest_73 (fun q1 => ?_)
    refine j_icmp_ge (tgt := 93) dX6_digest_74 (by decide) (fun c2 => ?_) (fun c2 => ?_)
    · refine j_iinc (v := (1 : Int32)) dX6_digest_93 rfl (by decide) (by decide) ?_
      refine j_goto (tgt := 36) dX6_digest_96 (by decide) ?_
      exact j_weak rfl (hk36 _  _)
    · refine j_aload_n dX6_digest_77 rfl ?_
      refine j_aload_n dX6_digest_78 rfl ?_
      refine j_iload_n dX6_digest_79 rfl ?_
      refine j_iload_n dX6_digest_80 rfl ?_
      refine jc_X6_73 (ct_X6_rowAt _ _  _) (by decide) z_20 (Nat.le_of_ble_eq_true rfl) dX6_digest_81 (fun v3 h4 e5 => ?_)
      refine jc_X6_232 (ct_X6_mix _  _) (by decide) z_20 (Nat.le_of_ble_eq_true rfl) dX6_digest_84 (fun v6 h7 e8 => ?_)
      refine j_iinc (v := (1 : Int32)) dX6_digest_87 rfl (by decide) (by decide) ?_
      refine j_goto (tgt := 67) dX6_digest_90 (by decide) ?_
      exact j_weak rfl (hk67 _ _  _)
set_option maxRecDepth 20000 in
theorem w_X6_digest_b62 (kont36 : Int32 → Hp → Option (Int64 × Hp)) (hk36 : ∀ (a1 : Int32)  (h : Hp), J encL RX6 cX6_digest 3 (some .long) 3 36 [(0, aR 20 0), (1, aI a1)] [] h (kont36 a1 h)) (a1 : Int32) (s1 : Int32)  (h : Hp) : J encL RX6 cX6_digest 3 (some .long) 3 62 [(0, aR 20 0), (1, aI a1)] [aI s1, aR 20 0] h (f_X6_digest_b62 kont36 a1 s1 h) := by
  unfold f_X6_digest_b62
  refine jc_X6_232 (ct_X6_mix _  _) (by decide) z_20 (Nat.le_of_ble_eq_true rfl) dX6_digest_62 (fun v1 h2 e3 => ?_)
  refine j_iconst (v := (0 : Int32)) dX6_digest_65 (by decide) ?_
  refine j_istore_n dX6_digest_66 (by decide) ?_
  exact j_weak rfl (w_X6_digest_b67 _ hk36 _ _ _  _)
set_option maxRecDepth 20000 in
theorem w_X6_digest_b131 (kont101 : Int32 → Hp → Option (Int64 × Hp)) (hk101 : ∀ (a1 : Int32)  (h : Hp), J encL RX6 cX6_digest 3 (some .long) 3 101 [(0, aR 20 0), (1, aI a1)] [] h (kont101 a1 h)) : ∀ (n : Nat) (a1 : Int32) (a2 : Int32)  (h : Hp), J encL RX6 cX6_digest 3 (some .long) 3 131 [(0, aR 20 0), (1, aI a1), (2, aI a2)] [] h (f_X6_digest_b131 kont101 n a1 a2 h) := by
  intro n
  induction n with
  | zero =>
    intros
    exact j_none
  | succ n hk131 =>
    intro a1 a2  h
    show J encL RX6 cX6_digest 3 (some .long) 3 131 [(0, aR 20 0), (1, aI a1), (2, aI a2)] [] h (f_X6_digest_b131_body kont101 (f_X6_digest_b131 kont101 n) a1 a2 h)
    unfold f_X6_digest_b131_body
    refine j_iload_n dX6_digest_131 rfl ?_
    refine j_aload_n dX6_digest_132 rfl ?_
    refine jg_X6_26 z_20 dX6_digest_133 ?_
    refine j_iload_n dX6_digest_136 rfl ?_
    refine j_iald (ic_25 _) z_25 dX6_digest_137 (fun q1 => ?_)
    refine j_icmp_ge (tgt := 162) dX6_digest_138 (by decide) (fun c2 => ?_) (fun c2 => ?_)
    · refine j_iinc (v := (1 : Int32)) dX6_digest_162 rfl (by decide) (by decide) ?_
      refine j_goto (tgt := 101) dX6_digest_165 (by decide) ?_
      exact j_weak rfl (hk101 _  _)
    · refine j_aload_n dX6_digest_141 rfl ?_
      refine j_aload_n dX6_digest_142 rfl ?_
      refine jg_X6_29 z_20 dX6_digest_143 ?_
      refine j_bipush (v := (100 : Int32)) dX6_digest_146 (by decide) ?_
      refine j_iload_n dX6_digest_148 rfl ?_
      refine j_imul dX6_digest_149 ?_
      refine j_iload_n dX6_digest_150 rfl ?_
      refine j_iadd dX6_digest_151 ?_
      refine j_iald (ic_26 _) z_26 dX6_digest_152 (fun q3 => ?_)
      refine jc_X6_232 (ct_X6_mix _  _) (by decide) z_20 (Nat.le_of_ble_eq_true rfl) dX6_digest_153 (fun v4 h5 e6 => ?_)
      refine j_iinc (v := (1 : Int32)) dX6_digest_156 rfl (by decide) (by decide) ?_
      refine j_goto (tgt := 131) dX6_digest_159 (by decide) ?_
      exact j_weak rfl (hk131 _ _  _)
set_option maxRecDepth 20000 in
theorem w_X6_digest_b126 (kont101 : Int32 → Hp → Option (Int64 × Hp)) (hk101 : ∀ (a1 : Int32)  (h : Hp), J encL RX6 cX6_digest 3 (some .long) 3 101 [(0, aR 20 0), (1, aI a1)] [] h (kont101 a1 h)) (a1 : Int32) (s1 : Int32)  (h : Hp) : J encL RX6 cX6_digest 3 (some .long) 3 126 [(0, aR 20 0), (1, aI a1)] [aI s1, aR 20 0] h (f_X6_digest_b126 kont101 a1 s1 h) := by
  unfold f_X6_digest_b126
  refine jc_X6_232 (ct_X6_mix _  _) (by decide) z_20 (Nat.le_of_ble_eq_true rfl) dX6_digest_126 (fun v1 h2 e3 => ?_)
  refine j_iconst (v := (0 : Int32)) dX6_digest_129 (by decide) ?_
  refine j_istore_n dX6_digest_130 (by decide) ?_
  exact j_weak rfl (w_X6_digest_b131 _ hk101 _ _ _  _)
set_option maxRecDepth 20000 in
theorem w_X6_digest_b101  : ∀ (n : Nat) (a1 : Int32)  (h : Hp), J encL RX6 cX6_digest 3 (some .long) 3 101 [(0, aR 20 0), (1, aI a1)] [] h (f_X6_digest_b101  n a1 h) := by
  intro n
  induction n with
  | zero =>
    intros
    exact j_none
  | succ n hk101 =>
    intro a1  h
    show J encL RX6 cX6_digest 3 (some .long) 3 101 [(0, aR 20 0), (1, aI a1)] [] h (f_X6_digest_b101_body  (f_X6_digest_b101  n) a1 h)
    unfold f_X6_digest_b101_body
    refine j_iload_n dX6_digest_101 rfl ?_
    refine j_iconst (v := (4 : Int32)) dX6_digest_102 (by decide) ?_
    refine j_icmp_ge (tgt := 168) dX6_digest_103 (by decide) (fun c1 => ?_) (fun c1 => ?_)
    · refine j_aload_n dX6_digest_168 rfl ?_
      refine jg_X6_229 z_20 dX6_digest_169 ?_
      exact j_lret dX6_digest_172
    · refine j_aload_n dX6_digest_106 rfl ?_
      refine j_aload_n dX6_digest_107 rfl ?_
      refine jg_X6_26 z_20 dX6_digest_108 ?_
      refine j_iload_n dX6_digest_111 rfl ?_
      refine j_iald (ic_25 _) z_25 dX6_digest_112 (fun q2 => ?_)
      refine j_if_ge (tgt := 120) dX6_digest_113 (by decide) (fun c3 => ?_) (fun c3 => ?_)
      · refine j_aload_n dX6_digest_120 rfl ?_
        refine jg_X6_26 z_20 dX6_digest_121 ?_
        refine j_iload_n dX6_digest_124 rfl ?_
        refine j_iald (ic_25 _) z_25 dX6_digest_125 (fun q4 => ?_)
        exact j_weak rfl (w_X6_digest_b126 _ hk101 _ _  _)
      · refine j_iconst (v := (-1 : Int32)) dX6_digest_116 (by decide) ?_
        refine j_goto (tgt := 126) dX6_digest_117 (by decide) ?_
        exact j_weak rfl (w_X6_digest_b126 _ hk101 _ _  _)
set_option maxRecDepth 20000 in
theorem w_X6_digest_b36  : ∀ (n : Nat) (a1 : Int32)  (h : Hp), J encL RX6 cX6_digest 3 (some .long) 3 36 [(0, aR 20 0), (1, aI a1)] [] h (f_X6_digest_b36  n a1 h) := by
  intro n
  induction n with
  | zero =>
    intros
    exact j_none
  | succ n hk36 =>
    intro a1  h
    show J encL RX6 cX6_digest 3 (some .long) 3 36 [(0, aR 20 0), (1, aI a1)] [] h (f_X6_digest_b36_body  (f_X6_digest_b36  n) a1 h)
    unfold f_X6_digest_b36_body
    refine j_iload_n dX6_digest_36 rfl ?_
    refine j_bipush (v := (6 : Int32)) dX6_digest_37 (by decide) ?_
    refine j_icmp_ge (tgt := 99) dX6_digest_39 (by decide) (fun c1 => ?_) (fun c1 => ?_)
    · refine j_iconst (v := (0 : Int32)) dX6_digest_99 (by decide) ?_
      refine j_istore_n dX6_digest_100 (by decide) ?_
      exact j_weak rfl (w_X6_digest_b101  _ _  _)
    · refine j_aload_n dX6_digest_42 rfl ?_
      refine j_aload_n dX6_digest_43 rfl ?_
      refine jg_X6_17 z_20 dX6_digest_44 ?_
      refine j_iload_n dX6_digest_47 rfl ?_
      refine j_iald (ic_22 _) z_22 dX6_digest_48 (fun q2 => ?_)
      refine j_if_ge (tgt := 56) dX6_digest_49 (by decide) (fun c3 => ?_) (fun c3 => ?_)
      · refine j_aload_n dX6_digest_56 rfl ?_
        refine jg_X6_17 z_20 dX6_digest_57 ?_
        refine j_iload_n dX6_digest_60 rfl ?_
        refine j_iald (ic_22 _) z_22 dX6_digest_61 (fun q4 => ?_)
        exact j_weak rfl (w_X6_digest_b62 _ hk36 _ _  _)
      · refine j_iconst (v := (-1 : Int32)) dX6_digest_52 (by decide) ?_
        refine j_goto (tgt := 62) dX6_digest_53 (by decide) ?_
        exact j_weak rfl (w_X6_digest_b62 _ hk36 _ _  _)
set_option maxRecDepth 20000 in
theorem w_X6_digest_b9  : ∀ (n : Nat) (a1 : Int32)  (h : Hp), J encL RX6 cX6_digest 3 (some .long) 3 9 [(0, aR 20 0), (1, aI a1)] [] h (f_X6_digest_b9  n a1 h) := by
  intro n
  induction n with
  | zero =>
    intros
    exact j_none
  | succ n hk9 =>
    intro a1  h
    show J encL RX6 cX6_digest 3 (some .long) 3 9 [(0, aR 20 0), (1, aI a1)] [] h (f_X6_digest_b9_body  (f_X6_digest_b9  n) a1 h)
    unfold f_X6_digest_b9_body
    refine j_iload_n dX6_digest_9 rfl ?_
    refine j_bipush (v := (7 : Int32)) dX6_digest_10 (by decide) ?_
    refine j_icmp_gt (tgt := 30) dX6_digest_12 (by decide) (fun c1 => ?_) (fun c1 => ?_)
    · refine j_aload_n dX6_digest_30 rfl ?_
      refine jc_X6_238 (ct_X6_mixWall   _) (by decide) z_20 (Nat.le_of_ble_eq_true rfl) dX6_digest_31 (fun v2 h3 e4 => ?_)
      refine j_iconst (v := (0 : Int32)) dX6_digest_34 (by decide) ?_
      refine j_istore_n dX6_digest_35 (by decide) ?_
      exact j_weak rfl (w_X6_digest_b36  _ _  _)
    · refine j_aload_n dX6_digest_15 rfl ?_
      refine j_aload_n dX6_digest_16 rfl ?_
      refine j_iload_n dX6_digest_17 rfl ?_
      refine jc_X6_224 (ct_X6_counts _  _) (by decide) z_20 (Nat.le_of_ble_eq_true rfl) dX6_digest_18 (fun v5 h6 e7 => ?_)
      refine jc_X6_232 (ct_X6_mix _  _) (by decide) z_20 (Nat.le_of_ble_eq_true rfl) dX6_digest_21 (fun v8 h9 e10 => ?_)
      refine j_iinc (v := (1 : Int32)) dX6_digest_24 rfl (by decide) (by decide) ?_
      refine j_goto (tgt := 9) dX6_digest_27 (by decide) ?_
      exact j_weak rfl (hk9 _  _)
set_option maxRecDepth 20000 in
theorem ct_X6_digest   (h : Hp) : Ct encL yX6_digest cX6_digest 3 (some .long) 3 [aR 20 0] h (f_X6_digest  h) := by
  refine ct_of [(0, aR 20 0)] (by decide) (fun _ => rfl) (fun _ => Nat.le_of_ble_eq_true rfl) ?_
  show J encL RX6 cX6_digest 3 (some .long) 3 0 [(0, aR 20 0)] [] h (f_X6_digest  h)
  unfold f_X6_digest
  refine j_aload_n dX6_digest_0 rfl ?_
  refine j_ldc2 (v := (17 : Int64)) dX6_digest_1 (gt_m 1241 rfl rfl) ?_
  refine jp_X6_229 z_20 dX6_digest_4 ?_
  refine j_iconst (v := (0 : Int32)) dX6_digest_7 (by decide) ?_
  refine j_istore_n dX6_digest_8 (by decide) ?_
  exact j_weak rfl (w_X6_digest_b9  _ _  _)
set_option maxRecDepth 20000 in
theorem w_X6_goesOn_b15  : ∀ (n : Nat) (a1 : Int32)  (h : Hp), J encI RX6 cX6_goesOn 2 (some .int) 3 15 [(0, aR 20 0), (1, aI a1)] [] h (f_X6_goesOn_b15  n a1 h) := by
  intro n
  induction n with
  | zero =>
    intros
    exact j_none
  | succ n hk15 =>
    intro a1  h
    show J encI RX6 cX6_goesOn 2 (some .int) 3 15 [(0, aR 20 0), (1, aI a1)] [] h (f_X6_goesOn_b15_body  (f_X6_goesOn_b15  n) a1 h)
    unfold f_X6_goesOn_b15_body
    refine j_aload_n dX6_goesOn_15 rfl ?_
    refine jg_X6_86 z_20 dX6_goesOn_16 ?_
    refine j_aload_n dX6_goesOn_19 rfl ?_
    refine jg_X6_26 z_20 dX6_goesOn_20 ?_
    refine j_iload_n dX6_goesOn_23 rfl ?_
    refine j_iald (ic_25 _) z_25 dX6_goesOn_24 (fun q1 => ?_)
    refine j_icmp_ge (tgt := 82) dX6_goesOn_25 (by decide) (fun c2 => ?_) (fun c2 => ?_)
    · refine j_aload_n dX6_goesOn_82 rfl ?_
      refine jg_X6_98 z_20 dX6_goesOn_83 ?_
      refine j_if_ne (tgt := 98) dX6_goesOn_86 (by decide) (fun c3 => ?_) (fun c3 => ?_)
      · refine j_bipush (v := (-9 : Int32)) dX6_goesOn_98 (by decide) ?_
        exact j_iret dX6_goesOn_100
      · refine j_aload_n dX6_goesOn_89 rfl ?_
        refine jg_X6_26 z_20 dX6_goesOn_90 ?_
        refine j_iload_n dX6_goesOn_93 rfl ?_
        refine j_iald (ic_25 _) z_25 dX6_goesOn_94 (fun q4 => ?_)
        refine j_goto (tgt := 100) dX6_goesOn_95 (by decide) ?_
        exact j_iret dX6_goesOn_100
    · refine j_aload_n dX6_goesOn_28 rfl ?_
      refine j_iload_n dX6_goesOn_29 rfl ?_
      refine jc_X6_95 (ct_X6_here _  _) (by decide) z_20 (Nat.le_of_ble_eq_true rfl) dX6_goesOn_30 (fun v5 h6 e7 => ?_)
      refine j_bipush (v := (32 : Int32)) dX6_goesOn_33 (by decide) ?_
      refine j_icmp_ne (tgt := 51) dX6_goesOn_35 (by decide) (fun c8 => ?_) (fun c8 => ?_)
      · refine j_aload_n dX6_goesOn_51 rfl ?_
        refine jg_X6_98 z_20 dX6_goesOn_52 ?_
        refine j_if_ne (tgt := 69) dX6_goesOn_55 (by decide) (fun c9 => ?_) (fun c9 => ?_)
        · refine j_aload_n dX6_goesOn_69 rfl ?_
          refine j_iload_n dX6_goesOn_70 rfl ?_
          refine jc_X6_120 (ct_X6_readsBrick _  _) (by decide) z_20 (Nat.le_of_ble_eq_true rfl) dX6_goesOn_71 (fun v10 h11 e12 => ?_)
          refine j_if_ne (tgt := 15) dX6_goesOn_74 (by decide) (fun c13 => ?_) (fun c13 => ?_)
          · exact j_weak rfl (hk15 _  _)
          · refine j_aload_n dX6_goesOn_77 rfl ?_
            refine jg_X6_86 z_20 dX6_goesOn_78 ?_
            exact j_iret dX6_goesOn_81
        · refine j_aload_n dX6_goesOn_58 rfl ?_
          refine j_iload_n dX6_goesOn_59 rfl ?_
          refine jc_X6_117 (ct_X6_readsWide _  _) (by decide) z_20 (Nat.le_of_ble_eq_true rfl) dX6_goesOn_60 (fun v14 h15 e16 => ?_)
          refine j_if_ne (tgt := 15) dX6_goesOn_63 (by decide) (fun c17 => ?_) (fun c17 => ?_)
          · exact j_weak rfl (hk15 _  _)
          · refine j_goto (tgt := 77) dX6_goesOn_66 (by decide) ?_
            refine j_aload_n dX6_goesOn_77 rfl ?_
            refine jg_X6_86 z_20 dX6_goesOn_78 ?_
            exact j_iret dX6_goesOn_81
      · refine j_aload_n dX6_goesOn_38 rfl ?_
        refine j_dup dX6_goesOn_39 rfl ?_
        refine jg_X6_86 z_20 dX6_goesOn_40 ?_
        refine j_iconst (v := (1 : Int32)) dX6_goesOn_43 (by decide) ?_
        refine j_iadd dX6_goesOn_44 ?_
        refine jp_X6_86 z_20 dX6_goesOn_45 ?_
        refine j_goto (tgt := 15) dX6_goesOn_48 (by decide) ?_
        exact j_weak rfl (hk15 _  _)
set_option maxRecDepth 20000 in
theorem ct_X6_goesOn (a1 : Int32)  (h : Hp) : Ct encI yX6_goesOn cX6_goesOn 2 (some .int) 3 [aR 20 0, aI a1] h (f_X6_goesOn a1 h) := by
  refine ct_of [(0, aR 20 0), (1, aI a1)] (by decide) (fun _ => rfl) (fun _ => Nat.le_of_ble_eq_true rfl) ?_
  show J encI RX6 cX6_goesOn 2 (some .int) 3 0 [(0, aR 20 0), (1, aI a1)] [] h (f_X6_goesOn a1 h)
  unfold f_X6_goesOn
  refine j_aload_n dX6_goesOn_0 rfl ?_
  refine j_iconst (v := (0 : Int32)) dX6_goesOn_1 (by decide) ?_
  refine jp_X6_86 z_20 dX6_goesOn_2 ?_
  refine j_aload_n dX6_goesOn_5 rfl ?_
  refine j_iconst (v := (0 : Int32)) dX6_goesOn_6 (by decide) ?_
  refine jp_X6_98 z_20 dX6_goesOn_7 ?_
  refine j_aload_n dX6_goesOn_10 rfl ?_
  refine j_iconst (v := (0 : Int32)) dX6_goesOn_11 (by decide) ?_
  refine jp_X6_107 z_20 dX6_goesOn_12 ?_
  exact j_weak rfl (w_X6_goesOn_b15  _ _  _)
set_option maxRecDepth 20000 in
theorem w_X6_mean_b17  : ∀ (n : Nat) (a1 : Int32) (a3 : Int64) (a5 : Int32)  (h : Hp), J encI RX6 cX6_mean 6 (some .int) 3 17 [(0, aR 20 0), (1, aI a1), (3, aL a3), (5, aI a5)] [] h (f_X6_mean_b17  n a1 a3 a5 h) := by
  intro n
  induction n with
  | zero =>
    intros
    exact j_none
  | succ n hk17 =>
    intro a1 a3 a5  h
    show J encI RX6 cX6_mean 6 (some .int) 3 17 [(0, aR 20 0), (1, aI a1), (3, aL a3), (5, aI a5)] [] h (f_X6_mean_b17_body  (f_X6_mean_b17  n) a1 a3 a5 h)
    unfold f_X6_mean_b17_body
    refine j_iload dX6_mean_17 rfl ?_
    refine j_aload_n dX6_mean_19 rfl ?_
    refine jg_X6_17 z_20 dX6_mean_20 ?_
    refine j_iload_n dX6_mean_23 rfl ?_
    refine j_iald (ic_22 _) z_22 dX6_mean_24 (fun q1 => ?_)
    refine j_icmp_ge (tgt := 45) dX6_mean_25 (by decide) (fun c2 => ?_) (fun c2 => ?_)
    · refine j_aload_n dX6_mean_45 rfl ?_
      refine jg_X6_17 z_20 dX6_mean_46 ?_
      refine j_iload_n dX6_mean_49 rfl ?_
      refine j_iald (ic_22 _) z_22 dX6_mean_50 (fun q3 => ?_)
      refine j_if_ne (tgt := 62) dX6_mean_51 (by decide) (fun c4 => ?_) (fun c4 => ?_)
      · refine j_aload_n dX6_mean_62 rfl ?_
        refine j_lload_n dX6_mean_63 rfl ?_
        refine j_aload_n dX6_mean_64 rfl ?_
        refine jg_X6_17 z_20 dX6_mean_65 ?_
        refine j_iload_n dX6_mean_68 rfl ?_
        refine j_iald (ic_22 _) z_22 dX6_mean_69 (fun q5 => ?_)
        refine j_i2l dX6_mean_70 ?_
        refine j_gd (fun n6 => ?_)
        refine j_ldiv dX6_mean_71 n6 ?_
        refine j_l2i dX6_mean_72 ?_
        refine j_iconst (v := (1 : Int32)) dX6_mean_73 (by decide) ?_
        refine jc_X6_77 (ct_X6_ask _ _  _) (by decide) z_20 (Nat.le_of_ble_eq_true rfl) dX6_mean_74 (fun v7 h8 e9 => ?_)
        exact j_iret dX6_mean_77
      · refine j_aload_n dX6_mean_54 rfl ?_
        refine j_iconst (v := (4 : Int32)) dX6_mean_55 (by decide) ?_
        refine jc_X6_59 (ct_X6_meet _  _) (by decide) z_20 (Nat.le_of_ble_eq_true rfl) dX6_mean_56 (fun v10 h11 e12 => ?_)
        refine j_goto (tgt := 77) dX6_mean_59 (by decide) ?_
        exact j_iret dX6_mean_77
    · refine j_lload_n dX6_mean_28 rfl ?_
      refine j_aload_n dX6_mean_29 rfl ?_
      refine j_iload_n dX6_mean_30 rfl ?_
      refine j_iload dX6_mean_31 rfl ?_
      refine jc_X6_73 (ct_X6_rowAt _ _  _) (by decide) z_20 (Nat.le_of_ble_eq_true rfl) dX6_mean_33 (fun v13 h14 e15 => ?_)
      refine j_i2l dX6_mean_36 ?_
      refine j_ladd dX6_mean_37 ?_
      refine j_lstore_n dX6_mean_38 (by decide) ?_
      refine j_iinc (v := (1 : Int32)) dX6_mean_39 rfl (by decide) (by decide) ?_
      refine j_goto (tgt := 17) dX6_mean_42 (by decide) ?_
      exact j_weak rfl (hk17 _ _ _  _)
set_option maxRecDepth 20000 in
theorem ct_X6_mean (a1 : Int32)  (h : Hp) : Ct encI yX6_mean cX6_mean 6 (some .int) 3 [aR 20 0, aI a1] h (f_X6_mean a1 h) := by
  refine ct_of [(0, aR 20 0), (1, aI a1)] (by decide) (fun _ => rfl) (fun _ => Nat.le_of_ble_eq_true rfl) ?_
  show J encI RX6 cX6_mean 6 (some .int) 3 0 [(0, aR 20 0), (1, aI a1)] [] h (f_X6_mean a1 h)
  unfold f_X6_mean
  refine j_aload_n dX6_mean_0 rfl ?_
  refine j_iload_n dX6_mean_1 rfl ?_
  refine jc_X6_70 (ct_X6_askedRow _  _) (by decide) z_20 (Nat.le_of_ble_eq_true rfl) dX6_mean_2 (fun v1 h2 e3 => ?_)
  refine j_istore_n dX6_mean_5 (by decide) ?_
  refine j_iload_n dX6_mean_6 rfl ?_
  refine j_if_ge (tgt := 12) dX6_mean_7 (by decide) (fun c4 => ?_) (fun c4 => ?_)
  · refine j_lconst (v := (0 : Int64)) dX6_mean_12 (by decide) ?_
    refine j_lstore_n dX6_mean_13 (by decide) ?_
    refine j_iconst (v := (0 : Int32)) dX6_mean_14 (by decide) ?_
    refine j_istore dX6_mean_15 (by decide) ?_
    exact j_weak rfl (w_X6_mean_b17  _ _ _ _  _)
  · refine j_iload_n dX6_mean_10 rfl ?_
    exact j_iret dX6_mean_11
set_option maxRecDepth 20000 in
theorem ct_X6_put (a1 : Int32) (a2 : Int32) (a3 : Int32)  (h : Hp) : Ct encI yX6_put cX6_put 6 (some .int) 3 [aR 20 0, aI a1, aI a2, aI a3] h (f_X6_put a1 a2 a3 h) := by
  refine ct_of [(0, aR 20 0), (1, aI a1), (2, aI a2), (3, aI a3)] (by decide) (fun _ => rfl) (fun _ => Nat.le_of_ble_eq_true rfl) ?_
  show J encI RX6 cX6_put 6 (some .int) 3 0 [(0, aR 20 0), (1, aI a1), (2, aI a2), (3, aI a3)] [] h (f_X6_put a1 a2 a3 h)
  unfold f_X6_put
  refine j_aload_n dX6_put_0 rfl ?_
  refine j_iload_n dX6_put_1 rfl ?_
  refine jc_X6_83 (ct_X6_askedText _  _) (by decide) z_20 (Nat.le_of_ble_eq_true rfl) dX6_put_2 (fun v1 h2 e3 => ?_)
  refine j_istore dX6_put_5 (by decide) ?_
  refine j_iload dX6_put_7 rfl ?_
  refine j_if_ge (tgt := 15) dX6_put_9 (by decide) (fun c4 => ?_) (fun c4 => ?_)
  · refine j_iload_n dX6_put_15 rfl ?_
    refine j_iconst (v := (0 : Int32)) dX6_put_16 (by decide) ?_
    refine j_aload_n dX6_put_17 rfl ?_
    refine jg_X6_26 z_20 dX6_put_18 ?_
    refine j_iload_n dX6_put_21 rfl ?_
    refine j_iald (ic_25 _) z_25 dX6_put_22 (fun q5 => ?_)
    refine j_iconst (v := (1 : Int32)) dX6_put_23 (by decide) ?_
    refine j_isub dX6_put_24 ?_
    refine jc_X6_51 (ct_X6_in _ _ _  _) (by decide) (Nat.le_of_ble_eq_true rfl) dX6_put_25 (fun v6 h7 e8 => ?_)
    refine j_if_ne (tgt := 37) dX6_put_28 (by decide) (fun c9 => ?_) (fun c9 => ?_)
    · refine j_aload_n dX6_put_37 rfl ?_
      refine jg_X6_29 z_20 dX6_put_38 ?_
      refine j_bipush (v := (100 : Int32)) dX6_put_41 (by decide) ?_
      refine j_iload_n dX6_put_43 rfl ?_
      refine j_imul dX6_put_44 ?_
      refine j_iload_n dX6_put_45 rfl ?_
      refine j_iadd dX6_put_46 ?_
      refine j_iald (ic_26 _) z_26 dX6_put_47 (fun q10 => ?_)
      refine j_istore dX6_put_48 (by decide) ?_
      refine j_aload_n dX6_put_50 rfl ?_
      refine jg_X6_29 z_20 dX6_put_51 ?_
      refine j_bipush (v := (100 : Int32)) dX6_put_54 (by decide) ?_
      refine j_iload_n dX6_put_56 rfl ?_
      refine j_imul dX6_put_57 ?_
      refine j_iload_n dX6_put_58 rfl ?_
      refine j_iadd dX6_put_59 ?_
      refine j_iload_n dX6_put_60 rfl ?_
      refine j_i2b dX6_put_61 ?_
      refine j_iast (ic_26 _) z_26 dX6_put_62 (fun q11 => ?_)
      refine j_iload dX6_put_63 rfl ?_
      refine j_sipush (v := (1000 : Int32)) dX6_put_65 (by decide) ?_
      refine j_iadd dX6_put_68 ?_
      exact j_iret dX6_put_69
    · refine j_aload_n dX6_put_31 rfl ?_
      refine j_iconst (v := (2 : Int32)) dX6_put_32 (by decide) ?_
      refine jc_X6_59 (ct_X6_meet _  _) (by decide) z_20 (Nat.le_of_ble_eq_true rfl) dX6_put_33 (fun v12 h13 e14 => ?_)
      exact j_iret dX6_put_36
  · refine j_iload dX6_put_12 rfl ?_
    exact j_iret dX6_put_14
set_option maxRecDepth 20000 in
theorem w_X6_standing_b120 (kont5 : Int32 → Int32 → Int32 → Int32 → Hp → Option (Int32 × Hp)) (hk5 : ∀ (a1 : Int32) (a2 : Int32) (a3 : Int32) (a4 : Int32)  (h : Hp), J encI RX6 cX6_standing 9 (some .int) 3 5 [(0, aR 20 0), (1, aI a1), (2, aI a2), (3, aI a3), (4, aI a4)] [] h (kont5 a1 a2 a3 a4 h)) (kont15 : Int32 → Int32 → Int32 → Int32 → Int32 → Hp → Option (Int32 × Hp)) (hk15 : ∀ (a1 : Int32) (a2 : Int32) (a3 : Int32) (a4 : Int32) (a5 : Int32)  (h : Hp), J encI RX6 cX6_standing 9 (some .int) 3 15 [(0, aR 20 0), (1, aI a1), (2, aI a2), (3, aI a3), (4, aI a4), (5, aI a5)] [] h (kont15 a1 a2 a3 a4 a5 h)) (kont27 : Int32 → Int32 → Int32 → Int32 → Int32 → Int32 → Int32 → Hp → Option (Int32 × Hp)) (hk27 : ∀ (a1 : Int32) (a2 : Int32) (a3 : Int32) (a4 : Int32) (a5 : Int32) (a6 : Int32) (a7 : Int32)  (h : Hp), J encI RX6 cX6_standing 9 (some .int) 3 27 [(0, aR 20 0), (1, aI a1), (2, aI a2), (3, aI a3), (4, aI a4), (5, aI a5), (6, aI a6), (7, aI a7)] [] h (kont27 a1 a2 a3 a4 a5 a6 a7 h)) (a1 : Int32) (a2 : Int32) (a3 : Int32) (a4 : Int32) (a5 : Int32) (a7 : Int32) (s0 : Int32) (s1 : Int32)  (h : Hp) : J encI RX6 cX6_standing 9 (some .int) 3 120 [(0, aR 20 0), (1, aI a1), (2, aI a2), (3, aI a3), (4, aI a4), (5, aI a5), (7, aI a7)] [aI s1, aI s0] h (f_X6_standing_b120 kont5 kont15 kont27 a1 a2 a3 a4 a5 a7 s0 s1 h) := by
  unfold f_X6_standing_b120
  refine j_ior dX6_standing_120 ?_
  refine j_istore dX6_standing_121 (by decide) ?_
  refine j_iinc (v := (1 : Int32)) dX6_standing_123 rfl (by decide) (by decide) ?_
  refine j_goto (tgt := 27) dX6_standing_126 (by decide) ?_
  exact j_weak rfl (hk27 _ _ _ _ _ _ _  _)
set_option maxRecDepth 20000 in
theorem w_X6_standing_b119 (kont5 : Int32 → Int32 → Int32 → Int32 → Hp → Option (Int32 × Hp)) (hk5 : ∀ (a1 : Int32) (a2 : Int32) (a3 : Int32) (a4 : Int32)  (h : Hp), J encI RX6 cX6_standing 9 (some .int) 3 5 [(0, aR 20 0), (1, aI a1), (2, aI a2), (3, aI a3), (4, aI a4)] [] h (kont5 a1 a2 a3 a4 h)) (kont15 : Int32 → Int32 → Int32 → Int32 → Int32 → Hp → Option (Int32 × Hp)) (hk15 : ∀ (a1 : Int32) (a2 : Int32) (a3 : Int32) (a4 : Int32) (a5 : Int32)  (h : Hp), J encI RX6 cX6_standing 9 (some .int) 3 15 [(0, aR 20 0), (1, aI a1), (2, aI a2), (3, aI a3), (4, aI a4), (5, aI a5)] [] h (kont15 a1 a2 a3 a4 a5 h)) (kont27 : Int32 → Int32 → Int32 → Int32 → Int32 → Int32 → Int32 → Hp → Option (Int32 × Hp)) (hk27 : ∀ (a1 : Int32) (a2 : Int32) (a3 : Int32) (a4 : Int32) (a5 : Int32) (a6 : Int32) (a7 : Int32)  (h : Hp), J encI RX6 cX6_standing 9 (some .int) 3 27 [(0, aR 20 0), (1, aI a1), (2, aI a2), (3, aI a3), (4, aI a4), (5, aI a5), (6, aI a6), (7, aI a7)] [] h (kont27 a1 a2 a3 a4 a5 a6 a7 h)) (a1 : Int32) (a2 : Int32) (a3 : Int32) (a4 : Int32) (a5 : Int32) (a7 : Int32) (s0 : Int32)  (h : Hp) : J encI RX6 cX6_standing 9 (some .int) 3 119 [(0, aR 20 0), (1, aI a1), (2, aI a2), (3, aI a3), (4, aI a4), (5, aI a5), (7, aI a7)] [aI s0] h (f_X6_standing_b119 kont5 kont15 kont27 a1 a2 a3 a4 a5 a7 s0 h) := by
  unfold f_X6_standing_b119
  refine j_iconst (v := (0 : Int32)) dX6_standing_119 (by decide) ?_
  exact j_weak rfl (w_X6_standing_b120 _ hk5 _ hk15 _ hk27 _ _ _ _ _ _ _ _  _)
set_option maxRecDepth 20000 in
theorem w_X6_standing_b92 (kont5 : Int32 → Int32 → Int32 → Int32 → Hp → Option (Int32 × Hp)) (hk5 : ∀ (a1 : Int32) (a2 : Int32) (a3 : Int32) (a4 : Int32)  (h : Hp), J encI RX6 cX6_standing 9 (some .int) 3 5 [(0, aR 20 0), (1, aI a1), (2, aI a2), (3, aI a3), (4, aI a4)] [] h (kont5 a1 a2 a3 a4 h)) (kont15 : Int32 → Int32 → Int32 → Int32 → Int32 → Hp → Option (Int32 × Hp)) (hk15 : ∀ (a1 : Int32) (a2 : Int32) (a3 : Int32) (a4 : Int32) (a5 : Int32)  (h : Hp), J encI RX6 cX6_standing 9 (some .int) 3 15 [(0, aR 20 0), (1, aI a1), (2, aI a2), (3, aI a3), (4, aI a4), (5, aI a5)] [] h (kont15 a1 a2 a3 a4 a5 h)) (kont27 : Int32 → Int32 → Int32 → Int32 → Int32 → Int32 → Int32 → Hp → Option (Int32 × Hp)) (hk27 : ∀ (a1 : Int32) (a2 : Int32) (a3 : Int32) (a4 : Int32) (a5 : Int32) (a6 : Int32) (a7 : Int32)  (h : Hp), J encI RX6 cX6_standing 9 (some .int) 3 27 [(0, aR 20 0), (1, aI a1), (2, aI a2), (3, aI a3), (4, aI a4), (5, aI a5), (6, aI a6), (7, aI a7)] [] h (kont27 a1 a2 a3 a4 a5 a6 a7 h)) (a1 : Int32) (a2 : Int32) (a3 : Int32) (a4 : Int32) (a5 : Int32) (a6 : Int32) (a7 : Int32) (s0 : Int32)  (h : Hp) : J encI RX6 cX6_standing 9 (some .int) 3 92 [(0, aR 20 0), (1, aI a1), (2, aI a2), (3, aI a3), (4, aI a4), (5, aI a5), (6, aI a6), (7, aI a7)] [aI s0] h (f_X6_standing_b92 kont5 kont15 kont27 a1 a2 a3 a4 a5 a6 a7 s0 h) := by
  unfold f_X6_standing_b92
  refine j_istore dX6_standing_92 (by decide) ?_
  refine j_iload dX6_standing_94 rfl ?_
  refine j_iload dX6_standing_96 rfl ?_
  refine j_if_eq (tgt := 119) dX6_standing_98 (by decide) (fun c1 => ?_) (fun c1 => ?_)
  · exact j_weak rfl (w_X6_standing_b119 _ hk5 _ hk15 _ hk27 _ _ _ _ _ _ _  _)
  · refine j_aload_n dX6_standing_101 rfl ?_
    refine j_iload dX6_standing_102 rfl ?_
    refine j_iload_n dX6_standing_104 rfl ?_
    refine j_iload_n dX6_standing_105 rfl ?_
    refine jc_X6_165 (ct_X6_standsBy _ _ _  _) (by decide) z_20 (Nat.le_of_ble_eq_true rfl) dX6_standing_106 (fun v2 h3 e4 => ?_)
    refine j_if_eq (tgt := 119) dX6_standing_109 (by decide) (fun c5 => ?_) (fun c5 => ?_)
    · exact j_weak rfl (w_X6_standing_b119 _ hk5 _ hk15 _ hk27 _ _ _ _ _ _ _  _)
    · refine j_iconst (v := (1 : Int32)) dX6_standing_112 (by decide) ?_
      refine j_iload dX6_standing_113 rfl ?_
      refine j_ishl dX6_standing_115 ?_
      refine j_goto (tgt := 120) dX6_standing_116 (by decide) ?_
      exact j_weak rfl (w_X6_standing_b120 _ hk5 _ hk15 _ hk27 _ _ _ _ _ _ _ _  _)
set_option maxRecDepth 20000 in
theorem w_X6_standing_b91 (kont5 : Int32 → Int32 → Int32 → Int32 → Hp → Option (Int32 × Hp)) (hk5 : ∀ (a1 : Int32) (a2 : Int32) (a3 : Int32) (a4 : Int32)  (h : Hp), J encI RX6 cX6_standing 9 (some .int) 3 5 [(0, aR 20 0), (1, aI a1), (2, aI a2), (3, aI a3), (4, aI a4)] [] h (kont5 a1 a2 a3 a4 h)) (kont15 : Int32 → Int32 → Int32 → Int32 → Int32 → Hp → Option (Int32 × Hp)) (hk15 : ∀ (a1 : Int32) (a2 : Int32) (a3 : Int32) (a4 : Int32) (a5 : Int32)  (h : Hp), J encI RX6 cX6_standing 9 (some .int) 3 15 [(0, aR 20 0), (1, aI a1), (2, aI a2), (3, aI a3), (4, aI a4), (5, aI a5)] [] h (kont15 a1 a2 a3 a4 a5 h)) (kont27 : Int32 → Int32 → Int32 → Int32 → Int32 → Int32 → Int32 → Hp → Option (Int32 × Hp)) (hk27 : ∀ (a1 : Int32) (a2 : Int32) (a3 : Int32) (a4 : Int32) (a5 : Int32) (a6 : Int32) (a7 : Int32)  (h : Hp), J encI RX6 cX6_standing 9 (some .int) 3 27 [(0, aR 20 0), (1, aI a1), (2, aI a2), (3, aI a3), (4, aI a4), (5, aI a5), (6, aI a6), (7, aI a7)] [] h (kont27 a1 a2 a3 a4 a5 a6 a7 h)) (a1 : Int32) (a2 : Int32) (a3 : Int32) (a4 : Int32) (a5 : Int32) (a6 : Int32) (a7 : Int32)  (h : Hp) : J encI RX6 cX6_standing 9 (some .int) 3 91 [(0, aR 20 0), (1, aI a1), (2, aI a2), (3, aI a3), (4, aI a4), (5, aI a5), (6, aI a6), (7, aI a7)] [] h (f_X6_standing_b91 kont5 kont15 kont27 a1 a2 a3 a4 a5 a6 a7 h) := by
  unfold f_X6_standing_b91
  refine j_iconst (v := (0 : Int32)) dX6_standing_91 (by decide) ?_
  exact j_weak rfl (w_X6_standing_b92 _ hk5 _ hk15 _ hk27 _ _ _ _ _ _ _ _  _)
set_option maxRecDepth 20000 in
theorem w_X6_standing_b84 (kont5 : Int32 → Int32 → Int32 → Int32 → Hp → Option (Int32 × Hp)) (hk5 : ∀ (a1 : Int32) (a2 : Int32) (a3 : Int32) (a4 : Int32)  (h : Hp), J encI RX6 cX6_standing 9 (some .int) 3 5 [(0, aR 20 0), (1, aI a1), (2, aI a2), (3, aI a3), (4, aI a4)] [] h (kont5 a1 a2 a3 a4 h)) (kont15 : Int32 → Int32 → Int32 → Int32 → Int32 → Hp → Option (Int32 × Hp)) (hk15 : ∀ (a1 : Int32) (a2 : Int32) (a3 : Int32) (a4 : Int32) (a5 : Int32)  (h : Hp), J encI RX6 cX6_standing 9 (some .int) 3 15 [(0, aR 20 0), (1, aI a1), (2, aI a2), (3, aI a3), (4, aI a4), (5, aI a5)] [] h (kont15 a1 a2 a3 a4 a5 h)) (kont27 : Int32 → Int32 → Int32 → Int32 → Int32 → Int32 → Int32 → Hp → Option (Int32 × Hp)) (hk27 : ∀ (a1 : Int32) (a2 : Int32) (a3 : Int32) (a4 : Int32) (a5 : Int32) (a6 : Int32) (a7 : Int32)  (h : Hp), J encI RX6 cX6_standing 9 (some .int) 3 27 [(0, aR 20 0), (1, aI a1), (2, aI a2), (3, aI a3), (4, aI a4), (5, aI a5), (6, aI a6), (7, aI a7)] [] h (kont27 a1 a2 a3 a4 a5 a6 a7 h)) (a1 : Int32) (a2 : Int32) (a3 : Int32) (a4 : Int32) (a5 : Int32) (a6 : Int32) (a7 : Int32) (s0 : Int32) (s1 : Int32)  (h : Hp) : J encI RX6 cX6_standing 9 (some .int) 3 84 [(0, aR 20 0), (1, aI a1), (2, aI a2), (3, aI a3), (4, aI a4), (5, aI a5), (6, aI a6), (7, aI a7)] [aI s1, aI s0] h (f_X6_standing_b84 kont5 kont15 kont27 a1 a2 a3 a4 a5 a6 a7 s0 s1 h) := by
  unfold f_X6_standing_b84
  refine j_icmp_ne (tgt := 91) dX6_standing_84 (by decide) (fun c1 => ?_) (fun c1 => ?_)
  · exact j_weak rfl (w_X6_standing_b91 _ hk5 _ hk15 _ hk27 _ _ _ _ _ _ _  _)
  · refine j_iconst (v := (1 : Int32)) dX6_standing_87 (by decide) ?_
    refine j_goto (tgt := 92) dX6_standing_88 (by decide) ?_
    exact j_weak rfl (w_X6_standing_b92 _ hk5 _ hk15 _ hk27 _ _ _ _ _ _ _ _  _)
set_option maxRecDepth 20000 in
theorem w_X6_standing_b73 (kont5 : Int32 → Int32 → Int32 → Int32 → Hp → Option (Int32 × Hp)) (hk5 : ∀ (a1 : Int32) (a2 : Int32) (a3 : Int32) (a4 : Int32)  (h : Hp), J encI RX6 cX6_standing 9 (some .int) 3 5 [(0, aR 20 0), (1, aI a1), (2, aI a2), (3, aI a3), (4, aI a4)] [] h (kont5 a1 a2 a3 a4 h)) (kont15 : Int32 → Int32 → Int32 → Int32 → Int32 → Hp → Option (Int32 × Hp)) (hk15 : ∀ (a1 : Int32) (a2 : Int32) (a3 : Int32) (a4 : Int32) (a5 : Int32)  (h : Hp), J encI RX6 cX6_standing 9 (some .int) 3 15 [(0, aR 20 0), (1, aI a1), (2, aI a2), (3, aI a3), (4, aI a4), (5, aI a5)] [] h (kont15 a1 a2 a3 a4 a5 h)) (kont27 : Int32 → Int32 → Int32 → Int32 → Int32 → Int32 → Int32 → Hp → Option (Int32 × Hp)) (hk27 : ∀ (a1 : Int32) (a2 : Int32) (a3 : Int32) (a4 : Int32) (a5 : Int32) (a6 : Int32) (a7 : Int32)  (h : Hp), J encI RX6 cX6_standing 9 (some .int) 3 27 [(0, aR 20 0), (1, aI a1), (2, aI a2), (3, aI a3), (4, aI a4), (5, aI a5), (6, aI a6), (7, aI a7)] [] h (kont27 a1 a2 a3 a4 a5 a6 a7 h)) (a1 : Int32) (a2 : Int32) (a3 : Int32) (a4 : Int32) (a5 : Int32) (a6 : Int32) (a7 : Int32) (s0 : Int32)  (h : Hp) : J encI RX6 cX6_standing 9 (some .int) 3 73 [(0, aR 20 0), (1, aI a1), (2, aI a2), (3, aI a3), (4, aI a4), (5, aI a5), (6, aI a6), (7, aI a7)] [aI s0] h (f_X6_standing_b73 kont5 kont15 kont27 a1 a2 a3 a4 a5 a6 a7 s0 h) := by
  unfold f_X6_standing_b73
  refine j_iload dX6_standing_73 rfl ?_
  refine j_iconst (v := (1 : Int32)) dX6_standing_75 (by decide) ?_
  refine j_icmp_ne (tgt := 83) dX6_standing_76 (by decide) (fun c1 => ?_) (fun c1 => ?_)
  · refine j_iconst (v := (0 : Int32)) dX6_standing_83 (by decide) ?_
    exact j_weak rfl (w_X6_standing_b84 _ hk5 _ hk15 _ hk27 _ _ _ _ _ _ _ _ _  _)
  · refine j_iconst (v := (1 : Int32)) dX6_standing_79 (by decide) ?_
    refine j_goto (tgt := 84) dX6_standing_80 (by decide) ?_
    exact j_weak rfl (w_X6_standing_b84 _ hk5 _ hk15 _ hk27 _ _ _ _ _ _ _ _ _  _)
set_option maxRecDepth 20000 in
theorem w_X6_standing_b27 (kont5 : Int32 → Int32 → Int32 → Int32 → Hp → Option (Int32 × Hp)) (hk5 : ∀ (a1 : Int32) (a2 : Int32) (a3 : Int32) (a4 : Int32)  (h : Hp), J encI RX6 cX6_standing 9 (some .int) 3 5 [(0, aR 20 0), (1, aI a1), (2, aI a2), (3, aI a3), (4, aI a4)] [] h (kont5 a1 a2 a3 a4 h)) (kont15 : Int32 → Int32 → Int32 → Int32 → Int32 → Hp → Option (Int32 × Hp)) (hk15 : ∀ (a1 : Int32) (a2 : Int32) (a3 : Int32) (a4 : Int32) (a5 : Int32)  (h : Hp), J encI RX6 cX6_standing 9 (some .int) 3 15 [(0, aR 20 0), (1, aI a1), (2, aI a2), (3, aI a3), (4, aI a4), (5, aI a5)] [] h (kont15 a1 a2 a3 a4 a5 h)) : ∀ (n : Nat) (a1 : Int32) (a2 : Int32) (a3 : Int32) (a4 : Int32) (a5 : Int32) (a6 : Int32) (a7 : Int32)  (h : Hp), J encI RX6 cX6_standing 9 (some .int) 3 27 [(0, aR 20 0), (1, aI a1), (2, aI a2), (3, aI a3), (4, aI a4), (5, aI a5), (6, aI a6), (7, aI a7)] [] h (f_X6_standing_b27 kont5 kont15 n a1 a2 a3 a4 a5 a6 a7 h) := by
  intro n
  induction n with
  | zero =>
    intros
    exact j_none
  | succ n hk27 =>
    intro a1 a2 a3 a4 a5 a6 a7  h
    show J encI RX6 cX6_standing 9 (some .int) 3 27 [(0, aR 20 0), (1, aI a1), (2, aI a2), (3, aI a3), (4, aI a4), (5, aI a5), (6, aI a6), (7, aI a7)] [] h (f_X6_standing_b27_body kont5 kont15 (f_X6_standing_b27 kont5 kont15 n) a1 a2 a3 a4 a5 a6 a7 h)
    unfold f_X6_standing_b27_body
    refine j_iload dX6_standing_27 rfl ?_
    refine j_aload_n dX6_standing_29 rfl ?_
    refine jg_X6_129 z_20 dX6_standing_30 ?_
    refine j_icmp_ge (tgt := 129) dX6_standing_33 (by decide) (fun c1 => ?_) (fun c1 => ?_)
    · refine j_iload dX6_standing_129 rfl ?_
      refine j_istore_n dX6_standing_131 (by decide) ?_
      refine j_iinc (v := (1 : Int32)) dX6_standing_132 rfl (by decide) (by decide) ?_
      refine j_goto (tgt := 15) dX6_standing_135 (by decide) ?_
      exact j_weak rfl (hk15 _ _ _ _ _  _)
    · refine j_iload_n dX6_standing_36 rfl ?_
      refine j_iload dX6_standing_37 rfl ?_
      refine jc_X6_150 (ct_X6_has _ _  _) (by decide) (Nat.le_of_ble_eq_true rfl) dX6_standing_39 (fun v2 h3 e4 => ?_)
      refine j_if_eq (tgt := 91) dX6_standing_42 (by decide) (fun c5 => ?_) (fun c5 => ?_)
      · exact j_weak rfl (w_X6_standing_b91 _ hk5 _ hk15 _ hk27 _ _ _ _ _ _ _  _)
      · refine j_aload_n dX6_standing_45 rfl ?_
        refine j_iload dX6_standing_46 rfl ?_
        refine j_iconst (v := (1 : Int32)) dX6_standing_48 (by decide) ?_
        refine jc_X6_89 (ct_X6_of _ _  _) (by decide) z_20 (Nat.le_of_ble_eq_true rfl) dX6_standing_49 (fun v6 h7 e8 => ?_)
        refine j_iload dX6_standing_52 rfl ?_
        refine j_icmp_ne (tgt := 91) dX6_standing_54 (by decide) (fun c9 => ?_) (fun c9 => ?_)
        · exact j_weak rfl (w_X6_standing_b91 _ hk5 _ hk15 _ hk27 _ _ _ _ _ _ _  _)
        · refine j_aload_n dX6_standing_57 rfl ?_
          refine j_iload dX6_standing_58 rfl ?_
          refine j_iconst (v := (0 : Int32)) dX6_standing_60 (by decide) ?_
          refine jc_X6_89 (ct_X6_of _ _  _) (by decide) z_20 (Nat.le_of_ble_eq_true rfl) dX6_standing_61 (fun v10 h11 e12 => ?_)
          refine j_iconst (v := (5 : Int32)) dX6_standing_64 (by decide) ?_
          refine j_icmp_ne (tgt := 72) dX6_standing_65 (by decide) (fun c13 => ?_) (fun c13 => ?_)
          · refine j_iconst (v := (0 : Int32)) dX6_standing_72 (by decide) ?_
            exact j_weak rfl (w_X6_standing_b73 _ hk5 _ hk15 _ hk27 _ _ _ _ _ _ _ _  _)
          · refine j_iconst (v := (1 : Int32)) dX6_standing_68 (by decide) ?_
            refine j_goto (tgt := 73) dX6_standing_69 (by decide) ?_
            exact j_weak rfl (w_X6_standing_b73 _ hk5 _ hk15 _ hk27 _ _ _ _ _ _ _ _  _)
set_option maxRecDepth 20000 in
theorem w_X6_standing_b15 (kont5 : Int32 → Int32 → Int32 → Int32 → Hp → Option (Int32 × Hp)) (hk5 : ∀ (a1 : Int32) (a2 : Int32) (a3 : Int32) (a4 : Int32)  (h : Hp), J encI RX6 cX6_standing 9 (some .int) 3 5 [(0, aR 20 0), (1, aI a1), (2, aI a2), (3, aI a3), (4, aI a4)] [] h (kont5 a1 a2 a3 a4 h)) : ∀ (n : Nat) (a1 : Int32) (a2 : Int32) (a3 : Int32) (a4 : Int32) (a5 : Int32)  (h : Hp), J encI RX6 cX6_standing 9 (some .int) 3 15 [(0, aR 20 0), (1, aI a1), (2, aI a2), (3, aI a3), (4, aI a4), (5, aI a5)] [] h (f_X6_standing_b15 kont5 n a1 a2 a3 a4 a5 h) := by
  intro n
  induction n with
  | zero =>
    intros
    exact j_none
  | succ n hk15 =>
    intro a1 a2 a3 a4 a5  h
    show J encI RX6 cX6_standing 9 (some .int) 3 15 [(0, aR 20 0), (1, aI a1), (2, aI a2), (3, aI a3), (4, aI a4), (5, aI a5)] [] h (f_X6_standing_b15_body kont5 (f_X6_standing_b15 kont5 n) a1 a2 a3 a4 a5 h)
    unfold f_X6_standing_b15_body
    refine j_iload dX6_standing_15 rfl ?_
    refine j_iconst (v := (2 : Int32)) dX6_standing_17 (by decide) ?_
    refine j_icmp_ge (tgt := 138) dX6_standing_18 (by decide) (fun c1 => ?_) (fun c1 => ?_)
    · refine j_iinc (v := (1 : Int32)) dX6_standing_138 rfl (by decide) (by decide) ?_
      refine j_goto (tgt := 5) dX6_standing_141 (by decide) ?_
      exact j_weak rfl (hk5 _ _ _ _  _)
    · refine j_iload_n dX6_standing_21 rfl ?_
      refine j_istore dX6_standing_22 (by decide) ?_
      refine j_iconst (v := (0 : Int32)) dX6_standing_24 (by decide) ?_
      refine j_istore dX6_standing_25 (by decide) ?_
      exact j_weak rfl (w_X6_standing_b27 _ hk5 _ hk15 _ _ _ _ _ _ _ _  _)
set_option maxRecDepth 20000 in
theorem w_X6_standing_b5  : ∀ (n : Nat) (a1 : Int32) (a2 : Int32) (a3 : Int32) (a4 : Int32)  (h : Hp), J encI RX6 cX6_standing 9 (some .int) 3 5 [(0, aR 20 0), (1, aI a1), (2, aI a2), (3, aI a3), (4, aI a4)] [] h (f_X6_standing_b5  n a1 a2 a3 a4 h) := by
  intro n
  induction n with
  | zero =>
    intros
    exact j_none
  | succ n hk5 =>
    intro a1 a2 a3 a4  h
    show J encI RX6 cX6_standing 9 (some .int) 3 5 [(0, aR 20 0), (1, aI a1), (2, aI a2), (3, aI a3), (4, aI a4)] [] h (f_X6_standing_b5_body  (f_X6_standing_b5  n) a1 a2 a3 a4 h)
    unfold f_X6_standing_b5_body
    refine j_iload dX6_standing_5 rfl ?_
    refine j_bipush (v := (6 : Int32)) dX6_standing_7 (by decide) ?_
    refine j_icmp_ge (tgt := 144) dX6_standing_9 (by decide) (fun c1 => ?_) (fun c1 => ?_)
    · refine j_iload_n dX6_standing_144 rfl ?_
      exact j_iret dX6_standing_145
    · refine j_iconst (v := (0 : Int32)) dX6_standing_12 (by decide) ?_
      refine j_istore dX6_standing_13 (by decide) ?_
      exact j_weak rfl (w_X6_standing_b15 _ hk5 _ _ _ _ _ _  _)
set_option maxRecDepth 20000 in
theorem ct_X6_standing (a1 : Int32) (a2 : Int32)  (h : Hp) : Ct encI yX6_standing cX6_standing 9 (some .int) 3 [aR 20 0, aI a1, aI a2] h (f_X6_standing a1 a2 h) := by
  refine ct_of [(0, aR 20 0), (1, aI a1), (2, aI a2)] (by decide) (fun _ => rfl) (fun _ => Nat.le_of_ble_eq_true rfl) ?_
  show J encI RX6 cX6_standing 9 (some .int) 3 0 [(0, aR 20 0), (1, aI a1), (2, aI a2)] [] h (f_X6_standing a1 a2 h)
  unfold f_X6_standing
  refine j_iconst (v := (0 : Int32)) dX6_standing_0 (by decide) ?_
  refine j_istore_n dX6_standing_1 (by decide) ?_
  refine j_iconst (v := (0 : Int32)) dX6_standing_2 (by decide) ?_
  refine j_istore dX6_standing_3 (by decide) ?_
  exact j_weak rfl (w_X6_standing_b5  _ _ _ _ _  _)
set_option maxRecDepth 20000 in
theorem ct_X6_tear (a1 : Int32)  (h : Hp) : Ct encI yX6_tear cX6_tear 3 (some .int) 3 [aR 20 0, aI a1] h (f_X6_tear a1 h) := by
  refine ct_of [(0, aR 20 0), (1, aI a1)] (by decide) (fun _ => rfl) (fun _ => Nat.le_of_ble_eq_true rfl) ?_
  show J encI RX6 cX6_tear 3 (some .int) 3 0 [(0, aR 20 0), (1, aI a1)] [] h (f_X6_tear a1 h)
  unfold f_X6_tear
  refine j_aload_n dX6_tear_0 rfl ?_
  refine j_iload_n dX6_tear_1 rfl ?_
  refine jc_X6_70 (ct_X6_askedRow _  _) (by decide) z_20 (Nat.le_of_ble_eq_true rfl) dX6_tear_2 (fun v1 h2 e3 => ?_)
  refine j_istore_n dX6_tear_5 (by decide) ?_
  refine j_iload_n dX6_tear_6 rfl ?_
  refine j_if_ge (tgt := 12) dX6_tear_7 (by decide) (fun c4 => ?_) (fun c4 => ?_)
  · refine j_aload_n dX6_tear_12 rfl ?_
    refine jg_X6_17 z_20 dX6_tear_13 ?_
    refine j_iload_n dX6_tear_16 rfl ?_
    refine j_bipush (v := (-9 : Int32)) dX6_tear_17 (by decide) ?_
    refine j_iast (ic_22 _) z_22 dX6_tear_19 (fun q5 => ?_)
    refine j_iconst (v := (1 : Int32)) dX6_tear_20 (by decide) ?_
    exact j_iret dX6_tear_21
  · refine j_iload_n dX6_tear_10 rfl ?_
    exact j_iret dX6_tear_11
set_option maxRecDepth 20000 in
theorem ct_X6_vine (a1 : Int32)  (h : Hp) : Ct encI yX6_vine cX6_vine 3 (some .int) 3 [aR 20 0, aI a1] h (f_X6_vine a1 h) := by
  refine ct_of [(0, aR 20 0), (1, aI a1)] (by decide) (fun _ => rfl) (fun _ => Nat.le_of_ble_eq_true rfl) ?_
  show J encI RX6 cX6_vine 3 (some .int) 3 0 [(0, aR 20 0), (1, aI a1)] [] h (f_X6_vine a1 h)
  unfold f_X6_vine
  refine j_aload_n dX6_vine_0 rfl ?_
  refine j_iload_n dX6_vine_1 rfl ?_
  refine jc_X6_183 (ct_X6_askedIn _  _) (by decide) z_20 (Nat.le_of_ble_eq_true rfl) dX6_vine_2 (fun v1 h2 e3 => ?_)
  refine j_istore_n dX6_vine_5 (by decide) ?_
  refine j_iload_n dX6_vine_6 rfl ?_
  refine j_if_ge (tgt := 12) dX6_vine_7 (by decide) (fun c4 => ?_) (fun c4 => ?_)
  · refine j_aload_n dX6_vine_12 rfl ?_
    refine jg_X6_138 z_20 dX6_vine_13 ?_
    refine j_iload_n dX6_vine_16 rfl ?_
    refine jc_X6_150 (ct_X6_has _ _  _) (by decide) (Nat.le_of_ble_eq_true rfl) dX6_vine_17 (fun v5 h6 e7 => ?_)
    refine j_if_eq (tgt := 26) dX6_vine_20 (by decide) (fun c8 => ?_) (fun c8 => ?_)
    · refine j_aload_n dX6_vine_26 rfl ?_
      refine j_dup dX6_vine_27 rfl ?_
      refine jg_X6_138 z_20 dX6_vine_28 ?_
      refine j_iconst (v := (1 : Int32)) dX6_vine_31 (by decide) ?_
      refine j_iload_n dX6_vine_32 rfl ?_
      refine j_ishl dX6_vine_33 ?_
      refine j_ior dX6_vine_34 ?_
      refine jp_X6_138 z_20 dX6_vine_35 ?_
      refine j_aload_n dX6_vine_38 rfl ?_
      refine jg_X6_138 z_20 dX6_vine_39 ?_
      refine jc_X6_174 (ct_X6_sizeOf _  _) (by decide) (Nat.le_of_ble_eq_true rfl) dX6_vine_42 (fun v9 h10 e11 => ?_)
      exact j_iret dX6_vine_45
    · refine j_bipush (v := (-4 : Int32)) dX6_vine_23 (by decide) ?_
      exact j_iret dX6_vine_25
  · refine j_iload_n dX6_vine_10 rfl ?_
    exact j_iret dX6_vine_11
set_option maxRecDepth 20000 in
theorem ct_X1_readBrick   (h : Hp) : Ct encI yX1_readBrick cX1_readBrick 4 (some .boolean) 4 [aR 9 0] h (f_X1_readBrick  h) := by
  refine ct_of [(0, aR 9 0)] (by decide) (fun _ => rfl) (fun _ => Nat.le_of_ble_eq_true rfl) ?_
  show J encI RX1 cX1_readBrick 4 (some .boolean) 4 0 [(0, aR 9 0)] [] h (f_X1_readBrick  h)
  unfold f_X1_readBrick
  refine j_aload_n dX1_readBrick_0 rfl ?_
  refine jc_X1_42 (ct_X1_sign   _) (by decide) z_9 (Nat.le_of_ble_eq_true rfl) dX1_readBrick_1 (fun v1 h2 e3 => ?_)
  refine jc_X1_53 (ct_X1_kindOf _  _) (by decide) (Nat.le_of_ble_eq_true rfl) dX1_readBrick_4 (fun v4 h5 e6 => ?_)
  refine j_istore_n dX1_readBrick_7 (by decide) ?_
  refine j_iload_n dX1_readBrick_8 rfl ?_
  refine j_if_lt (tgt := 24) dX1_readBrick_9 (by decide) (fun c7 => ?_) (fun c7 => ?_)
  · refine j_iconst (v := (0 : Int32)) dX1_readBrick_24 (by decide) ?_
    exact j_zret (Or.inl rfl) dX1_readBrick_25
  · refine j_aload_n dX1_readBrick_12 rfl ?_
    refine jg_X1_12 z_9 dX1_readBrick_13 ?_
    refine jg_X1_57 (Nat.le_of_ble_eq_true rfl) dX1_readBrick_16 ?_
    refine j_bipush (v := (14 : Int32)) dX1_readBrick_19 (by decide) ?_
    refine j_icmp_lt (tgt := 26) dX1_readBrick_21 (by decide) (fun c8 => ?_) (fun c8 => ?_)
    · refine j_aload_n dX1_readBrick_26 rfl ?_
      refine j_dup dX1_readBrick_27 rfl ?_
      refine jg_X1_26 z_9 dX1_readBrick_28 ?_
      refine j_iconst (v := (1 : Int32)) dX1_readBrick_31 (by decide) ?_
      refine j_iadd dX1_readBrick_32 ?_
      refine jp_X1_26 z_9 dX1_readBrick_33 ?_
      refine j_aload_n dX1_readBrick_36 rfl ?_
      refine jc_X1_42 (ct_X1_sign   _) (by decide) z_9 (Nat.le_of_ble_eq_true rfl) dX1_readBrick_37 (fun v9 h10 e11 => ?_)
      refine j_bipush (v := (48 : Int32)) dX1_readBrick_40 (by decide) ?_
      refine j_isub dX1_readBrick_42 ?_
      refine j_istore_n dX1_readBrick_43 (by decide) ?_
      refine j_iload_n dX1_readBrick_44 rfl ?_
      refine j_if_lt (tgt := 54) dX1_readBrick_45 (by decide) (fun c12 => ?_) (fun c12 => ?_)
      · refine j_iconst (v := (0 : Int32)) dX1_readBrick_54 (by decide) ?_
        exact j_zret (Or.inl rfl) dX1_readBrick_55
      · refine j_iload_n dX1_readBrick_48 rfl ?_
        refine j_bipush (v := (6 : Int32)) dX1_readBrick_49 (by decide) ?_
        refine j_icmp_lt (tgt := 56) dX1_readBrick_51 (by decide) (fun c13 => ?_) (fun c13 => ?_)
        · refine j_aload_n dX1_readBrick_56 rfl ?_
          refine j_dup dX1_readBrick_57 rfl ?_
          refine jg_X1_26 z_9 dX1_readBrick_58 ?_
          refine j_iconst (v := (1 : Int32)) dX1_readBrick_61 (by decide) ?_
          refine j_iadd dX1_readBrick_62 ?_
          refine jp_X1_26 z_9 dX1_readBrick_63 ?_
          refine j_aload_n dX1_readBrick_66 rfl ?_
          refine jc_X1_42 (ct_X1_sign   _) (by decide) z_9 (Nat.le_of_ble_eq_true rfl) dX1_readBrick_67 (fun v14 h15 e16 => ?_)
          refine j_bipush (v := (48 : Int32)) dX1_readBrick_70 (by decide) ?_
          refine j_isub dX1_readBrick_72 ?_
          refine j_istore_n dX1_readBrick_73 (by decide) ?_
          refine j_iload_n dX1_readBrick_74 rfl ?_
          refine j_if_lt (tgt := 97) dX1_readBrick_75 (by decide) (fun c17 => ?_) (fun c17 => ?_)
          · refine j_iconst (v := (0 : Int32)) dX1_readBrick_97 (by decide) ?_
            exact j_zret (Or.inl rfl) dX1_readBrick_98
          · refine j_iload_n dX1_readBrick_78 rfl ?_
            refine j_bipush (v := (9 : Int32)) dX1_readBrick_79 (by decide) ?_
            refine j_icmp_ge (tgt := 97) dX1_readBrick_81 (by decide) (fun c18 => ?_) (fun c18 => ?_)
            · refine j_iconst (v := (0 : Int32)) dX1_readBrick_97 (by decide) ?_
              exact j_zret (Or.inl rfl) dX1_readBrick_98
            · refine j_aload_n dX1_readBrick_84 rfl ?_
              refine jg_X1_12 z_9 dX1_readBrick_85 ?_
              refine j_iload_n dX1_readBrick_88 rfl ?_
              refine j_iload_n dX1_readBrick_89 rfl ?_
              refine j_iload_n dX1_readBrick_90 rfl ?_
              refine jc_X1_60 (ct_X4_hasRoom _ _ _ _ (Nat.le_of_ble_eq_true rfl) _) (by decide) (Nat.le_of_ble_eq_true rfl) (Nat.le_of_ble_eq_true rfl) dX1_readBrick_91 (fun v19 h20 e21 => ?_)
              refine j_if_ne (tgt := 99) dX1_readBrick_94 (by decide) (fun c22 => ?_) (fun c22 => ?_)
              · refine j_aload_n dX1_readBrick_99 rfl ?_
                refine j_dup dX1_readBrick_100 rfl ?_
                refine jg_X1_26 z_9 dX1_readBrick_101 ?_
                refine j_iconst (v := (1 : Int32)) dX1_readBrick_104 (by decide) ?_
                refine j_iadd dX1_readBrick_105 ?_
                refine jp_X1_26 z_9 dX1_readBrick_106 ?_
                refine j_aload_n dX1_readBrick_109 rfl ?_
                refine j_iload_n dX1_readBrick_110 rfl ?_
                refine j_iload_n dX1_readBrick_111 rfl ?_
                refine j_iload_n dX1_readBrick_112 rfl ?_
                refine jc_X1_64 (ct_X1_readMarks _ _ _  _) (by decide) z_9 (Nat.le_of_ble_eq_true rfl) dX1_readBrick_113 (fun v23 h24 e25 => ?_)
                exact j_gd (fun q26 => j_zret q26 dX1_readBrick_116)
              · refine j_iconst (v := (0 : Int32)) dX1_readBrick_97 (by decide) ?_
                exact j_zret (Or.inl rfl) dX1_readBrick_98
        · refine j_iconst (v := (0 : Int32)) dX1_readBrick_54 (by decide) ?_
          exact j_zret (Or.inl rfl) dX1_readBrick_55
    · refine j_iconst (v := (0 : Int32)) dX1_readBrick_24 (by decide) ?_
      exact j_zret (Or.inl rfl) dX1_readBrick_25
set_option maxRecDepth 20000 in
theorem ct_X4_fallsOf (a0 : Nat) (a1 : Int32) (h_a0 : a0 < cnt 11) (h : Hp) : Ct encI yX4_fallsOf cX4_fallsOf 3 (some .int) 4 [aR 11 a0, aI a1] h (f_X4_fallsOf a0 a1 h) := by
  refine ct_of [(0, aR 11 a0), (1, aI a1)] (by decide) (fun _ => rfl) (fun _ => Nat.le_of_ble_eq_true rfl) ?_
  show J encI RX4 cX4_fallsOf 3 (some .int) 4 0 [(0, aR 11 a0), (1, aI a1)] [] h (f_X4_fallsOf a0 a1 h)
  unfold f_X4_fallsOf
  refine j_aload_n dX4_fallsOf_0 rfl ?_
  refine jc_X4_109 (ct_X4_standingNow _ h_a0 _) (by decide) h_a0 (Nat.le_of_ble_eq_true rfl) dX4_fallsOf_1 (fun v1 h2 e3 => ?_)
  refine j_iload_n dX4_fallsOf_4 rfl ?_
  refine j_iconst (v := (-1 : Int32)) dX4_fallsOf_5 (by decide) ?_
  refine j_ixor dX4_fallsOf_6 ?_
  refine j_iand dX4_fallsOf_7 ?_
  refine j_istore_n dX4_fallsOf_8 (by decide) ?_
  refine j_iload_n dX4_fallsOf_9 rfl ?_
  refine j_aload_n dX4_fallsOf_10 rfl ?_
  refine j_aload_n dX4_fallsOf_11 rfl ?_
  refine jg_X4_42 h_a0 dX4_fallsOf_12 ?_
  refine j_iload_n dX4_fallsOf_15 rfl ?_
  refine j_iconst (v := (-1 : Int32)) dX4_fallsOf_16 (by decide) ?_
  refine j_ixor dX4_fallsOf_17 ?_
  refine j_iand dX4_fallsOf_18 ?_
  refine j_aload_n dX4_fallsOf_19 rfl ?_
  refine jg_X4_45 h_a0 dX4_fallsOf_20 ?_
  refine jc_X4_103 (ct_X4_standing _ _ _ h_a0 _) (by decide) h_a0 (Nat.le_of_ble_eq_true rfl) dX4_fallsOf_23 (fun v4 h5 e6 => ?_)
  refine j_iconst (v := (-1 : Int32)) dX4_fallsOf_26 (by decide) ?_
  refine j_ixor dX4_fallsOf_27 ?_
  refine j_iand dX4_fallsOf_28 ?_
  exact j_iret dX4_fallsOf_29
set_option maxRecDepth 20000 in
theorem ct_X4_markOf (a0 : Nat) (a1 : Int32) (a2 : Int32) (h_a0 : a0 < cnt 11) (h : Hp) : Ct encI yX4_markOf cX4_markOf 5 (some .int) 4 [aR 11 a0, aI a1, aI a2] h (f_X4_markOf a0 a1 a2 h) := by
  refine ct_of [(0, aR 11 a0), (1, aI a1), (2, aI a2)] (by decide) (fun _ => rfl) (fun _ => Nat.le_of_ble_eq_true rfl) ?_
  show J encI RX4 cX4_markOf 5 (some .int) 4 0 [(0, aR 11 a0), (1, aI a1), (2, aI a2)] [] h (f_X4_markOf a0 a1 a2 h)
  unfold f_X4_markOf
  refine j_aload_n dX4_markOf_0 rfl ?_
  refine jg_X4_11 h_a0 dX4_markOf_1 ?_
  refine j_iload_n dX4_markOf_4 rfl ?_
  refine ja_12 h_a0 dX4_markOf_5 (fun q1 z2 => ?_)
  refine j_astore_n dX4_markOf_6 (by decide) ?_
  refine j_aload_n dX4_markOf_7 rfl ?_
  refine jc_X4_109 (ct_X4_standingNow _ h_a0 _) (by decide) h_a0 (Nat.le_of_ble_eq_true rfl) dX4_markOf_8 (fun v3 h4 e5 => ?_)
  refine j_pop dX4_markOf_11 rfl ?_
  refine j_aload_n dX4_markOf_12 rfl ?_
  refine j_aload_n dX4_markOf_13 rfl ?_
  refine jg_X4_76 z2 dX4_markOf_14 ?_
  refine jc_X4_93 (ct_X4_beneath _ _ h_a0 _) (by decide) h_a0 (Nat.le_of_ble_eq_true rfl) dX4_markOf_17 (fun v6 h7 e8 => ?_)
  refine j_istore dX4_markOf_20 (by decide) ?_
  refine j_iload_n dX4_markOf_22 rfl ?_
  refine j_if (fun c9 => ?_) (fun c9 => ?_)
  · refine j_tsIn (tgt := 52) (off := 29) dX4_markOf_23 (by rw [c9]; decide) (by rw [c9]; decide) (by rw [c9]; rfl) (by decide) ?_
    refine j_iload dX4_markOf_52 rfl ?_
    refine j_aload_n dX4_markOf_54 rfl ?_
    refine jg_X4_79 z2 dX4_markOf_55 ?_
    refine j_iand dX4_markOf_58 ?_
    refine jc_X4_115 (ct_J6_bitCount _  _) (by decide) (Nat.le_of_ble_eq_true rfl) dX4_markOf_59 (fun v10 h11 e12 => ?_)
    exact j_iret dX4_markOf_62
  refine j_if (fun c13 => ?_) (fun c13 => ?_)
  · refine j_tsIn (tgt := 63) (off := 40) dX4_markOf_23 (by rw [c13]; decide) (by rw [c13]; decide) (by rw [c13]; rfl) (by decide) ?_
    refine j_aload_n dX4_markOf_63 rfl ?_
    refine jg_X4_126 z2 dX4_markOf_64 ?_
    exact j_iret dX4_markOf_67
  refine j_if (fun c14 => ?_) (fun c14 => ?_)
  · refine j_tsIn (tgt := 68) (off := 45) dX4_markOf_23 (by rw [c14]; decide) (by rw [c14]; decide) (by rw [c14]; rfl) (by decide) ?_
    refine j_aload_n dX4_markOf_68 rfl ?_
    refine jg_X4_123 z2 dX4_markOf_69 ?_
    refine j_aload_n dX4_markOf_72 rfl ?_
    refine jg_X4_126 z2 dX4_markOf_73 ?_
    refine j_aload_n dX4_markOf_76 rfl ?_
    refine jg_X4_129 z2 dX4_markOf_77 ?_
    refine j_mmax (gt_m 473 rfl rfl) (gt_m 474 rfl rfl) (gt_m 56 rfl rfl) (gt_m 475 rfl rfl) (by decide) (Nat.le_of_ble_eq_true rfl) dX4_markOf_80 ?_
    refine j_mmax (gt_m 473 rfl rfl) (gt_m 474 rfl rfl) (gt_m 56 rfl rfl) (gt_m 475 rfl rfl) (by decide) (Nat.le_of_ble_eq_true rfl) dX4_markOf_83 ?_
    exact j_iret dX4_markOf_86
  refine j_if (fun c15 => ?_) (fun c15 => ?_)
  · refine j_tsIn (tgt := 87) (off := 64) dX4_markOf_23 (by rw [c15]; decide) (by rw [c15]; decide) (by rw [c15]; rfl) (by decide) ?_
    refine j_iload dX4_markOf_87 rfl ?_
    refine j_aload_n dX4_markOf_89 rfl ?_
    refine jc_X4_140 (ct_X0_middle _ z2 _) (by decide) z2 (Nat.le_of_ble_eq_true rfl) dX4_markOf_90 (fun v16 h17 e18 => ?_)
    refine j_iand dX4_markOf_93 ?_
    refine j_if_eq (tgt := 101) dX4_markOf_94 (by decide) (fun c19 => ?_) (fun c19 => ?_)
    · refine j_iconst (v := (0 : Int32)) dX4_markOf_101 (by decide) ?_
      exact j_iret dX4_markOf_102
    · refine j_iconst (v := (1 : Int32)) dX4_markOf_97 (by decide) ?_
      refine j_goto (tgt := 102) dX4_markOf_98 (by decide) ?_
      exact j_iret dX4_markOf_102
  refine j_tsG (tgt := 103) dX4_markOf_23 ?_ (by decide) ?_
  · have hts : ∀ z : Int, 1 ≤ z → z ≤ 4 → (a2) = Int32.ofInt z → (#[29, 40, 45, 64] : Array Int)[(z - 1).toNat]? = some 80 := by
      intro z z1 z2 z3
      rcases (show z = 1 ∨ z = 2 ∨ z = 3 ∨ z = 4 by omega) with rfl | rfl | rfl | rfl
      · exact absurd (z3.trans (by decide)) c9
      · exact absurd (z3.trans (by decide)) c13
      · exact absurd (z3.trans (by decide)) c14
      · exact absurd (z3.trans (by decide)) c15
    exact ts_all hts
  · refine j_aload_n dX4_markOf_103 rfl ?_
    refine jg_X4_24 h_a0 dX4_markOf_104 ?_
    refine j_aload_n dX4_markOf_107 rfl ?_
    refine jg_X4_76 z2 dX4_markOf_108 ?_
    refine j_iald (ic_15 _) h_a0 dX4_markOf_111 (fun q20 => ?_)
    refine j_aload_n dX4_markOf_112 rfl ?_
    refine jc_X4_143 (ct_X0_sides _ z2 _) (by decide) z2 (Nat.le_of_ble_eq_true rfl) dX4_markOf_113 (fun v21 h22 e23 => ?_)
    refine j_iand dX4_markOf_116 ?_
    refine jc_X4_115 (ct_J6_bitCount _  _) (by decide) (Nat.le_of_ble_eq_true rfl) dX4_markOf_117 (fun v24 h25 e26 => ?_)
    exact j_iret dX4_markOf_120
set_option maxRecDepth 20000 in
theorem w_X4_propsOf_b58 (kont28 : Nat → Int32 → Int32 → Int32 → Hp → Option (Int32 × Hp)) (hk28 : ∀ (a0 : Nat) (a2 : Int32) (a3 : Int32) (a4 : Int32) (h_a0 : a0 < cnt 11) (h : Hp), J encI RX4 cX4_propsOf 8 (some .int) 4 28 [(0, aR 11 a0), (2, aI a2), (3, aI a3), (4, aI a4)] [] h (kont28 a0 a2 a3 a4 h)) (a0 : Nat) (a2 : Int32) (a3 : Int32) (a4 : Int32) (h_a0 : a0 < cnt 11) (h : Hp) : J encI RX4 cX4_propsOf 8 (some .int) 4 58 [(0, aR 11 a0), (2, aI a2), (3, aI a3), (4, aI a4)] [] h (f_X4_propsOf_b58 kont28 a0 a2 a3 a4 h) := by
  unfold f_X4_propsOf_b58
  refine j_iinc (v := (1 : Int32)) dX4_propsOf_58 rfl (by decide) (by decide) ?_
  refine j_goto (tgt := 28) dX4_propsOf_61 (by decide) ?_
  exact j_weak rfl (hk28 _ _ _ _ h_a0 _)
set_option maxRecDepth 20000 in
theorem w_X4_propsOf_b149 (kont70 : Nat → Int32 → Int32 → Int32 → Int32 → Hp → Option (Int32 × Hp)) (hk70 : ∀ (a0 : Nat) (a2 : Int32) (a3 : Int32) (a4 : Int32) (a5 : Int32) (h_a0 : a0 < cnt 11) (h : Hp), J encI RX4 cX4_propsOf 8 (some .int) 4 70 [(0, aR 11 a0), (2, aI a2), (3, aI a3), (4, aI a4), (5, aI a5)] [] h (kont70 a0 a2 a3 a4 a5 h)) (a0 : Nat) (a2 : Int32) (a3 : Int32) (a5 : Int32) (s0 : Int32) (s1 : Int32) (h_a0 : a0 < cnt 11) (h : Hp) : J encI RX4 cX4_propsOf 8 (some .int) 4 149 [(0, aR 11 a0), (2, aI a2), (3, aI a3), (5, aI a5)] [aI s1, aI s0] h (f_X4_propsOf_b149 kont70 a0 a2 a3 a5 s0 s1 h) := by
  unfold f_X4_propsOf_b149
  refine j_ior dX4_propsOf_149 ?_
  refine j_istore dX4_propsOf_150 (by decide) ?_
  refine j_iinc (v := (1 : Int32)) dX4_propsOf_152 rfl (by decide) (by decide) ?_
  refine j_goto (tgt := 70) dX4_propsOf_155 (by decide) ?_
  exact j_weak rfl (hk70 _ _ _ _ _ h_a0 _)
set_option maxRecDepth 20000 in
theorem w_X4_propsOf_b130 (kont70 : Nat → Int32 → Int32 → Int32 → Int32 → Hp → Option (Int32 × Hp)) (hk70 : ∀ (a0 : Nat) (a2 : Int32) (a3 : Int32) (a4 : Int32) (a5 : Int32) (h_a0 : a0 < cnt 11) (h : Hp), J encI RX4 cX4_propsOf 8 (some .int) 4 70 [(0, aR 11 a0), (2, aI a2), (3, aI a3), (4, aI a4), (5, aI a5)] [] h (kont70 a0 a2 a3 a4 a5 h)) (a0 : Nat) (a2 : Int32) (a3 : Int32) (a4 : Int32) (a5 : Int32) (s0 : Int32) (h_a0 : a0 < cnt 11) (h : Hp) : J encI RX4 cX4_propsOf 8 (some .int) 4 130 [(0, aR 11 a0), (2, aI a2), (3, aI a3), (4, aI a4), (5, aI a5)] [aI s0] h (f_X4_propsOf_b130 kont70 a0 a2 a3 a4 a5 s0 h) := by
  unfold f_X4_propsOf_b130
  refine j_istore dX4_propsOf_130 (by decide) ?_
  refine j_iload dX4_propsOf_132 rfl ?_
  refine j_iload dX4_propsOf_134 rfl ?_
  refine j_if_eq (tgt := 143) dX4_propsOf_136 (by decide) (fun c1 => ?_) (fun c1 => ?_)
  · refine j_iload_n dX4_propsOf_143 rfl ?_
    refine j_iconst (v := (1 : Int32)) dX4_propsOf_144 (by decide) ?_
    refine j_iload dX4_propsOf_145 rfl ?_
    refine j_ishl dX4_propsOf_147 ?_
    refine j_iand dX4_propsOf_148 ?_
    exact j_weak rfl (w_X4_propsOf_b149 _ hk70 _ _ _ _ _ _ h_a0 _)
  · refine j_iconst (v := (0 : Int32)) dX4_propsOf_139 (by decide) ?_
    refine j_goto (tgt := 149) dX4_propsOf_140 (by decide) ?_
    exact j_weak rfl (w_X4_propsOf_b149 _ hk70 _ _ _ _ _ _ h_a0 _)
set_option maxRecDepth 20000 in
theorem w_X4_propsOf_b125 (kont70 : Nat → Int32 → Int32 → Int32 → Int32 → Hp → Option (Int32 × Hp)) (hk70 : ∀ (a0 : Nat) (a2 : Int32) (a3 : Int32) (a4 : Int32) (a5 : Int32) (h_a0 : a0 < cnt 11) (h : Hp), J encI RX4 cX4_propsOf 8 (some .int) 4 70 [(0, aR 11 a0), (2, aI a2), (3, aI a3), (4, aI a4), (5, aI a5)] [] h (kont70 a0 a2 a3 a4 a5 h)) (a0 : Nat) (a2 : Int32) (a3 : Int32) (a4 : Int32) (a5 : Int32) (h_a0 : a0 < cnt 11) (h : Hp) : J encI RX4 cX4_propsOf 8 (some .int) 4 125 [(0, aR 11 a0), (2, aI a2), (3, aI a3), (4, aI a4), (5, aI a5)] [] h (f_X4_propsOf_b125 kont70 a0 a2 a3 a4 a5 h) := by
  unfold f_X4_propsOf_b125
  refine j_iconst (v := (1 : Int32)) dX4_propsOf_125 (by decide) ?_
  refine j_goto (tgt := 130) dX4_propsOf_126 (by decide) ?_
  exact j_weak rfl (w_X4_propsOf_b130 _ hk70 _ _ _ _ _ _ h_a0 _)
set_option maxRecDepth 20000 in
theorem w_X4_propsOf_b70  : ∀ (n : Nat) (a0 : Nat) (a2 : Int32) (a3 : Int32) (a4 : Int32) (a5 : Int32) (h_a0 : a0 < cnt 11) (h : Hp), J encI RX4 cX4_propsOf 8 (some .int) 4 70 [(0, aR 11 a0), (2, aI a2), (3, aI a3), (4, aI a4), (5, aI a5)] [] h (f_X4_propsOf_b70  n a0 a2 a3 a4 a5 h) := by
  intro n
  induction n with
  | zero =>
    intros
    exact j_none
  | succ n hk70 =>
    intro a0 a2 a3 a4 a5 h_a0 h
    show J encI RX4 cX4_propsOf 8 (some .int) 4 70 [(0, aR 11 a0), (2, aI a2), (3, aI a3), (4, aI a4), (5, aI a5)] [] h (f_X4_propsOf_b70_body  (f_X4_propsOf_b70  n) a0 a2 a3 a4 a5 h)
    unfold f_X4_propsOf_b70_body
    refine j_iload dX4_propsOf_70 rfl ?_
    refine j_aload_n dX4_propsOf_72 rfl ?_
    refine jg_X4_39 h_a0 dX4_propsOf_73 ?_
    refine j_icmp_ge (tgt := 158) dX4_propsOf_76 (by decide) (fun c1 => ?_) (fun c1 => ?_)
    · refine j_iload dX4_propsOf_158 rfl ?_
      exact j_iret dX4_propsOf_160
    · refine j_aload_n dX4_propsOf_79 rfl ?_
      refine jg_X4_11 h_a0 dX4_propsOf_80 ?_
      refine j_iload dX4_propsOf_83 rfl ?_
      refine ja_12 h_a0 dX4_propsOf_85 (fun q2 z3 => ?_)
      refine j_astore dX4_propsOf_86 (by decide) ?_
      refine j_iload_n dX4_propsOf_88 rfl ?_
      refine j_iload dX4_propsOf_89 rfl ?_
      refine j_ishr dX4_propsOf_91 ?_
      refine j_iconst (v := (1 : Int32)) dX4_propsOf_92 (by decide) ?_
      refine j_iand dX4_propsOf_93 ?_
      refine j_iconst (v := (1 : Int32)) dX4_propsOf_94 (by decide) ?_
      refine j_icmp_eq (tgt := 125) dX4_propsOf_95 (by decide) (fun c4 => ?_) (fun c4 => ?_)
      · exact j_weak rfl (w_X4_propsOf_b125 _ hk70 _ _ _ _ _ h_a0 _)
      · refine j_aload dX4_propsOf_98 rfl ?_
        refine j_aload_n dX4_propsOf_100 rfl ?_
        refine j_aload dX4_propsOf_101 rfl ?_
        refine jg_X4_76 z3 dX4_propsOf_103 ?_
        refine jc_X4_93 (ct_X4_beneath _ _ h_a0 _) (by decide) h_a0 (Nat.le_of_ble_eq_true rfl) dX4_propsOf_106 (fun v5 h6 e7 => ?_)
        refine j_aload_n dX4_propsOf_109 rfl ?_
        refine jg_X4_27 h_a0 dX4_propsOf_110 ?_
        refine j_aload dX4_propsOf_113 rfl ?_
        refine jg_X4_76 z3 dX4_propsOf_115 ?_
        refine j_iald (ic_16 _) h_a0 dX4_propsOf_118 (fun q8 => ?_)
        refine jc_X4_96 (ct_X0_holds _ _ _ z3 _) (by decide) z3 (Nat.le_of_ble_eq_true rfl) dX4_propsOf_119 (fun v9 h10 e11 => ?_)
        refine j_if_eq (tgt := 129) dX4_propsOf_122 (by decide) (fun c12 => ?_) (fun c12 => ?_)
        · refine j_iconst (v := (0 : Int32)) dX4_propsOf_129 (by decide) ?_
          exact j_weak rfl (w_X4_propsOf_b130 _ hk70 _ _ _ _ _ _ h_a0 _)
        · exact j_weak rfl (w_X4_propsOf_b125 _ hk70 _ _ _ _ _ h_a0 _)
set_option maxRecDepth 20000 in
theorem w_X4_propsOf_b28  : ∀ (n : Nat) (a0 : Nat) (a2 : Int32) (a3 : Int32) (a4 : Int32) (h_a0 : a0 < cnt 11) (h : Hp), J encI RX4 cX4_propsOf 8 (some .int) 4 28 [(0, aR 11 a0), (2, aI a2), (3, aI a3), (4, aI a4)] [] h (f_X4_propsOf_b28  n a0 a2 a3 a4 h) := by
  intro n
  induction n with
  | zero =>
    intros
    exact j_none
  | succ n hk28 =>
    intro a0 a2 a3 a4 h_a0 h
    show J encI RX4 cX4_propsOf 8 (some .int) 4 28 [(0, aR 11 a0), (2, aI a2), (3, aI a3), (4, aI a4)] [] h (f_X4_propsOf_b28_body  (f_X4_propsOf_b28  n) a0 a2 a3 a4 h)
    unfold f_X4_propsOf_b28_body
    refine j_iload dX4_propsOf_28 rfl ?_
    refine j_aload_n dX4_propsOf_30 rfl ?_
    refine jg_X4_39 h_a0 dX4_propsOf_31 ?_
    refine j_icmp_ge (tgt := 64) dX4_propsOf_34 (by decide) (fun c1 => ?_) (fun c1 => ?_)
    · refine j_iconst (v := (0 : Int32)) dX4_propsOf_64 (by decide) ?_
      refine j_istore dX4_propsOf_65 (by decide) ?_
      refine j_iconst (v := (0 : Int32)) dX4_propsOf_67 (by decide) ?_
      refine j_istore dX4_propsOf_68 (by decide) ?_
      exact j_weak rfl (w_X4_propsOf_b70  _ _ _ _ _ _ h_a0 _)
    · refine j_iload_n dX4_propsOf_37 rfl ?_
      refine j_iload dX4_propsOf_38 rfl ?_
      refine j_ishr dX4_propsOf_40 ?_
      refine j_iconst (v := (1 : Int32)) dX4_propsOf_41 (by decide) ?_
      refine j_iand dX4_propsOf_42 ?_
      refine j_iconst (v := (1 : Int32)) dX4_propsOf_43 (by decide) ?_
      refine j_icmp_ne (tgt := 58) dX4_propsOf_44 (by decide) (fun c2 => ?_) (fun c2 => ?_)
      · exact j_weak rfl (w_X4_propsOf_b58 _ hk28 _ _ _ _ h_a0 _)
      · refine j_aload_n dX4_propsOf_47 rfl ?_
        refine j_aload_n dX4_propsOf_48 rfl ?_
        refine jg_X4_11 h_a0 dX4_propsOf_49 ?_
        refine j_iload dX4_propsOf_52 rfl ?_
        refine ja_12 h_a0 dX4_propsOf_54 (fun q3 z4 => ?_)
        refine jc_X4_100 (ct_X4_fillHalves _ _ h_a0 z4 _) (by decide) h_a0 (Nat.le_of_ble_eq_true rfl) dX4_propsOf_55 (fun v5 h6 e7 => ?_)
        exact j_weak rfl (w_X4_propsOf_b58 _ hk28 _ _ _ _ h_a0 _)
set_option maxRecDepth 20000 in
theorem ct_X4_propsOf (a0 : Nat) (a1 : Int32) (h_a0 : a0 < cnt 11) (h : Hp) : Ct encI yX4_propsOf cX4_propsOf 8 (some .int) 4 [aR 11 a0, aI a1] h (f_X4_propsOf a0 a1 h) := by
  refine ct_of [(0, aR 11 a0), (1, aI a1)] (by decide) (fun _ => rfl) (fun _ => Nat.le_of_ble_eq_true rfl) ?_
  show J encI RX4 cX4_propsOf 8 (some .int) 4 0 [(0, aR 11 a0), (1, aI a1)] [] h (f_X4_propsOf a0 a1 h)
  unfold f_X4_propsOf
  refine j_aload_n dX4_propsOf_0 rfl ?_
  refine jc_X4_109 (ct_X4_standingNow _ h_a0 _) (by decide) h_a0 (Nat.le_of_ble_eq_true rfl) dX4_propsOf_1 (fun v1 h2 e3 => ?_)
  refine j_iconst (v := (1 : Int32)) dX4_propsOf_4 (by decide) ?_
  refine j_iload_n dX4_propsOf_5 rfl ?_
  refine j_ishl dX4_propsOf_6 ?_
  refine j_iconst (v := (-1 : Int32)) dX4_propsOf_7 (by decide) ?_
  refine j_ixor dX4_propsOf_8 ?_
  refine j_iand dX4_propsOf_9 ?_
  refine j_istore_n dX4_propsOf_10 (by decide) ?_
  refine j_aload_n dX4_propsOf_11 rfl ?_
  refine jg_X4_45 h_a0 dX4_propsOf_12 ?_
  refine j_aload_n dX4_propsOf_15 rfl ?_
  refine jg_X4_48 h_a0 dX4_propsOf_16 ?_
  refine j_ior dX4_propsOf_19 ?_
  refine j_istore_n dX4_propsOf_20 (by decide) ?_
  refine j_aload_n dX4_propsOf_21 rfl ?_
  refine jc_X4_90 (ct_X4_clearHalves _ h_a0 _) (by decide) h_a0 (Nat.le_of_ble_eq_true rfl) dX4_propsOf_22 (fun v4 h5 e6 => ?_)
  refine j_iconst (v := (0 : Int32)) dX4_propsOf_25 (by decide) ?_
  refine j_istore dX4_propsOf_26 (by decide) ?_
  exact j_weak rfl (w_X4_propsOf_b28  _ _ _ _ _ h_a0 _)
