-- X1_become
def G_X1_become_11_1  (S : ST) : Option (Unit × ST) := some ((), (wr (cpS (cpS (wr (wr (cpS (cpS (cpS (cpS (cpS (cpS (cpS (wr S 11 0 (S.1 1 0)) 2 12 0 0 10) 3 13 0 0 10) 4 14 0 0 10) 5 15 0 0 10) 6 16 0 0 4) 7 17 0 0 4) 8 18 0 0 4) 11 8 (S.1 1 8)) 11 9 (S.1 1 9)) 9 19 0 0 6) 10 20 0 0 10) 11 12 (S.1 1 12)))
set_option maxHeartbeats 4000000 in
set_option maxRecDepth 100000 in
theorem T_X1_become_11_1 (E : EV)  {S : ST} {w : (Unit × ST)} (h : G_X1_become_11_1  S = some w) : SD E mX1_become 0 [(0, .ref (eB E + 11)), (1, .ref (eB E + 1))] [] S none w.2 := by
  unfold G_X1_become_11_1 at h
  refine s_aload_n (q := 1) dX1_become_0 rfl rfl 0 rfl ?_
  refine s_aload_n (q := 2) dX1_become_1 rfl rfl 1 rfl ?_
  refine t_getI (q := 5) (k := 1) (f := 0) (v := (S.1 1 0)) dX1_become_2 rfl rfl rfl rfl inX1 (Nat.le_of_ble_eq_true rfl) fX1_9 rfl ?_
  refine t_putI (q := 8) (k := 11) (f := 0) dX1_become_5 rfl rfl rfl rfl inX1 tyX1_ok nmX1 (Nat.le_of_ble_eq_true rfl) fX1_9 rfl rfl rfl ?_
  refine s_aload_n (q := 9) dX1_become_8 rfl rfl 1 rfl ?_
  refine t_getR (q := 12) (k := 1) (f := 1) (t := 2) dX1_become_9 rfl rfl rfl rfl inX1 (Nat.le_of_ble_eq_true rfl) fX1_15 ?_
  refine s_iconst (q := 13) (v := 0) dX1_become_12 rfl rfl ?_
  refine s_aload_n (q := 14) dX1_become_13 rfl rfl 0 rfl ?_
  refine t_getR (q := 17) (k := 11) (f := 1) (t := 12) dX1_become_14 rfl rfl rfl rfl inX1 (Nat.le_of_ble_eq_true rfl) fX1_15 ?_
  refine s_iconst (q := 18) (v := 0) dX1_become_17 rfl rfl ?_
  refine s_bipush (q := 20) (v := 10) dX1_become_18 rfl rfl ?_
  refine u_copy (q := 23) (k0 := 2) (k1 := 12) (js := 0) (jd := 0) (jw := 10) dX1_become_20 rfl lX1_58 rfl rfl (by decide) (by decide) (by decide) (by decide) (Nat.le_of_ble_eq_true rfl) (Nat.le_of_ble_eq_true rfl) ?_
  refine s_aload_n (q := 24) dX1_become_23 rfl rfl 1 rfl ?_
  refine t_getR (q := 27) (k := 1) (f := 2) (t := 3) dX1_become_24 rfl rfl rfl rfl inX1 (Nat.le_of_ble_eq_true rfl) fX1_19 ?_
  refine s_iconst (q := 28) (v := 0) dX1_become_27 rfl rfl ?_
  refine s_aload_n (q := 29) dX1_become_28 rfl rfl 0 rfl ?_
  refine t_getR (q := 32) (k := 11) (f := 2) (t := 13) dX1_become_29 rfl rfl rfl rfl inX1 (Nat.le_of_ble_eq_true rfl) fX1_19 ?_
  refine s_iconst (q := 33) (v := 0) dX1_become_32 rfl rfl ?_
  refine s_bipush (q := 35) (v := 10) dX1_become_33 rfl rfl ?_
  refine u_copy (q := 38) (k0 := 3) (k1 := 13) (js := 0) (jd := 0) (jw := 10) dX1_become_35 rfl lX1_58 rfl rfl (by decide) (by decide) (by decide) (by decide) (Nat.le_of_ble_eq_true rfl) (Nat.le_of_ble_eq_true rfl) ?_
  refine s_aload_n (q := 39) dX1_become_38 rfl rfl 1 rfl ?_
  refine t_getR (q := 42) (k := 1) (f := 3) (t := 4) dX1_become_39 rfl rfl rfl rfl inX1 (Nat.le_of_ble_eq_true rfl) fX1_22 ?_
  refine s_iconst (q := 43) (v := 0) dX1_become_42 rfl rfl ?_
  refine s_aload_n (q := 44) dX1_become_43 rfl rfl 0 rfl ?_
  refine t_getR (q := 47) (k := 11) (f := 3) (t := 14) dX1_become_44 rfl rfl rfl rfl inX1 (Nat.le_of_ble_eq_true rfl) fX1_22 ?_
  refine s_iconst (q := 48) (v := 0) dX1_become_47 rfl rfl ?_
  refine s_bipush (q := 50) (v := 10) dX1_become_48 rfl rfl ?_
  refine u_copy (q := 53) (k0 := 4) (k1 := 14) (js := 0) (jd := 0) (jw := 10) dX1_become_50 rfl lX1_58 rfl rfl (by decide) (by decide) (by decide) (by decide) (Nat.le_of_ble_eq_true rfl) (Nat.le_of_ble_eq_true rfl) ?_
  refine s_aload_n (q := 54) dX1_become_53 rfl rfl 1 rfl ?_
  refine t_getR (q := 57) (k := 1) (f := 4) (t := 5) dX1_become_54 rfl rfl rfl rfl inX1 (Nat.le_of_ble_eq_true rfl) fX1_25 ?_
  refine s_iconst (q := 58) (v := 0) dX1_become_57 rfl rfl ?_
  refine s_aload_n (q := 59) dX1_become_58 rfl rfl 0 rfl ?_
  refine t_getR (q := 62) (k := 11) (f := 4) (t := 15) dX1_become_59 rfl rfl rfl rfl inX1 (Nat.le_of_ble_eq_true rfl) fX1_25 ?_
  refine s_iconst (q := 63) (v := 0) dX1_become_62 rfl rfl ?_
  refine s_bipush (q := 65) (v := 10) dX1_become_63 rfl rfl ?_
  refine u_copy (q := 68) (k0 := 5) (k1 := 15) (js := 0) (jd := 0) (jw := 10) dX1_become_65 rfl lX1_58 rfl rfl (by decide) (by decide) (by decide) (by decide) (Nat.le_of_ble_eq_true rfl) (Nat.le_of_ble_eq_true rfl) ?_
  refine s_aload_n (q := 69) dX1_become_68 rfl rfl 1 rfl ?_
  refine t_getR (q := 72) (k := 1) (f := 5) (t := 6) dX1_become_69 rfl rfl rfl rfl inX1 (Nat.le_of_ble_eq_true rfl) fX1_28 ?_
  refine s_iconst (q := 73) (v := 0) dX1_become_72 rfl rfl ?_
  refine s_aload_n (q := 74) dX1_become_73 rfl rfl 0 rfl ?_
  refine t_getR (q := 77) (k := 11) (f := 5) (t := 16) dX1_become_74 rfl rfl rfl rfl inX1 (Nat.le_of_ble_eq_true rfl) fX1_28 ?_
  refine s_iconst (q := 78) (v := 0) dX1_become_77 rfl rfl ?_
  refine s_iconst (q := 79) (v := 4) dX1_become_78 rfl rfl ?_
  refine u_copy (q := 82) (k0 := 6) (k1 := 16) (js := 0) (jd := 0) (jw := 4) dX1_become_79 rfl lX1_58 rfl rfl (by decide) (by decide) (by decide) (by decide) (Nat.le_of_ble_eq_true rfl) (Nat.le_of_ble_eq_true rfl) ?_
  refine s_aload_n (q := 83) dX1_become_82 rfl rfl 1 rfl ?_
  refine t_getR (q := 86) (k := 1) (f := 6) (t := 7) dX1_become_83 rfl rfl rfl rfl inX1 (Nat.le_of_ble_eq_true rfl) fX1_31 ?_
  refine s_iconst (q := 87) (v := 0) dX1_become_86 rfl rfl ?_
  refine s_aload_n (q := 88) dX1_become_87 rfl rfl 0 rfl ?_
  refine t_getR (q := 91) (k := 11) (f := 6) (t := 17) dX1_become_88 rfl rfl rfl rfl inX1 (Nat.le_of_ble_eq_true rfl) fX1_31 ?_
  refine s_iconst (q := 92) (v := 0) dX1_become_91 rfl rfl ?_
  refine s_iconst (q := 93) (v := 4) dX1_become_92 rfl rfl ?_
  refine u_copy (q := 96) (k0 := 7) (k1 := 17) (js := 0) (jd := 0) (jw := 4) dX1_become_93 rfl lX1_58 rfl rfl (by decide) (by decide) (by decide) (by decide) (Nat.le_of_ble_eq_true rfl) (Nat.le_of_ble_eq_true rfl) ?_
  refine s_aload_n (q := 97) dX1_become_96 rfl rfl 1 rfl ?_
  refine t_getR (q := 100) (k := 1) (f := 7) (t := 8) dX1_become_97 rfl rfl rfl rfl inX1 (Nat.le_of_ble_eq_true rfl) fX1_34 ?_
  refine s_iconst (q := 101) (v := 0) dX1_become_100 rfl rfl ?_
  refine s_aload_n (q := 102) dX1_become_101 rfl rfl 0 rfl ?_
  refine t_getR (q := 105) (k := 11) (f := 7) (t := 18) dX1_become_102 rfl rfl rfl rfl inX1 (Nat.le_of_ble_eq_true rfl) fX1_34 ?_
  refine s_iconst (q := 106) (v := 0) dX1_become_105 rfl rfl ?_
  refine s_iconst (q := 107) (v := 4) dX1_become_106 rfl rfl ?_
  refine u_copy (q := 110) (k0 := 8) (k1 := 18) (js := 0) (jd := 0) (jw := 4) dX1_become_107 rfl lX1_58 rfl rfl (by decide) (by decide) (by decide) (by decide) (Nat.le_of_ble_eq_true rfl) (Nat.le_of_ble_eq_true rfl) ?_
  refine s_aload_n (q := 111) dX1_become_110 rfl rfl 0 rfl ?_
  refine s_aload_n (q := 112) dX1_become_111 rfl rfl 1 rfl ?_
  refine t_getI (q := 115) (k := 1) (f := 8) (v := (S.1 1 8)) dX1_become_112 rfl rfl rfl rfl inX1 (Nat.le_of_ble_eq_true rfl) fX1_37 rfl ?_
  refine t_putI (q := 118) (k := 11) (f := 8) dX1_become_115 rfl rfl rfl rfl inX1 tyX1_ok nmX1 (Nat.le_of_ble_eq_true rfl) fX1_37 rfl rfl rfl ?_
  refine s_aload_n (q := 119) dX1_become_118 rfl rfl 0 rfl ?_
  refine s_aload_n (q := 120) dX1_become_119 rfl rfl 1 rfl ?_
  refine t_getI (q := 123) (k := 1) (f := 9) (v := (S.1 1 9)) dX1_become_120 rfl rfl rfl rfl inX1 (Nat.le_of_ble_eq_true rfl) fX1_40 rfl ?_
  refine t_putI (q := 126) (k := 11) (f := 9) dX1_become_123 rfl rfl rfl rfl inX1 tyX1_ok nmX1 (Nat.le_of_ble_eq_true rfl) fX1_40 rfl rfl rfl ?_
  refine s_aload_n (q := 127) dX1_become_126 rfl rfl 1 rfl ?_
  refine t_getR (q := 130) (k := 1) (f := 10) (t := 9) dX1_become_127 rfl rfl rfl rfl inX1 (Nat.le_of_ble_eq_true rfl) fX1_43 ?_
  refine s_iconst (q := 131) (v := 0) dX1_become_130 rfl rfl ?_
  refine s_aload_n (q := 132) dX1_become_131 rfl rfl 0 rfl ?_
  refine t_getR (q := 135) (k := 11) (f := 10) (t := 19) dX1_become_132 rfl rfl rfl rfl inX1 (Nat.le_of_ble_eq_true rfl) fX1_43 ?_
  refine s_iconst (q := 136) (v := 0) dX1_become_135 rfl rfl ?_
  refine s_bipush (q := 138) (v := 6) dX1_become_136 rfl rfl ?_
  refine u_copy (q := 141) (k0 := 9) (k1 := 19) (js := 0) (jd := 0) (jw := 6) dX1_become_138 rfl lX1_58 rfl rfl (by decide) (by decide) (by decide) (by decide) (Nat.le_of_ble_eq_true rfl) (Nat.le_of_ble_eq_true rfl) ?_
  refine s_aload_n (q := 142) dX1_become_141 rfl rfl 1 rfl ?_
  refine t_getR (q := 145) (k := 1) (f := 11) (t := 10) dX1_become_142 rfl rfl rfl rfl inX1 (Nat.le_of_ble_eq_true rfl) fX1_46 ?_
  refine s_iconst (q := 146) (v := 0) dX1_become_145 rfl rfl ?_
  refine s_aload_n (q := 147) dX1_become_146 rfl rfl 0 rfl ?_
  refine t_getR (q := 150) (k := 11) (f := 11) (t := 20) dX1_become_147 rfl rfl rfl rfl inX1 (Nat.le_of_ble_eq_true rfl) fX1_46 ?_
  refine s_iconst (q := 151) (v := 0) dX1_become_150 rfl rfl ?_
  refine s_bipush (q := 153) (v := 10) dX1_become_151 rfl rfl ?_
  refine u_copy (q := 156) (k0 := 10) (k1 := 20) (js := 0) (jd := 0) (jw := 10) dX1_become_153 rfl lX1_58 rfl rfl (by decide) (by decide) (by decide) (by decide) (Nat.le_of_ble_eq_true rfl) (Nat.le_of_ble_eq_true rfl) ?_
  refine s_aload_n (q := 157) dX1_become_156 rfl rfl 0 rfl ?_
  refine s_aload_n (q := 158) dX1_become_157 rfl rfl 1 rfl ?_
  refine t_getI (q := 161) (k := 1) (f := 12) (v := (S.1 1 12)) dX1_become_158 rfl rfl rfl rfl inX1 (Nat.le_of_ble_eq_true rfl) fX1_49 rfl ?_
  refine t_putI (q := 164) (k := 11) (f := 12) dX1_become_161 rfl rfl rfl rfl inX1 tyX1_ok nmX1 (Nat.le_of_ble_eq_true rfl) fX1_49 rfl rfl rfl ?_
  obtain rfl := Option.some.inj h
  exact t_vret dX1_become_164 rfl rfl
-- X5_image
def G_X5_image_0  (S : ST) : Option (Int32 × ST) := ((G_X1_become_11_1  S).bind fun q1 => some (1, (wr q1.2 0 3 1)))
set_option maxHeartbeats 4000000 in
set_option maxRecDepth 100000 in
theorem T_X5_image_0 (E : EV)  {S : ST} {w : (Int32 × ST)} (h : G_X5_image_0  S = some w) : SD E mX5_image 0 [(0, .ref (eB E + 0))] [] S (some (.int w.1)) w.2 := by
  unfold G_X5_image_0 at h
  refine s_aload_n (q := 1) dX5_image_0 rfl rfl 0 rfl ?_
  refine t_getR (q := 4) (k := 0) (f := 1) (t := 11) dX5_image_1 rfl rfl rfl rfl inX5 (Nat.le_of_ble_eq_true rfl) fX5_16 ?_
  refine s_aload_n (q := 5) dX5_image_4 rfl rfl 0 rfl ?_
  refine t_getR (q := 8) (k := 0) (f := 0) (t := 1) dX5_image_5 rfl rfl rfl rfl inX5 (Nat.le_of_ble_eq_true rfl) fX5_10 ?_
  obtain ⟨q1, hc1, h⟩ := bnd h
  try dsimp only at h
  refine t_callV (q := 11) (N := mX1_become) (a := eB E + 11) [.ref (eB E + 1)] dX5_image_8 rfl nkX1_become vkX1_become lX5_239 ⟨Nat.le_of_ble_eq_true rfl, Nat.le_of_ble_eq_true rfl⟩ (rc_obj (k := 11) rfl rfl) rfl rfl (Nat.le_of_ble_eq_true rfl) (Nat.le_of_ble_eq_true rfl) (T_X1_become_11_1 E  hc1) ?_
  refine s_aload_n (q := 12) dX5_image_11 rfl rfl 0 rfl ?_
  refine s_iconst (q := 13) (v := 1) dX5_image_12 rfl rfl ?_
  refine t_putI (q := 16) (k := 0) (f := 3) dX5_image_13 rfl rfl rfl rfl inX5 tyX5_ok nmX5 (Nat.le_of_ble_eq_true rfl) fX5_22 rfl rfl rfl ?_
  refine s_iconst (q := 17) (v := 1) dX5_image_16 rfl rfl ?_
  obtain rfl := Option.some.inj h
  exact t_iret dX5_image_17 rfl rfl
-- X6_image
def G_X6_image_51_2 : Nat → Int32 → ST → Option (ST)
  | 0, _, _ => none
  | n + 1, x1, S => (if (72 : Int32) ≤ x1 then some (S) else (if inB x1 72 = true then (if inB x1 72 = true then G_X6_image_51_2 n (x1 + 1) (wr S 53 x1.toNatClampNeg (S.1 52 x1.toNatClampNeg)) else none) else none))
set_option maxHeartbeats 4000000 in
set_option maxRecDepth 100000 in
theorem T_X6_image_51_2 (E : EV) : ∀ (n : Nat) (x1 : Int32) (S : ST), ∀ (w : (ST)), G_X6_image_51_2 n x1 S = some w → ∀ {Q : Option Value → ST → Prop}, SS E mX6_image 26 [(0, .ref (eB E + 51))] [] w Q → SS E mX6_image 2 [(0, .ref (eB E + 51)), (1, .int x1)] [] S Q := by
  intro n
  induction n with
  | zero =>
    intro x1 S w h
    cases h
  | succ n ih =>
    intro x1 S w h Q K
    unfold G_X6_image_51_2 at h
    refine s_iload_n (q := 3) dX6_image_2 rfl rfl 1 rfl ?_
    refine s_bipush (q := 5) (v := 72) dX6_image_3 rfl rfl ?_
    refine s_icmp_ge (q := 8) (tgt := 26) dX6_image_5 rfl rfl (fun hb1 => ?_) (fun hb1 => ?_)
    · rw [if_pos hb1] at h
      obtain rfl := Option.some.inj h
      exact t_sub [0] rfl K
    · rw [if_neg hb1] at h
      refine s_aload_n (q := 9) dX6_image_8 rfl rfl 0 rfl ?_
      refine t_getR (q := 12) (k := 51) (f := 1) (t := 53) dX6_image_9 rfl rfl rfl rfl inX6 (Nat.le_of_ble_eq_true rfl) fX6_13 ?_
      refine s_iload_n (q := 13) dX6_image_12 rfl rfl 1 rfl ?_
      refine s_aload_n (q := 14) dX6_image_13 rfl rfl 0 rfl ?_
      refine t_getR (q := 17) (k := 51) (f := 0) (t := 52) dX6_image_14 rfl rfl rfl rfl inX6 (Nat.le_of_ble_eq_true rfl) fX6_9 ?_
      refine s_iload_n (q := 18) dX6_image_17 rfl rfl 1 rfl ?_
      obtain ⟨hg2, h⟩ := chk_some h
      refine u_iald (q := 19) (k := 52) (v := (S.1 52 x1.toNatClampNeg)) dX6_image_18 rfl rfl (inB_in hg2) rfl rfl ?_
      obtain ⟨hg3, h⟩ := chk_some h
      refine u_iast (q := 20) (k := 53) dX6_image_19 rfl rfl (inB_in hg3) rfl ?_
      refine s_iinc (q := 23) (j := 1) (v := (x1 + 1)) (lv' := [(1, .int (x1 + 1)), (0, .ref (eB E + 51))]) dX6_image_20 rfl rfl rfl (Nat.le_of_ble_eq_true rfl) rfl ?_
      refine s_goto (tgt := 2) dX6_image_23 rfl ?_
      exact t_sub [1, 0] rfl (ih _ _ _ h K)
def G_X6_image_51  (S : ST) : Option (Int32 × ST) := (G_X6_image_51_2 3000 0 S).bind fun q4 => some (1, (wr q4 51 3 1))
set_option maxHeartbeats 4000000 in
set_option maxRecDepth 100000 in
theorem T_X6_image_51 (E : EV)  {S : ST} {w : (Int32 × ST)} (h : G_X6_image_51  S = some w) : SD E mX6_image 0 [(0, .ref (eB E + 51))] [] S (some (.int w.1)) w.2 := by
  unfold G_X6_image_51 at h
  refine s_iconst (q := 1) (v := 0) dX6_image_0 rfl rfl ?_
  refine s_istore_n (q := 2) (lv' := [(1, .int 0), (0, .ref (eB E + 51))]) dX6_image_1 rfl rfl (Nat.le_of_ble_eq_true rfl) rfl ?_
  obtain ⟨q4, hc4, h⟩ := bnd h
  try dsimp only at h
  refine t_sub [1, 0] rfl (T_X6_image_51_2 E _ _ _ _ hc4 ?_)
  refine s_aload_n (q := 27) dX6_image_26 rfl rfl 0 rfl ?_
  refine s_iconst (q := 28) (v := 1) dX6_image_27 rfl rfl ?_
  refine t_putI (q := 31) (k := 51) (f := 3) dX6_image_28 rfl rfl rfl rfl inX6 tyX6_ok nmX6 (Nat.le_of_ble_eq_true rfl) fX6_259 rfl rfl rfl ?_
  refine s_iconst (q := 32) (v := 1) dX6_image_31 rfl rfl ?_
  obtain rfl := Option.some.inj h
  exact t_iret dX6_image_32 rfl rfl
-- X1_become
def G_X1_become_1_11  (S : ST) : Option (Unit × ST) := some ((), (wr (cpS (cpS (wr (wr (cpS (cpS (cpS (cpS (cpS (cpS (cpS (wr S 1 0 (S.1 11 0)) 12 2 0 0 10) 13 3 0 0 10) 14 4 0 0 10) 15 5 0 0 10) 16 6 0 0 4) 17 7 0 0 4) 18 8 0 0 4) 1 8 (S.1 11 8)) 1 9 (S.1 11 9)) 19 9 0 0 6) 20 10 0 0 10) 1 12 (S.1 11 12)))
set_option maxHeartbeats 4000000 in
set_option maxRecDepth 100000 in
theorem T_X1_become_1_11 (E : EV)  {S : ST} {w : (Unit × ST)} (h : G_X1_become_1_11  S = some w) : SD E mX1_become 0 [(0, .ref (eB E + 1)), (1, .ref (eB E + 11))] [] S none w.2 := by
  unfold G_X1_become_1_11 at h
  refine s_aload_n (q := 1) dX1_become_0 rfl rfl 0 rfl ?_
  refine s_aload_n (q := 2) dX1_become_1 rfl rfl 1 rfl ?_
  refine t_getI (q := 5) (k := 11) (f := 0) (v := (S.1 11 0)) dX1_become_2 rfl rfl rfl rfl inX1 (Nat.le_of_ble_eq_true rfl) fX1_9 rfl ?_
  refine t_putI (q := 8) (k := 1) (f := 0) dX1_become_5 rfl rfl rfl rfl inX1 tyX1_ok nmX1 (Nat.le_of_ble_eq_true rfl) fX1_9 rfl rfl rfl ?_
  refine s_aload_n (q := 9) dX1_become_8 rfl rfl 1 rfl ?_
  refine t_getR (q := 12) (k := 11) (f := 1) (t := 12) dX1_become_9 rfl rfl rfl rfl inX1 (Nat.le_of_ble_eq_true rfl) fX1_15 ?_
  refine s_iconst (q := 13) (v := 0) dX1_become_12 rfl rfl ?_
  refine s_aload_n (q := 14) dX1_become_13 rfl rfl 0 rfl ?_
  refine t_getR (q := 17) (k := 1) (f := 1) (t := 2) dX1_become_14 rfl rfl rfl rfl inX1 (Nat.le_of_ble_eq_true rfl) fX1_15 ?_
  refine s_iconst (q := 18) (v := 0) dX1_become_17 rfl rfl ?_
  refine s_bipush (q := 20) (v := 10) dX1_become_18 rfl rfl ?_
  refine u_copy (q := 23) (k0 := 12) (k1 := 2) (js := 0) (jd := 0) (jw := 10) dX1_become_20 rfl lX1_58 rfl rfl (by decide) (by decide) (by decide) (by decide) (Nat.le_of_ble_eq_true rfl) (Nat.le_of_ble_eq_true rfl) ?_
  refine s_aload_n (q := 24) dX1_become_23 rfl rfl 1 rfl ?_
  refine t_getR (q := 27) (k := 11) (f := 2) (t := 13) dX1_become_24 rfl rfl rfl rfl inX1 (Nat.le_of_ble_eq_true rfl) fX1_19 ?_
  refine s_iconst (q := 28) (v := 0) dX1_become_27 rfl rfl ?_
  refine s_aload_n (q := 29) dX1_become_28 rfl rfl 0 rfl ?_
  refine t_getR (q := 32) (k := 1) (f := 2) (t := 3) dX1_become_29 rfl rfl rfl rfl inX1 (Nat.le_of_ble_eq_true rfl) fX1_19 ?_
  refine s_iconst (q := 33) (v := 0) dX1_become_32 rfl rfl ?_
  refine s_bipush (q := 35) (v := 10) dX1_become_33 rfl rfl ?_
  refine u_copy (q := 38) (k0 := 13) (k1 := 3) (js := 0) (jd := 0) (jw := 10) dX1_become_35 rfl lX1_58 rfl rfl (by decide) (by decide) (by decide) (by decide) (Nat.le_of_ble_eq_true rfl) (Nat.le_of_ble_eq_true rfl) ?_
  refine s_aload_n (q := 39) dX1_become_38 rfl rfl 1 rfl ?_
  refine t_getR (q := 42) (k := 11) (f := 3) (t := 14) dX1_become_39 rfl rfl rfl rfl inX1 (Nat.le_of_ble_eq_true rfl) fX1_22 ?_
  refine s_iconst (q := 43) (v := 0) dX1_become_42 rfl rfl ?_
  refine s_aload_n (q := 44) dX1_become_43 rfl rfl 0 rfl ?_
  refine t_getR (q := 47) (k := 1) (f := 3) (t := 4) dX1_become_44 rfl rfl rfl rfl inX1 (Nat.le_of_ble_eq_true rfl) fX1_22 ?_
  refine s_iconst (q := 48) (v := 0) dX1_become_47 rfl rfl ?_
  refine s_bipush (q := 50) (v := 10) dX1_become_48 rfl rfl ?_
  refine u_copy (q := 53) (k0 := 14) (k1 := 4) (js := 0) (jd := 0) (jw := 10) dX1_become_50 rfl lX1_58 rfl rfl (by decide) (by decide) (by decide) (by decide) (Nat.le_of_ble_eq_true rfl) (Nat.le_of_ble_eq_true rfl) ?_
  refine s_aload_n (q := 54) dX1_become_53 rfl rfl 1 rfl ?_
  refine t_getR (q := 57) (k := 11) (f := 4) (t := 15) dX1_become_54 rfl rfl rfl rfl inX1 (Nat.le_of_ble_eq_true rfl) fX1_25 ?_
  refine s_iconst (q := 58) (v := 0) dX1_become_57 rfl rfl ?_
  refine s_aload_n (q := 59) dX1_become_58 rfl rfl 0 rfl ?_
  refine t_getR (q := 62) (k := 1) (f := 4) (t := 5) dX1_become_59 rfl rfl rfl rfl inX1 (Nat.le_of_ble_eq_true rfl) fX1_25 ?_
  refine s_iconst (q := 63) (v := 0) dX1_become_62 rfl rfl ?_
  refine s_bipush (q := 65) (v := 10) dX1_become_63 rfl rfl ?_
  refine u_copy (q := 68) (k0 := 15) (k1 := 5) (js := 0) (jd := 0) (jw := 10) dX1_become_65 rfl lX1_58 rfl rfl (by decide) (by decide) (by decide) (by decide) (Nat.le_of_ble_eq_true rfl) (Nat.le_of_ble_eq_true rfl) ?_
  refine s_aload_n (q := 69) dX1_become_68 rfl rfl 1 rfl ?_
  refine t_getR (q := 72) (k := 11) (f := 5) (t := 16) dX1_become_69 rfl rfl rfl rfl inX1 (Nat.le_of_ble_eq_true rfl) fX1_28 ?_
  refine s_iconst (q := 73) (v := 0) dX1_become_72 rfl rfl ?_
  refine s_aload_n (q := 74) dX1_become_73 rfl rfl 0 rfl ?_
  refine t_getR (q := 77) (k := 1) (f := 5) (t := 6) dX1_become_74 rfl rfl rfl rfl inX1 (Nat.le_of_ble_eq_true rfl) fX1_28 ?_
  refine s_iconst (q := 78) (v := 0) dX1_become_77 rfl rfl ?_
  refine s_iconst (q := 79) (v := 4) dX1_become_78 rfl rfl ?_
  refine u_copy (q := 82) (k0 := 16) (k1 := 6) (js := 0) (jd := 0) (jw := 4) dX1_become_79 rfl lX1_58 rfl rfl (by decide) (by decide) (by decide) (by decide) (Nat.le_of_ble_eq_true rfl) (Nat.le_of_ble_eq_true rfl) ?_
  refine s_aload_n (q := 83) dX1_become_82 rfl rfl 1 rfl ?_
  refine t_getR (q := 86) (k := 11) (f := 6) (t := 17) dX1_become_83 rfl rfl rfl rfl inX1 (Nat.le_of_ble_eq_true rfl) fX1_31 ?_
  refine s_iconst (q := 87) (v := 0) dX1_become_86 rfl rfl ?_
  refine s_aload_n (q := 88) dX1_become_87 rfl rfl 0 rfl ?_
  refine t_getR (q := 91) (k := 1) (f := 6) (t := 7) dX1_become_88 rfl rfl rfl rfl inX1 (Nat.le_of_ble_eq_true rfl) fX1_31 ?_
  refine s_iconst (q := 92) (v := 0) dX1_become_91 rfl rfl ?_
  refine s_iconst (q := 93) (v := 4) dX1_become_92 rfl rfl ?_
  refine u_copy (q := 96) (k0 := 17) (k1 := 7) (js := 0) (jd := 0) (jw := 4) dX1_become_93 rfl lX1_58 rfl rfl (by decide) (by decide) (by decide) (by decide) (Nat.le_of_ble_eq_true rfl) (Nat.le_of_ble_eq_true rfl) ?_
  refine s_aload_n (q := 97) dX1_become_96 rfl rfl 1 rfl ?_
  refine t_getR (q := 100) (k := 11) (f := 7) (t := 18) dX1_become_97 rfl rfl rfl rfl inX1 (Nat.le_of_ble_eq_true rfl) fX1_34 ?_
  refine s_iconst (q := 101) (v := 0) dX1_become_100 rfl rfl ?_
  refine s_aload_n (q := 102) dX1_become_101 rfl rfl 0 rfl ?_
  refine t_getR (q := 105) (k := 1) (f := 7) (t := 8) dX1_become_102 rfl rfl rfl rfl inX1 (Nat.le_of_ble_eq_true rfl) fX1_34 ?_
  refine s_iconst (q := 106) (v := 0) dX1_become_105 rfl rfl ?_
  refine s_iconst (q := 107) (v := 4) dX1_become_106 rfl rfl ?_
  refine u_copy (q := 110) (k0 := 18) (k1 := 8) (js := 0) (jd := 0) (jw := 4) dX1_become_107 rfl lX1_58 rfl rfl (by decide) (by decide) (by decide) (by decide) (Nat.le_of_ble_eq_true rfl) (Nat.le_of_ble_eq_true rfl) ?_
  refine s_aload_n (q := 111) dX1_become_110 rfl rfl 0 rfl ?_
  refine s_aload_n (q := 112) dX1_become_111 rfl rfl 1 rfl ?_
  refine t_getI (q := 115) (k := 11) (f := 8) (v := (S.1 11 8)) dX1_become_112 rfl rfl rfl rfl inX1 (Nat.le_of_ble_eq_true rfl) fX1_37 rfl ?_
  refine t_putI (q := 118) (k := 1) (f := 8) dX1_become_115 rfl rfl rfl rfl inX1 tyX1_ok nmX1 (Nat.le_of_ble_eq_true rfl) fX1_37 rfl rfl rfl ?_
  refine s_aload_n (q := 119) dX1_become_118 rfl rfl 0 rfl ?_
  refine s_aload_n (q := 120) dX1_become_119 rfl rfl 1 rfl ?_
  refine t_getI (q := 123) (k := 11) (f := 9) (v := (S.1 11 9)) dX1_become_120 rfl rfl rfl rfl inX1 (Nat.le_of_ble_eq_true rfl) fX1_40 rfl ?_
  refine t_putI (q := 126) (k := 1) (f := 9) dX1_become_123 rfl rfl rfl rfl inX1 tyX1_ok nmX1 (Nat.le_of_ble_eq_true rfl) fX1_40 rfl rfl rfl ?_
  refine s_aload_n (q := 127) dX1_become_126 rfl rfl 1 rfl ?_
  refine t_getR (q := 130) (k := 11) (f := 10) (t := 19) dX1_become_127 rfl rfl rfl rfl inX1 (Nat.le_of_ble_eq_true rfl) fX1_43 ?_
  refine s_iconst (q := 131) (v := 0) dX1_become_130 rfl rfl ?_
  refine s_aload_n (q := 132) dX1_become_131 rfl rfl 0 rfl ?_
  refine t_getR (q := 135) (k := 1) (f := 10) (t := 9) dX1_become_132 rfl rfl rfl rfl inX1 (Nat.le_of_ble_eq_true rfl) fX1_43 ?_
  refine s_iconst (q := 136) (v := 0) dX1_become_135 rfl rfl ?_
  refine s_bipush (q := 138) (v := 6) dX1_become_136 rfl rfl ?_
  refine u_copy (q := 141) (k0 := 19) (k1 := 9) (js := 0) (jd := 0) (jw := 6) dX1_become_138 rfl lX1_58 rfl rfl (by decide) (by decide) (by decide) (by decide) (Nat.le_of_ble_eq_true rfl) (Nat.le_of_ble_eq_true rfl) ?_
  refine s_aload_n (q := 142) dX1_become_141 rfl rfl 1 rfl ?_
  refine t_getR (q := 145) (k := 11) (f := 11) (t := 20) dX1_become_142 rfl rfl rfl rfl inX1 (Nat.le_of_ble_eq_true rfl) fX1_46 ?_
  refine s_iconst (q := 146) (v := 0) dX1_become_145 rfl rfl ?_
  refine s_aload_n (q := 147) dX1_become_146 rfl rfl 0 rfl ?_
  refine t_getR (q := 150) (k := 1) (f := 11) (t := 10) dX1_become_147 rfl rfl rfl rfl inX1 (Nat.le_of_ble_eq_true rfl) fX1_46 ?_
  refine s_iconst (q := 151) (v := 0) dX1_become_150 rfl rfl ?_
  refine s_bipush (q := 153) (v := 10) dX1_become_151 rfl rfl ?_
  refine u_copy (q := 156) (k0 := 20) (k1 := 10) (js := 0) (jd := 0) (jw := 10) dX1_become_153 rfl lX1_58 rfl rfl (by decide) (by decide) (by decide) (by decide) (Nat.le_of_ble_eq_true rfl) (Nat.le_of_ble_eq_true rfl) ?_
  refine s_aload_n (q := 157) dX1_become_156 rfl rfl 0 rfl ?_
  refine s_aload_n (q := 158) dX1_become_157 rfl rfl 1 rfl ?_
  refine t_getI (q := 161) (k := 11) (f := 12) (v := (S.1 11 12)) dX1_become_158 rfl rfl rfl rfl inX1 (Nat.le_of_ble_eq_true rfl) fX1_49 rfl ?_
  refine t_putI (q := 164) (k := 1) (f := 12) dX1_become_161 rfl rfl rfl rfl inX1 tyX1_ok nmX1 (Nat.le_of_ble_eq_true rfl) fX1_49 rfl rfl rfl ?_
  obtain rfl := Option.some.inj h
  exact t_vret dX1_become_164 rfl rfl
-- X5_undo
def G_X5_undo_0  (S : ST) : Option (Int32 × ST) := (if (S.1 0 3) = 0 then ((G_X5_finding_0 3 S).bind fun q3 => some (q3.1, q3.2)) else ((G_X1_become_1_11  S).bind fun q2 => some ((q2.2.1 1 8), q2.2)))
set_option maxHeartbeats 4000000 in
set_option maxRecDepth 100000 in
theorem T_X5_undo_0 (E : EV)  {S : ST} {w : (Int32 × ST)} (h : G_X5_undo_0  S = some w) : SD E mX5_undo 0 [(0, .ref (eB E + 0))] [] S (some (.int w.1)) w.2 := by
  unfold G_X5_undo_0 at h
  refine s_aload_n (q := 1) dX5_undo_0 rfl rfl 0 rfl ?_
  refine t_getI (q := 4) (k := 0) (f := 3) (v := (S.1 0 3)) dX5_undo_1 rfl rfl rfl rfl inX5 (Nat.le_of_ble_eq_true rfl) fX5_22 rfl ?_
  refine s_if_ne (q := 7) (tgt := 13) dX5_undo_4 rfl rfl (fun hb1 => ?_) (fun hb1 => ?_)
  · rw [if_neg hb1] at h
    refine s_aload_n (q := 14) dX5_undo_13 rfl rfl 0 rfl ?_
    refine t_getR (q := 17) (k := 0) (f := 0) (t := 1) dX5_undo_14 rfl rfl rfl rfl inX5 (Nat.le_of_ble_eq_true rfl) fX5_10 ?_
    refine s_aload_n (q := 18) dX5_undo_17 rfl rfl 0 rfl ?_
    refine t_getR (q := 21) (k := 0) (f := 1) (t := 11) dX5_undo_18 rfl rfl rfl rfl inX5 (Nat.le_of_ble_eq_true rfl) fX5_16 ?_
    obtain ⟨q2, hc2, h⟩ := bnd h
    try dsimp only at h
    refine t_callV (q := 24) (N := mX1_become) (a := eB E + 1) [.ref (eB E + 11)] dX5_undo_21 rfl nkX1_become vkX1_become lX5_239 ⟨Nat.le_of_ble_eq_true rfl, Nat.le_of_ble_eq_true rfl⟩ (rc_obj (k := 1) rfl rfl) rfl rfl (Nat.le_of_ble_eq_true rfl) (Nat.le_of_ble_eq_true rfl) (T_X1_become_1_11 E  hc2) ?_
    refine s_aload_n (q := 25) dX5_undo_24 rfl rfl 0 rfl ?_
    refine t_getR (q := 28) (k := 0) (f := 0) (t := 1) dX5_undo_25 rfl rfl rfl rfl inX5 (Nat.le_of_ble_eq_true rfl) fX5_10 ?_
    refine t_getI (q := 31) (k := 1) (f := 8) (v := (q2.2.1 1 8)) dX5_undo_28 rfl rfl rfl rfl inX1 (Nat.le_of_ble_eq_true rfl) fX5_119 rfl ?_
    obtain rfl := Option.some.inj h
    exact t_iret dX5_undo_31 rfl rfl
  · rw [if_pos hb1] at h
    refine s_aload_n (q := 8) dX5_undo_7 rfl rfl 0 rfl ?_
    refine s_iconst (q := 9) (v := 3) dX5_undo_8 rfl rfl ?_
    obtain ⟨q3, hc3, h⟩ := bnd h
    try dsimp only at h
    refine t_callV (q := 12) (N := mX5_finding) (a := eB E + 0) [.int 3] dX5_undo_9 rfl nkX5_finding vkX5_finding lX5_61 ⟨Nat.le_of_ble_eq_true rfl, Nat.le_of_ble_eq_true rfl⟩ (rc_obj (k := 0) rfl rfl) rfl rfl (Nat.le_of_ble_eq_true rfl) (Nat.le_of_ble_eq_true rfl) (T_X5_finding_0 E _ hc3) ?_
    obtain rfl := Option.some.inj h
    exact t_iret dX5_undo_12 rfl rfl
-- X6_undo
def G_X6_undo_51_15 : Nat → Int32 → ST → Option (ST)
  | 0, _, _ => none
  | n + 1, x1, S => (if (72 : Int32) ≤ x1 then some (S) else (if inB x1 72 = true then (if inB x1 72 = true then G_X6_undo_51_15 n (x1 + 1) (wr S 52 x1.toNatClampNeg (S.1 53 x1.toNatClampNeg)) else none) else none))
set_option maxHeartbeats 4000000 in
set_option maxRecDepth 100000 in
theorem T_X6_undo_51_15 (E : EV) : ∀ (n : Nat) (x1 : Int32) (S : ST), ∀ (w : (ST)), G_X6_undo_51_15 n x1 S = some w → ∀ {Q : Option Value → ST → Prop}, SS E mX6_undo 39 [(0, .ref (eB E + 51))] [] w Q → SS E mX6_undo 15 [(0, .ref (eB E + 51)), (1, .int x1)] [] S Q := by
  intro n
  induction n with
  | zero =>
    intro x1 S w h
    cases h
  | succ n ih =>
    intro x1 S w h Q K
    unfold G_X6_undo_51_15 at h
    refine s_iload_n (q := 16) dX6_undo_15 rfl rfl 1 rfl ?_
    refine s_bipush (q := 18) (v := 72) dX6_undo_16 rfl rfl ?_
    refine s_icmp_ge (q := 21) (tgt := 39) dX6_undo_18 rfl rfl (fun hb2 => ?_) (fun hb2 => ?_)
    · rw [if_pos hb2] at h
      obtain rfl := Option.some.inj h
      exact t_sub [0] rfl K
    · rw [if_neg hb2] at h
      refine s_aload_n (q := 22) dX6_undo_21 rfl rfl 0 rfl ?_
      refine t_getR (q := 25) (k := 51) (f := 0) (t := 52) dX6_undo_22 rfl rfl rfl rfl inX6 (Nat.le_of_ble_eq_true rfl) fX6_9 ?_
      refine s_iload_n (q := 26) dX6_undo_25 rfl rfl 1 rfl ?_
      refine s_aload_n (q := 27) dX6_undo_26 rfl rfl 0 rfl ?_
      refine t_getR (q := 30) (k := 51) (f := 1) (t := 53) dX6_undo_27 rfl rfl rfl rfl inX6 (Nat.le_of_ble_eq_true rfl) fX6_13 ?_
      refine s_iload_n (q := 31) dX6_undo_30 rfl rfl 1 rfl ?_
      obtain ⟨hg3, h⟩ := chk_some h
      refine u_iald (q := 32) (k := 53) (v := (S.1 53 x1.toNatClampNeg)) dX6_undo_31 rfl rfl (inB_in hg3) rfl rfl ?_
      obtain ⟨hg4, h⟩ := chk_some h
      refine u_iast (q := 33) (k := 52) dX6_undo_32 rfl rfl (inB_in hg4) rfl ?_
      refine s_iinc (q := 36) (j := 1) (v := (x1 + 1)) (lv' := [(1, .int (x1 + 1)), (0, .ref (eB E + 51))]) dX6_undo_33 rfl rfl rfl (Nat.le_of_ble_eq_true rfl) rfl ?_
      refine s_goto (tgt := 15) dX6_undo_36 rfl ?_
      exact t_sub [1, 0] rfl (ih _ _ _ h K)
def G_X6_undo_51  (S : ST) : Option (Int32 × ST) := (if (S.1 51 3) = 0 then ((G_X6_no_51 3 S).bind fun q6 => some (q6.1, q6.2)) else (G_X6_undo_51_15 3000 0 S).bind fun q5 => some ((q5.1 52 0), q5))
set_option maxHeartbeats 4000000 in
set_option maxRecDepth 100000 in
theorem T_X6_undo_51 (E : EV)  {S : ST} {w : (Int32 × ST)} (h : G_X6_undo_51  S = some w) : SD E mX6_undo 0 [(0, .ref (eB E + 51))] [] S (some (.int w.1)) w.2 := by
  unfold G_X6_undo_51 at h
  refine s_aload_n (q := 1) dX6_undo_0 rfl rfl 0 rfl ?_
  refine t_getI (q := 4) (k := 51) (f := 3) (v := (S.1 51 3)) dX6_undo_1 rfl rfl rfl rfl inX6 (Nat.le_of_ble_eq_true rfl) fX6_259 rfl ?_
  refine s_if_ne (q := 7) (tgt := 13) dX6_undo_4 rfl rfl (fun hb1 => ?_) (fun hb1 => ?_)
  · rw [if_neg hb1] at h
    refine s_iconst (q := 14) (v := 0) dX6_undo_13 rfl rfl ?_
    refine s_istore_n (q := 15) (lv' := [(1, .int 0), (0, .ref (eB E + 51))]) dX6_undo_14 rfl rfl (Nat.le_of_ble_eq_true rfl) rfl ?_
    obtain ⟨q5, hc5, h⟩ := bnd h
    try dsimp only at h
    refine t_sub [1, 0] rfl (T_X6_undo_51_15 E _ _ _ _ hc5 ?_)
    refine s_aload_n (q := 40) dX6_undo_39 rfl rfl 0 rfl ?_
    refine t_getR (q := 43) (k := 51) (f := 0) (t := 52) dX6_undo_40 rfl rfl rfl rfl inX6 (Nat.le_of_ble_eq_true rfl) fX6_9 ?_
    refine s_iconst (q := 44) (v := 0) dX6_undo_43 rfl rfl ?_
    refine u_iald (q := 45) (k := 52) (j := 0) (v := (q5.1 52 0)) dX6_undo_44 rfl rfl (inB_in (by decide)) (by decide) rfl ?_
    obtain rfl := Option.some.inj h
    exact t_iret dX6_undo_45 rfl rfl
  · rw [if_pos hb1] at h
    refine s_aload_n (q := 8) dX6_undo_7 rfl rfl 0 rfl ?_
    refine s_iconst (q := 9) (v := 3) dX6_undo_8 rfl rfl ?_
    obtain ⟨q6, hc6, h⟩ := bnd h
    try dsimp only at h
    refine t_callV (q := 12) (N := mX6_no) (a := eB E + 51) [.int 3] dX6_undo_9 rfl nkX6_no vkX6_no lX6_94 ⟨Nat.le_of_ble_eq_true rfl, Nat.le_of_ble_eq_true rfl⟩ (rc_obj (k := 51) rfl rfl) rfl rfl (Nat.le_of_ble_eq_true rfl) (Nat.le_of_ble_eq_true rfl) (T_X6_no_51 E _ hc6) ?_
    obtain rfl := Option.some.inj h
    exact t_iret dX6_undo_12 rfl rfl
-- X5_tear
def G_X5_tear_0_12 (y0 : Int32) (S : ST) : Option (Int32 × ST) := some (y0, (wr S 0 3 0))
set_option maxHeartbeats 4000000 in
set_option maxRecDepth 100000 in
theorem T_X5_tear_0_12 (E : EV) (y0 : Int32) {S : ST} {w : (Int32 × ST)} (h : G_X5_tear_0_12 y0 S = some w) : SD E mX5_tear 12 [(0, .ref (eB E + 0))] [.int y0] S (some (.int w.1)) w.2 := by
  unfold G_X5_tear_0_12 at h
  refine s_istore_n (q := 13) (lv' := [(1, .int y0), (0, .ref (eB E + 0))]) dX5_tear_12 rfl rfl (Nat.le_of_ble_eq_true rfl) rfl ?_
  refine s_aload_n (q := 14) dX5_tear_13 rfl rfl 1 rfl ?_
  refine s_iconst (q := 15) (v := 0) dX5_tear_14 rfl rfl ?_
  refine t_putI (q := 18) (k := 0) (f := 3) dX5_tear_15 rfl rfl rfl rfl inX5 tyX5_ok nmX5 (Nat.le_of_ble_eq_true rfl) fX5_22 rfl rfl rfl ?_
  refine s_iload_n (q := 19) dX5_tear_18 rfl rfl 0 rfl ?_
  obtain rfl := Option.some.inj h
  exact t_iret dX5_tear_19 rfl rfl
def G_X5_tear_0  (S : ST) : Option (Int32 × ST) := (if (S.1 0 3) = 0 then G_X5_tear_0_12 0 S else G_X5_tear_0_12 1 S)
set_option maxHeartbeats 4000000 in
set_option maxRecDepth 100000 in
theorem T_X5_tear_0 (E : EV)  {S : ST} {w : (Int32 × ST)} (h : G_X5_tear_0  S = some w) : SD E mX5_tear 0 [(0, .ref (eB E + 0))] [] S (some (.int w.1)) w.2 := by
  unfold G_X5_tear_0 at h
  refine s_aload_n (q := 1) dX5_tear_0 rfl rfl 0 rfl ?_
  refine t_getI (q := 4) (k := 0) (f := 3) (v := (S.1 0 3)) dX5_tear_1 rfl rfl rfl rfl inX5 (Nat.le_of_ble_eq_true rfl) fX5_22 rfl ?_
  refine s_if_eq (q := 7) (tgt := 11) dX5_tear_4 rfl rfl (fun hb1 => ?_) (fun hb1 => ?_)
  · rw [if_pos hb1] at h
    refine s_iconst (q := 12) (v := 0) dX5_tear_11 rfl rfl ?_
    exact t_sub [0] rfl (T_X5_tear_0_12 E _ h)
  · rw [if_neg hb1] at h
    refine s_iconst (q := 8) (v := 1) dX5_tear_7 rfl rfl ?_
    refine s_goto (tgt := 12) dX5_tear_8 rfl ?_
    exact t_sub [0] rfl (T_X5_tear_0_12 E _ h)
-- X6_tear
def G_X6_tear_51_12 (y0 : Int32) (S : ST) : Option (Int32 × ST) := some (y0, (wr S 51 3 0))
set_option maxHeartbeats 4000000 in
set_option maxRecDepth 100000 in
theorem T_X6_tear_51_12 (E : EV) (y0 : Int32) {S : ST} {w : (Int32 × ST)} (h : G_X6_tear_51_12 y0 S = some w) : SD E mX6_tear 12 [(0, .ref (eB E + 51))] [.int y0] S (some (.int w.1)) w.2 := by
  unfold G_X6_tear_51_12 at h
  refine s_istore_n (q := 13) (lv' := [(1, .int y0), (0, .ref (eB E + 51))]) dX6_tear_12 rfl rfl (Nat.le_of_ble_eq_true rfl) rfl ?_
  refine s_aload_n (q := 14) dX6_tear_13 rfl rfl 1 rfl ?_
  refine s_iconst (q := 15) (v := 0) dX6_tear_14 rfl rfl ?_
  refine t_putI (q := 18) (k := 51) (f := 3) dX6_tear_15 rfl rfl rfl rfl inX6 tyX6_ok nmX6 (Nat.le_of_ble_eq_true rfl) fX6_259 rfl rfl rfl ?_
  refine s_iload_n (q := 19) dX6_tear_18 rfl rfl 0 rfl ?_
  obtain rfl := Option.some.inj h
  exact t_iret dX6_tear_19 rfl rfl
def G_X6_tear_51  (S : ST) : Option (Int32 × ST) := (if (S.1 51 3) = 0 then G_X6_tear_51_12 0 S else G_X6_tear_51_12 1 S)
set_option maxHeartbeats 4000000 in
set_option maxRecDepth 100000 in
theorem T_X6_tear_51 (E : EV)  {S : ST} {w : (Int32 × ST)} (h : G_X6_tear_51  S = some w) : SD E mX6_tear 0 [(0, .ref (eB E + 51))] [] S (some (.int w.1)) w.2 := by
  unfold G_X6_tear_51 at h
  refine s_aload_n (q := 1) dX6_tear_0 rfl rfl 0 rfl ?_
  refine t_getI (q := 4) (k := 51) (f := 3) (v := (S.1 51 3)) dX6_tear_1 rfl rfl rfl rfl inX6 (Nat.le_of_ble_eq_true rfl) fX6_259 rfl ?_
  refine s_if_eq (q := 7) (tgt := 11) dX6_tear_4 rfl rfl (fun hb1 => ?_) (fun hb1 => ?_)
  · rw [if_pos hb1] at h
    refine s_iconst (q := 12) (v := 0) dX6_tear_11 rfl rfl ?_
    exact t_sub [0] rfl (T_X6_tear_51_12 E _ h)
  · rw [if_neg hb1] at h
    refine s_iconst (q := 8) (v := 1) dX6_tear_7 rfl rfl ?_
    refine s_goto (tgt := 12) dX6_tear_8 rfl ?_
    exact t_sub [0] rfl (T_X6_tear_51_12 E _ h)
-- X1_spotsHeld
def G_X1_spotsHeld_1_4 : Nat → Int32 → Int32 → ST → Option (Int32 × ST)
  | 0, _, _, _ => none
  | n + 1, x1, x2, S => (if (10 : Int32) ≤ x2 then some (x1, S) else (if inB x2 10 = true then (if (S.1 10 x2.toNatClampNeg) < 0 then G_X1_spotsHeld_1_4 n x1 (x2 + 1) S else G_X1_spotsHeld_1_4 n (x1 + 1) (x2 + 1) S) else none))
set_option maxHeartbeats 4000000 in
set_option maxRecDepth 100000 in
theorem T_X1_spotsHeld_1_4 (E : EV) : ∀ (n : Nat) (x1 : Int32) (x2 : Int32) (S : ST), ∀ (w : (Int32 × ST)), G_X1_spotsHeld_1_4 n x1 x2 S = some w → ∀ {Q : Option Value → ST → Prop}, SS E mX1_spotsHeld 28 [(1, .int w.1)] [] w.2 Q → SS E mX1_spotsHeld 4 [(0, .ref (eB E + 1)), (1, .int x1), (2, .int x2)] [] S Q := by
  intro n
  induction n with
  | zero =>
    intro x1 x2 S w h
    cases h
  | succ n ih =>
    intro x1 x2 S w h Q K
    unfold G_X1_spotsHeld_1_4 at h
    refine s_iload_n (q := 5) dX1_spotsHeld_4 rfl rfl 2 rfl ?_
    refine s_bipush (q := 7) (v := 10) dX1_spotsHeld_5 rfl rfl ?_
    refine s_icmp_ge (q := 10) (tgt := 28) dX1_spotsHeld_7 rfl rfl (fun hb1 => ?_) (fun hb1 => ?_)
    · rw [if_pos hb1] at h
      obtain rfl := Option.some.inj h
      exact t_sub [1] rfl K
    · rw [if_neg hb1] at h
      refine s_aload_n (q := 11) dX1_spotsHeld_10 rfl rfl 0 rfl ?_
      refine t_getR (q := 14) (k := 1) (f := 11) (t := 10) dX1_spotsHeld_11 rfl rfl rfl rfl inX1 (Nat.le_of_ble_eq_true rfl) fX1_46 ?_
      refine s_iload_n (q := 15) dX1_spotsHeld_14 rfl rfl 2 rfl ?_
      obtain ⟨hg2, h⟩ := chk_some h
      refine u_iald (q := 16) (k := 10) (v := (S.1 10 x2.toNatClampNeg)) dX1_spotsHeld_15 rfl rfl (inB_in hg2) rfl rfl ?_
      refine s_if_lt (q := 19) (tgt := 22) dX1_spotsHeld_16 rfl rfl (fun hb3 => ?_) (fun hb3 => ?_)
      · rw [if_pos hb3] at h
        refine s_iinc (q := 25) (j := 2) (v := (x2 + 1)) (lv' := [(2, .int (x2 + 1)), (0, .ref (eB E + 1)), (1, .int x1)]) dX1_spotsHeld_22 rfl rfl rfl (Nat.le_of_ble_eq_true rfl) rfl ?_
        refine s_goto (tgt := 4) dX1_spotsHeld_25 rfl ?_
        exact t_sub [1, 2, 0] rfl (ih _ _ _ _ h K)
      · rw [if_neg hb3] at h
        refine s_iinc (q := 22) (j := 1) (v := (x1 + 1)) (lv' := [(1, .int (x1 + 1)), (0, .ref (eB E + 1)), (2, .int x2)]) dX1_spotsHeld_19 rfl rfl rfl (Nat.le_of_ble_eq_true rfl) rfl ?_
        refine s_iinc (q := 25) (j := 2) (v := (x2 + 1)) (lv' := [(2, .int (x2 + 1)), (1, .int (x1 + 1)), (0, .ref (eB E + 1))]) dX1_spotsHeld_22 rfl rfl rfl (Nat.le_of_ble_eq_true rfl) rfl ?_
        refine s_goto (tgt := 4) dX1_spotsHeld_25 rfl ?_
        exact t_sub [2, 1, 0] rfl (ih _ _ _ _ h K)
def G_X1_spotsHeld_1  (S : ST) : Option (Int32 × ST) := (G_X1_spotsHeld_1_4 3000 0 0 S).bind fun q4 => some (q4.1, q4.2)
set_option maxHeartbeats 4000000 in
set_option maxRecDepth 100000 in
theorem T_X1_spotsHeld_1 (E : EV)  {S : ST} {w : (Int32 × ST)} (h : G_X1_spotsHeld_1  S = some w) : SD E mX1_spotsHeld 0 [(0, .ref (eB E + 1))] [] S (some (.int w.1)) w.2 := by
  unfold G_X1_spotsHeld_1 at h
  refine s_iconst (q := 1) (v := 0) dX1_spotsHeld_0 rfl rfl ?_
  refine s_istore_n (q := 2) (lv' := [(1, .int 0), (0, .ref (eB E + 1))]) dX1_spotsHeld_1 rfl rfl (Nat.le_of_ble_eq_true rfl) rfl ?_
  refine s_iconst (q := 3) (v := 0) dX1_spotsHeld_2 rfl rfl ?_
  refine s_istore_n (q := 4) (lv' := [(2, .int 0), (1, .int 0), (0, .ref (eB E + 1))]) dX1_spotsHeld_3 rfl rfl (Nat.le_of_ble_eq_true rfl) rfl ?_
  obtain ⟨q4, hc4, h⟩ := bnd h
  try dsimp only at h
  refine t_sub [2, 1, 0] rfl (T_X1_spotsHeld_1_4 E _ _ _ _ _ hc4 ?_)
  refine s_iload_n (q := 29) dX1_spotsHeld_28 rfl rfl 0 rfl ?_
  obtain rfl := Option.some.inj h
  exact t_iret dX1_spotsHeld_29 rfl rfl
-- X5_count
def G_X5_count_0 (x1 : Int32) (S : ST) : Option (Int32 × ST) := (if x1 = 0 then some ((S.1 1 8), S) else (if x1 = 1 then some ((S.1 1 0), S) else (if x1 = 2 then ((G_X1_brightSet_1_4  S).bind fun q3 => ((G_J6_bitCount_0f7a4 q3.1 q3.2).bind fun q4 => some (q4.1, q4.2))) else (if x1 = 3 then some ((S.1 1 9), S) else (if x1 = 4 then ((G_X1_lifeTogether_1  S).bind fun q5 => some (q5.1, q5.2)) else (if x1 = 5 then some ((S.1 32 1), S) else (if x1 = 6 then some ((S.1 1 12), S) else (if x1 = 7 then ((G_X1_spotsHeld_1  S).bind fun q6 => some (q6.1, q6.2)) else ((G_X5_finding_0 0 S).bind fun q1 => some (q1.1, q1.2))))))))))
set_option maxHeartbeats 4000000 in
set_option maxRecDepth 100000 in
theorem T_X5_count_0 (E : EV) (x1 : Int32) {S : ST} {w : (Int32 × ST)} (h : G_X5_count_0 x1 S = some w) : SD E mX5_count 0 [(0, .ref (eB E + 0)), (1, .int x1)] [] S (some (.int w.1)) w.2 := by
  unfold G_X5_count_0 at h
  refine s_iload_n (q := 1) dX5_count_0 rfl rfl 1 rfl ?_
  by_cases hs2_0 : x1 = 0
  · rw [if_pos hs2_0] at h
    refine s_tableIn (off := 47) (tgt := 48) dX5_count_1 (by rw [hs2_0]; decide) (by rw [hs2_0]; decide) (by rw [hs2_0]; rfl) rfl ?_
    refine s_aload_n (q := 49) dX5_count_48 rfl rfl 0 rfl ?_
    refine t_getR (q := 52) (k := 0) (f := 0) (t := 1) dX5_count_49 rfl rfl rfl rfl inX5 (Nat.le_of_ble_eq_true rfl) fX5_10 ?_
    refine t_getI (q := 55) (k := 1) (f := 8) (v := (S.1 1 8)) dX5_count_52 rfl rfl rfl rfl inX1 (Nat.le_of_ble_eq_true rfl) fX5_119 rfl ?_
    obtain rfl := Option.some.inj h
    exact t_iret dX5_count_55 rfl rfl
  rw [if_neg hs2_0] at h
  by_cases hs2_1 : x1 = 1
  · rw [if_pos hs2_1] at h
    refine s_tableIn (off := 55) (tgt := 56) dX5_count_1 (by rw [hs2_1]; decide) (by rw [hs2_1]; decide) (by rw [hs2_1]; rfl) rfl ?_
    refine s_aload_n (q := 57) dX5_count_56 rfl rfl 0 rfl ?_
    refine t_getR (q := 60) (k := 0) (f := 0) (t := 1) dX5_count_57 rfl rfl rfl rfl inX5 (Nat.le_of_ble_eq_true rfl) fX5_10 ?_
    refine t_getI (q := 63) (k := 1) (f := 0) (v := (S.1 1 0)) dX5_count_60 rfl rfl rfl rfl inX1 (Nat.le_of_ble_eq_true rfl) fX5_65 rfl ?_
    obtain rfl := Option.some.inj h
    exact t_iret dX5_count_63 rfl rfl
  rw [if_neg hs2_1] at h
  by_cases hs2_2 : x1 = 2
  · rw [if_pos hs2_2] at h
    refine s_tableIn (off := 63) (tgt := 64) dX5_count_1 (by rw [hs2_2]; decide) (by rw [hs2_2]; decide) (by rw [hs2_2]; rfl) rfl ?_
    refine s_aload_n (q := 65) dX5_count_64 rfl rfl 0 rfl ?_
    refine t_getR (q := 68) (k := 0) (f := 0) (t := 1) dX5_count_65 rfl rfl rfl rfl inX5 (Nat.le_of_ble_eq_true rfl) fX5_10 ?_
    refine s_aload_n (q := 69) dX5_count_68 rfl rfl 0 rfl ?_
    refine t_getR (q := 72) (k := 0) (f := 0) (t := 1) dX5_count_69 rfl rfl rfl rfl inX5 (Nat.le_of_ble_eq_true rfl) fX5_10 ?_
    refine t_getR (q := 75) (k := 1) (f := 3) (t := 4) dX5_count_72 rfl rfl rfl rfl inX1 (Nat.le_of_ble_eq_true rfl) fX5_80 ?_
    obtain ⟨q3, hc3, h⟩ := bnd h
    try dsimp only at h
    refine t_callV (q := 78) (N := mX1_brightSet) (a := eB E + 1) [.ref (eB E + 4)] dX5_count_75 rfl nkX1_brightSet vkX1_brightSet lX5_126 ⟨Nat.le_of_ble_eq_true rfl, Nat.le_of_ble_eq_true rfl⟩ (rc_obj (k := 1) rfl rfl) rfl rfl (Nat.le_of_ble_eq_true rfl) (Nat.le_of_ble_eq_true rfl) (T_X1_brightSet_1_4 E  hc3) ?_
    obtain ⟨q4, hc4, h⟩ := bnd h
    try dsimp only at h
    refine t_callS (q := 81) (N := mJ6_bitCount_0f7a4) [.int q3.1] dX5_count_78 rfl nkJ6_bitCount_0f7a4 sJ6_bitCount_0f7a4 lX5_130 ⟨Nat.le_of_ble_eq_true rfl, Nat.le_of_ble_eq_true rfl⟩ rfl rfl (Nat.le_of_ble_eq_true rfl) (Nat.le_of_ble_eq_true rfl) (T_J6_bitCount_0f7a4 E _ hc4) ?_
    obtain rfl := Option.some.inj h
    exact t_iret dX5_count_81 rfl rfl
  rw [if_neg hs2_2] at h
  by_cases hs2_3 : x1 = 3
  · rw [if_pos hs2_3] at h
    refine s_tableIn (off := 81) (tgt := 82) dX5_count_1 (by rw [hs2_3]; decide) (by rw [hs2_3]; decide) (by rw [hs2_3]; rfl) rfl ?_
    refine s_aload_n (q := 83) dX5_count_82 rfl rfl 0 rfl ?_
    refine t_getR (q := 86) (k := 0) (f := 0) (t := 1) dX5_count_83 rfl rfl rfl rfl inX5 (Nat.le_of_ble_eq_true rfl) fX5_10 ?_
    refine t_getI (q := 89) (k := 1) (f := 9) (v := (S.1 1 9)) dX5_count_86 rfl rfl rfl rfl inX1 (Nat.le_of_ble_eq_true rfl) fX5_194 rfl ?_
    obtain rfl := Option.some.inj h
    exact t_iret dX5_count_89 rfl rfl
  rw [if_neg hs2_3] at h
  by_cases hs2_4 : x1 = 4
  · rw [if_pos hs2_4] at h
    refine s_tableIn (off := 89) (tgt := 90) dX5_count_1 (by rw [hs2_4]; decide) (by rw [hs2_4]; decide) (by rw [hs2_4]; rfl) rfl ?_
    refine s_aload_n (q := 91) dX5_count_90 rfl rfl 0 rfl ?_
    refine t_getR (q := 94) (k := 0) (f := 0) (t := 1) dX5_count_91 rfl rfl rfl rfl inX5 (Nat.le_of_ble_eq_true rfl) fX5_10 ?_
    obtain ⟨q5, hc5, h⟩ := bnd h
    try dsimp only at h
    refine t_callV (q := 97) (N := mX1_lifeTogether) (a := eB E + 1) [] dX5_count_94 rfl nkX1_lifeTogether vkX1_lifeTogether lX5_135 ⟨Nat.le_of_ble_eq_true rfl, Nat.le_of_ble_eq_true rfl⟩ (rc_obj (k := 1) rfl rfl) rfl rfl (Nat.le_of_ble_eq_true rfl) (Nat.le_of_ble_eq_true rfl) (T_X1_lifeTogether_1 E  hc5) ?_
    obtain rfl := Option.some.inj h
    exact t_iret dX5_count_97 rfl rfl
  rw [if_neg hs2_4] at h
  by_cases hs2_5 : x1 = 5
  · rw [if_pos hs2_5] at h
    refine s_tableIn (off := 97) (tgt := 98) dX5_count_1 (by rw [hs2_5]; decide) (by rw [hs2_5]; decide) (by rw [hs2_5]; rfl) rfl ?_
    refine s_aload_n (q := 99) dX5_count_98 rfl rfl 0 rfl ?_
    refine t_getR (q := 102) (k := 0) (f := 4) (t := 31) dX5_count_99 rfl rfl rfl rfl inX5 (Nat.le_of_ble_eq_true rfl) fX5_29 ?_
    refine t_getR (q := 105) (k := 31) (f := 0) (t := 32) dX5_count_102 rfl rfl rfl rfl inX3 (Nat.le_of_ble_eq_true rfl) fX5_226 ?_
    refine t_getI (q := 108) (k := 32) (f := 1) (v := (S.1 32 1)) dX5_count_105 rfl rfl rfl rfl inX2 (Nat.le_of_ble_eq_true rfl) fX5_230 rfl ?_
    obtain rfl := Option.some.inj h
    exact t_iret dX5_count_108 rfl rfl
  rw [if_neg hs2_5] at h
  by_cases hs2_6 : x1 = 6
  · rw [if_pos hs2_6] at h
    refine s_tableIn (off := 108) (tgt := 109) dX5_count_1 (by rw [hs2_6]; decide) (by rw [hs2_6]; decide) (by rw [hs2_6]; rfl) rfl ?_
    refine s_aload_n (q := 110) dX5_count_109 rfl rfl 0 rfl ?_
    refine t_getR (q := 113) (k := 0) (f := 0) (t := 1) dX5_count_110 rfl rfl rfl rfl inX5 (Nat.le_of_ble_eq_true rfl) fX5_10 ?_
    refine t_getI (q := 116) (k := 1) (f := 12) (v := (S.1 1 12)) dX5_count_113 rfl rfl rfl rfl inX1 (Nat.le_of_ble_eq_true rfl) fX5_223 rfl ?_
    obtain rfl := Option.some.inj h
    exact t_iret dX5_count_116 rfl rfl
  rw [if_neg hs2_6] at h
  by_cases hs2_7 : x1 = 7
  · rw [if_pos hs2_7] at h
    refine s_tableIn (off := 116) (tgt := 117) dX5_count_1 (by rw [hs2_7]; decide) (by rw [hs2_7]; decide) (by rw [hs2_7]; rfl) rfl ?_
    refine s_aload_n (q := 118) dX5_count_117 rfl rfl 0 rfl ?_
    refine t_getR (q := 121) (k := 0) (f := 0) (t := 1) dX5_count_118 rfl rfl rfl rfl inX5 (Nat.le_of_ble_eq_true rfl) fX5_10 ?_
    obtain ⟨q6, hc6, h⟩ := bnd h
    try dsimp only at h
    refine t_callV (q := 124) (N := mX1_spotsHeld) (a := eB E + 1) [] dX5_count_121 rfl nkX1_spotsHeld vkX1_spotsHeld lX5_278 ⟨Nat.le_of_ble_eq_true rfl, Nat.le_of_ble_eq_true rfl⟩ (rc_obj (k := 1) rfl rfl) rfl rfl (Nat.le_of_ble_eq_true rfl) (Nat.le_of_ble_eq_true rfl) (T_X1_spotsHeld_1 E  hc6) ?_
    obtain rfl := Option.some.inj h
    exact t_iret dX5_count_124 rfl rfl
  rw [if_neg hs2_7] at h
  refine s_tableOut (tgt := 125) dX5_count_1 (by have e0 := lv_neT (a := 0) hs2_0 (by decide); have e1 := lv_neT (a := 1) hs2_1 (by decide); have e2 := lv_neT (a := 2) hs2_2 (by decide); have e3 := lv_neT (a := 3) hs2_3 (by decide); have e4 := lv_neT (a := 4) hs2_4 (by decide); have e5 := lv_neT (a := 5) hs2_5 (by decide); have e6 := lv_neT (a := 6) hs2_6 (by decide); have e7 := lv_neT (a := 7) hs2_7 (by decide); omega) rfl ?_
  refine s_aload_n (q := 126) dX5_count_125 rfl rfl 0 rfl ?_
  refine s_iconst (q := 127) (v := 0) dX5_count_126 rfl rfl ?_
  obtain ⟨q1, hc1, h⟩ := bnd h
  try dsimp only at h
  refine t_callV (q := 130) (N := mX5_finding) (a := eB E + 0) [.int 0] dX5_count_127 rfl nkX5_finding vkX5_finding lX5_61 ⟨Nat.le_of_ble_eq_true rfl, Nat.le_of_ble_eq_true rfl⟩ (rc_obj (k := 0) rfl rfl) rfl rfl (Nat.le_of_ble_eq_true rfl) (Nat.le_of_ble_eq_true rfl) (T_X5_finding_0 E _ hc1) ?_
  obtain rfl := Option.some.inj h
  exact t_iret dX5_count_130 rfl rfl
-- X6_count
def G_X6_count_51_96 : Nat → Int32 → Int32 → ST → Option (Int32 × ST)
  | 0, _, _, _ => none
  | n + 1, x2, x3, S => (if (10 : Int32) ≤ x3 then some (x2, S) else (if inB (62 + x3) 72 = true then (if (S.1 52 ((62 + x3).toNatClampNeg)) < 0 then G_X6_count_51_96 n (x2 + 0) (x3 + 1) S else G_X6_count_51_96 n (x2 + 1) (x3 + 1) S) else none))
set_option maxHeartbeats 4000000 in
set_option maxRecDepth 100000 in
theorem T_X6_count_51_96 (E : EV) : ∀ (n : Nat) (x2 : Int32) (x3 : Int32) (S : ST), ∀ (w : (Int32 × ST)), G_X6_count_51_96 n x2 x3 S = some w → ∀ {Q : Option Value → ST → Prop}, SS E mX6_count 128 [(2, .int w.1)] [] w.2 Q → SS E mX6_count 96 [(0, .ref (eB E + 51)), (2, .int x2), (3, .int x3)] [] S Q := by
  intro n
  induction n with
  | zero =>
    intro x2 x3 S w h
    cases h
  | succ n ih =>
    intro x2 x3 S w h Q K
    unfold G_X6_count_51_96 at h
    refine s_iload_n (q := 97) dX6_count_96 rfl rfl 2 rfl ?_
    refine s_bipush (q := 99) (v := 10) dX6_count_97 rfl rfl ?_
    refine s_icmp_ge (q := 102) (tgt := 128) dX6_count_99 rfl rfl (fun hb6 => ?_) (fun hb6 => ?_)
    · rw [if_pos hb6] at h
      obtain rfl := Option.some.inj h
      exact t_sub [1] rfl K
    · rw [if_neg hb6] at h
      refine s_iload_n (q := 103) dX6_count_102 rfl rfl 1 rfl ?_
      refine s_aload_n (q := 104) dX6_count_103 rfl rfl 0 rfl ?_
      refine t_getR (q := 107) (k := 51) (f := 0) (t := 52) dX6_count_104 rfl rfl rfl rfl inX6 (Nat.le_of_ble_eq_true rfl) fX6_9 ?_
      refine s_bipush (q := 109) (v := 62) dX6_count_107 rfl rfl ?_
      refine s_iload_n (q := 110) dX6_count_109 rfl rfl 2 rfl ?_
      refine s_iadd (q := 111) dX6_count_110 rfl ?_
      obtain ⟨hg7, h⟩ := chk_some h
      refine u_iald (q := 112) (k := 52) (v := (S.1 52 ((62 + x3).toNatClampNeg))) dX6_count_111 rfl rfl (inB_in hg7) rfl rfl ?_
      refine s_if_lt (q := 115) (tgt := 119) dX6_count_112 rfl rfl (fun hb8 => ?_) (fun hb8 => ?_)
      · rw [if_pos hb8] at h
        refine s_iconst (q := 120) (v := 0) dX6_count_119 rfl rfl ?_
        refine s_iadd (q := 121) dX6_count_120 rfl ?_
        refine s_istore_n (q := 122) (lv' := [(2, .int (x2 + 0)), (0, .ref (eB E + 51)), (3, .int x3)]) dX6_count_121 rfl rfl (Nat.le_of_ble_eq_true rfl) rfl ?_
        refine s_iinc (q := 125) (j := 2) (v := (x3 + 1)) (lv' := [(3, .int (x3 + 1)), (2, .int (x2 + 0)), (0, .ref (eB E + 51))]) dX6_count_122 rfl rfl rfl (Nat.le_of_ble_eq_true rfl) rfl ?_
        refine s_goto (tgt := 96) dX6_count_125 rfl ?_
        exact t_sub [2, 1, 0] rfl (ih _ _ _ _ h K)
      · rw [if_neg hb8] at h
        refine s_iconst (q := 116) (v := 1) dX6_count_115 rfl rfl ?_
        refine s_goto (tgt := 120) dX6_count_116 rfl ?_
        refine s_iadd (q := 121) dX6_count_120 rfl ?_
        refine s_istore_n (q := 122) (lv' := [(2, .int (x2 + 1)), (0, .ref (eB E + 51)), (3, .int x3)]) dX6_count_121 rfl rfl (Nat.le_of_ble_eq_true rfl) rfl ?_
        refine s_iinc (q := 125) (j := 2) (v := (x3 + 1)) (lv' := [(3, .int (x3 + 1)), (2, .int (x2 + 1)), (0, .ref (eB E + 51))]) dX6_count_122 rfl rfl rfl (Nat.le_of_ble_eq_true rfl) rfl ?_
        refine s_goto (tgt := 96) dX6_count_125 rfl ?_
        exact t_sub [2, 1, 0] rfl (ih _ _ _ _ h K)
def G_X6_count_51 (x1 : Int32) (S : ST) : Option (Int32 × ST) := (if x1 = 0 then some ((S.1 52 0), S) else (if x1 = 1 then some ((S.1 52 1), S) else (if x1 = 2 then ((G_X6_shining_51  S).bind fun q3 => ((G_X6_bits q3.1 q3.2).bind fun q4 => some (q4.1, q4.2))) else (if x1 = 3 then some ((S.1 52 2), S) else (if x1 = 4 then ((G_X6_lives_51  S).bind fun q5 => some (q5.1, q5.2)) else (if x1 = 5 then some ((S.1 51 7), S) else (if x1 = 6 then some ((S.1 52 3), S) else (if x1 = 7 then (G_X6_count_51_96 3000 0 0 S).bind fun q9 => some (q9.1, q9.2) else ((G_X6_no_51 0 S).bind fun q1 => some (q1.1, q1.2))))))))))
set_option maxHeartbeats 4000000 in
set_option maxRecDepth 100000 in
theorem T_X6_count_51 (E : EV) (x1 : Int32) {S : ST} {w : (Int32 × ST)} (h : G_X6_count_51 x1 S = some w) : SD E mX6_count 0 [(0, .ref (eB E + 51)), (1, .int x1)] [] S (some (.int w.1)) w.2 := by
  unfold G_X6_count_51 at h
  refine s_iconst (q := 1) (v := 0) dX6_count_0 rfl rfl ?_
  refine s_istore_n (q := 2) (lv' := [(2, .int 0), (0, .ref (eB E + 51)), (1, .int x1)]) dX6_count_1 rfl rfl (Nat.le_of_ble_eq_true rfl) rfl ?_
  refine s_iload_n (q := 3) dX6_count_2 rfl rfl 2 rfl ?_
  by_cases hs2_0 : x1 = 0
  · rw [if_pos hs2_0] at h
    refine s_tableIn (off := 45) (tgt := 48) dX6_count_3 (by rw [hs2_0]; decide) (by rw [hs2_0]; decide) (by rw [hs2_0]; rfl) rfl ?_
    refine s_aload_n (q := 49) dX6_count_48 rfl rfl 1 rfl ?_
    refine t_getR (q := 52) (k := 51) (f := 0) (t := 52) dX6_count_49 rfl rfl rfl rfl inX6 (Nat.le_of_ble_eq_true rfl) fX6_9 ?_
    refine s_iconst (q := 53) (v := 0) dX6_count_52 rfl rfl ?_
    refine u_iald (q := 54) (k := 52) (j := 0) (v := (S.1 52 0)) dX6_count_53 rfl rfl (inB_in (by decide)) (by decide) rfl ?_
    obtain rfl := Option.some.inj h
    exact t_iret dX6_count_54 rfl rfl
  rw [if_neg hs2_0] at h
  by_cases hs2_1 : x1 = 1
  · rw [if_pos hs2_1] at h
    refine s_tableIn (off := 52) (tgt := 55) dX6_count_3 (by rw [hs2_1]; decide) (by rw [hs2_1]; decide) (by rw [hs2_1]; rfl) rfl ?_
    refine s_aload_n (q := 56) dX6_count_55 rfl rfl 1 rfl ?_
    refine t_getR (q := 59) (k := 51) (f := 0) (t := 52) dX6_count_56 rfl rfl rfl rfl inX6 (Nat.le_of_ble_eq_true rfl) fX6_9 ?_
    refine s_iconst (q := 60) (v := 1) dX6_count_59 rfl rfl ?_
    refine u_iald (q := 61) (k := 52) (j := 1) (v := (S.1 52 1)) dX6_count_60 rfl rfl (inB_in (by decide)) (by decide) rfl ?_
    obtain rfl := Option.some.inj h
    exact t_iret dX6_count_61 rfl rfl
  rw [if_neg hs2_1] at h
  by_cases hs2_2 : x1 = 2
  · rw [if_pos hs2_2] at h
    refine s_tableIn (off := 59) (tgt := 62) dX6_count_3 (by rw [hs2_2]; decide) (by rw [hs2_2]; decide) (by rw [hs2_2]; rfl) rfl ?_
    refine s_aload_n (q := 63) dX6_count_62 rfl rfl 1 rfl ?_
    obtain ⟨q3, hc3, h⟩ := bnd h
    try dsimp only at h
    refine t_callV (q := 66) (N := mX6_shining) (a := eB E + 51) [] dX6_count_63 rfl nkX6_shining vkX6_shining lX6_117 ⟨Nat.le_of_ble_eq_true rfl, Nat.le_of_ble_eq_true rfl⟩ (rc_obj (k := 51) rfl rfl) rfl rfl (Nat.le_of_ble_eq_true rfl) (Nat.le_of_ble_eq_true rfl) (T_X6_shining_51 E  hc3) ?_
    obtain ⟨q4, hc4, h⟩ := bnd h
    try dsimp only at h
    refine t_callS (q := 69) (N := mX6_bits) [.int q3.1] dX6_count_66 rfl nkX6_bits sX6_bits lX6_121 ⟨Nat.le_of_ble_eq_true rfl, Nat.le_of_ble_eq_true rfl⟩ rfl rfl (Nat.le_of_ble_eq_true rfl) (Nat.le_of_ble_eq_true rfl) (T_X6_bits E _ hc4) ?_
    obtain rfl := Option.some.inj h
    exact t_iret dX6_count_69 rfl rfl
  rw [if_neg hs2_2] at h
  by_cases hs2_3 : x1 = 3
  · rw [if_pos hs2_3] at h
    refine s_tableIn (off := 67) (tgt := 70) dX6_count_3 (by rw [hs2_3]; decide) (by rw [hs2_3]; decide) (by rw [hs2_3]; rfl) rfl ?_
    refine s_aload_n (q := 71) dX6_count_70 rfl rfl 1 rfl ?_
    refine t_getR (q := 74) (k := 51) (f := 0) (t := 52) dX6_count_71 rfl rfl rfl rfl inX6 (Nat.le_of_ble_eq_true rfl) fX6_9 ?_
    refine s_iconst (q := 75) (v := 2) dX6_count_74 rfl rfl ?_
    refine u_iald (q := 76) (k := 52) (j := 2) (v := (S.1 52 2)) dX6_count_75 rfl rfl (inB_in (by decide)) (by decide) rfl ?_
    obtain rfl := Option.some.inj h
    exact t_iret dX6_count_76 rfl rfl
  rw [if_neg hs2_3] at h
  by_cases hs2_4 : x1 = 4
  · rw [if_pos hs2_4] at h
    refine s_tableIn (off := 74) (tgt := 77) dX6_count_3 (by rw [hs2_4]; decide) (by rw [hs2_4]; decide) (by rw [hs2_4]; rfl) rfl ?_
    refine s_aload_n (q := 78) dX6_count_77 rfl rfl 1 rfl ?_
    obtain ⟨q5, hc5, h⟩ := bnd h
    try dsimp only at h
    refine t_callV (q := 81) (N := mX6_lives) (a := eB E + 51) [] dX6_count_78 rfl nkX6_lives vkX6_lives lX6_124 ⟨Nat.le_of_ble_eq_true rfl, Nat.le_of_ble_eq_true rfl⟩ (rc_obj (k := 51) rfl rfl) rfl rfl (Nat.le_of_ble_eq_true rfl) (Nat.le_of_ble_eq_true rfl) (T_X6_lives_51 E  hc5) ?_
    obtain rfl := Option.some.inj h
    exact t_iret dX6_count_81 rfl rfl
  rw [if_neg hs2_4] at h
  by_cases hs2_5 : x1 = 5
  · rw [if_pos hs2_5] at h
    refine s_tableIn (off := 79) (tgt := 82) dX6_count_3 (by rw [hs2_5]; decide) (by rw [hs2_5]; decide) (by rw [hs2_5]; rfl) rfl ?_
    refine s_aload_n (q := 83) dX6_count_82 rfl rfl 1 rfl ?_
    refine t_getI (q := 86) (k := 51) (f := 7) (v := (S.1 51 7)) dX6_count_83 rfl rfl rfl rfl inX6 (Nat.le_of_ble_eq_true rfl) fX6_198 rfl ?_
    obtain rfl := Option.some.inj h
    exact t_iret dX6_count_86 rfl rfl
  rw [if_neg hs2_5] at h
  by_cases hs2_6 : x1 = 6
  · rw [if_pos hs2_6] at h
    refine s_tableIn (off := 84) (tgt := 87) dX6_count_3 (by rw [hs2_6]; decide) (by rw [hs2_6]; decide) (by rw [hs2_6]; rfl) rfl ?_
    refine s_aload_n (q := 88) dX6_count_87 rfl rfl 1 rfl ?_
    refine t_getR (q := 91) (k := 51) (f := 0) (t := 52) dX6_count_88 rfl rfl rfl rfl inX6 (Nat.le_of_ble_eq_true rfl) fX6_9 ?_
    refine s_iconst (q := 92) (v := 3) dX6_count_91 rfl rfl ?_
    refine u_iald (q := 93) (k := 52) (j := 3) (v := (S.1 52 3)) dX6_count_92 rfl rfl (inB_in (by decide)) (by decide) rfl ?_
    obtain rfl := Option.some.inj h
    exact t_iret dX6_count_93 rfl rfl
  rw [if_neg hs2_6] at h
  by_cases hs2_7 : x1 = 7
  · rw [if_pos hs2_7] at h
    refine s_tableIn (off := 91) (tgt := 94) dX6_count_3 (by rw [hs2_7]; decide) (by rw [hs2_7]; decide) (by rw [hs2_7]; rfl) rfl ?_
    refine s_iconst (q := 95) (v := 0) dX6_count_94 rfl rfl ?_
    refine s_istore_n (q := 96) (lv' := [(3, .int 0), (2, .int 0), (0, .ref (eB E + 51)), (1, .int x1)]) dX6_count_95 rfl rfl (Nat.le_of_ble_eq_true rfl) rfl ?_
    obtain ⟨q9, hc9, h⟩ := bnd h
    try dsimp only at h
    refine t_sub [2, 1, 0] rfl (T_X6_count_51_96 E _ _ _ _ _ hc9 ?_)
    refine s_iload_n (q := 129) dX6_count_128 rfl rfl 0 rfl ?_
    obtain rfl := Option.some.inj h
    exact t_iret dX6_count_129 rfl rfl
  rw [if_neg hs2_7] at h
  refine s_tableOut (tgt := 130) dX6_count_3 (by have e0 := lv_neT (a := 0) hs2_0 (by decide); have e1 := lv_neT (a := 1) hs2_1 (by decide); have e2 := lv_neT (a := 2) hs2_2 (by decide); have e3 := lv_neT (a := 3) hs2_3 (by decide); have e4 := lv_neT (a := 4) hs2_4 (by decide); have e5 := lv_neT (a := 5) hs2_5 (by decide); have e6 := lv_neT (a := 6) hs2_6 (by decide); have e7 := lv_neT (a := 7) hs2_7 (by decide); omega) rfl ?_
  refine s_aload_n (q := 131) dX6_count_130 rfl rfl 1 rfl ?_
  refine s_iconst (q := 132) (v := 0) dX6_count_131 rfl rfl ?_
  obtain ⟨q1, hc1, h⟩ := bnd h
  try dsimp only at h
  refine t_callV (q := 135) (N := mX6_no) (a := eB E + 51) [.int 0] dX6_count_132 rfl nkX6_no vkX6_no lX6_94 ⟨Nat.le_of_ble_eq_true rfl, Nat.le_of_ble_eq_true rfl⟩ (rc_obj (k := 51) rfl rfl) rfl rfl (Nat.le_of_ble_eq_true rfl) (Nat.le_of_ble_eq_true rfl) (T_X6_no_51 E _ hc1) ?_
  obtain rfl := Option.some.inj h
  exact t_iret dX6_count_135 rfl rfl
-- X5_status
def G_X5_status_0_9 : Nat → Int32 → Int32 → ST → Option (Int32 × ST)
  | 0, _, _, _ => none
  | n + 1, x2, x3, S => (if (7 : Int32) ≤ x3 then some (x2, S) else (if inB x3 7 = true then G_X5_status_0_9 n (x2 + (S.1 42 x3.toNatClampNeg)) (x3 + 1) S else none))
set_option maxHeartbeats 4000000 in
set_option maxRecDepth 100000 in
theorem T_X5_status_0_9 (E : EV) : ∀ (n : Nat) (x2 : Int32) (x3 : Int32) (S : ST), ∀ (w : (Int32 × ST)), G_X5_status_0_9 n x2 x3 S = some w → ∀ {Q : Option Value → ST → Prop}, SS E mX5_status 30 [(2, .int w.1)] [] w.2 Q → SS E mX5_status 9 [(0, .ref (eB E + 0)), (2, .int x2), (3, .int x3)] [] S Q := by
  intro n
  induction n with
  | zero =>
    intro x2 x3 S w h
    cases h
  | succ n ih =>
    intro x2 x3 S w h Q K
    unfold G_X5_status_0_9 at h
    refine s_iload_n (q := 10) dX5_status_9 rfl rfl 2 rfl ?_
    refine s_bipush (q := 12) (v := 7) dX5_status_10 rfl rfl ?_
    refine s_icmp_ge (q := 15) (tgt := 30) dX5_status_12 rfl rfl (fun hb6 => ?_) (fun hb6 => ?_)
    · rw [if_pos hb6] at h
      obtain rfl := Option.some.inj h
      exact t_sub [1] rfl K
    · rw [if_neg hb6] at h
      refine s_iload_n (q := 16) dX5_status_15 rfl rfl 1 rfl ?_
      refine s_aload_n (q := 17) dX5_status_16 rfl rfl 0 rfl ?_
      refine t_getR (q := 20) (k := 0) (f := 9) (t := 42) dX5_status_17 rfl rfl rfl rfl inX5 (Nat.le_of_ble_eq_true rfl) fX5_53 ?_
      refine s_iload_n (q := 21) dX5_status_20 rfl rfl 2 rfl ?_
      obtain ⟨hg7, h⟩ := chk_some h
      refine u_iald (q := 22) (k := 42) (v := (S.1 42 x3.toNatClampNeg)) dX5_status_21 rfl rfl (inB_in hg7) rfl rfl ?_
      refine s_iadd (q := 23) dX5_status_22 rfl ?_
      refine s_istore_n (q := 24) (lv' := [(2, .int (x2 + (S.1 42 x3.toNatClampNeg))), (0, .ref (eB E + 0)), (3, .int x3)]) dX5_status_23 rfl rfl (Nat.le_of_ble_eq_true rfl) rfl ?_
      refine s_iinc (q := 27) (j := 2) (v := (x3 + 1)) (lv' := [(3, .int (x3 + 1)), (2, .int (x2 + (S.1 42 x3.toNatClampNeg))), (0, .ref (eB E + 0))]) dX5_status_24 rfl rfl rfl (Nat.le_of_ble_eq_true rfl) rfl ?_
      refine s_goto (tgt := 9) dX5_status_27 rfl ?_
      exact t_sub [2, 1, 0] rfl (ih _ _ _ _ h K)
def G_X5_status_0 (x1 : Int32) (S : ST) : Option (Int32 × ST) := (if x1 = (-1) then (G_X5_status_0_9 3000 0 0 S).bind fun q8 => some (q8.1, q8.2) else ((G_X5_isBelow x1 7 S).bind fun q2 => (if q2.1 = 0 then ((G_X5_finding_0 0 q2.2).bind fun q5 => some (q5.1, q5.2)) else (if inB x1 7 = true then some ((q2.2.1 42 x1.toNatClampNeg), q2.2) else none))))
set_option maxHeartbeats 4000000 in
set_option maxRecDepth 100000 in
theorem T_X5_status_0 (E : EV) (x1 : Int32) {S : ST} {w : (Int32 × ST)} (h : G_X5_status_0 x1 S = some w) : SD E mX5_status 0 [(0, .ref (eB E + 0)), (1, .int x1)] [] S (some (.int w.1)) w.2 := by
  unfold G_X5_status_0 at h
  refine s_iload_n (q := 1) dX5_status_0 rfl rfl 1 rfl ?_
  refine s_iconst (q := 2) (v := (-1)) dX5_status_1 rfl rfl ?_
  refine s_icmp_ne (q := 5) (tgt := 32) dX5_status_2 rfl rfl (fun hb1 => ?_) (fun hb1 => ?_)
  · rw [if_neg hb1] at h
    refine s_iload_n (q := 33) dX5_status_32 rfl rfl 1 rfl ?_
    refine s_bipush (q := 35) (v := 7) dX5_status_33 rfl rfl ?_
    obtain ⟨q2, hc2, h⟩ := bnd h
    try dsimp only at h
    refine t_callS (q := 38) (N := mX5_isBelow) [.int x1, .int 7] dX5_status_35 rfl nkX5_isBelow sX5_isBelow lX5_57 ⟨Nat.le_of_ble_eq_true rfl, Nat.le_of_ble_eq_true rfl⟩ rfl rfl (Nat.le_of_ble_eq_true rfl) (Nat.le_of_ble_eq_true rfl) (T_X5_isBelow E _ _ hc2) ?_
    refine s_if_ne (q := 41) (tgt := 47) dX5_status_38 rfl rfl (fun hb3 => ?_) (fun hb3 => ?_)
    · rw [if_neg hb3] at h
      refine s_aload_n (q := 48) dX5_status_47 rfl rfl 0 rfl ?_
      refine t_getR (q := 51) (k := 0) (f := 9) (t := 42) dX5_status_48 rfl rfl rfl rfl inX5 (Nat.le_of_ble_eq_true rfl) fX5_53 ?_
      refine s_iload_n (q := 52) dX5_status_51 rfl rfl 1 rfl ?_
      obtain ⟨hg4, h⟩ := chk_some h
      refine u_iald (q := 53) (k := 42) (v := (q2.2.1 42 x1.toNatClampNeg)) dX5_status_52 rfl rfl (inB_in hg4) rfl rfl ?_
      obtain rfl := Option.some.inj h
      exact t_iret dX5_status_53 rfl rfl
    · rw [if_pos hb3] at h
      refine s_aload_n (q := 42) dX5_status_41 rfl rfl 0 rfl ?_
      refine s_iconst (q := 43) (v := 0) dX5_status_42 rfl rfl ?_
      obtain ⟨q5, hc5, h⟩ := bnd h
      try dsimp only at h
      refine t_callV (q := 46) (N := mX5_finding) (a := eB E + 0) [.int 0] dX5_status_43 rfl nkX5_finding vkX5_finding lX5_61 ⟨Nat.le_of_ble_eq_true rfl, Nat.le_of_ble_eq_true rfl⟩ (rc_obj (k := 0) rfl rfl) rfl rfl (Nat.le_of_ble_eq_true rfl) (Nat.le_of_ble_eq_true rfl) (T_X5_finding_0 E _ hc5) ?_
      obtain rfl := Option.some.inj h
      exact t_iret dX5_status_46 rfl rfl
  · rw [if_pos hb1] at h
    refine s_iconst (q := 6) (v := 0) dX5_status_5 rfl rfl ?_
    refine s_istore_n (q := 7) (lv' := [(2, .int 0), (0, .ref (eB E + 0)), (1, .int x1)]) dX5_status_6 rfl rfl (Nat.le_of_ble_eq_true rfl) rfl ?_
    refine s_iconst (q := 8) (v := 0) dX5_status_7 rfl rfl ?_
    refine s_istore_n (q := 9) (lv' := [(3, .int 0), (2, .int 0), (0, .ref (eB E + 0)), (1, .int x1)]) dX5_status_8 rfl rfl (Nat.le_of_ble_eq_true rfl) rfl ?_
    obtain ⟨q8, hc8, h⟩ := bnd h
    try dsimp only at h
    refine t_sub [2, 1, 0] rfl (T_X5_status_0_9 E _ _ _ _ _ hc8 ?_)
    refine s_iload_n (q := 31) dX5_status_30 rfl rfl 0 rfl ?_
    obtain rfl := Option.some.inj h
    exact t_iret dX5_status_31 rfl rfl
-- X6_status
def G_X6_status_51_20 : Nat → Int32 → Int32 → Int32 → ST → Option (Int32 × ST)
  | 0, _, _, _, _ => none
  | n + 1, x1, x2, x3, S => (if (7 : Int32) ≤ x3 then some (x2, S) else (if x1 = (-1) then (if inB x3 7 = true then G_X6_status_51_20 n x1 (x2 + (S.1 55 x3.toNatClampNeg)) (x3 + 1) S else none) else (if x1 = x3 then (if inB x3 7 = true then G_X6_status_51_20 n x1 (x2 + (S.1 55 x3.toNatClampNeg)) (x3 + 1) S else none) else G_X6_status_51_20 n x1 (x2 + 0) (x3 + 1) S)))
set_option maxHeartbeats 4000000 in
set_option maxRecDepth 100000 in
theorem T_X6_status_51_20 (E : EV) : ∀ (n : Nat) (x1 : Int32) (x2 : Int32) (x3 : Int32) (S : ST), ∀ (w : (Int32 × ST)), G_X6_status_51_20 n x1 x2 x3 S = some w → ∀ {Q : Option Value → ST → Prop}, SS E mX6_status 55 [(2, .int w.1)] [] w.2 Q → SS E mX6_status 20 [(0, .ref (eB E + 51)), (1, .int x1), (2, .int x2), (3, .int x3)] [] S Q := by
  intro n
  induction n with
  | zero =>
    intro x1 x2 x3 S w h
    cases h
  | succ n ih =>
    intro x1 x2 x3 S w h Q K
    unfold G_X6_status_51_20 at h
    refine s_iload_n (q := 21) dX6_status_20 rfl rfl 3 rfl ?_
    refine s_bipush (q := 23) (v := 7) dX6_status_21 rfl rfl ?_
    refine s_icmp_ge (q := 26) (tgt := 55) dX6_status_23 rfl rfl (fun hb3 => ?_) (fun hb3 => ?_)
    · rw [if_pos hb3] at h
      obtain rfl := Option.some.inj h
      exact t_sub [2] rfl K
    · rw [if_neg hb3] at h
      refine s_iload_n (q := 27) dX6_status_26 rfl rfl 2 rfl ?_
      refine s_iload_n (q := 28) dX6_status_27 rfl rfl 1 rfl ?_
      refine s_iconst (q := 29) (v := (-1)) dX6_status_28 rfl rfl ?_
      refine s_icmp_eq (q := 32) (tgt := 37) dX6_status_29 rfl rfl (fun hb4 => ?_) (fun hb4 => ?_)
      · rw [if_pos hb4] at h
        refine s_aload_n (q := 38) dX6_status_37 rfl rfl 0 rfl ?_
        refine t_getR (q := 41) (k := 51) (f := 4) (t := 55) dX6_status_38 rfl rfl rfl rfl inX6 (Nat.le_of_ble_eq_true rfl) fX6_19 ?_
        refine s_iload_n (q := 42) dX6_status_41 rfl rfl 3 rfl ?_
        obtain ⟨hg5, h⟩ := chk_some h
        refine u_iald (q := 43) (k := 55) (v := (S.1 55 x3.toNatClampNeg)) dX6_status_42 rfl rfl (inB_in hg5) rfl rfl ?_
        refine s_goto (tgt := 47) dX6_status_43 rfl ?_
        refine s_iadd (q := 48) dX6_status_47 rfl ?_
        refine s_istore_n (q := 49) (lv' := [(2, .int (x2 + (S.1 55 x3.toNatClampNeg))), (0, .ref (eB E + 51)), (1, .int x1), (3, .int x3)]) dX6_status_48 rfl rfl (Nat.le_of_ble_eq_true rfl) rfl ?_
        refine s_iinc (q := 52) (j := 3) (v := (x3 + 1)) (lv' := [(3, .int (x3 + 1)), (2, .int (x2 + (S.1 55 x3.toNatClampNeg))), (0, .ref (eB E + 51)), (1, .int x1)]) dX6_status_49 rfl rfl rfl (Nat.le_of_ble_eq_true rfl) rfl ?_
        refine s_goto (tgt := 20) dX6_status_52 rfl ?_
        exact t_sub [2, 3, 1, 0] rfl (ih _ _ _ _ _ h K)
      · rw [if_neg hb4] at h
        refine s_iload_n (q := 33) dX6_status_32 rfl rfl 1 rfl ?_
        refine s_iload_n (q := 34) dX6_status_33 rfl rfl 3 rfl ?_
        refine s_icmp_ne (q := 37) (tgt := 46) dX6_status_34 rfl rfl (fun hb6 => ?_) (fun hb6 => ?_)
        · rw [if_neg hb6] at h
          refine s_iconst (q := 47) (v := 0) dX6_status_46 rfl rfl ?_
          refine s_iadd (q := 48) dX6_status_47 rfl ?_
          refine s_istore_n (q := 49) (lv' := [(2, .int (x2 + 0)), (0, .ref (eB E + 51)), (1, .int x1), (3, .int x3)]) dX6_status_48 rfl rfl (Nat.le_of_ble_eq_true rfl) rfl ?_
          refine s_iinc (q := 52) (j := 3) (v := (x3 + 1)) (lv' := [(3, .int (x3 + 1)), (2, .int (x2 + 0)), (0, .ref (eB E + 51)), (1, .int x1)]) dX6_status_49 rfl rfl rfl (Nat.le_of_ble_eq_true rfl) rfl ?_
          refine s_goto (tgt := 20) dX6_status_52 rfl ?_
          exact t_sub [2, 3, 1, 0] rfl (ih _ _ _ _ _ h K)
        · rw [if_pos hb6] at h
          refine s_aload_n (q := 38) dX6_status_37 rfl rfl 0 rfl ?_
          refine t_getR (q := 41) (k := 51) (f := 4) (t := 55) dX6_status_38 rfl rfl rfl rfl inX6 (Nat.le_of_ble_eq_true rfl) fX6_19 ?_
          refine s_iload_n (q := 42) dX6_status_41 rfl rfl 3 rfl ?_
          obtain ⟨hg7, h⟩ := chk_some h
          refine u_iald (q := 43) (k := 55) (v := (S.1 55 x3.toNatClampNeg)) dX6_status_42 rfl rfl (inB_in hg7) rfl rfl ?_
          refine s_goto (tgt := 47) dX6_status_43 rfl ?_
          refine s_iadd (q := 48) dX6_status_47 rfl ?_
          refine s_istore_n (q := 49) (lv' := [(2, .int (x2 + (S.1 55 x3.toNatClampNeg))), (0, .ref (eB E + 51)), (1, .int x1), (3, .int x3)]) dX6_status_48 rfl rfl (Nat.le_of_ble_eq_true rfl) rfl ?_
          refine s_iinc (q := 52) (j := 3) (v := (x3 + 1)) (lv' := [(3, .int (x3 + 1)), (2, .int (x2 + (S.1 55 x3.toNatClampNeg))), (0, .ref (eB E + 51)), (1, .int x1)]) dX6_status_49 rfl rfl rfl (Nat.le_of_ble_eq_true rfl) rfl ?_
          refine s_goto (tgt := 20) dX6_status_52 rfl ?_
          exact t_sub [2, 3, 1, 0] rfl (ih _ _ _ _ _ h K)
def G_X6_status_51 (x1 : Int32) (S : ST) : Option (Int32 × ST) := ((G_X6_in1 x1 (-1) 6 S).bind fun q1 => (if q1.1 = 0 then ((G_X6_no_51 0 q1.2).bind fun q9 => some (q9.1, q9.2)) else (G_X6_status_51_20 3000 x1 0 0 q1.2).bind fun q8 => some (q8.1, q8.2)))
set_option maxHeartbeats 4000000 in
set_option maxRecDepth 100000 in
theorem T_X6_status_51 (E : EV) (x1 : Int32) {S : ST} {w : (Int32 × ST)} (h : G_X6_status_51 x1 S = some w) : SD E mX6_status 0 [(0, .ref (eB E + 51)), (1, .int x1)] [] S (some (.int w.1)) w.2 := by
  unfold G_X6_status_51 at h
  refine s_iload_n (q := 1) dX6_status_0 rfl rfl 1 rfl ?_
  refine s_iconst (q := 2) (v := (-1)) dX6_status_1 rfl rfl ?_
  refine s_bipush (q := 4) (v := 6) dX6_status_2 rfl rfl ?_
  obtain ⟨q1, hc1, h⟩ := bnd h
  try dsimp only at h
  refine t_callS (q := 7) (N := mX6_in1) [.int x1, .int (-1), .int 6] dX6_status_4 rfl nkX6_in1 sX6_in1 lX6_54 ⟨Nat.le_of_ble_eq_true rfl, Nat.le_of_ble_eq_true rfl⟩ rfl rfl (Nat.le_of_ble_eq_true rfl) (Nat.le_of_ble_eq_true rfl) (T_X6_in1 E _ _ _ hc1) ?_
  refine s_if_ne (q := 10) (tgt := 16) dX6_status_7 rfl rfl (fun hb2 => ?_) (fun hb2 => ?_)
  · rw [if_neg hb2] at h
    refine s_iconst (q := 17) (v := 0) dX6_status_16 rfl rfl ?_
    refine s_istore_n (q := 18) (lv' := [(2, .int 0), (0, .ref (eB E + 51)), (1, .int x1)]) dX6_status_17 rfl rfl (Nat.le_of_ble_eq_true rfl) rfl ?_
    refine s_iconst (q := 19) (v := 0) dX6_status_18 rfl rfl ?_
    refine s_istore_n (q := 20) (lv' := [(3, .int 0), (2, .int 0), (0, .ref (eB E + 51)), (1, .int x1)]) dX6_status_19 rfl rfl (Nat.le_of_ble_eq_true rfl) rfl ?_
    obtain ⟨q8, hc8, h⟩ := bnd h
    try dsimp only at h
    refine t_sub [2, 3, 1, 0] rfl (T_X6_status_51_20 E _ _ _ _ _ _ hc8 ?_)
    refine s_iload_n (q := 56) dX6_status_55 rfl rfl 0 rfl ?_
    obtain rfl := Option.some.inj h
    exact t_iret dX6_status_56 rfl rfl
  · rw [if_pos hb2] at h
    refine s_aload_n (q := 11) dX6_status_10 rfl rfl 0 rfl ?_
    refine s_iconst (q := 12) (v := 0) dX6_status_11 rfl rfl ?_
    obtain ⟨q9, hc9, h⟩ := bnd h
    try dsimp only at h
    refine t_callV (q := 15) (N := mX6_no) (a := eB E + 51) [.int 0] dX6_status_12 rfl nkX6_no vkX6_no lX6_94 ⟨Nat.le_of_ble_eq_true rfl, Nat.le_of_ble_eq_true rfl⟩ (rc_obj (k := 51) rfl rfl) rfl rfl (Nat.le_of_ble_eq_true rfl) (Nat.le_of_ble_eq_true rfl) (T_X6_no_51 E _ hc9) ?_
    obtain rfl := Option.some.inj h
    exact t_iret dX6_status_15 rfl rfl
