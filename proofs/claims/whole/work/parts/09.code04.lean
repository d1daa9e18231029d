-- X5_round
def G_X5_round_0 (x1 : Int32) (x2 : Int32) (S : ST) : Option (Int32 × ST) := ((G_X5_isBelow x1 4 S).bind fun q1 => (if q1.1 = 0 then ((G_X5_finding_0 0 q1.2).bind fun q3 => some (q3.1, q3.2)) else ((G_X5_isSetOfStars_0 x2 q1.2).bind fun q4 => (if q4.1 = 0 then ((G_X5_finding_0 0 q4.2).bind fun q9 => some (q9.1, q9.2)) else (if inB x1 4 = true then ((G_X4_standAt_35_1 (q4.2.1 6 x1.toNatClampNeg) q4.2).bind fun q7 => ((G_X4_stepsBy_35 x2 q7.2).bind fun q8 => some (q8.1, q8.2))) else none)))))
set_option maxHeartbeats 4000000 in
set_option maxRecDepth 100000 in
theorem T_X5_round_0 (E : EV) (x1 : Int32) (x2 : Int32) {S : ST} {w : (Int32 × ST)} (h : G_X5_round_0 x1 x2 S = some w) : SD E mX5_round 0 [(0, .ref (eB E + 0)), (1, .int x1), (2, .int x2)] [] S (some (.int w.1)) w.2 := by
  unfold G_X5_round_0 at h
  refine s_iload_n (q := 1) dX5_round_0 rfl rfl 1 rfl ?_
  refine s_iconst (q := 2) (v := 4) dX5_round_1 rfl rfl ?_
  obtain ⟨q1, hc1, h⟩ := bnd h
  try dsimp only at h
  refine t_callS (q := 5) (N := mX5_isBelow) [.int x1, .int 4] dX5_round_2 rfl nkX5_isBelow sX5_isBelow lX5_57 ⟨Nat.le_of_ble_eq_true rfl, Nat.le_of_ble_eq_true rfl⟩ rfl rfl (Nat.le_of_ble_eq_true rfl) (Nat.le_of_ble_eq_true rfl) (T_X5_isBelow E _ _ hc1) ?_
  refine s_if_eq (q := 8) (tgt := 16) dX5_round_5 rfl rfl (fun hb2 => ?_) (fun hb2 => ?_)
  · rw [if_pos hb2] at h
    refine s_aload_n (q := 17) dX5_round_16 rfl rfl 0 rfl ?_
    refine s_iconst (q := 18) (v := 0) dX5_round_17 rfl rfl ?_
    obtain ⟨q3, hc3, h⟩ := bnd h
    try dsimp only at h
    refine t_callV (q := 21) (N := mX5_finding) (a := eB E + 0) [.int 0] dX5_round_18 rfl nkX5_finding vkX5_finding lX5_61 ⟨Nat.le_of_ble_eq_true rfl, Nat.le_of_ble_eq_true rfl⟩ (rc_obj (k := 0) rfl rfl) rfl rfl (Nat.le_of_ble_eq_true rfl) (Nat.le_of_ble_eq_true rfl) (T_X5_finding_0 E _ hc3) ?_
    obtain rfl := Option.some.inj h
    exact t_iret dX5_round_21 rfl rfl
  · rw [if_neg hb2] at h
    refine s_aload_n (q := 9) dX5_round_8 rfl rfl 0 rfl ?_
    refine s_iload_n (q := 10) dX5_round_9 rfl rfl 2 rfl ?_
    obtain ⟨q4, hc4, h⟩ := bnd h
    try dsimp only at h
    refine t_callV (q := 13) (N := mX5_isSetOfStars) (a := eB E + 0) [.int x2] dX5_round_10 rfl nkX5_isSetOfStars vkX5_isSetOfStars lX5_169 ⟨Nat.le_of_ble_eq_true rfl, Nat.le_of_ble_eq_true rfl⟩ (rc_obj (k := 0) rfl rfl) rfl rfl (Nat.le_of_ble_eq_true rfl) (Nat.le_of_ble_eq_true rfl) (T_X5_isSetOfStars_0 E _ hc4) ?_
    refine s_if_ne (q := 16) (tgt := 22) dX5_round_13 rfl rfl (fun hb5 => ?_) (fun hb5 => ?_)
    · rw [if_neg hb5] at h
      refine s_aload_n (q := 23) dX5_round_22 rfl rfl 0 rfl ?_
      refine t_getR (q := 26) (k := 0) (f := 6) (t := 35) dX5_round_23 rfl rfl rfl rfl inX5 (Nat.le_of_ble_eq_true rfl) fX5_42 ?_
      refine s_aload_n (q := 27) dX5_round_26 rfl rfl 0 rfl ?_
      refine t_getR (q := 30) (k := 0) (f := 0) (t := 1) dX5_round_27 rfl rfl rfl rfl inX5 (Nat.le_of_ble_eq_true rfl) fX5_10 ?_
      refine s_aload_n (q := 31) dX5_round_30 rfl rfl 0 rfl ?_
      refine t_getR (q := 34) (k := 0) (f := 0) (t := 1) dX5_round_31 rfl rfl rfl rfl inX5 (Nat.le_of_ble_eq_true rfl) fX5_10 ?_
      refine t_getR (q := 37) (k := 1) (f := 5) (t := 6) dX5_round_34 rfl rfl rfl rfl inX1 (Nat.le_of_ble_eq_true rfl) fX5_142 ?_
      refine s_iload_n (q := 38) dX5_round_37 rfl rfl 1 rfl ?_
      obtain ⟨hg6, h⟩ := chk_some h
      refine u_iald (q := 39) (k := 6) (v := (q4.2.1 6 x1.toNatClampNeg)) dX5_round_38 rfl rfl (inB_in hg6) rfl rfl ?_
      obtain ⟨q7, hc7, h⟩ := bnd h
      try dsimp only at h
      refine t_callV (q := 42) (N := mX4_standAt) (a := eB E + 35) [.ref (eB E + 1), .int (q4.2.1 6 x1.toNatClampNeg)] dX5_round_39 rfl nkX4_standAt vkX4_standAt lX5_173 ⟨Nat.le_of_ble_eq_true rfl, Nat.le_of_ble_eq_true rfl⟩ (rc_obj (k := 35) rfl rfl) rfl rfl (Nat.le_of_ble_eq_true rfl) (Nat.le_of_ble_eq_true rfl) (T_X4_standAt_35_1 E _ hc7) ?_
      refine s_aload_n (q := 43) dX5_round_42 rfl rfl 0 rfl ?_
      refine t_getR (q := 46) (k := 0) (f := 6) (t := 35) dX5_round_43 rfl rfl rfl rfl inX5 (Nat.le_of_ble_eq_true rfl) fX5_42 ?_
      refine s_iload_n (q := 47) dX5_round_46 rfl rfl 2 rfl ?_
      obtain ⟨q8, hc8, h⟩ := bnd h
      try dsimp only at h
      refine t_callV (q := 50) (N := mX4_stepsBy) (a := eB E + 35) [.int x2] dX5_round_47 rfl nkX4_stepsBy vkX4_stepsBy lX5_177 ⟨Nat.le_of_ble_eq_true rfl, Nat.le_of_ble_eq_true rfl⟩ (rc_obj (k := 35) rfl rfl) rfl rfl (Nat.le_of_ble_eq_true rfl) (Nat.le_of_ble_eq_true rfl) (T_X4_stepsBy_35 E _ hc8) ?_
      obtain rfl := Option.some.inj h
      exact t_iret dX5_round_50 rfl rfl
    · rw [if_pos hb5] at h
      refine s_aload_n (q := 17) dX5_round_16 rfl rfl 0 rfl ?_
      refine s_iconst (q := 18) (v := 0) dX5_round_17 rfl rfl ?_
      obtain ⟨q9, hc9, h⟩ := bnd h
      try dsimp only at h
      refine t_callV (q := 21) (N := mX5_finding) (a := eB E + 0) [.int 0] dX5_round_18 rfl nkX5_finding vkX5_finding lX5_61 ⟨Nat.le_of_ble_eq_true rfl, Nat.le_of_ble_eq_true rfl⟩ (rc_obj (k := 0) rfl rfl) rfl rfl (Nat.le_of_ble_eq_true rfl) (Nat.le_of_ble_eq_true rfl) (T_X5_finding_0 E _ hc9) ?_
      obtain rfl := Option.some.inj h
      exact t_iret dX5_round_21 rfl rfl
-- X6_isSet
def G_X6_isSet_51 (x1 : Int32) (S : ST) : Option (Int32 × ST) := ((G_X6_in1 x1 0 ((1 <<< ((S.1 52 1) &&& 31)) - 1) S).bind fun q1 => (if bitB q1.1 = true then some (q1.1, q1.2) else none))
set_option maxHeartbeats 4000000 in
set_option maxRecDepth 100000 in
theorem T_X6_isSet_51 (E : EV) (x1 : Int32) {S : ST} {w : (Int32 × ST)} (h : G_X6_isSet_51 x1 S = some w) : SD E mX6_isSet 0 [(0, .ref (eB E + 51)), (1, .int x1)] [] S (some (.int w.1)) w.2 := by
  unfold G_X6_isSet_51 at h
  refine s_iload_n (q := 1) dX6_isSet_0 rfl rfl 1 rfl ?_
  refine s_iconst (q := 2) (v := 0) dX6_isSet_1 rfl rfl ?_
  refine s_iconst (q := 3) (v := 1) dX6_isSet_2 rfl rfl ?_
  refine s_aload_n (q := 4) dX6_isSet_3 rfl rfl 0 rfl ?_
  refine t_getR (q := 7) (k := 51) (f := 0) (t := 52) dX6_isSet_4 rfl rfl rfl rfl inX6 (Nat.le_of_ble_eq_true rfl) fX6_9 ?_
  refine s_iconst (q := 8) (v := 1) dX6_isSet_7 rfl rfl ?_
  refine u_iald (q := 9) (k := 52) (j := 1) (v := (S.1 52 1)) dX6_isSet_8 rfl rfl (inB_in (by decide)) (by decide) rfl ?_
  refine s_ishl (q := 10) dX6_isSet_9 rfl ?_
  refine s_iconst (q := 11) (v := 1) dX6_isSet_10 rfl rfl ?_
  refine s_isub (q := 12) dX6_isSet_11 rfl ?_
  obtain ⟨q1, hc1, h⟩ := bnd h
  try dsimp only at h
  refine t_callS (q := 15) (N := mX6_in1) [.int x1, .int 0, .int ((1 <<< ((S.1 52 1) &&& 31)) - 1)] dX6_isSet_12 rfl nkX6_in1 sX6_in1 lX6_54 ⟨Nat.le_of_ble_eq_true rfl, Nat.le_of_ble_eq_true rfl⟩ rfl rfl (Nat.le_of_ble_eq_true rfl) (Nat.le_of_ble_eq_true rfl) (T_X6_in1 E _ _ _ hc1) ?_
  obtain ⟨hg2, h⟩ := chk_some h
  obtain rfl := Option.some.inj h
  exact t_zret dX6_isSet_15 rfl (bitB_z hg2) rfl
-- X6_walk
def G_X6_walk_51_45 : Nat → Int32 → Int32 → Int32 → Int32 → Int32 → Int32 → ST → Option (Int32 × Int32 × Int32 × Int32 × Int32 × Int32 × ST)
  | 0, _, _, _, _, _, _, _ => none
  | n + 1, x1, x2, x3, x4, x5, x6, S => (if x6 ≤ 0 then some (x1, x2, x3, x4, x5, x6, S) else (if inB (x6 - 1) 11 = true then (if (S.1 56 ((x6 - 1).toNatClampNeg)) ≤ x5 then some (x1, x2, x3, x4, x5, x6, S) else (if inB (x6 - 1) 11 = true then (if inB x6 11 = true then G_X6_walk_51_45 n x1 x2 x3 x4 x5 (x6 + (-1)) (wr S 56 x6.toNatClampNeg (S.1 56 ((x6 - 1).toNatClampNeg))) else none) else none)) else none))
set_option maxHeartbeats 4000000 in
set_option maxRecDepth 100000 in
theorem T_X6_walk_51_45 (E : EV) : ∀ (n : Nat) (x1 : Int32) (x2 : Int32) (x3 : Int32) (x4 : Int32) (x5 : Int32) (x6 : Int32) (S : ST), ∀ (w : (Int32 × Int32 × Int32 × Int32 × Int32 × Int32 × ST)), G_X6_walk_51_45 n x1 x2 x3 x4 x5 x6 S = some w → ∀ {Q : Option Value → ST → Prop}, SS E mX6_walk 86 [(0, .ref (eB E + 51)), (1, .int w.1), (2, .int w.2.1), (3, .int w.2.2.1), (4, .int w.2.2.2.1), (5, .int w.2.2.2.2.1), (6, .int w.2.2.2.2.2.1)] [] w.2.2.2.2.2.2 Q → SS E mX6_walk 45 [(0, .ref (eB E + 51)), (1, .int x1), (2, .int x2), (3, .int x3), (4, .int x4), (5, .int x5), (6, .int x6)] [] S Q := by
  intro n
  induction n with
  | zero =>
    intro x1 x2 x3 x4 x5 x6 S w h
    cases h
  | succ n ih =>
    intro x1 x2 x3 x4 x5 x6 S w h Q K
    unfold G_X6_walk_51_45 at h
    refine s_iload (q := 47) dX6_walk_45 rfl 6 rfl ?_
    refine s_if_le (q := 50) (tgt := 86) dX6_walk_47 rfl rfl (fun hb5 => ?_) (fun hb5 => ?_)
    · rw [if_pos hb5] at h
      obtain rfl := Option.some.inj h
      exact t_sub [0, 1, 2, 3, 4, 5, 6] rfl K
    · rw [if_neg hb5] at h
      refine s_aload_n (q := 51) dX6_walk_50 rfl rfl 0 rfl ?_
      refine t_getR (q := 54) (k := 51) (f := 5) (t := 56) dX6_walk_51 rfl rfl rfl rfl inX6 (Nat.le_of_ble_eq_true rfl) fX6_22 ?_
      refine s_iload (q := 56) dX6_walk_54 rfl 6 rfl ?_
      refine s_iconst (q := 57) (v := 1) dX6_walk_56 rfl rfl ?_
      refine s_isub (q := 58) dX6_walk_57 rfl ?_
      obtain ⟨hg6, h⟩ := chk_some h
      refine u_iald (q := 59) (k := 56) (v := (S.1 56 ((x6 - 1).toNatClampNeg))) dX6_walk_58 rfl rfl (inB_in hg6) rfl rfl ?_
      refine s_iload (q := 61) dX6_walk_59 rfl 5 rfl ?_
      refine s_icmp_le (q := 64) (tgt := 86) dX6_walk_61 rfl rfl (fun hb7 => ?_) (fun hb7 => ?_)
      · rw [if_pos hb7] at h
        obtain rfl := Option.some.inj h
        exact t_sub [0, 1, 2, 3, 4, 5, 6] rfl K
      · rw [if_neg hb7] at h
        refine s_aload_n (q := 65) dX6_walk_64 rfl rfl 0 rfl ?_
        refine t_getR (q := 68) (k := 51) (f := 5) (t := 56) dX6_walk_65 rfl rfl rfl rfl inX6 (Nat.le_of_ble_eq_true rfl) fX6_22 ?_
        refine s_iload (q := 70) dX6_walk_68 rfl 6 rfl ?_
        refine s_aload_n (q := 71) dX6_walk_70 rfl rfl 0 rfl ?_
        refine t_getR (q := 74) (k := 51) (f := 5) (t := 56) dX6_walk_71 rfl rfl rfl rfl inX6 (Nat.le_of_ble_eq_true rfl) fX6_22 ?_
        refine s_iload (q := 76) dX6_walk_74 rfl 6 rfl ?_
        refine s_iconst (q := 77) (v := 1) dX6_walk_76 rfl rfl ?_
        refine s_isub (q := 78) dX6_walk_77 rfl ?_
        obtain ⟨hg8, h⟩ := chk_some h
        refine u_iald (q := 79) (k := 56) (v := (S.1 56 ((x6 - 1).toNatClampNeg))) dX6_walk_78 rfl rfl (inB_in hg8) rfl rfl ?_
        obtain ⟨hg9, h⟩ := chk_some h
        refine u_iast (q := 80) (k := 56) dX6_walk_79 rfl rfl (inB_in hg9) rfl ?_
        refine s_iinc (q := 83) (j := 6) (v := (x6 + (-1))) (lv' := [(6, .int (x6 + (-1))), (0, .ref (eB E + 51)), (1, .int x1), (2, .int x2), (3, .int x3), (4, .int x4), (5, .int x5)]) dX6_walk_80 rfl rfl rfl (Nat.le_of_ble_eq_true rfl) rfl ?_
        refine s_goto (tgt := 45) dX6_walk_83 rfl ?_
        exact t_sub [1, 2, 3, 4, 5, 6, 0] rfl (ih _ _ _ _ _ _ _ _ h K)
def G_X6_walk_51_5 : Nat → Int32 → Int32 → Int32 → Int32 → ST → Option (Int32 × ST)
  | 0, _, _, _, _, _ => none
  | n + 1, x1, x2, x3, x4, S => (if (S.1 52 1) ≤ x4 then some (x3, S) else ((G_X6_isIn x2 x4 S).bind fun q2 => (if q2.1 = 0 then G_X6_walk_51_5 n x1 x2 x3 (x4 + 1) q2.2 else ((G_X6_get_51 x4 1 q2.2).bind fun q4 => (G_X6_walk_51_45 3000 x1 x2 x3 x4 (irm ((q4.1 - x1) + 100) 100) x3 q4.2).bind fun q10 => (if inB q10.2.2.2.2.2.1 11 = true then G_X6_walk_51_5 n q10.1 q10.2.1 (q10.2.2.1 + 1) (q10.2.2.2.1 + 1) (wr q10.2.2.2.2.2.2 56 q10.2.2.2.2.2.1.toNatClampNeg q10.2.2.2.2.1) else none)))))
set_option maxHeartbeats 4000000 in
set_option maxRecDepth 100000 in
theorem T_X6_walk_51_5 (E : EV) : ∀ (n : Nat) (x1 : Int32) (x2 : Int32) (x3 : Int32) (x4 : Int32) (S : ST), ∀ (w : (Int32 × ST)), G_X6_walk_51_5 n x1 x2 x3 x4 S = some w → ∀ {Q : Option Value → ST → Prop}, SS E mX6_walk 104 [(0, .ref (eB E + 51)), (3, .int w.1)] [] w.2 Q → SS E mX6_walk 5 [(0, .ref (eB E + 51)), (1, .int x1), (2, .int x2), (3, .int x3), (4, .int x4)] [] S Q := by
  intro n
  induction n with
  | zero =>
    intro x1 x2 x3 x4 S w h
    cases h
  | succ n ih =>
    intro x1 x2 x3 x4 S w h Q K
    unfold G_X6_walk_51_5 at h
    refine s_iload (q := 7) dX6_walk_5 rfl 4 rfl ?_
    refine s_aload_n (q := 8) dX6_walk_7 rfl rfl 0 rfl ?_
    refine t_getR (q := 11) (k := 51) (f := 0) (t := 52) dX6_walk_8 rfl rfl rfl rfl inX6 (Nat.le_of_ble_eq_true rfl) fX6_9 ?_
    refine s_iconst (q := 12) (v := 1) dX6_walk_11 rfl rfl ?_
    refine u_iald (q := 13) (k := 52) (j := 1) (v := (S.1 52 1)) dX6_walk_12 rfl rfl (inB_in (by decide)) (by decide) rfl ?_
    refine s_icmp_ge (q := 16) (tgt := 104) dX6_walk_13 rfl rfl (fun hb1 => ?_) (fun hb1 => ?_)
    · rw [if_pos hb1] at h
      obtain rfl := Option.some.inj h
      exact t_sub [0, 3] rfl K
    · rw [if_neg hb1] at h
      refine s_iload_n (q := 17) dX6_walk_16 rfl rfl 2 rfl ?_
      refine s_iload (q := 19) dX6_walk_17 rfl 4 rfl ?_
      obtain ⟨q2, hc2, h⟩ := bnd h
      try dsimp only at h
      refine t_callS (q := 22) (N := mX6_isIn) [.int x2, .int x4] dX6_walk_19 rfl nkX6_isIn sX6_isIn lX6_70 ⟨Nat.le_of_ble_eq_true rfl, Nat.le_of_ble_eq_true rfl⟩ rfl rfl (Nat.le_of_ble_eq_true rfl) (Nat.le_of_ble_eq_true rfl) (T_X6_isIn E _ _ hc2) ?_
      refine s_if_eq (q := 25) (tgt := 98) dX6_walk_22 rfl rfl (fun hb3 => ?_) (fun hb3 => ?_)
      · rw [if_pos hb3] at h
        refine s_iinc (q := 101) (j := 4) (v := (x4 + 1)) (lv' := [(4, .int (x4 + 1)), (0, .ref (eB E + 51)), (1, .int x1), (2, .int x2), (3, .int x3)]) dX6_walk_98 rfl rfl rfl (Nat.le_of_ble_eq_true rfl) rfl ?_
        refine s_goto (tgt := 5) dX6_walk_101 rfl ?_
        exact t_sub [1, 2, 3, 4, 0] rfl (ih _ _ _ _ _ _ h K)
      · rw [if_neg hb3] at h
        refine s_aload_n (q := 26) dX6_walk_25 rfl rfl 0 rfl ?_
        refine s_iload (q := 28) dX6_walk_26 rfl 4 rfl ?_
        refine s_iconst (q := 29) (v := 1) dX6_walk_28 rfl rfl ?_
        obtain ⟨q4, hc4, h⟩ := bnd h
        try dsimp only at h
        refine t_callV (q := 32) (N := mX6_get) (a := eB E + 51) [.int x4, .int 1] dX6_walk_29 rfl nkX6_get vkX6_get lX6_58 ⟨Nat.le_of_ble_eq_true rfl, Nat.le_of_ble_eq_true rfl⟩ (rc_obj (k := 51) rfl rfl) rfl rfl (Nat.le_of_ble_eq_true rfl) (Nat.le_of_ble_eq_true rfl) (T_X6_get_51 E _ _ hc4) ?_
        refine s_iload_n (q := 33) dX6_walk_32 rfl rfl 1 rfl ?_
        refine s_isub (q := 34) dX6_walk_33 rfl ?_
        refine s_bipush (q := 36) (v := 100) dX6_walk_34 rfl rfl ?_
        refine s_iadd (q := 37) dX6_walk_36 rfl ?_
        refine s_bipush (q := 39) (v := 100) dX6_walk_37 rfl rfl ?_
        refine v_irem (q := 40) dX6_walk_39 rfl (by decide) ?_
        refine s_istore (q := 42) (lv' := [(5, .int (irm ((q4.1 - x1) + 100) 100)), (0, .ref (eB E + 51)), (1, .int x1), (2, .int x2), (3, .int x3), (4, .int x4)]) dX6_walk_40 rfl (Nat.le_of_ble_eq_true rfl) rfl ?_
        refine s_iload_n (q := 43) dX6_walk_42 rfl rfl 4 rfl ?_
        refine s_istore (q := 45) (lv' := [(6, .int x3), (5, .int (irm ((q4.1 - x1) + 100) 100)), (0, .ref (eB E + 51)), (1, .int x1), (2, .int x2), (3, .int x3), (4, .int x4)]) dX6_walk_43 rfl (Nat.le_of_ble_eq_true rfl) rfl ?_
        obtain ⟨q10, hc10, h⟩ := bnd h
        try dsimp only at h
        refine t_sub [2, 3, 4, 5, 6, 1, 0] rfl (T_X6_walk_51_45 E _ _ _ _ _ _ _ _ _ hc10 ?_)
        refine s_aload_n (q := 87) dX6_walk_86 rfl rfl 0 rfl ?_
        refine t_getR (q := 90) (k := 51) (f := 5) (t := 56) dX6_walk_87 rfl rfl rfl rfl inX6 (Nat.le_of_ble_eq_true rfl) fX6_22 ?_
        refine s_iload (q := 92) dX6_walk_90 rfl 6 rfl ?_
        refine s_iload (q := 94) dX6_walk_92 rfl 5 rfl ?_
        obtain ⟨hg11, h⟩ := chk_some h
        refine u_iast (q := 95) (k := 56) dX6_walk_94 rfl rfl (inB_in hg11) rfl ?_
        refine s_iinc (q := 98) (j := 3) (v := (q10.2.2.1 + 1)) (lv' := [(3, .int (q10.2.2.1 + 1)), (0, .ref (eB E + 51)), (1, .int q10.1), (2, .int q10.2.1), (4, .int q10.2.2.2.1), (5, .int q10.2.2.2.2.1), (6, .int q10.2.2.2.2.2.1)]) dX6_walk_95 rfl rfl rfl (Nat.le_of_ble_eq_true rfl) rfl ?_
        refine s_iinc (q := 101) (j := 4) (v := (q10.2.2.2.1 + 1)) (lv' := [(4, .int (q10.2.2.2.1 + 1)), (3, .int (q10.2.2.1 + 1)), (0, .ref (eB E + 51)), (1, .int q10.1), (2, .int q10.2.1), (5, .int q10.2.2.2.2.1), (6, .int q10.2.2.2.2.2.1)]) dX6_walk_98 rfl rfl rfl (Nat.le_of_ble_eq_true rfl) rfl ?_
        refine s_goto (tgt := 5) dX6_walk_101 rfl ?_
        exact t_sub [2, 3, 4, 1, 0] rfl (ih _ _ _ _ _ _ h K)
def G_X6_walk_51_110 : Nat → Int32 → Int32 → Int32 → ST → Option (Int32 × ST)
  | 0, _, _, _, _ => none
  | n + 1, x3, x4, x5, S => (if x3 < x5 then some (x4, S) else (if x5 = 0 then (if x5 = x3 then ((G_X6_less 0 0 S).bind fun q29 => (if (0 : Int32) ≤ x4 then ((G_X6_less x4 (((0 : Int32) + 0) + q29.1) q29.2).bind fun q31 => G_X6_walk_51_110 n x3 q31.1 (x5 + 1) q31.2) else G_X6_walk_51_110 n x3 (((0 : Int32) + 0) + q29.1) (x5 + 1) q29.2)) else (if inB x5 11 = true then ((G_X6_less 0 (100 - (S.1 56 x5.toNatClampNeg)) S).bind fun q26 => (if (0 : Int32) ≤ x4 then ((G_X6_less x4 ((0 + (100 - (S.1 56 x5.toNatClampNeg))) + q26.1) q26.2).bind fun q28 => G_X6_walk_51_110 n x3 q28.1 (x5 + 1) q28.2) else G_X6_walk_51_110 n x3 ((0 + (100 - (S.1 56 x5.toNatClampNeg))) + q26.1) (x5 + 1) q26.2)) else none)) else (if inB (x5 - 1) 11 = true then (if x5 = x3 then ((G_X6_less (S.1 56 ((x5 - 1).toNatClampNeg)) 0 S).bind fun q21 => (if (0 : Int32) ≤ x4 then ((G_X6_less x4 (((S.1 56 ((x5 - 1).toNatClampNeg)) + 0) + q21.1) q21.2).bind fun q23 => G_X6_walk_51_110 n x3 q23.1 (x5 + 1) q23.2) else G_X6_walk_51_110 n x3 (((S.1 56 ((x5 - 1).toNatClampNeg)) + 0) + q21.1) (x5 + 1) q21.2)) else (if inB x5 11 = true then ((G_X6_less (S.1 56 ((x5 - 1).toNatClampNeg)) (100 - (S.1 56 x5.toNatClampNeg)) S).bind fun q18 => (if (0 : Int32) ≤ x4 then ((G_X6_less x4 (((S.1 56 ((x5 - 1).toNatClampNeg)) + (100 - (S.1 56 x5.toNatClampNeg))) + q18.1) q18.2).bind fun q20 => G_X6_walk_51_110 n x3 q20.1 (x5 + 1) q20.2) else G_X6_walk_51_110 n x3 (((S.1 56 ((x5 - 1).toNatClampNeg)) + (100 - (S.1 56 x5.toNatClampNeg))) + q18.1) (x5 + 1) q18.2)) else none)) else none)))
set_option maxHeartbeats 4000000 in
set_option maxRecDepth 100000 in
theorem T_X6_walk_51_110 (E : EV) : ∀ (n : Nat) (x3 : Int32) (x4 : Int32) (x5 : Int32) (S : ST), ∀ (w : (Int32 × ST)), G_X6_walk_51_110 n x3 x4 x5 S = some w → ∀ {Q : Option Value → ST → Prop}, SS E mX6_walk 198 [(4, .int w.1)] [] w.2 Q → SS E mX6_walk 110 [(0, .ref (eB E + 51)), (3, .int x3), (4, .int x4), (5, .int x5)] [] S Q := by
  intro n
  induction n with
  | zero =>
    intro x3 x4 x5 S w h
    cases h
  | succ n ih =>
    intro x3 x4 x5 S w h Q K
    unfold G_X6_walk_51_110 at h
    refine s_iload (q := 112) dX6_walk_110 rfl 3 rfl ?_
    refine s_iload_n (q := 113) dX6_walk_112 rfl rfl 1 rfl ?_
    refine s_icmp_gt (q := 116) (tgt := 198) dX6_walk_113 rfl rfl (fun hb13 => ?_) (fun hb13 => ?_)
    · rw [if_pos hb13] at h
      obtain rfl := Option.some.inj h
      exact t_sub [2] rfl K
    · rw [if_neg hb13] at h
      refine s_iload (q := 118) dX6_walk_116 rfl 3 rfl ?_
      refine s_if_ne (q := 121) (tgt := 125) dX6_walk_118 rfl rfl (fun hb14 => ?_) (fun hb14 => ?_)
      · rw [if_neg hb14] at h
        refine s_aload_n (q := 126) dX6_walk_125 rfl rfl 0 rfl ?_
        refine t_getR (q := 129) (k := 51) (f := 5) (t := 56) dX6_walk_126 rfl rfl rfl rfl inX6 (Nat.le_of_ble_eq_true rfl) fX6_22 ?_
        refine s_iload (q := 131) dX6_walk_129 rfl 3 rfl ?_
        refine s_iconst (q := 132) (v := 1) dX6_walk_131 rfl rfl ?_
        refine s_isub (q := 133) dX6_walk_132 rfl ?_
        obtain ⟨hg15, h⟩ := chk_some h
        refine u_iald (q := 134) (k := 56) (v := (S.1 56 ((x5 - 1).toNatClampNeg))) dX6_walk_133 rfl rfl (inB_in hg15) rfl rfl ?_
        refine s_istore (q := 136) (lv' := [(6, .int (S.1 56 ((x5 - 1).toNatClampNeg))), (0, .ref (eB E + 51)), (3, .int x3), (4, .int x4), (5, .int x5)]) dX6_walk_134 rfl (Nat.le_of_ble_eq_true rfl) rfl ?_
        refine s_iload (q := 138) dX6_walk_136 rfl 4 rfl ?_
        refine s_iload_n (q := 139) dX6_walk_138 rfl rfl 2 rfl ?_
        refine s_icmp_ne (q := 142) (tgt := 146) dX6_walk_139 rfl rfl (fun hb16 => ?_) (fun hb16 => ?_)
        · rw [if_neg hb16] at h
          refine s_bipush (q := 148) (v := 100) dX6_walk_146 rfl rfl ?_
          refine s_aload_n (q := 149) dX6_walk_148 rfl rfl 1 rfl ?_
          refine t_getR (q := 152) (k := 51) (f := 5) (t := 56) dX6_walk_149 rfl rfl rfl rfl inX6 (Nat.le_of_ble_eq_true rfl) fX6_22 ?_
          refine s_iload (q := 154) dX6_walk_152 rfl 4 rfl ?_
          obtain ⟨hg17, h⟩ := chk_some h
          refine u_iald (q := 155) (k := 56) (v := (S.1 56 x5.toNatClampNeg)) dX6_walk_154 rfl rfl (inB_in hg17) rfl rfl ?_
          refine s_isub (q := 156) dX6_walk_155 rfl ?_
          refine s_istore (q := 158) (lv' := [(7, .int (100 - (S.1 56 x5.toNatClampNeg))), (6, .int (S.1 56 ((x5 - 1).toNatClampNeg))), (0, .ref (eB E + 51)), (3, .int x3), (4, .int x4), (5, .int x5)]) dX6_walk_156 rfl (Nat.le_of_ble_eq_true rfl) rfl ?_
          refine s_iload (q := 160) dX6_walk_158 rfl 1 rfl ?_
          refine s_iload (q := 162) dX6_walk_160 rfl 0 rfl ?_
          refine s_iadd (q := 163) dX6_walk_162 rfl ?_
          refine s_iload (q := 165) dX6_walk_163 rfl 1 rfl ?_
          refine s_iload (q := 167) dX6_walk_165 rfl 0 rfl ?_
          obtain ⟨q18, hc18, h⟩ := bnd h
          try dsimp only at h
          refine t_callS (q := 170) (N := mX6_less) [.int (S.1 56 ((x5 - 1).toNatClampNeg)), .int (100 - (S.1 56 x5.toNatClampNeg))] dX6_walk_167 rfl nkX6_less sX6_less lX6_85 ⟨Nat.le_of_ble_eq_true rfl, Nat.le_of_ble_eq_true rfl⟩ rfl rfl (Nat.le_of_ble_eq_true rfl) (Nat.le_of_ble_eq_true rfl) (T_X6_less E _ _ hc18) ?_
          refine s_iadd (q := 171) dX6_walk_170 rfl ?_
          refine s_istore (q := 173) (lv' := [(8, .int (((S.1 56 ((x5 - 1).toNatClampNeg)) + (100 - (S.1 56 x5.toNatClampNeg))) + q18.1)), (7, .int (100 - (S.1 56 x5.toNatClampNeg))), (6, .int (S.1 56 ((x5 - 1).toNatClampNeg))), (0, .ref (eB E + 51)), (3, .int x3), (4, .int x4), (5, .int x5)]) dX6_walk_171 rfl (Nat.le_of_ble_eq_true rfl) rfl ?_
          refine s_iload (q := 175) dX6_walk_173 rfl 5 rfl ?_
          refine s_if_ge (q := 178) (tgt := 183) dX6_walk_175 rfl rfl (fun hb19 => ?_) (fun hb19 => ?_)
          · rw [if_pos hb19] at h
            refine s_iload (q := 185) dX6_walk_183 rfl 5 rfl ?_
            refine s_iload (q := 187) dX6_walk_185 rfl 0 rfl ?_
            obtain ⟨q20, hc20, h⟩ := bnd h
            try dsimp only at h
            refine t_callS (q := 190) (N := mX6_less) [.int x4, .int (((S.1 56 ((x5 - 1).toNatClampNeg)) + (100 - (S.1 56 x5.toNatClampNeg))) + q18.1)] dX6_walk_187 rfl nkX6_less sX6_less lX6_85 ⟨Nat.le_of_ble_eq_true rfl, Nat.le_of_ble_eq_true rfl⟩ rfl rfl (Nat.le_of_ble_eq_true rfl) (Nat.le_of_ble_eq_true rfl) (T_X6_less E _ _ hc20) ?_
            refine s_istore (q := 192) (lv' := [(4, .int q20.1), (8, .int (((S.1 56 ((x5 - 1).toNatClampNeg)) + (100 - (S.1 56 x5.toNatClampNeg))) + q18.1)), (7, .int (100 - (S.1 56 x5.toNatClampNeg))), (6, .int (S.1 56 ((x5 - 1).toNatClampNeg))), (0, .ref (eB E + 51)), (3, .int x3), (5, .int x5)]) dX6_walk_190 rfl (Nat.le_of_ble_eq_true rfl) rfl ?_
            refine s_iinc (q := 195) (j := 6) (v := (x5 + 1)) (lv' := [(5, .int (x5 + 1)), (4, .int q20.1), (8, .int (((S.1 56 ((x5 - 1).toNatClampNeg)) + (100 - (S.1 56 x5.toNatClampNeg))) + q18.1)), (7, .int (100 - (S.1 56 x5.toNatClampNeg))), (6, .int (S.1 56 ((x5 - 1).toNatClampNeg))), (0, .ref (eB E + 51)), (3, .int x3)]) dX6_walk_192 rfl rfl rfl (Nat.le_of_ble_eq_true rfl) rfl ?_
            refine s_goto (tgt := 110) dX6_walk_195 rfl ?_
            exact t_sub [5, 6, 1, 0] rfl (ih _ _ _ _ _ h K)
          · rw [if_neg hb19] at h
            refine s_iload (q := 180) dX6_walk_178 rfl 0 rfl ?_
            refine s_goto (tgt := 190) dX6_walk_180 rfl ?_
            refine s_istore (q := 192) (lv' := [(4, .int (((S.1 56 ((x5 - 1).toNatClampNeg)) + (100 - (S.1 56 x5.toNatClampNeg))) + q18.1)), (8, .int (((S.1 56 ((x5 - 1).toNatClampNeg)) + (100 - (S.1 56 x5.toNatClampNeg))) + q18.1)), (7, .int (100 - (S.1 56 x5.toNatClampNeg))), (6, .int (S.1 56 ((x5 - 1).toNatClampNeg))), (0, .ref (eB E + 51)), (3, .int x3), (5, .int x5)]) dX6_walk_190 rfl (Nat.le_of_ble_eq_true rfl) rfl ?_
            refine s_iinc (q := 195) (j := 6) (v := (x5 + 1)) (lv' := [(5, .int (x5 + 1)), (4, .int (((S.1 56 ((x5 - 1).toNatClampNeg)) + (100 - (S.1 56 x5.toNatClampNeg))) + q18.1)), (8, .int (((S.1 56 ((x5 - 1).toNatClampNeg)) + (100 - (S.1 56 x5.toNatClampNeg))) + q18.1)), (7, .int (100 - (S.1 56 x5.toNatClampNeg))), (6, .int (S.1 56 ((x5 - 1).toNatClampNeg))), (0, .ref (eB E + 51)), (3, .int x3)]) dX6_walk_192 rfl rfl rfl (Nat.le_of_ble_eq_true rfl) rfl ?_
            refine s_goto (tgt := 110) dX6_walk_195 rfl ?_
            exact t_sub [5, 6, 1, 0] rfl (ih _ _ _ _ _ h K)
        · rw [if_pos hb16] at h
          refine s_iconst (q := 143) (v := 0) dX6_walk_142 rfl rfl ?_
          refine s_goto (tgt := 156) dX6_walk_143 rfl ?_
          refine s_istore (q := 158) (lv' := [(7, .int 0), (6, .int (S.1 56 ((x5 - 1).toNatClampNeg))), (0, .ref (eB E + 51)), (3, .int x3), (4, .int x4), (5, .int x5)]) dX6_walk_156 rfl (Nat.le_of_ble_eq_true rfl) rfl ?_
          refine s_iload (q := 160) dX6_walk_158 rfl 1 rfl ?_
          refine s_iload (q := 162) dX6_walk_160 rfl 0 rfl ?_
          refine s_iadd (q := 163) dX6_walk_162 rfl ?_
          refine s_iload (q := 165) dX6_walk_163 rfl 1 rfl ?_
          refine s_iload (q := 167) dX6_walk_165 rfl 0 rfl ?_
          obtain ⟨q21, hc21, h⟩ := bnd h
          try dsimp only at h
          refine t_callS (q := 170) (N := mX6_less) [.int (S.1 56 ((x5 - 1).toNatClampNeg)), .int 0] dX6_walk_167 rfl nkX6_less sX6_less lX6_85 ⟨Nat.le_of_ble_eq_true rfl, Nat.le_of_ble_eq_true rfl⟩ rfl rfl (Nat.le_of_ble_eq_true rfl) (Nat.le_of_ble_eq_true rfl) (T_X6_less E _ _ hc21) ?_
          refine s_iadd (q := 171) dX6_walk_170 rfl ?_
          refine s_istore (q := 173) (lv' := [(8, .int (((S.1 56 ((x5 - 1).toNatClampNeg)) + 0) + q21.1)), (7, .int 0), (6, .int (S.1 56 ((x5 - 1).toNatClampNeg))), (0, .ref (eB E + 51)), (3, .int x3), (4, .int x4), (5, .int x5)]) dX6_walk_171 rfl (Nat.le_of_ble_eq_true rfl) rfl ?_
          refine s_iload (q := 175) dX6_walk_173 rfl 5 rfl ?_
          refine s_if_ge (q := 178) (tgt := 183) dX6_walk_175 rfl rfl (fun hb22 => ?_) (fun hb22 => ?_)
          · rw [if_pos hb22] at h
            refine s_iload (q := 185) dX6_walk_183 rfl 5 rfl ?_
            refine s_iload (q := 187) dX6_walk_185 rfl 0 rfl ?_
            obtain ⟨q23, hc23, h⟩ := bnd h
            try dsimp only at h
            refine t_callS (q := 190) (N := mX6_less) [.int x4, .int (((S.1 56 ((x5 - 1).toNatClampNeg)) + 0) + q21.1)] dX6_walk_187 rfl nkX6_less sX6_less lX6_85 ⟨Nat.le_of_ble_eq_true rfl, Nat.le_of_ble_eq_true rfl⟩ rfl rfl (Nat.le_of_ble_eq_true rfl) (Nat.le_of_ble_eq_true rfl) (T_X6_less E _ _ hc23) ?_
            refine s_istore (q := 192) (lv' := [(4, .int q23.1), (8, .int (((S.1 56 ((x5 - 1).toNatClampNeg)) + 0) + q21.1)), (7, .int 0), (6, .int (S.1 56 ((x5 - 1).toNatClampNeg))), (0, .ref (eB E + 51)), (3, .int x3), (5, .int x5)]) dX6_walk_190 rfl (Nat.le_of_ble_eq_true rfl) rfl ?_
            refine s_iinc (q := 195) (j := 6) (v := (x5 + 1)) (lv' := [(5, .int (x5 + 1)), (4, .int q23.1), (8, .int (((S.1 56 ((x5 - 1).toNatClampNeg)) + 0) + q21.1)), (7, .int 0), (6, .int (S.1 56 ((x5 - 1).toNatClampNeg))), (0, .ref (eB E + 51)), (3, .int x3)]) dX6_walk_192 rfl rfl rfl (Nat.le_of_ble_eq_true rfl) rfl ?_
            refine s_goto (tgt := 110) dX6_walk_195 rfl ?_
            exact t_sub [5, 6, 1, 0] rfl (ih _ _ _ _ _ h K)
          · rw [if_neg hb22] at h
            refine s_iload (q := 180) dX6_walk_178 rfl 0 rfl ?_
            refine s_goto (tgt := 190) dX6_walk_180 rfl ?_
            refine s_istore (q := 192) (lv' := [(4, .int (((S.1 56 ((x5 - 1).toNatClampNeg)) + 0) + q21.1)), (8, .int (((S.1 56 ((x5 - 1).toNatClampNeg)) + 0) + q21.1)), (7, .int 0), (6, .int (S.1 56 ((x5 - 1).toNatClampNeg))), (0, .ref (eB E + 51)), (3, .int x3), (5, .int x5)]) dX6_walk_190 rfl (Nat.le_of_ble_eq_true rfl) rfl ?_
            refine s_iinc (q := 195) (j := 6) (v := (x5 + 1)) (lv' := [(5, .int (x5 + 1)), (4, .int (((S.1 56 ((x5 - 1).toNatClampNeg)) + 0) + q21.1)), (8, .int (((S.1 56 ((x5 - 1).toNatClampNeg)) + 0) + q21.1)), (7, .int 0), (6, .int (S.1 56 ((x5 - 1).toNatClampNeg))), (0, .ref (eB E + 51)), (3, .int x3)]) dX6_walk_192 rfl rfl rfl (Nat.le_of_ble_eq_true rfl) rfl ?_
            refine s_goto (tgt := 110) dX6_walk_195 rfl ?_
            exact t_sub [5, 6, 1, 0] rfl (ih _ _ _ _ _ h K)
      · rw [if_pos hb14] at h
        refine s_iconst (q := 122) (v := 0) dX6_walk_121 rfl rfl ?_
        refine s_goto (tgt := 134) dX6_walk_122 rfl ?_
        refine s_istore (q := 136) (lv' := [(6, .int 0), (0, .ref (eB E + 51)), (3, .int x3), (4, .int x4), (5, .int x5)]) dX6_walk_134 rfl (Nat.le_of_ble_eq_true rfl) rfl ?_
        refine s_iload (q := 138) dX6_walk_136 rfl 4 rfl ?_
        refine s_iload_n (q := 139) dX6_walk_138 rfl rfl 2 rfl ?_
        refine s_icmp_ne (q := 142) (tgt := 146) dX6_walk_139 rfl rfl (fun hb24 => ?_) (fun hb24 => ?_)
        · rw [if_neg hb24] at h
          refine s_bipush (q := 148) (v := 100) dX6_walk_146 rfl rfl ?_
          refine s_aload_n (q := 149) dX6_walk_148 rfl rfl 1 rfl ?_
          refine t_getR (q := 152) (k := 51) (f := 5) (t := 56) dX6_walk_149 rfl rfl rfl rfl inX6 (Nat.le_of_ble_eq_true rfl) fX6_22 ?_
          refine s_iload (q := 154) dX6_walk_152 rfl 4 rfl ?_
          obtain ⟨hg25, h⟩ := chk_some h
          refine u_iald (q := 155) (k := 56) (v := (S.1 56 x5.toNatClampNeg)) dX6_walk_154 rfl rfl (inB_in hg25) rfl rfl ?_
          refine s_isub (q := 156) dX6_walk_155 rfl ?_
          refine s_istore (q := 158) (lv' := [(7, .int (100 - (S.1 56 x5.toNatClampNeg))), (6, .int 0), (0, .ref (eB E + 51)), (3, .int x3), (4, .int x4), (5, .int x5)]) dX6_walk_156 rfl (Nat.le_of_ble_eq_true rfl) rfl ?_
          refine s_iload (q := 160) dX6_walk_158 rfl 1 rfl ?_
          refine s_iload (q := 162) dX6_walk_160 rfl 0 rfl ?_
          refine s_iadd (q := 163) dX6_walk_162 rfl ?_
          refine s_iload (q := 165) dX6_walk_163 rfl 1 rfl ?_
          refine s_iload (q := 167) dX6_walk_165 rfl 0 rfl ?_
          obtain ⟨q26, hc26, h⟩ := bnd h
          try dsimp only at h
          refine t_callS (q := 170) (N := mX6_less) [.int 0, .int (100 - (S.1 56 x5.toNatClampNeg))] dX6_walk_167 rfl nkX6_less sX6_less lX6_85 ⟨Nat.le_of_ble_eq_true rfl, Nat.le_of_ble_eq_true rfl⟩ rfl rfl (Nat.le_of_ble_eq_true rfl) (Nat.le_of_ble_eq_true rfl) (T_X6_less E _ _ hc26) ?_
          refine s_iadd (q := 171) dX6_walk_170 rfl ?_
          refine s_istore (q := 173) (lv' := [(8, .int ((0 + (100 - (S.1 56 x5.toNatClampNeg))) + q26.1)), (7, .int (100 - (S.1 56 x5.toNatClampNeg))), (6, .int 0), (0, .ref (eB E + 51)), (3, .int x3), (4, .int x4), (5, .int x5)]) dX6_walk_171 rfl (Nat.le_of_ble_eq_true rfl) rfl ?_
          refine s_iload (q := 175) dX6_walk_173 rfl 5 rfl ?_
          refine s_if_ge (q := 178) (tgt := 183) dX6_walk_175 rfl rfl (fun hb27 => ?_) (fun hb27 => ?_)
          · rw [if_pos hb27] at h
            refine s_iload (q := 185) dX6_walk_183 rfl 5 rfl ?_
            refine s_iload (q := 187) dX6_walk_185 rfl 0 rfl ?_
            obtain ⟨q28, hc28, h⟩ := bnd h
            try dsimp only at h
            refine t_callS (q := 190) (N := mX6_less) [.int x4, .int ((0 + (100 - (S.1 56 x5.toNatClampNeg))) + q26.1)] dX6_walk_187 rfl nkX6_less sX6_less lX6_85 ⟨Nat.le_of_ble_eq_true rfl, Nat.le_of_ble_eq_true rfl⟩ rfl rfl (Nat.le_of_ble_eq_true rfl) (Nat.le_of_ble_eq_true rfl) (T_X6_less E _ _ hc28) ?_
            refine s_istore (q := 192) (lv' := [(4, .int q28.1), (8, .int ((0 + (100 - (S.1 56 x5.toNatClampNeg))) + q26.1)), (7, .int (100 - (S.1 56 x5.toNatClampNeg))), (6, .int 0), (0, .ref (eB E + 51)), (3, .int x3), (5, .int x5)]) dX6_walk_190 rfl (Nat.le_of_ble_eq_true rfl) rfl ?_
            refine s_iinc (q := 195) (j := 6) (v := (x5 + 1)) (lv' := [(5, .int (x5 + 1)), (4, .int q28.1), (8, .int ((0 + (100 - (S.1 56 x5.toNatClampNeg))) + q26.1)), (7, .int (100 - (S.1 56 x5.toNatClampNeg))), (6, .int 0), (0, .ref (eB E + 51)), (3, .int x3)]) dX6_walk_192 rfl rfl rfl (Nat.le_of_ble_eq_true rfl) rfl ?_
            refine s_goto (tgt := 110) dX6_walk_195 rfl ?_
            exact t_sub [5, 6, 1, 0] rfl (ih _ _ _ _ _ h K)
          · rw [if_neg hb27] at h
            refine s_iload (q := 180) dX6_walk_178 rfl 0 rfl ?_
            refine s_goto (tgt := 190) dX6_walk_180 rfl ?_
            refine s_istore (q := 192) (lv' := [(4, .int ((0 + (100 - (S.1 56 x5.toNatClampNeg))) + q26.1)), (8, .int ((0 + (100 - (S.1 56 x5.toNatClampNeg))) + q26.1)), (7, .int (100 - (S.1 56 x5.toNatClampNeg))), (6, .int 0), (0, .ref (eB E + 51)), (3, .int x3), (5, .int x5)]) dX6_walk_190 rfl (Nat.le_of_ble_eq_true rfl) rfl ?_
            refine s_iinc (q := 195) (j := 6) (v := (x5 + 1)) (lv' := [(5, .int (x5 + 1)), (4, .int ((0 + (100 - (S.1 56 x5.toNatClampNeg))) + q26.1)), (8, .int ((0 + (100 - (S.1 56 x5.toNatClampNeg))) + q26.1)), (7, .int (100 - (S.1 56 x5.toNatClampNeg))), (6, .int 0), (0, .ref (eB E + 51)), (3, .int x3)]) dX6_walk_192 rfl rfl rfl (Nat.le_of_ble_eq_true rfl) rfl ?_
            refine s_goto (tgt := 110) dX6_walk_195 rfl ?_
            exact t_sub [5, 6, 1, 0] rfl (ih _ _ _ _ _ h K)
        · rw [if_pos hb24] at h
          refine s_iconst (q := 143) (v := 0) dX6_walk_142 rfl rfl ?_
          refine s_goto (tgt := 156) dX6_walk_143 rfl ?_
          refine s_istore (q := 158) (lv' := [(7, .int 0), (6, .int 0), (0, .ref (eB E + 51)), (3, .int x3), (4, .int x4), (5, .int x5)]) dX6_walk_156 rfl (Nat.le_of_ble_eq_true rfl) rfl ?_
          refine s_iload (q := 160) dX6_walk_158 rfl 1 rfl ?_
          refine s_iload (q := 162) dX6_walk_160 rfl 0 rfl ?_
          refine s_iadd (q := 163) dX6_walk_162 rfl ?_
          refine s_iload (q := 165) dX6_walk_163 rfl 1 rfl ?_
          refine s_iload (q := 167) dX6_walk_165 rfl 0 rfl ?_
          obtain ⟨q29, hc29, h⟩ := bnd h
          try dsimp only at h
          refine t_callS (q := 170) (N := mX6_less) [.int 0, .int 0] dX6_walk_167 rfl nkX6_less sX6_less lX6_85 ⟨Nat.le_of_ble_eq_true rfl, Nat.le_of_ble_eq_true rfl⟩ rfl rfl (Nat.le_of_ble_eq_true rfl) (Nat.le_of_ble_eq_true rfl) (T_X6_less E _ _ hc29) ?_
          refine s_iadd (q := 171) dX6_walk_170 rfl ?_
          refine s_istore (q := 173) (lv' := [(8, .int (((0 : Int32) + 0) + q29.1)), (7, .int 0), (6, .int 0), (0, .ref (eB E + 51)), (3, .int x3), (4, .int x4), (5, .int x5)]) dX6_walk_171 rfl (Nat.le_of_ble_eq_true rfl) rfl ?_
          refine s_iload (q := 175) dX6_walk_173 rfl 5 rfl ?_
          refine s_if_ge (q := 178) (tgt := 183) dX6_walk_175 rfl rfl (fun hb30 => ?_) (fun hb30 => ?_)
          · rw [if_pos hb30] at h
            refine s_iload (q := 185) dX6_walk_183 rfl 5 rfl ?_
            refine s_iload (q := 187) dX6_walk_185 rfl 0 rfl ?_
            obtain ⟨q31, hc31, h⟩ := bnd h
            try dsimp only at h
            refine t_callS (q := 190) (N := mX6_less) [.int x4, .int (((0 : Int32) + 0) + q29.1)] dX6_walk_187 rfl nkX6_less sX6_less lX6_85 ⟨Nat.le_of_ble_eq_true rfl, Nat.le_of_ble_eq_true rfl⟩ rfl rfl (Nat.le_of_ble_eq_true rfl) (Nat.le_of_ble_eq_true rfl) (T_X6_less E _ _ hc31) ?_
            refine s_istore (q := 192) (lv' := [(4, .int q31.1), (8, .int (((0 : Int32) + 0) + q29.1)), (7, .int 0), (6, .int 0), (0, .ref (eB E + 51)), (3, .int x3), (5, .int x5)]) dX6_walk_190 rfl (Nat.le_of_ble_eq_true rfl) rfl ?_
            refine s_iinc (q := 195) (j := 6) (v := (x5 + 1)) (lv' := [(5, .int (x5 + 1)), (4, .int q31.1), (8, .int (((0 : Int32) + 0) + q29.1)), (7, .int 0), (6, .int 0), (0, .ref (eB E + 51)), (3, .int x3)]) dX6_walk_192 rfl rfl rfl (Nat.le_of_ble_eq_true rfl) rfl ?_
            refine s_goto (tgt := 110) dX6_walk_195 rfl ?_
            exact t_sub [5, 6, 1, 0] rfl (ih _ _ _ _ _ h K)
          · rw [if_neg hb30] at h
            refine s_iload (q := 180) dX6_walk_178 rfl 0 rfl ?_
            refine s_goto (tgt := 190) dX6_walk_180 rfl ?_
            refine s_istore (q := 192) (lv' := [(4, .int (((0 : Int32) + 0) + q29.1)), (8, .int (((0 : Int32) + 0) + q29.1)), (7, .int 0), (6, .int 0), (0, .ref (eB E + 51)), (3, .int x3), (5, .int x5)]) dX6_walk_190 rfl (Nat.le_of_ble_eq_true rfl) rfl ?_
            refine s_iinc (q := 195) (j := 6) (v := (x5 + 1)) (lv' := [(5, .int (x5 + 1)), (4, .int (((0 : Int32) + 0) + q29.1)), (8, .int (((0 : Int32) + 0) + q29.1)), (7, .int 0), (6, .int 0), (0, .ref (eB E + 51)), (3, .int x3)]) dX6_walk_192 rfl rfl rfl (Nat.le_of_ble_eq_true rfl) rfl ?_
            refine s_goto (tgt := 110) dX6_walk_195 rfl ?_
            exact t_sub [5, 6, 1, 0] rfl (ih _ _ _ _ _ h K)
def G_X6_walk_51 (x1 : Int32) (x2 : Int32) (S : ST) : Option (Int32 × ST) := (G_X6_walk_51_5 3000 x1 x2 0 0 S).bind fun q12 => (G_X6_walk_51_110 3000 q12.1 (-1) 0 q12.2).bind fun q32 => some (q32.1, q32.2)
set_option maxHeartbeats 4000000 in
set_option maxRecDepth 100000 in
theorem T_X6_walk_51 (E : EV) (x1 : Int32) (x2 : Int32) {S : ST} {w : (Int32 × ST)} (h : G_X6_walk_51 x1 x2 S = some w) : SD E mX6_walk 0 [(0, .ref (eB E + 51)), (1, .int x1), (2, .int x2)] [] S (some (.int w.1)) w.2 := by
  unfold G_X6_walk_51 at h
  refine s_iconst (q := 1) (v := 0) dX6_walk_0 rfl rfl ?_
  refine s_istore_n (q := 2) (lv' := [(3, .int 0), (0, .ref (eB E + 51)), (1, .int x1), (2, .int x2)]) dX6_walk_1 rfl rfl (Nat.le_of_ble_eq_true rfl) rfl ?_
  refine s_iconst (q := 3) (v := 0) dX6_walk_2 rfl rfl ?_
  refine s_istore (q := 5) (lv' := [(4, .int 0), (3, .int 0), (0, .ref (eB E + 51)), (1, .int x1), (2, .int x2)]) dX6_walk_3 rfl (Nat.le_of_ble_eq_true rfl) rfl ?_
  obtain ⟨q12, hc12, h⟩ := bnd h
  try dsimp only at h
  refine t_sub [2, 3, 4, 1, 0] rfl (T_X6_walk_51_5 E _ _ _ _ _ _ _ hc12 ?_)
  refine s_iconst (q := 105) (v := (-1)) dX6_walk_104 rfl rfl ?_
  refine s_istore (q := 107) (lv' := [(4, .int (-1)), (0, .ref (eB E + 51)), (3, .int q12.1)]) dX6_walk_105 rfl (Nat.le_of_ble_eq_true rfl) rfl ?_
  refine s_iconst (q := 108) (v := 0) dX6_walk_107 rfl rfl ?_
  refine s_istore (q := 110) (lv' := [(5, .int 0), (4, .int (-1)), (0, .ref (eB E + 51)), (3, .int q12.1)]) dX6_walk_108 rfl (Nat.le_of_ble_eq_true rfl) rfl ?_
  obtain ⟨q32, hc32, h⟩ := bnd h
  try dsimp only at h
  refine t_sub [2, 3, 1, 0] rfl (T_X6_walk_51_110 E _ _ _ _ _ _ hc32 ?_)
  refine s_iload (q := 200) dX6_walk_198 rfl 0 rfl ?_
  obtain rfl := Option.some.inj h
  exact t_iret dX6_walk_200 rfl rfl
-- X6_roundOf
def G_X6_roundOf_51 (x1 : Int32) (x2 : Int32) (S : ST) : Option (Int32 × ST) := ((G_X6_walk_51 x1 x2 S).bind fun q1 => ((G_X6_bits x2 q1.2).bind fun q2 => some ((q1.1 + ((q1.2.1 52 6) * q2.1)), q2.2)))
set_option maxHeartbeats 4000000 in
set_option maxRecDepth 100000 in
theorem T_X6_roundOf_51 (E : EV) (x1 : Int32) (x2 : Int32) {S : ST} {w : (Int32 × ST)} (h : G_X6_roundOf_51 x1 x2 S = some w) : SD E mX6_roundOf 0 [(0, .ref (eB E + 51)), (1, .int x1), (2, .int x2)] [] S (some (.int w.1)) w.2 := by
  unfold G_X6_roundOf_51 at h
  refine s_aload_n (q := 1) dX6_roundOf_0 rfl rfl 0 rfl ?_
  refine s_iload_n (q := 2) dX6_roundOf_1 rfl rfl 1 rfl ?_
  refine s_iload_n (q := 3) dX6_roundOf_2 rfl rfl 2 rfl ?_
  obtain ⟨q1, hc1, h⟩ := bnd h
  try dsimp only at h
  refine t_callV (q := 6) (N := mX6_walk) (a := eB E + 51) [.int x1, .int x2] dX6_roundOf_3 rfl nkX6_walk vkX6_walk lX6_142 ⟨Nat.le_of_ble_eq_true rfl, Nat.le_of_ble_eq_true rfl⟩ (rc_obj (k := 51) rfl rfl) rfl rfl (Nat.le_of_ble_eq_true rfl) (Nat.le_of_ble_eq_true rfl) (T_X6_walk_51 E _ _ hc1) ?_
  refine s_aload_n (q := 7) dX6_roundOf_6 rfl rfl 0 rfl ?_
  refine t_getR (q := 10) (k := 51) (f := 0) (t := 52) dX6_roundOf_7 rfl rfl rfl rfl inX6 (Nat.le_of_ble_eq_true rfl) fX6_9 ?_
  refine s_bipush (q := 12) (v := 6) dX6_roundOf_10 rfl rfl ?_
  refine u_iald (q := 13) (k := 52) (j := 6) (v := (q1.2.1 52 6)) dX6_roundOf_12 rfl rfl (inB_in (by decide)) (by decide) rfl ?_
  refine s_iload_n (q := 14) dX6_roundOf_13 rfl rfl 2 rfl ?_
  obtain ⟨q2, hc2, h⟩ := bnd h
  try dsimp only at h
  refine t_callS (q := 17) (N := mX6_bits) [.int x2] dX6_roundOf_14 rfl nkX6_bits sX6_bits lX6_121 ⟨Nat.le_of_ble_eq_true rfl, Nat.le_of_ble_eq_true rfl⟩ rfl rfl (Nat.le_of_ble_eq_true rfl) (Nat.le_of_ble_eq_true rfl) (T_X6_bits E _ hc2) ?_
  refine s_imul (q := 18) dX6_roundOf_17 rfl ?_
  refine s_iadd (q := 19) dX6_roundOf_18 rfl ?_
  obtain rfl := Option.some.inj h
  exact t_iret dX6_roundOf_19 rfl rfl
-- X6_round
def G_X6_round_51 (x1 : Int32) (x2 : Int32) (S : ST) : Option (Int32 × ST) := ((G_X6_isCrew x1 S).bind fun q1 => (if q1.1 = 0 then ((G_X6_no_51 0 q1.2).bind fun q3 => some (q3.1, q3.2)) else ((G_X6_isSet_51 x2 q1.2).bind fun q4 => (if q4.1 = 0 then ((G_X6_no_51 0 q4.2).bind fun q6 => some (q6.1, q6.2)) else ((G_X6_at_51 x1 q4.2).bind fun q7 => ((G_X6_roundOf_51 q7.1 x2 q7.2).bind fun q8 => some (q8.1, q8.2)))))))
set_option maxHeartbeats 4000000 in
set_option maxRecDepth 100000 in
theorem T_X6_round_51 (E : EV) (x1 : Int32) (x2 : Int32) {S : ST} {w : (Int32 × ST)} (h : G_X6_round_51 x1 x2 S = some w) : SD E mX6_round 0 [(0, .ref (eB E + 51)), (1, .int x1), (2, .int x2)] [] S (some (.int w.1)) w.2 := by
  unfold G_X6_round_51 at h
  refine s_iload_n (q := 1) dX6_round_0 rfl rfl 1 rfl ?_
  obtain ⟨q1, hc1, h⟩ := bnd h
  try dsimp only at h
  refine t_callS (q := 4) (N := mX6_isCrew) [.int x1] dX6_round_1 rfl nkX6_isCrew sX6_isCrew lX6_104 ⟨Nat.le_of_ble_eq_true rfl, Nat.le_of_ble_eq_true rfl⟩ rfl rfl (Nat.le_of_ble_eq_true rfl) (Nat.le_of_ble_eq_true rfl) (T_X6_isCrew E _ hc1) ?_
  refine s_if_eq (q := 7) (tgt := 28) dX6_round_4 rfl rfl (fun hb2 => ?_) (fun hb2 => ?_)
  · rw [if_pos hb2] at h
    refine s_aload_n (q := 29) dX6_round_28 rfl rfl 0 rfl ?_
    refine s_iconst (q := 30) (v := 0) dX6_round_29 rfl rfl ?_
    obtain ⟨q3, hc3, h⟩ := bnd h
    try dsimp only at h
    refine t_callV (q := 33) (N := mX6_no) (a := eB E + 51) [.int 0] dX6_round_30 rfl nkX6_no vkX6_no lX6_94 ⟨Nat.le_of_ble_eq_true rfl, Nat.le_of_ble_eq_true rfl⟩ (rc_obj (k := 51) rfl rfl) rfl rfl (Nat.le_of_ble_eq_true rfl) (Nat.le_of_ble_eq_true rfl) (T_X6_no_51 E _ hc3) ?_
    obtain rfl := Option.some.inj h
    exact t_iret dX6_round_33 rfl rfl
  · rw [if_neg hb2] at h
    refine s_aload_n (q := 8) dX6_round_7 rfl rfl 0 rfl ?_
    refine s_iload_n (q := 9) dX6_round_8 rfl rfl 2 rfl ?_
    obtain ⟨q4, hc4, h⟩ := bnd h
    try dsimp only at h
    refine t_callV (q := 12) (N := mX6_isSet) (a := eB E + 51) [.int x2] dX6_round_9 rfl nkX6_isSet vkX6_isSet lX6_145 ⟨Nat.le_of_ble_eq_true rfl, Nat.le_of_ble_eq_true rfl⟩ (rc_obj (k := 51) rfl rfl) rfl rfl (Nat.le_of_ble_eq_true rfl) (Nat.le_of_ble_eq_true rfl) (T_X6_isSet_51 E _ hc4) ?_
    refine s_if_eq (q := 15) (tgt := 28) dX6_round_12 rfl rfl (fun hb5 => ?_) (fun hb5 => ?_)
    · rw [if_pos hb5] at h
      refine s_aload_n (q := 29) dX6_round_28 rfl rfl 0 rfl ?_
      refine s_iconst (q := 30) (v := 0) dX6_round_29 rfl rfl ?_
      obtain ⟨q6, hc6, h⟩ := bnd h
      try dsimp only at h
      refine t_callV (q := 33) (N := mX6_no) (a := eB E + 51) [.int 0] dX6_round_30 rfl nkX6_no vkX6_no lX6_94 ⟨Nat.le_of_ble_eq_true rfl, Nat.le_of_ble_eq_true rfl⟩ (rc_obj (k := 51) rfl rfl) rfl rfl (Nat.le_of_ble_eq_true rfl) (Nat.le_of_ble_eq_true rfl) (T_X6_no_51 E _ hc6) ?_
      obtain rfl := Option.some.inj h
      exact t_iret dX6_round_33 rfl rfl
    · rw [if_neg hb5] at h
      refine s_aload_n (q := 16) dX6_round_15 rfl rfl 0 rfl ?_
      refine s_aload_n (q := 17) dX6_round_16 rfl rfl 0 rfl ?_
      refine s_iload_n (q := 18) dX6_round_17 rfl rfl 1 rfl ?_
      obtain ⟨q7, hc7, h⟩ := bnd h
      try dsimp only at h
      refine t_callV (q := 21) (N := mX6_at) (a := eB E + 51) [.int x1] dX6_round_18 rfl nkX6_at vkX6_at lX6_130 ⟨Nat.le_of_ble_eq_true rfl, Nat.le_of_ble_eq_true rfl⟩ (rc_obj (k := 51) rfl rfl) rfl rfl (Nat.le_of_ble_eq_true rfl) (Nat.le_of_ble_eq_true rfl) (T_X6_at_51 E _ hc7) ?_
      refine s_iload_n (q := 22) dX6_round_21 rfl rfl 2 rfl ?_
      obtain ⟨q8, hc8, h⟩ := bnd h
      try dsimp only at h
      refine t_callV (q := 25) (N := mX6_roundOf) (a := eB E + 51) [.int q7.1, .int x2] dX6_round_22 rfl nkX6_roundOf vkX6_roundOf lX6_148 ⟨Nat.le_of_ble_eq_true rfl, Nat.le_of_ble_eq_true rfl⟩ (rc_obj (k := 51) rfl rfl) rfl rfl (Nat.le_of_ble_eq_true rfl) (Nat.le_of_ble_eq_true rfl) (T_X6_roundOf_51 E _ _ hc8) ?_
      refine s_goto (tgt := 33) dX6_round_25 rfl ?_
      obtain rfl := Option.some.inj h
      exact t_iret dX6_round_33 rfl rfl
-- X5_bestSet
def G_X5_bestSet_0_27 : Nat → Int32 → Int32 → Int32 → Int32 → ST → Option (Int32 × ST)
  | 0, _, _, _, _, _ => none
  | n + 1, x1, x2, x3, x4, S => (if (1 <<< ((S.1 1 0) &&& 31)) ≤ x4 then some (x3, S) else ((G_X1_worthOf_1 x4 S).bind fun q4 => (if q4.1 ≤ x2 then G_X5_bestSet_0_27 n x1 x2 x3 (x4 + 1) q4.2 else ((G_J6_bitCount_0f7a4 x4 q4.2).bind fun q6 => (if (q6.2.1 8 3) < q6.1 then G_X5_bestSet_0_27 n x1 x2 x3 (x4 + 1) q6.2 else ((G_X4_stepsBy_35 x4 q6.2).bind fun q8 => (if inB x1 4 = true then (if (q8.2.1 7 x1.toNatClampNeg) < q8.1 then G_X5_bestSet_0_27 n x1 x2 x3 (x4 + 1) q8.2 else G_X5_bestSet_0_27 n x1 q4.1 x4 (x4 + 1) q8.2) else none)))))))
set_option maxHeartbeats 4000000 in
set_option maxRecDepth 100000 in
theorem T_X5_bestSet_0_27 (E : EV) : ∀ (n : Nat) (x1 : Int32) (x2 : Int32) (x3 : Int32) (x4 : Int32) (S : ST), ∀ (w : (Int32 × ST)), G_X5_bestSet_0_27 n x1 x2 x3 x4 S = some w → ∀ {Q : Option Value → ST → Prop}, SS E mX5_bestSet 108 [(3, .int w.1)] [] w.2 Q → SS E mX5_bestSet 27 [(0, .ref (eB E + 0)), (1, .int x1), (2, .int x2), (3, .int x3), (4, .int x4)] [] S Q := by
  intro n
  induction n with
  | zero =>
    intro x1 x2 x3 x4 S w h
    cases h
  | succ n ih =>
    intro x1 x2 x3 x4 S w h Q K
    unfold G_X5_bestSet_0_27 at h
    refine s_iload (q := 29) dX5_bestSet_27 rfl 4 rfl ?_
    refine s_iconst (q := 30) (v := 1) dX5_bestSet_29 rfl rfl ?_
    refine s_aload_n (q := 31) dX5_bestSet_30 rfl rfl 0 rfl ?_
    refine t_getR (q := 34) (k := 0) (f := 0) (t := 1) dX5_bestSet_31 rfl rfl rfl rfl inX5 (Nat.le_of_ble_eq_true rfl) fX5_10 ?_
    refine t_getI (q := 37) (k := 1) (f := 0) (v := (S.1 1 0)) dX5_bestSet_34 rfl rfl rfl rfl inX1 (Nat.le_of_ble_eq_true rfl) fX5_65 rfl ?_
    refine s_ishl (q := 38) dX5_bestSet_37 rfl ?_
    refine s_icmp_ge (q := 41) (tgt := 108) dX5_bestSet_38 rfl rfl (fun hb3 => ?_) (fun hb3 => ?_)
    · rw [if_pos hb3] at h
      obtain rfl := Option.some.inj h
      exact t_sub [3] rfl K
    · rw [if_neg hb3] at h
      refine s_aload_n (q := 42) dX5_bestSet_41 rfl rfl 0 rfl ?_
      refine t_getR (q := 45) (k := 0) (f := 0) (t := 1) dX5_bestSet_42 rfl rfl rfl rfl inX5 (Nat.le_of_ble_eq_true rfl) fX5_10 ?_
      refine s_iload (q := 47) dX5_bestSet_45 rfl 4 rfl ?_
      obtain ⟨q4, hc4, h⟩ := bnd h
      try dsimp only at h
      refine t_callV (q := 50) (N := mX1_worthOf) (a := eB E + 1) [.int x4] dX5_bestSet_47 rfl nkX1_worthOf vkX1_worthOf lX5_139 ⟨Nat.le_of_ble_eq_true rfl, Nat.le_of_ble_eq_true rfl⟩ (rc_obj (k := 1) rfl rfl) rfl rfl (Nat.le_of_ble_eq_true rfl) (Nat.le_of_ble_eq_true rfl) (T_X1_worthOf_1 E _ hc4) ?_
      refine s_istore (q := 52) (lv' := [(5, .int q4.1), (0, .ref (eB E + 0)), (1, .int x1), (2, .int x2), (3, .int x3), (4, .int x4)]) dX5_bestSet_50 rfl (Nat.le_of_ble_eq_true rfl) rfl ?_
      refine s_iload (q := 54) dX5_bestSet_52 rfl 0 rfl ?_
      refine s_iload_n (q := 55) dX5_bestSet_54 rfl rfl 3 rfl ?_
      refine s_icmp_le (q := 58) (tgt := 102) dX5_bestSet_55 rfl rfl (fun hb5 => ?_) (fun hb5 => ?_)
      · rw [if_pos hb5] at h
        refine s_iinc (q := 105) (j := 5) (v := (x4 + 1)) (lv' := [(4, .int (x4 + 1)), (5, .int q4.1), (0, .ref (eB E + 0)), (1, .int x1), (2, .int x2), (3, .int x3)]) dX5_bestSet_102 rfl rfl rfl (Nat.le_of_ble_eq_true rfl) rfl ?_
        refine s_goto (tgt := 27) dX5_bestSet_105 rfl ?_
        exact t_sub [2, 3, 4, 5, 0] rfl (ih _ _ _ _ _ _ h K)
      · rw [if_neg hb5] at h
        refine s_iload (q := 60) dX5_bestSet_58 rfl 5 rfl ?_
        obtain ⟨q6, hc6, h⟩ := bnd h
        try dsimp only at h
        refine t_callS (q := 63) (N := mJ6_bitCount_0f7a4) [.int x4] dX5_bestSet_60 rfl nkJ6_bitCount_0f7a4 sJ6_bitCount_0f7a4 lX5_130 ⟨Nat.le_of_ble_eq_true rfl, Nat.le_of_ble_eq_true rfl⟩ rfl rfl (Nat.le_of_ble_eq_true rfl) (Nat.le_of_ble_eq_true rfl) (T_J6_bitCount_0f7a4 E _ hc6) ?_
        refine s_aload_n (q := 64) dX5_bestSet_63 rfl rfl 1 rfl ?_
        refine t_getR (q := 67) (k := 0) (f := 0) (t := 1) dX5_bestSet_64 rfl rfl rfl rfl inX5 (Nat.le_of_ble_eq_true rfl) fX5_10 ?_
        refine t_getR (q := 70) (k := 1) (f := 7) (t := 8) dX5_bestSet_67 rfl rfl rfl rfl inX1 (Nat.le_of_ble_eq_true rfl) fX5_83 ?_
        refine s_iconst (q := 71) (v := 3) dX5_bestSet_70 rfl rfl ?_
        refine u_iald (q := 72) (k := 8) (j := 3) (v := (q6.2.1 8 3)) dX5_bestSet_71 rfl rfl (inB_in (by decide)) (by decide) rfl ?_
        refine s_icmp_gt (q := 75) (tgt := 102) dX5_bestSet_72 rfl rfl (fun hb7 => ?_) (fun hb7 => ?_)
        · rw [if_pos hb7] at h
          refine s_iinc (q := 105) (j := 5) (v := (x4 + 1)) (lv' := [(4, .int (x4 + 1)), (5, .int q4.1), (0, .ref (eB E + 0)), (1, .int x1), (2, .int x2), (3, .int x3)]) dX5_bestSet_102 rfl rfl rfl (Nat.le_of_ble_eq_true rfl) rfl ?_
          refine s_goto (tgt := 27) dX5_bestSet_105 rfl ?_
          exact t_sub [2, 3, 4, 5, 0] rfl (ih _ _ _ _ _ _ h K)
        · rw [if_neg hb7] at h
          refine s_aload_n (q := 76) dX5_bestSet_75 rfl rfl 1 rfl ?_
          refine t_getR (q := 79) (k := 0) (f := 6) (t := 35) dX5_bestSet_76 rfl rfl rfl rfl inX5 (Nat.le_of_ble_eq_true rfl) fX5_42 ?_
          refine s_iload (q := 81) dX5_bestSet_79 rfl 5 rfl ?_
          obtain ⟨q8, hc8, h⟩ := bnd h
          try dsimp only at h
          refine t_callV (q := 84) (N := mX4_stepsBy) (a := eB E + 35) [.int x4] dX5_bestSet_81 rfl nkX4_stepsBy vkX4_stepsBy lX5_177 ⟨Nat.le_of_ble_eq_true rfl, Nat.le_of_ble_eq_true rfl⟩ (rc_obj (k := 35) rfl rfl) rfl rfl (Nat.le_of_ble_eq_true rfl) (Nat.le_of_ble_eq_true rfl) (T_X4_stepsBy_35 E _ hc8) ?_
          refine s_aload_n (q := 85) dX5_bestSet_84 rfl rfl 1 rfl ?_
          refine t_getR (q := 88) (k := 0) (f := 0) (t := 1) dX5_bestSet_85 rfl rfl rfl rfl inX5 (Nat.le_of_ble_eq_true rfl) fX5_10 ?_
          refine t_getR (q := 91) (k := 1) (f := 6) (t := 7) dX5_bestSet_88 rfl rfl rfl rfl inX1 (Nat.le_of_ble_eq_true rfl) fX5_275 ?_
          refine s_iload_n (q := 92) dX5_bestSet_91 rfl rfl 2 rfl ?_
          obtain ⟨hg9, h⟩ := chk_some h
          refine u_iald (q := 93) (k := 7) (v := (q8.2.1 7 x1.toNatClampNeg)) dX5_bestSet_92 rfl rfl (inB_in hg9) rfl rfl ?_
          refine s_icmp_gt (q := 96) (tgt := 102) dX5_bestSet_93 rfl rfl (fun hb10 => ?_) (fun hb10 => ?_)
          · rw [if_pos hb10] at h
            refine s_iinc (q := 105) (j := 5) (v := (x4 + 1)) (lv' := [(4, .int (x4 + 1)), (5, .int q4.1), (0, .ref (eB E + 0)), (1, .int x1), (2, .int x2), (3, .int x3)]) dX5_bestSet_102 rfl rfl rfl (Nat.le_of_ble_eq_true rfl) rfl ?_
            refine s_goto (tgt := 27) dX5_bestSet_105 rfl ?_
            exact t_sub [2, 3, 4, 5, 0] rfl (ih _ _ _ _ _ _ h K)
          · rw [if_neg hb10] at h
            refine s_iload (q := 98) dX5_bestSet_96 rfl 0 rfl ?_
            refine s_istore_n (q := 99) (lv' := [(2, .int q4.1), (5, .int q4.1), (0, .ref (eB E + 0)), (1, .int x1), (3, .int x3), (4, .int x4)]) dX5_bestSet_98 rfl rfl (Nat.le_of_ble_eq_true rfl) rfl ?_
            refine s_iload (q := 101) dX5_bestSet_99 rfl 5 rfl ?_
            refine s_istore_n (q := 102) (lv' := [(3, .int x4), (2, .int q4.1), (5, .int q4.1), (0, .ref (eB E + 0)), (1, .int x1), (4, .int x4)]) dX5_bestSet_101 rfl rfl (Nat.le_of_ble_eq_true rfl) rfl ?_
            refine s_iinc (q := 105) (j := 5) (v := (x4 + 1)) (lv' := [(4, .int (x4 + 1)), (3, .int x4), (2, .int q4.1), (5, .int q4.1), (0, .ref (eB E + 0)), (1, .int x1)]) dX5_bestSet_102 rfl rfl rfl (Nat.le_of_ble_eq_true rfl) rfl ?_
            refine s_goto (tgt := 27) dX5_bestSet_105 rfl ?_
            exact t_sub [4, 5, 2, 1, 0] rfl (ih _ _ _ _ _ _ h K)
def G_X5_bestSet_0 (x1 : Int32) (S : ST) : Option (Int32 × ST) := (if inB x1 4 = true then ((G_X4_standAt_35_1 (S.1 6 x1.toNatClampNeg) S).bind fun q2 => (G_X5_bestSet_0_27 3000 x1 0 0 1 q2.2).bind fun q11 => some (q11.1, q11.2)) else none)
set_option maxHeartbeats 4000000 in
set_option maxRecDepth 100000 in
theorem T_X5_bestSet_0 (E : EV) (x1 : Int32) {S : ST} {w : (Int32 × ST)} (h : G_X5_bestSet_0 x1 S = some w) : SD E mX5_bestSet 0 [(0, .ref (eB E + 0)), (1, .int x1)] [] S (some (.int w.1)) w.2 := by
  unfold G_X5_bestSet_0 at h
  refine s_aload_n (q := 1) dX5_bestSet_0 rfl rfl 0 rfl ?_
  refine t_getR (q := 4) (k := 0) (f := 6) (t := 35) dX5_bestSet_1 rfl rfl rfl rfl inX5 (Nat.le_of_ble_eq_true rfl) fX5_42 ?_
  refine s_aload_n (q := 5) dX5_bestSet_4 rfl rfl 0 rfl ?_
  refine t_getR (q := 8) (k := 0) (f := 0) (t := 1) dX5_bestSet_5 rfl rfl rfl rfl inX5 (Nat.le_of_ble_eq_true rfl) fX5_10 ?_
  refine s_aload_n (q := 9) dX5_bestSet_8 rfl rfl 0 rfl ?_
  refine t_getR (q := 12) (k := 0) (f := 0) (t := 1) dX5_bestSet_9 rfl rfl rfl rfl inX5 (Nat.le_of_ble_eq_true rfl) fX5_10 ?_
  refine t_getR (q := 15) (k := 1) (f := 5) (t := 6) dX5_bestSet_12 rfl rfl rfl rfl inX1 (Nat.le_of_ble_eq_true rfl) fX5_142 ?_
  refine s_iload_n (q := 16) dX5_bestSet_15 rfl rfl 1 rfl ?_
  obtain ⟨hg1, h⟩ := chk_some h
  refine u_iald (q := 17) (k := 6) (v := (S.1 6 x1.toNatClampNeg)) dX5_bestSet_16 rfl rfl (inB_in hg1) rfl rfl ?_
  obtain ⟨q2, hc2, h⟩ := bnd h
  try dsimp only at h
  refine t_callV (q := 20) (N := mX4_standAt) (a := eB E + 35) [.ref (eB E + 1), .int (S.1 6 x1.toNatClampNeg)] dX5_bestSet_17 rfl nkX4_standAt vkX4_standAt lX5_173 ⟨Nat.le_of_ble_eq_true rfl, Nat.le_of_ble_eq_true rfl⟩ (rc_obj (k := 35) rfl rfl) rfl rfl (Nat.le_of_ble_eq_true rfl) (Nat.le_of_ble_eq_true rfl) (T_X4_standAt_35_1 E _ hc2) ?_
  refine s_iconst (q := 21) (v := 0) dX5_bestSet_20 rfl rfl ?_
  refine s_istore_n (q := 22) (lv' := [(2, .int 0), (0, .ref (eB E + 0)), (1, .int x1)]) dX5_bestSet_21 rfl rfl (Nat.le_of_ble_eq_true rfl) rfl ?_
  refine s_iconst (q := 23) (v := 0) dX5_bestSet_22 rfl rfl ?_
  refine s_istore_n (q := 24) (lv' := [(3, .int 0), (2, .int 0), (0, .ref (eB E + 0)), (1, .int x1)]) dX5_bestSet_23 rfl rfl (Nat.le_of_ble_eq_true rfl) rfl ?_
  refine s_iconst (q := 25) (v := 1) dX5_bestSet_24 rfl rfl ?_
  refine s_istore (q := 27) (lv' := [(4, .int 1), (3, .int 0), (2, .int 0), (0, .ref (eB E + 0)), (1, .int x1)]) dX5_bestSet_25 rfl (Nat.le_of_ble_eq_true rfl) rfl ?_
  obtain ⟨q11, hc11, h⟩ := bnd h
  try dsimp only at h
  refine t_sub [3, 4, 2, 1, 0] rfl (T_X5_bestSet_0_27 E _ _ _ _ _ _ _ hc11 ?_)
  refine s_iload_n (q := 109) dX5_bestSet_108 rfl rfl 0 rfl ?_
  obtain rfl := Option.some.inj h
  exact t_iret dX5_bestSet_109 rfl rfl
-- X5_best
def G_X5_best_0 (x1 : Int32) (S : ST) : Option (Int32 × ST) := ((G_X5_isBelow x1 4 S).bind fun q1 => (if q1.1 = 0 then ((G_X5_finding_0 0 q1.2).bind fun q4 => some (q4.1, q4.2)) else ((G_X5_bestSet_0 x1 q1.2).bind fun q3 => some (q3.1, q3.2))))
set_option maxHeartbeats 4000000 in
set_option maxRecDepth 100000 in
theorem T_X5_best_0 (E : EV) (x1 : Int32) {S : ST} {w : (Int32 × ST)} (h : G_X5_best_0 x1 S = some w) : SD E mX5_best 0 [(0, .ref (eB E + 0)), (1, .int x1)] [] S (some (.int w.1)) w.2 := by
  unfold G_X5_best_0 at h
  refine s_iload_n (q := 1) dX5_best_0 rfl rfl 1 rfl ?_
  refine s_iconst (q := 2) (v := 4) dX5_best_1 rfl rfl ?_
  obtain ⟨q1, hc1, h⟩ := bnd h
  try dsimp only at h
  refine t_callS (q := 5) (N := mX5_isBelow) [.int x1, .int 4] dX5_best_2 rfl nkX5_isBelow sX5_isBelow lX5_57 ⟨Nat.le_of_ble_eq_true rfl, Nat.le_of_ble_eq_true rfl⟩ rfl rfl (Nat.le_of_ble_eq_true rfl) (Nat.le_of_ble_eq_true rfl) (T_X5_isBelow E _ _ hc1) ?_
  refine s_if_ne (q := 8) (tgt := 14) dX5_best_5 rfl rfl (fun hb2 => ?_) (fun hb2 => ?_)
  · rw [if_neg hb2] at h
    refine s_aload_n (q := 15) dX5_best_14 rfl rfl 0 rfl ?_
    refine s_iload_n (q := 16) dX5_best_15 rfl rfl 1 rfl ?_
    obtain ⟨q3, hc3, h⟩ := bnd h
    try dsimp only at h
    refine t_callV (q := 19) (N := mX5_bestSet) (a := eB E + 0) [.int x1] dX5_best_16 rfl nkX5_bestSet vkX5_bestSet lX5_180 ⟨Nat.le_of_ble_eq_true rfl, Nat.le_of_ble_eq_true rfl⟩ (rc_obj (k := 0) rfl rfl) rfl rfl (Nat.le_of_ble_eq_true rfl) (Nat.le_of_ble_eq_true rfl) (T_X5_bestSet_0 E _ hc3) ?_
    obtain rfl := Option.some.inj h
    exact t_iret dX5_best_19 rfl rfl
  · rw [if_pos hb2] at h
    refine s_aload_n (q := 9) dX5_best_8 rfl rfl 0 rfl ?_
    refine s_iconst (q := 10) (v := 0) dX5_best_9 rfl rfl ?_
    obtain ⟨q4, hc4, h⟩ := bnd h
    try dsimp only at h
    refine t_callV (q := 13) (N := mX5_finding) (a := eB E + 0) [.int 0] dX5_best_10 rfl nkX5_finding vkX5_finding lX5_61 ⟨Nat.le_of_ble_eq_true rfl, Nat.le_of_ble_eq_true rfl⟩ (rc_obj (k := 0) rfl rfl) rfl rfl (Nat.le_of_ble_eq_true rfl) (Nat.le_of_ble_eq_true rfl) (T_X5_finding_0 E _ hc4) ?_
    obtain rfl := Option.some.inj h
    exact t_iret dX5_best_13 rfl rfl
-- X6_stepsOf
def G_X6_stepsOf_51 (x1 : Int32) (S : ST) : Option (Int32 × ST) := (if inB ((8 + (2 * x1)) + 1) 72 = true then some ((S.1 52 (((8 + (2 * x1)) + 1).toNatClampNeg)), S) else none)
set_option maxHeartbeats 4000000 in
set_option maxRecDepth 100000 in
theorem T_X6_stepsOf_51 (E : EV) (x1 : Int32) {S : ST} {w : (Int32 × ST)} (h : G_X6_stepsOf_51 x1 S = some w) : SD E mX6_stepsOf 0 [(0, .ref (eB E + 51)), (1, .int x1)] [] S (some (.int w.1)) w.2 := by
  unfold G_X6_stepsOf_51 at h
  refine s_aload_n (q := 1) dX6_stepsOf_0 rfl rfl 0 rfl ?_
  refine t_getR (q := 4) (k := 51) (f := 0) (t := 52) dX6_stepsOf_1 rfl rfl rfl rfl inX6 (Nat.le_of_ble_eq_true rfl) fX6_9 ?_
  refine s_bipush (q := 6) (v := 8) dX6_stepsOf_4 rfl rfl ?_
  refine s_iconst (q := 7) (v := 2) dX6_stepsOf_6 rfl rfl ?_
  refine s_iload_n (q := 8) dX6_stepsOf_7 rfl rfl 1 rfl ?_
  refine s_imul (q := 9) dX6_stepsOf_8 rfl ?_
  refine s_iadd (q := 10) dX6_stepsOf_9 rfl ?_
  refine s_iconst (q := 11) (v := 1) dX6_stepsOf_10 rfl rfl ?_
  refine s_iadd (q := 12) dX6_stepsOf_11 rfl ?_
  obtain ⟨hg1, h⟩ := chk_some h
  refine u_iald (q := 13) (k := 52) (v := (S.1 52 (((8 + (2 * x1)) + 1).toNatClampNeg))) dX6_stepsOf_12 rfl rfl (inB_in hg1) rfl rfl ?_
  obtain rfl := Option.some.inj h
  exact t_iret dX6_stepsOf_13 rfl rfl
-- X6_bestOf
def G_X6_bestOf_51_4 : Nat → Int32 → Int32 → Int32 → ST → Option (Int32 × ST)
  | 0, _, _, _, _ => none
  | n + 1, x1, x2, x3, S => (if (1 <<< ((S.1 52 1) &&& 31)) ≤ x3 then some (x2, S) else ((G_X6_worthOf_51 x3 S).bind fun q2 => ((G_X6_worthOf_51 x2 q2.2).bind fun q3 => (if q2.1 ≤ q3.1 then (if (0 : Int32) = 0 then G_X6_bestOf_51_4 n x1 x2 (x3 + 1) q3.2 else ((G_X6_at_51 x1 q3.2).bind fun q6 => ((G_X6_roundOf_51 q6.1 x3 q6.2).bind fun q7 => ((G_X6_stepsOf_51 x1 q7.2).bind fun q8 => (if q8.1 < q7.1 then G_X6_bestOf_51_4 n x1 x2 (x3 + 1) q8.2 else G_X6_bestOf_51_4 n x1 x3 (x3 + 1) q8.2))))) else ((G_X6_bits x3 q3.2).bind fun q10 => (if (q10.2.1 52 7) < q10.1 then (if (0 : Int32) = 0 then G_X6_bestOf_51_4 n x1 x2 (x3 + 1) q10.2 else ((G_X6_at_51 x1 q10.2).bind fun q13 => ((G_X6_roundOf_51 q13.1 x3 q13.2).bind fun q14 => ((G_X6_stepsOf_51 x1 q14.2).bind fun q15 => (if q15.1 < q14.1 then G_X6_bestOf_51_4 n x1 x2 (x3 + 1) q15.2 else G_X6_bestOf_51_4 n x1 x3 (x3 + 1) q15.2))))) else (if (1 : Int32) = 0 then G_X6_bestOf_51_4 n x1 x2 (x3 + 1) q10.2 else ((G_X6_at_51 x1 q10.2).bind fun q18 => ((G_X6_roundOf_51 q18.1 x3 q18.2).bind fun q19 => ((G_X6_stepsOf_51 x1 q19.2).bind fun q20 => (if q20.1 < q19.1 then G_X6_bestOf_51_4 n x1 x2 (x3 + 1) q20.2 else G_X6_bestOf_51_4 n x1 x3 (x3 + 1) q20.2)))))))))))
set_option maxHeartbeats 4000000 in
set_option maxRecDepth 100000 in
theorem T_X6_bestOf_51_4 (E : EV) : ∀ (n : Nat) (x1 : Int32) (x2 : Int32) (x3 : Int32) (S : ST), ∀ (w : (Int32 × ST)), G_X6_bestOf_51_4 n x1 x2 x3 S = some w → ∀ {Q : Option Value → ST → Prop}, SS E mX6_bestOf 85 [(2, .int w.1)] [] w.2 Q → SS E mX6_bestOf 4 [(0, .ref (eB E + 51)), (1, .int x1), (2, .int x2), (3, .int x3)] [] S Q := by
  intro n
  induction n with
  | zero =>
    intro x1 x2 x3 S w h
    cases h
  | succ n ih =>
    intro x1 x2 x3 S w h Q K
    unfold G_X6_bestOf_51_4 at h
    refine s_iload_n (q := 5) dX6_bestOf_4 rfl rfl 3 rfl ?_
    refine s_iconst (q := 6) (v := 1) dX6_bestOf_5 rfl rfl ?_
    refine s_aload_n (q := 7) dX6_bestOf_6 rfl rfl 0 rfl ?_
    refine t_getR (q := 10) (k := 51) (f := 0) (t := 52) dX6_bestOf_7 rfl rfl rfl rfl inX6 (Nat.le_of_ble_eq_true rfl) fX6_9 ?_
    refine s_iconst (q := 11) (v := 1) dX6_bestOf_10 rfl rfl ?_
    refine u_iald (q := 12) (k := 52) (j := 1) (v := (S.1 52 1)) dX6_bestOf_11 rfl rfl (inB_in (by decide)) (by decide) rfl ?_
    refine s_ishl (q := 13) dX6_bestOf_12 rfl ?_
    refine s_icmp_ge (q := 16) (tgt := 85) dX6_bestOf_13 rfl rfl (fun hb1 => ?_) (fun hb1 => ?_)
    · rw [if_pos hb1] at h
      obtain rfl := Option.some.inj h
      exact t_sub [2] rfl K
    · rw [if_neg hb1] at h
      refine s_aload_n (q := 17) dX6_bestOf_16 rfl rfl 0 rfl ?_
      refine s_iload_n (q := 18) dX6_bestOf_17 rfl rfl 3 rfl ?_
      obtain ⟨q2, hc2, h⟩ := bnd h
      try dsimp only at h
      refine t_callV (q := 21) (N := mX6_worthOf) (a := eB E + 51) [.int x3] dX6_bestOf_18 rfl nkX6_worthOf vkX6_worthOf lX6_127 ⟨Nat.le_of_ble_eq_true rfl, Nat.le_of_ble_eq_true rfl⟩ (rc_obj (k := 51) rfl rfl) rfl rfl (Nat.le_of_ble_eq_true rfl) (Nat.le_of_ble_eq_true rfl) (T_X6_worthOf_51 E _ hc2) ?_
      refine s_aload_n (q := 22) dX6_bestOf_21 rfl rfl 0 rfl ?_
      refine s_iload_n (q := 23) dX6_bestOf_22 rfl rfl 2 rfl ?_
      obtain ⟨q3, hc3, h⟩ := bnd h
      try dsimp only at h
      refine t_callV (q := 26) (N := mX6_worthOf) (a := eB E + 51) [.int x2] dX6_bestOf_23 rfl nkX6_worthOf vkX6_worthOf lX6_127 ⟨Nat.le_of_ble_eq_true rfl, Nat.le_of_ble_eq_true rfl⟩ (rc_obj (k := 51) rfl rfl) rfl rfl (Nat.le_of_ble_eq_true rfl) (Nat.le_of_ble_eq_true rfl) (T_X6_worthOf_51 E _ hc3) ?_
      refine s_icmp_le (q := 29) (tgt := 47) dX6_bestOf_26 rfl rfl (fun hb4 => ?_) (fun hb4 => ?_)
      · rw [if_pos hb4] at h
        refine s_iconst (q := 48) (v := 0) dX6_bestOf_47 rfl rfl ?_
        refine s_istore (q := 50) (lv' := [(4, .int 0), (0, .ref (eB E + 51)), (1, .int x1), (2, .int x2), (3, .int x3)]) dX6_bestOf_48 rfl (Nat.le_of_ble_eq_true rfl) rfl ?_
        refine s_iload (q := 52) dX6_bestOf_50 rfl 0 rfl ?_
        refine s_if_eq (q := 55) (tgt := 77) dX6_bestOf_52 rfl rfl (fun hb5 => ?_) (fun hb5 => ?_)
        · rw [if_pos hb5] at h
          refine s_iload_n (q := 78) dX6_bestOf_77 rfl rfl 3 rfl ?_
          refine s_istore_n (q := 79) (lv' := [(2, .int x2), (4, .int 0), (0, .ref (eB E + 51)), (1, .int x1), (3, .int x3)]) dX6_bestOf_78 rfl rfl (Nat.le_of_ble_eq_true rfl) rfl ?_
          refine s_iinc (q := 82) (j := 4) (v := (x3 + 1)) (lv' := [(3, .int (x3 + 1)), (2, .int x2), (4, .int 0), (0, .ref (eB E + 51)), (1, .int x1)]) dX6_bestOf_79 rfl rfl rfl (Nat.le_of_ble_eq_true rfl) rfl ?_
          refine s_goto (tgt := 4) dX6_bestOf_82 rfl ?_
          exact t_sub [3, 4, 1, 0] rfl (ih _ _ _ _ _ h K)
        · rw [if_neg hb5] at h
          refine s_aload_n (q := 56) dX6_bestOf_55 rfl rfl 1 rfl ?_
          refine s_aload_n (q := 57) dX6_bestOf_56 rfl rfl 1 rfl ?_
          refine s_iload_n (q := 58) dX6_bestOf_57 rfl rfl 2 rfl ?_
          obtain ⟨q6, hc6, h⟩ := bnd h
          try dsimp only at h
          refine t_callV (q := 61) (N := mX6_at) (a := eB E + 51) [.int x1] dX6_bestOf_58 rfl nkX6_at vkX6_at lX6_130 ⟨Nat.le_of_ble_eq_true rfl, Nat.le_of_ble_eq_true rfl⟩ (rc_obj (k := 51) rfl rfl) rfl rfl (Nat.le_of_ble_eq_true rfl) (Nat.le_of_ble_eq_true rfl) (T_X6_at_51 E _ hc6) ?_
          refine s_iload_n (q := 62) dX6_bestOf_61 rfl rfl 4 rfl ?_
          obtain ⟨q7, hc7, h⟩ := bnd h
          try dsimp only at h
          refine t_callV (q := 65) (N := mX6_roundOf) (a := eB E + 51) [.int q6.1, .int x3] dX6_bestOf_62 rfl nkX6_roundOf vkX6_roundOf lX6_148 ⟨Nat.le_of_ble_eq_true rfl, Nat.le_of_ble_eq_true rfl⟩ (rc_obj (k := 51) rfl rfl) rfl rfl (Nat.le_of_ble_eq_true rfl) (Nat.le_of_ble_eq_true rfl) (T_X6_roundOf_51 E _ _ hc7) ?_
          refine s_aload_n (q := 66) dX6_bestOf_65 rfl rfl 1 rfl ?_
          refine s_iload_n (q := 67) dX6_bestOf_66 rfl rfl 2 rfl ?_
          obtain ⟨q8, hc8, h⟩ := bnd h
          try dsimp only at h
          refine t_callV (q := 70) (N := mX6_stepsOf) (a := eB E + 51) [.int x1] dX6_bestOf_67 rfl nkX6_stepsOf vkX6_stepsOf lX6_151 ⟨Nat.le_of_ble_eq_true rfl, Nat.le_of_ble_eq_true rfl⟩ (rc_obj (k := 51) rfl rfl) rfl rfl (Nat.le_of_ble_eq_true rfl) (Nat.le_of_ble_eq_true rfl) (T_X6_stepsOf_51 E _ hc8) ?_
          refine s_icmp_gt (q := 73) (tgt := 77) dX6_bestOf_70 rfl rfl (fun hb9 => ?_) (fun hb9 => ?_)
          · rw [if_pos hb9] at h
            refine s_iload_n (q := 78) dX6_bestOf_77 rfl rfl 3 rfl ?_
            refine s_istore_n (q := 79) (lv' := [(2, .int x2), (4, .int 0), (0, .ref (eB E + 51)), (1, .int x1), (3, .int x3)]) dX6_bestOf_78 rfl rfl (Nat.le_of_ble_eq_true rfl) rfl ?_
            refine s_iinc (q := 82) (j := 4) (v := (x3 + 1)) (lv' := [(3, .int (x3 + 1)), (2, .int x2), (4, .int 0), (0, .ref (eB E + 51)), (1, .int x1)]) dX6_bestOf_79 rfl rfl rfl (Nat.le_of_ble_eq_true rfl) rfl ?_
            refine s_goto (tgt := 4) dX6_bestOf_82 rfl ?_
            exact t_sub [3, 4, 1, 0] rfl (ih _ _ _ _ _ h K)
          · rw [if_neg hb9] at h
            refine s_iload_n (q := 74) dX6_bestOf_73 rfl rfl 4 rfl ?_
            refine s_goto (tgt := 78) dX6_bestOf_74 rfl ?_
            refine s_istore_n (q := 79) (lv' := [(2, .int x3), (4, .int 0), (0, .ref (eB E + 51)), (1, .int x1), (3, .int x3)]) dX6_bestOf_78 rfl rfl (Nat.le_of_ble_eq_true rfl) rfl ?_
            refine s_iinc (q := 82) (j := 4) (v := (x3 + 1)) (lv' := [(3, .int (x3 + 1)), (2, .int x3), (4, .int 0), (0, .ref (eB E + 51)), (1, .int x1)]) dX6_bestOf_79 rfl rfl rfl (Nat.le_of_ble_eq_true rfl) rfl ?_
            refine s_goto (tgt := 4) dX6_bestOf_82 rfl ?_
            exact t_sub [3, 4, 1, 0] rfl (ih _ _ _ _ _ h K)
      · rw [if_neg hb4] at h
        refine s_iload_n (q := 30) dX6_bestOf_29 rfl rfl 3 rfl ?_
        obtain ⟨q10, hc10, h⟩ := bnd h
        try dsimp only at h
        refine t_callS (q := 33) (N := mX6_bits) [.int x3] dX6_bestOf_30 rfl nkX6_bits sX6_bits lX6_121 ⟨Nat.le_of_ble_eq_true rfl, Nat.le_of_ble_eq_true rfl⟩ rfl rfl (Nat.le_of_ble_eq_true rfl) (Nat.le_of_ble_eq_true rfl) (T_X6_bits E _ hc10) ?_
        refine s_aload_n (q := 34) dX6_bestOf_33 rfl rfl 0 rfl ?_
        refine t_getR (q := 37) (k := 51) (f := 0) (t := 52) dX6_bestOf_34 rfl rfl rfl rfl inX6 (Nat.le_of_ble_eq_true rfl) fX6_9 ?_
        refine s_bipush (q := 39) (v := 7) dX6_bestOf_37 rfl rfl ?_
        refine u_iald (q := 40) (k := 52) (j := 7) (v := (q10.2.1 52 7)) dX6_bestOf_39 rfl rfl (inB_in (by decide)) (by decide) rfl ?_
        refine s_icmp_gt (q := 43) (tgt := 47) dX6_bestOf_40 rfl rfl (fun hb11 => ?_) (fun hb11 => ?_)
        · rw [if_pos hb11] at h
          refine s_iconst (q := 48) (v := 0) dX6_bestOf_47 rfl rfl ?_
          refine s_istore (q := 50) (lv' := [(4, .int 0), (0, .ref (eB E + 51)), (1, .int x1), (2, .int x2), (3, .int x3)]) dX6_bestOf_48 rfl (Nat.le_of_ble_eq_true rfl) rfl ?_
          refine s_iload (q := 52) dX6_bestOf_50 rfl 0 rfl ?_
          refine s_if_eq (q := 55) (tgt := 77) dX6_bestOf_52 rfl rfl (fun hb12 => ?_) (fun hb12 => ?_)
          · rw [if_pos hb12] at h
            refine s_iload_n (q := 78) dX6_bestOf_77 rfl rfl 3 rfl ?_
            refine s_istore_n (q := 79) (lv' := [(2, .int x2), (4, .int 0), (0, .ref (eB E + 51)), (1, .int x1), (3, .int x3)]) dX6_bestOf_78 rfl rfl (Nat.le_of_ble_eq_true rfl) rfl ?_
            refine s_iinc (q := 82) (j := 4) (v := (x3 + 1)) (lv' := [(3, .int (x3 + 1)), (2, .int x2), (4, .int 0), (0, .ref (eB E + 51)), (1, .int x1)]) dX6_bestOf_79 rfl rfl rfl (Nat.le_of_ble_eq_true rfl) rfl ?_
            refine s_goto (tgt := 4) dX6_bestOf_82 rfl ?_
            exact t_sub [3, 4, 1, 0] rfl (ih _ _ _ _ _ h K)
          · rw [if_neg hb12] at h
            refine s_aload_n (q := 56) dX6_bestOf_55 rfl rfl 1 rfl ?_
            refine s_aload_n (q := 57) dX6_bestOf_56 rfl rfl 1 rfl ?_
            refine s_iload_n (q := 58) dX6_bestOf_57 rfl rfl 2 rfl ?_
            obtain ⟨q13, hc13, h⟩ := bnd h
            try dsimp only at h
            refine t_callV (q := 61) (N := mX6_at) (a := eB E + 51) [.int x1] dX6_bestOf_58 rfl nkX6_at vkX6_at lX6_130 ⟨Nat.le_of_ble_eq_true rfl, Nat.le_of_ble_eq_true rfl⟩ (rc_obj (k := 51) rfl rfl) rfl rfl (Nat.le_of_ble_eq_true rfl) (Nat.le_of_ble_eq_true rfl) (T_X6_at_51 E _ hc13) ?_
            refine s_iload_n (q := 62) dX6_bestOf_61 rfl rfl 4 rfl ?_
            obtain ⟨q14, hc14, h⟩ := bnd h
            try dsimp only at h
            refine t_callV (q := 65) (N := mX6_roundOf) (a := eB E + 51) [.int q13.1, .int x3] dX6_bestOf_62 rfl nkX6_roundOf vkX6_roundOf lX6_148 ⟨Nat.le_of_ble_eq_true rfl, Nat.le_of_ble_eq_true rfl⟩ (rc_obj (k := 51) rfl rfl) rfl rfl (Nat.le_of_ble_eq_true rfl) (Nat.le_of_ble_eq_true rfl) (T_X6_roundOf_51 E _ _ hc14) ?_
            refine s_aload_n (q := 66) dX6_bestOf_65 rfl rfl 1 rfl ?_
            refine s_iload_n (q := 67) dX6_bestOf_66 rfl rfl 2 rfl ?_
            obtain ⟨q15, hc15, h⟩ := bnd h
            try dsimp only at h
            refine t_callV (q := 70) (N := mX6_stepsOf) (a := eB E + 51) [.int x1] dX6_bestOf_67 rfl nkX6_stepsOf vkX6_stepsOf lX6_151 ⟨Nat.le_of_ble_eq_true rfl, Nat.le_of_ble_eq_true rfl⟩ (rc_obj (k := 51) rfl rfl) rfl rfl (Nat.le_of_ble_eq_true rfl) (Nat.le_of_ble_eq_true rfl) (T_X6_stepsOf_51 E _ hc15) ?_
            refine s_icmp_gt (q := 73) (tgt := 77) dX6_bestOf_70 rfl rfl (fun hb16 => ?_) (fun hb16 => ?_)
            · rw [if_pos hb16] at h
              refine s_iload_n (q := 78) dX6_bestOf_77 rfl rfl 3 rfl ?_
              refine s_istore_n (q := 79) (lv' := [(2, .int x2), (4, .int 0), (0, .ref (eB E + 51)), (1, .int x1), (3, .int x3)]) dX6_bestOf_78 rfl rfl (Nat.le_of_ble_eq_true rfl) rfl ?_
              refine s_iinc (q := 82) (j := 4) (v := (x3 + 1)) (lv' := [(3, .int (x3 + 1)), (2, .int x2), (4, .int 0), (0, .ref (eB E + 51)), (1, .int x1)]) dX6_bestOf_79 rfl rfl rfl (Nat.le_of_ble_eq_true rfl) rfl ?_
              refine s_goto (tgt := 4) dX6_bestOf_82 rfl ?_
              exact t_sub [3, 4, 1, 0] rfl (ih _ _ _ _ _ h K)
            · rw [if_neg hb16] at h
              refine s_iload_n (q := 74) dX6_bestOf_73 rfl rfl 4 rfl ?_
              refine s_goto (tgt := 78) dX6_bestOf_74 rfl ?_
              refine s_istore_n (q := 79) (lv' := [(2, .int x3), (4, .int 0), (0, .ref (eB E + 51)), (1, .int x1), (3, .int x3)]) dX6_bestOf_78 rfl rfl (Nat.le_of_ble_eq_true rfl) rfl ?_
              refine s_iinc (q := 82) (j := 4) (v := (x3 + 1)) (lv' := [(3, .int (x3 + 1)), (2, .int x3), (4, .int 0), (0, .ref (eB E + 51)), (1, .int x1)]) dX6_bestOf_79 rfl rfl rfl (Nat.le_of_ble_eq_true rfl) rfl ?_
              refine s_goto (tgt := 4) dX6_bestOf_82 rfl ?_
              exact t_sub [3, 4, 1, 0] rfl (ih _ _ _ _ _ h K)
        · rw [if_neg hb11] at h
          refine s_iconst (q := 44) (v := 1) dX6_bestOf_43 rfl rfl ?_
          refine s_goto (tgt := 48) dX6_bestOf_44 rfl ?_
          refine s_istore (q := 50) (lv' := [(4, .int 1), (0, .ref (eB E + 51)), (1, .int x1), (2, .int x2), (3, .int x3)]) dX6_bestOf_48 rfl (Nat.le_of_ble_eq_true rfl) rfl ?_
          refine s_iload (q := 52) dX6_bestOf_50 rfl 0 rfl ?_
          refine s_if_eq (q := 55) (tgt := 77) dX6_bestOf_52 rfl rfl (fun hb17 => ?_) (fun hb17 => ?_)
          · rw [if_pos hb17] at h
            refine s_iload_n (q := 78) dX6_bestOf_77 rfl rfl 3 rfl ?_
            refine s_istore_n (q := 79) (lv' := [(2, .int x2), (4, .int 1), (0, .ref (eB E + 51)), (1, .int x1), (3, .int x3)]) dX6_bestOf_78 rfl rfl (Nat.le_of_ble_eq_true rfl) rfl ?_
            refine s_iinc (q := 82) (j := 4) (v := (x3 + 1)) (lv' := [(3, .int (x3 + 1)), (2, .int x2), (4, .int 1), (0, .ref (eB E + 51)), (1, .int x1)]) dX6_bestOf_79 rfl rfl rfl (Nat.le_of_ble_eq_true rfl) rfl ?_
            refine s_goto (tgt := 4) dX6_bestOf_82 rfl ?_
            exact t_sub [3, 4, 1, 0] rfl (ih _ _ _ _ _ h K)
          · rw [if_neg hb17] at h
            refine s_aload_n (q := 56) dX6_bestOf_55 rfl rfl 1 rfl ?_
            refine s_aload_n (q := 57) dX6_bestOf_56 rfl rfl 1 rfl ?_
            refine s_iload_n (q := 58) dX6_bestOf_57 rfl rfl 2 rfl ?_
            obtain ⟨q18, hc18, h⟩ := bnd h
            try dsimp only at h
            refine t_callV (q := 61) (N := mX6_at) (a := eB E + 51) [.int x1] dX6_bestOf_58 rfl nkX6_at vkX6_at lX6_130 ⟨Nat.le_of_ble_eq_true rfl, Nat.le_of_ble_eq_true rfl⟩ (rc_obj (k := 51) rfl rfl) rfl rfl (Nat.le_of_ble_eq_true rfl) (Nat.le_of_ble_eq_true rfl) (T_X6_at_51 E _ hc18) ?_
            refine s_iload_n (q := 62) dX6_bestOf_61 rfl rfl 4 rfl ?_
            obtain ⟨q19, hc19, h⟩ := bnd h
            try dsimp only at h
            refine t_callV (q := 65) (N := mX6_roundOf) (a := eB E + 51) [.int q18.1, .int x3] dX6_bestOf_62 rfl nkX6_roundOf vkX6_roundOf lX6_148 ⟨Nat.le_of_ble_eq_true rfl, Nat.le_of_ble_eq_true rfl⟩ (rc_obj (k := 51) rfl rfl) rfl rfl (Nat.le_of_ble_eq_true rfl) (Nat.le_of_ble_eq_true rfl) (T_X6_roundOf_51 E _ _ hc19) ?_
            refine s_aload_n (q := 66) dX6_bestOf_65 rfl rfl 1 rfl ?_
            refine s_iload_n (q := 67) dX6_bestOf_66 rfl rfl 2 rfl ?_
            obtain ⟨q20, hc20, h⟩ := bnd h
            try dsimp only at h
            refine t_callV (q := 70) (N := mX6_stepsOf) (a := eB E + 51) [.int x1] dX6_bestOf_67 rfl nkX6_stepsOf vkX6_stepsOf lX6_151 ⟨Nat.le_of_ble_eq_true rfl, Nat.le_of_ble_eq_true rfl⟩ (rc_obj (k := 51) rfl rfl) rfl rfl (Nat.le_of_ble_eq_true rfl) (Nat.le_of_ble_eq_true rfl) (T_X6_stepsOf_51 E _ hc20) ?_
            refine s_icmp_gt (q := 73) (tgt := 77) dX6_bestOf_70 rfl rfl (fun hb21 => ?_) (fun hb21 => ?_)
            · rw [if_pos hb21] at h
              refine s_iload_n (q := 78) dX6_bestOf_77 rfl rfl 3 rfl ?_
              refine s_istore_n (q := 79) (lv' := [(2, .int x2), (4, .int 1), (0, .ref (eB E + 51)), (1, .int x1), (3, .int x3)]) dX6_bestOf_78 rfl rfl (Nat.le_of_ble_eq_true rfl) rfl ?_
              refine s_iinc (q := 82) (j := 4) (v := (x3 + 1)) (lv' := [(3, .int (x3 + 1)), (2, .int x2), (4, .int 1), (0, .ref (eB E + 51)), (1, .int x1)]) dX6_bestOf_79 rfl rfl rfl (Nat.le_of_ble_eq_true rfl) rfl ?_
              refine s_goto (tgt := 4) dX6_bestOf_82 rfl ?_
              exact t_sub [3, 4, 1, 0] rfl (ih _ _ _ _ _ h K)
            · rw [if_neg hb21] at h
              refine s_iload_n (q := 74) dX6_bestOf_73 rfl rfl 4 rfl ?_
              refine s_goto (tgt := 78) dX6_bestOf_74 rfl ?_
              refine s_istore_n (q := 79) (lv' := [(2, .int x3), (4, .int 1), (0, .ref (eB E + 51)), (1, .int x1), (3, .int x3)]) dX6_bestOf_78 rfl rfl (Nat.le_of_ble_eq_true rfl) rfl ?_
              refine s_iinc (q := 82) (j := 4) (v := (x3 + 1)) (lv' := [(3, .int (x3 + 1)), (2, .int x3), (4, .int 1), (0, .ref (eB E + 51)), (1, .int x1)]) dX6_bestOf_79 rfl rfl rfl (Nat.le_of_ble_eq_true rfl) rfl ?_
              refine s_goto (tgt := 4) dX6_bestOf_82 rfl ?_
              exact t_sub [3, 4, 1, 0] rfl (ih _ _ _ _ _ h K)
def G_X6_bestOf_51 (x1 : Int32) (S : ST) : Option (Int32 × ST) := (G_X6_bestOf_51_4 3000 x1 0 1 S).bind fun q22 => some (q22.1, q22.2)
set_option maxHeartbeats 4000000 in
set_option maxRecDepth 100000 in
theorem T_X6_bestOf_51 (E : EV) (x1 : Int32) {S : ST} {w : (Int32 × ST)} (h : G_X6_bestOf_51 x1 S = some w) : SD E mX6_bestOf 0 [(0, .ref (eB E + 51)), (1, .int x1)] [] S (some (.int w.1)) w.2 := by
  unfold G_X6_bestOf_51 at h
  refine s_iconst (q := 1) (v := 0) dX6_bestOf_0 rfl rfl ?_
  refine s_istore_n (q := 2) (lv' := [(2, .int 0), (0, .ref (eB E + 51)), (1, .int x1)]) dX6_bestOf_1 rfl rfl (Nat.le_of_ble_eq_true rfl) rfl ?_
  refine s_iconst (q := 3) (v := 1) dX6_bestOf_2 rfl rfl ?_
  refine s_istore_n (q := 4) (lv' := [(3, .int 1), (2, .int 0), (0, .ref (eB E + 51)), (1, .int x1)]) dX6_bestOf_3 rfl rfl (Nat.le_of_ble_eq_true rfl) rfl ?_
  obtain ⟨q22, hc22, h⟩ := bnd h
  try dsimp only at h
  refine t_sub [2, 3, 1, 0] rfl (T_X6_bestOf_51_4 E _ _ _ _ _ _ hc22 ?_)
  refine s_iload_n (q := 86) dX6_bestOf_85 rfl rfl 0 rfl ?_
  obtain rfl := Option.some.inj h
  exact t_iret dX6_bestOf_86 rfl rfl
-- X6_best
def G_X6_best_51 (x1 : Int32) (S : ST) : Option (Int32 × ST) := ((G_X6_isCrew x1 S).bind fun q1 => (if q1.1 = 0 then ((G_X6_no_51 0 q1.2).bind fun q3 => some (q3.1, q3.2)) else ((G_X6_bestOf_51 x1 q1.2).bind fun q4 => some (q4.1, q4.2))))
set_option maxHeartbeats 4000000 in
set_option maxRecDepth 100000 in
theorem T_X6_best_51 (E : EV) (x1 : Int32) {S : ST} {w : (Int32 × ST)} (h : G_X6_best_51 x1 S = some w) : SD E mX6_best 0 [(0, .ref (eB E + 51)), (1, .int x1)] [] S (some (.int w.1)) w.2 := by
  unfold G_X6_best_51 at h
  refine s_iload_n (q := 1) dX6_best_0 rfl rfl 1 rfl ?_
  obtain ⟨q1, hc1, h⟩ := bnd h
  try dsimp only at h
  refine t_callS (q := 4) (N := mX6_isCrew) [.int x1] dX6_best_1 rfl nkX6_isCrew sX6_isCrew lX6_104 ⟨Nat.le_of_ble_eq_true rfl, Nat.le_of_ble_eq_true rfl⟩ rfl rfl (Nat.le_of_ble_eq_true rfl) (Nat.le_of_ble_eq_true rfl) (T_X6_isCrew E _ hc1) ?_
  refine s_if_eq (q := 7) (tgt := 15) dX6_best_4 rfl rfl (fun hb2 => ?_) (fun hb2 => ?_)
  · rw [if_pos hb2] at h
    refine s_aload_n (q := 16) dX6_best_15 rfl rfl 0 rfl ?_
    refine s_iconst (q := 17) (v := 0) dX6_best_16 rfl rfl ?_
    obtain ⟨q3, hc3, h⟩ := bnd h
    try dsimp only at h
    refine t_callV (q := 20) (N := mX6_no) (a := eB E + 51) [.int 0] dX6_best_17 rfl nkX6_no vkX6_no lX6_94 ⟨Nat.le_of_ble_eq_true rfl, Nat.le_of_ble_eq_true rfl⟩ (rc_obj (k := 51) rfl rfl) rfl rfl (Nat.le_of_ble_eq_true rfl) (Nat.le_of_ble_eq_true rfl) (T_X6_no_51 E _ hc3) ?_
    obtain rfl := Option.some.inj h
    exact t_iret dX6_best_20 rfl rfl
  · rw [if_neg hb2] at h
    refine s_aload_n (q := 8) dX6_best_7 rfl rfl 0 rfl ?_
    refine s_iload_n (q := 9) dX6_best_8 rfl rfl 1 rfl ?_
    obtain ⟨q4, hc4, h⟩ := bnd h
    try dsimp only at h
    refine t_callV (q := 12) (N := mX6_bestOf) (a := eB E + 51) [.int x1] dX6_best_9 rfl nkX6_bestOf vkX6_bestOf lX6_154 ⟨Nat.le_of_ble_eq_true rfl, Nat.le_of_ble_eq_true rfl⟩ (rc_obj (k := 51) rfl rfl) rfl rfl (Nat.le_of_ble_eq_true rfl) (Nat.le_of_ble_eq_true rfl) (T_X6_bestOf_51 E _ hc4) ?_
    refine s_goto (tgt := 20) dX6_best_12 rfl ?_
    obtain rfl := Option.some.inj h
    exact t_iret dX6_best_20 rfl rfl
-- X5_bestWorth
def G_X5_bestWorth_0 (x1 : Int32) (S : ST) : Option (Int32 × ST) := ((G_X5_isBelow x1 4 S).bind fun q1 => (if q1.1 = 0 then ((G_X5_finding_0 0 q1.2).bind fun q5 => some (q5.1, q5.2)) else ((G_X5_bestSet_0 x1 q1.2).bind fun q3 => ((G_X1_worthOf_1 q3.1 q3.2).bind fun q4 => some (q4.1, q4.2)))))
set_option maxHeartbeats 4000000 in
set_option maxRecDepth 100000 in
theorem T_X5_bestWorth_0 (E : EV) (x1 : Int32) {S : ST} {w : (Int32 × ST)} (h : G_X5_bestWorth_0 x1 S = some w) : SD E mX5_bestWorth 0 [(0, .ref (eB E + 0)), (1, .int x1)] [] S (some (.int w.1)) w.2 := by
  unfold G_X5_bestWorth_0 at h
  refine s_iload_n (q := 1) dX5_bestWorth_0 rfl rfl 1 rfl ?_
  refine s_iconst (q := 2) (v := 4) dX5_bestWorth_1 rfl rfl ?_
  obtain ⟨q1, hc1, h⟩ := bnd h
  try dsimp only at h
  refine t_callS (q := 5) (N := mX5_isBelow) [.int x1, .int 4] dX5_bestWorth_2 rfl nkX5_isBelow sX5_isBelow lX5_57 ⟨Nat.le_of_ble_eq_true rfl, Nat.le_of_ble_eq_true rfl⟩ rfl rfl (Nat.le_of_ble_eq_true rfl) (Nat.le_of_ble_eq_true rfl) (T_X5_isBelow E _ _ hc1) ?_
  refine s_if_ne (q := 8) (tgt := 14) dX5_bestWorth_5 rfl rfl (fun hb2 => ?_) (fun hb2 => ?_)
  · rw [if_neg hb2] at h
    refine s_aload_n (q := 15) dX5_bestWorth_14 rfl rfl 0 rfl ?_
    refine t_getR (q := 18) (k := 0) (f := 0) (t := 1) dX5_bestWorth_15 rfl rfl rfl rfl inX5 (Nat.le_of_ble_eq_true rfl) fX5_10 ?_
    refine s_aload_n (q := 19) dX5_bestWorth_18 rfl rfl 0 rfl ?_
    refine s_iload_n (q := 20) dX5_bestWorth_19 rfl rfl 1 rfl ?_
    obtain ⟨q3, hc3, h⟩ := bnd h
    try dsimp only at h
    refine t_callV (q := 23) (N := mX5_bestSet) (a := eB E + 0) [.int x1] dX5_bestWorth_20 rfl nkX5_bestSet vkX5_bestSet lX5_180 ⟨Nat.le_of_ble_eq_true rfl, Nat.le_of_ble_eq_true rfl⟩ (rc_obj (k := 0) rfl rfl) rfl rfl (Nat.le_of_ble_eq_true rfl) (Nat.le_of_ble_eq_true rfl) (T_X5_bestSet_0 E _ hc3) ?_
    obtain ⟨q4, hc4, h⟩ := bnd h
    try dsimp only at h
    refine t_callV (q := 26) (N := mX1_worthOf) (a := eB E + 1) [.int q3.1] dX5_bestWorth_23 rfl nkX1_worthOf vkX1_worthOf lX5_139 ⟨Nat.le_of_ble_eq_true rfl, Nat.le_of_ble_eq_true rfl⟩ (rc_obj (k := 1) rfl rfl) rfl rfl (Nat.le_of_ble_eq_true rfl) (Nat.le_of_ble_eq_true rfl) (T_X1_worthOf_1 E _ hc4) ?_
    obtain rfl := Option.some.inj h
    exact t_iret dX5_bestWorth_26 rfl rfl
  · rw [if_pos hb2] at h
    refine s_aload_n (q := 9) dX5_bestWorth_8 rfl rfl 0 rfl ?_
    refine s_iconst (q := 10) (v := 0) dX5_bestWorth_9 rfl rfl ?_
    obtain ⟨q5, hc5, h⟩ := bnd h
    try dsimp only at h
    refine t_callV (q := 13) (N := mX5_finding) (a := eB E + 0) [.int 0] dX5_bestWorth_10 rfl nkX5_finding vkX5_finding lX5_61 ⟨Nat.le_of_ble_eq_true rfl, Nat.le_of_ble_eq_true rfl⟩ (rc_obj (k := 0) rfl rfl) rfl rfl (Nat.le_of_ble_eq_true rfl) (Nat.le_of_ble_eq_true rfl) (T_X5_finding_0 E _ hc5) ?_
    obtain rfl := Option.some.inj h
    exact t_iret dX5_bestWorth_13 rfl rfl
-- X6_bestWorth
def G_X6_bestWorth_51 (x1 : Int32) (S : ST) : Option (Int32 × ST) := ((G_X6_isCrew x1 S).bind fun q1 => (if q1.1 = 0 then ((G_X6_no_51 0 q1.2).bind fun q3 => some (q3.1, q3.2)) else ((G_X6_bestOf_51 x1 q1.2).bind fun q4 => ((G_X6_worthOf_51 q4.1 q4.2).bind fun q5 => some (q5.1, q5.2)))))
set_option maxHeartbeats 4000000 in
set_option maxRecDepth 100000 in
theorem T_X6_bestWorth_51 (E : EV) (x1 : Int32) {S : ST} {w : (Int32 × ST)} (h : G_X6_bestWorth_51 x1 S = some w) : SD E mX6_bestWorth 0 [(0, .ref (eB E + 51)), (1, .int x1)] [] S (some (.int w.1)) w.2 := by
  unfold G_X6_bestWorth_51 at h
  refine s_iload_n (q := 1) dX6_bestWorth_0 rfl rfl 1 rfl ?_
  obtain ⟨q1, hc1, h⟩ := bnd h
  try dsimp only at h
  refine t_callS (q := 4) (N := mX6_isCrew) [.int x1] dX6_bestWorth_1 rfl nkX6_isCrew sX6_isCrew lX6_104 ⟨Nat.le_of_ble_eq_true rfl, Nat.le_of_ble_eq_true rfl⟩ rfl rfl (Nat.le_of_ble_eq_true rfl) (Nat.le_of_ble_eq_true rfl) (T_X6_isCrew E _ hc1) ?_
  refine s_if_eq (q := 7) (tgt := 19) dX6_bestWorth_4 rfl rfl (fun hb2 => ?_) (fun hb2 => ?_)
  · rw [if_pos hb2] at h
    refine s_aload_n (q := 20) dX6_bestWorth_19 rfl rfl 0 rfl ?_
    refine s_iconst (q := 21) (v := 0) dX6_bestWorth_20 rfl rfl ?_
    obtain ⟨q3, hc3, h⟩ := bnd h
    try dsimp only at h
    refine t_callV (q := 24) (N := mX6_no) (a := eB E + 51) [.int 0] dX6_bestWorth_21 rfl nkX6_no vkX6_no lX6_94 ⟨Nat.le_of_ble_eq_true rfl, Nat.le_of_ble_eq_true rfl⟩ (rc_obj (k := 51) rfl rfl) rfl rfl (Nat.le_of_ble_eq_true rfl) (Nat.le_of_ble_eq_true rfl) (T_X6_no_51 E _ hc3) ?_
    obtain rfl := Option.some.inj h
    exact t_iret dX6_bestWorth_24 rfl rfl
  · rw [if_neg hb2] at h
    refine s_aload_n (q := 8) dX6_bestWorth_7 rfl rfl 0 rfl ?_
    refine s_aload_n (q := 9) dX6_bestWorth_8 rfl rfl 0 rfl ?_
    refine s_iload_n (q := 10) dX6_bestWorth_9 rfl rfl 1 rfl ?_
    obtain ⟨q4, hc4, h⟩ := bnd h
    try dsimp only at h
    refine t_callV (q := 13) (N := mX6_bestOf) (a := eB E + 51) [.int x1] dX6_bestWorth_10 rfl nkX6_bestOf vkX6_bestOf lX6_154 ⟨Nat.le_of_ble_eq_true rfl, Nat.le_of_ble_eq_true rfl⟩ (rc_obj (k := 51) rfl rfl) rfl rfl (Nat.le_of_ble_eq_true rfl) (Nat.le_of_ble_eq_true rfl) (T_X6_bestOf_51 E _ hc4) ?_
    obtain ⟨q5, hc5, h⟩ := bnd h
    try dsimp only at h
    refine t_callV (q := 16) (N := mX6_worthOf) (a := eB E + 51) [.int q4.1] dX6_bestWorth_13 rfl nkX6_worthOf vkX6_worthOf lX6_127 ⟨Nat.le_of_ble_eq_true rfl, Nat.le_of_ble_eq_true rfl⟩ (rc_obj (k := 51) rfl rfl) rfl rfl (Nat.le_of_ble_eq_true rfl) (Nat.le_of_ble_eq_true rfl) (T_X6_worthOf_51 E _ hc5) ?_
    refine s_goto (tgt := 24) dX6_bestWorth_16 rfl ?_
    obtain rfl := Option.some.inj h
    exact t_iret dX6_bestWorth_24 rfl rfl
-- X5_from
def G_X5_from_0_31 : Nat → Int32 → Int32 → Int32 → Int32 → ST → Option (Int32 × ST)
  | 0, _, _, _, _, _ => none
  | n + 1, x2, x3, x4, x5, S => (if (100 : Int32) ≤ x5 then some (x4, S) else ((G_X4_standAt_35_1 x5 S).bind fun q7 => ((G_X4_stepsBy_35 x2 q7.2).bind fun q8 => (if x3 ≤ q8.1 then G_X5_from_0_31 n x2 x3 x4 (x5 + 1) q8.2 else G_X5_from_0_31 n x2 q8.1 x5 (x5 + 1) q8.2))))
set_option maxHeartbeats 4000000 in
set_option maxRecDepth 100000 in
theorem T_X5_from_0_31 (E : EV) : ∀ (n : Nat) (x2 : Int32) (x3 : Int32) (x4 : Int32) (x5 : Int32) (S : ST), ∀ (w : (Int32 × ST)), G_X5_from_0_31 n x2 x3 x4 x5 S = some w → ∀ {Q : Option Value → ST → Prop}, SS E mX5_from 80 [(4, .int w.1)] [] w.2 Q → SS E mX5_from 31 [(0, .ref (eB E + 0)), (2, .int x2), (3, .int x3), (4, .int x4), (5, .int x5)] [] S Q := by
  intro n
  induction n with
  | zero =>
    intro x2 x3 x4 x5 S w h
    cases h
  | succ n ih =>
    intro x2 x3 x4 x5 S w h Q K
    unfold G_X5_from_0_31 at h
    refine s_iload (q := 33) dX5_from_31 rfl 4 rfl ?_
    refine s_bipush (q := 35) (v := 100) dX5_from_33 rfl rfl ?_
    refine s_icmp_ge (q := 38) (tgt := 80) dX5_from_35 rfl rfl (fun hb6 => ?_) (fun hb6 => ?_)
    · rw [if_pos hb6] at h
      obtain rfl := Option.some.inj h
      exact t_sub [3] rfl K
    · rw [if_neg hb6] at h
      refine s_aload_n (q := 39) dX5_from_38 rfl rfl 0 rfl ?_
      refine t_getR (q := 42) (k := 0) (f := 6) (t := 35) dX5_from_39 rfl rfl rfl rfl inX5 (Nat.le_of_ble_eq_true rfl) fX5_42 ?_
      refine s_aload_n (q := 43) dX5_from_42 rfl rfl 0 rfl ?_
      refine t_getR (q := 46) (k := 0) (f := 0) (t := 1) dX5_from_43 rfl rfl rfl rfl inX5 (Nat.le_of_ble_eq_true rfl) fX5_10 ?_
      refine s_iload (q := 48) dX5_from_46 rfl 4 rfl ?_
      obtain ⟨q7, hc7, h⟩ := bnd h
      try dsimp only at h
      refine t_callV (q := 51) (N := mX4_standAt) (a := eB E + 35) [.ref (eB E + 1), .int x5] dX5_from_48 rfl nkX4_standAt vkX4_standAt lX5_173 ⟨Nat.le_of_ble_eq_true rfl, Nat.le_of_ble_eq_true rfl⟩ (rc_obj (k := 35) rfl rfl) rfl rfl (Nat.le_of_ble_eq_true rfl) (Nat.le_of_ble_eq_true rfl) (T_X4_standAt_35_1 E _ hc7) ?_
      refine s_aload_n (q := 52) dX5_from_51 rfl rfl 0 rfl ?_
      refine t_getR (q := 55) (k := 0) (f := 6) (t := 35) dX5_from_52 rfl rfl rfl rfl inX5 (Nat.le_of_ble_eq_true rfl) fX5_42 ?_
      refine s_iload_n (q := 56) dX5_from_55 rfl rfl 1 rfl ?_
      obtain ⟨q8, hc8, h⟩ := bnd h
      try dsimp only at h
      refine t_callV (q := 59) (N := mX4_stepsBy) (a := eB E + 35) [.int x2] dX5_from_56 rfl nkX4_stepsBy vkX4_stepsBy lX5_177 ⟨Nat.le_of_ble_eq_true rfl, Nat.le_of_ble_eq_true rfl⟩ (rc_obj (k := 35) rfl rfl) rfl rfl (Nat.le_of_ble_eq_true rfl) (Nat.le_of_ble_eq_true rfl) (T_X4_stepsBy_35 E _ hc8) ?_
      refine s_istore (q := 61) (lv' := [(6, .int q8.1), (0, .ref (eB E + 0)), (2, .int x2), (3, .int x3), (4, .int x4), (5, .int x5)]) dX5_from_59 rfl (Nat.le_of_ble_eq_true rfl) rfl ?_
      refine s_iload (q := 63) dX5_from_61 rfl 0 rfl ?_
      refine s_iload_n (q := 64) dX5_from_63 rfl rfl 3 rfl ?_
      refine s_icmp_ge (q := 67) (tgt := 74) dX5_from_64 rfl rfl (fun hb9 => ?_) (fun hb9 => ?_)
      · rw [if_pos hb9] at h
        refine s_iinc (q := 77) (j := 5) (v := (x5 + 1)) (lv' := [(5, .int (x5 + 1)), (6, .int q8.1), (0, .ref (eB E + 0)), (2, .int x2), (3, .int x3), (4, .int x4)]) dX5_from_74 rfl rfl rfl (Nat.le_of_ble_eq_true rfl) rfl ?_
        refine s_goto (tgt := 31) dX5_from_77 rfl ?_
        exact t_sub [2, 3, 4, 5, 0] rfl (ih _ _ _ _ _ _ h K)
      · rw [if_neg hb9] at h
        refine s_iload (q := 69) dX5_from_67 rfl 0 rfl ?_
        refine s_istore_n (q := 70) (lv' := [(3, .int q8.1), (6, .int q8.1), (0, .ref (eB E + 0)), (2, .int x2), (4, .int x4), (5, .int x5)]) dX5_from_69 rfl rfl (Nat.le_of_ble_eq_true rfl) rfl ?_
        refine s_iload (q := 72) dX5_from_70 rfl 5 rfl ?_
        refine s_istore (q := 74) (lv' := [(4, .int x5), (3, .int q8.1), (6, .int q8.1), (0, .ref (eB E + 0)), (2, .int x2), (5, .int x5)]) dX5_from_72 rfl (Nat.le_of_ble_eq_true rfl) rfl ?_
        refine s_iinc (q := 77) (j := 5) (v := (x5 + 1)) (lv' := [(5, .int (x5 + 1)), (4, .int x5), (3, .int q8.1), (6, .int q8.1), (0, .ref (eB E + 0)), (2, .int x2)]) dX5_from_74 rfl rfl rfl (Nat.le_of_ble_eq_true rfl) rfl ?_
        refine s_goto (tgt := 31) dX5_from_77 rfl ?_
        exact t_sub [4, 5, 2, 1, 0] rfl (ih _ _ _ _ _ _ h K)
def G_X5_from_0 (x1 : Int32) (x2 : Int32) (S : ST) : Option (Int32 × ST) := ((G_X5_isBelow x1 4 S).bind fun q1 => (if q1.1 = 0 then ((G_X5_finding_0 0 q1.2).bind fun q3 => some (q3.1, q3.2)) else ((G_X5_isSetOfStars_0 x2 q1.2).bind fun q4 => (if q4.1 = 0 then ((G_X5_finding_0 0 q4.2).bind fun q11 => some (q11.1, q11.2)) else (G_X5_from_0_31 3000 x2 1000000 0 0 q4.2).bind fun q10 => some (q10.1, q10.2)))))
set_option maxHeartbeats 4000000 in
set_option maxRecDepth 100000 in
theorem T_X5_from_0 (E : EV) (x1 : Int32) (x2 : Int32) {S : ST} {w : (Int32 × ST)} (h : G_X5_from_0 x1 x2 S = some w) : SD E mX5_from 0 [(0, .ref (eB E + 0)), (1, .int x1), (2, .int x2)] [] S (some (.int w.1)) w.2 := by
  unfold G_X5_from_0 at h
  refine s_iload_n (q := 1) dX5_from_0 rfl rfl 1 rfl ?_
  refine s_iconst (q := 2) (v := 4) dX5_from_1 rfl rfl ?_
  obtain ⟨q1, hc1, h⟩ := bnd h
  try dsimp only at h
  refine t_callS (q := 5) (N := mX5_isBelow) [.int x1, .int 4] dX5_from_2 rfl nkX5_isBelow sX5_isBelow lX5_57 ⟨Nat.le_of_ble_eq_true rfl, Nat.le_of_ble_eq_true rfl⟩ rfl rfl (Nat.le_of_ble_eq_true rfl) (Nat.le_of_ble_eq_true rfl) (T_X5_isBelow E _ _ hc1) ?_
  refine s_if_eq (q := 8) (tgt := 16) dX5_from_5 rfl rfl (fun hb2 => ?_) (fun hb2 => ?_)
  · rw [if_pos hb2] at h
    refine s_aload_n (q := 17) dX5_from_16 rfl rfl 0 rfl ?_
    refine s_iconst (q := 18) (v := 0) dX5_from_17 rfl rfl ?_
    obtain ⟨q3, hc3, h⟩ := bnd h
    try dsimp only at h
    refine t_callV (q := 21) (N := mX5_finding) (a := eB E + 0) [.int 0] dX5_from_18 rfl nkX5_finding vkX5_finding lX5_61 ⟨Nat.le_of_ble_eq_true rfl, Nat.le_of_ble_eq_true rfl⟩ (rc_obj (k := 0) rfl rfl) rfl rfl (Nat.le_of_ble_eq_true rfl) (Nat.le_of_ble_eq_true rfl) (T_X5_finding_0 E _ hc3) ?_
    obtain rfl := Option.some.inj h
    exact t_iret dX5_from_21 rfl rfl
  · rw [if_neg hb2] at h
    refine s_aload_n (q := 9) dX5_from_8 rfl rfl 0 rfl ?_
    refine s_iload_n (q := 10) dX5_from_9 rfl rfl 2 rfl ?_
    obtain ⟨q4, hc4, h⟩ := bnd h
    try dsimp only at h
    refine t_callV (q := 13) (N := mX5_isSetOfStars) (a := eB E + 0) [.int x2] dX5_from_10 rfl nkX5_isSetOfStars vkX5_isSetOfStars lX5_169 ⟨Nat.le_of_ble_eq_true rfl, Nat.le_of_ble_eq_true rfl⟩ (rc_obj (k := 0) rfl rfl) rfl rfl (Nat.le_of_ble_eq_true rfl) (Nat.le_of_ble_eq_true rfl) (T_X5_isSetOfStars_0 E _ hc4) ?_
    refine s_if_ne (q := 16) (tgt := 22) dX5_from_13 rfl rfl (fun hb5 => ?_) (fun hb5 => ?_)
    · rw [if_neg hb5] at h
      refine s_ldc (q := 24) (v := 1000000) dX5_from_22 rfl kX5_183 ?_
      refine s_istore_n (q := 25) (lv' := [(3, .int 1000000), (0, .ref (eB E + 0)), (1, .int x1), (2, .int x2)]) dX5_from_24 rfl rfl (Nat.le_of_ble_eq_true rfl) rfl ?_
      refine s_iconst (q := 26) (v := 0) dX5_from_25 rfl rfl ?_
      refine s_istore (q := 28) (lv' := [(4, .int 0), (3, .int 1000000), (0, .ref (eB E + 0)), (1, .int x1), (2, .int x2)]) dX5_from_26 rfl (Nat.le_of_ble_eq_true rfl) rfl ?_
      refine s_iconst (q := 29) (v := 0) dX5_from_28 rfl rfl ?_
      refine s_istore (q := 31) (lv' := [(5, .int 0), (4, .int 0), (3, .int 1000000), (0, .ref (eB E + 0)), (1, .int x1), (2, .int x2)]) dX5_from_29 rfl (Nat.le_of_ble_eq_true rfl) rfl ?_
      obtain ⟨q10, hc10, h⟩ := bnd h
      try dsimp only at h
      refine t_sub [3, 5, 2, 1, 0] rfl (T_X5_from_0_31 E _ _ _ _ _ _ _ hc10 ?_)
      refine s_iload (q := 82) dX5_from_80 rfl 0 rfl ?_
      obtain rfl := Option.some.inj h
      exact t_iret dX5_from_82 rfl rfl
    · rw [if_pos hb5] at h
      refine s_aload_n (q := 17) dX5_from_16 rfl rfl 0 rfl ?_
      refine s_iconst (q := 18) (v := 0) dX5_from_17 rfl rfl ?_
      obtain ⟨q11, hc11, h⟩ := bnd h
      try dsimp only at h
      refine t_callV (q := 21) (N := mX5_finding) (a := eB E + 0) [.int 0] dX5_from_18 rfl nkX5_finding vkX5_finding lX5_61 ⟨Nat.le_of_ble_eq_true rfl, Nat.le_of_ble_eq_true rfl⟩ (rc_obj (k := 0) rfl rfl) rfl rfl (Nat.le_of_ble_eq_true rfl) (Nat.le_of_ble_eq_true rfl) (T_X5_finding_0 E _ hc11) ?_
      obtain rfl := Option.some.inj h
      exact t_iret dX5_from_21 rfl rfl
-- X6_from
def G_X6_from_51_26 : Nat → Int32 → Int32 → Int32 → ST → Option (Int32 × ST)
  | 0, _, _, _, _ => none
  | n + 1, x2, x3, x4, S => (if (100 : Int32) ≤ x4 then some (x3, S) else ((G_X6_roundOf_51 x4 x2 S).bind fun q7 => ((G_X6_roundOf_51 x3 x2 q7.2).bind fun q8 => (if q8.1 ≤ q7.1 then G_X6_from_51_26 n x2 x3 (x4 + 1) q8.2 else G_X6_from_51_26 n x2 x4 (x4 + 1) q8.2))))
set_option maxHeartbeats 4000000 in
set_option maxRecDepth 100000 in
theorem T_X6_from_51_26 (E : EV) : ∀ (n : Nat) (x2 : Int32) (x3 : Int32) (x4 : Int32) (S : ST), ∀ (w : (Int32 × ST)), G_X6_from_51_26 n x2 x3 x4 S = some w → ∀ {Q : Option Value → ST → Prop}, SS E mX6_from 62 [(3, .int w.1)] [] w.2 Q → SS E mX6_from 26 [(0, .ref (eB E + 51)), (2, .int x2), (3, .int x3), (4, .int x4)] [] S Q := by
  intro n
  induction n with
  | zero =>
    intro x2 x3 x4 S w h
    cases h
  | succ n ih =>
    intro x2 x3 x4 S w h Q K
    unfold G_X6_from_51_26 at h
    refine s_iload (q := 28) dX6_from_26 rfl 3 rfl ?_
    refine s_bipush (q := 30) (v := 100) dX6_from_28 rfl rfl ?_
    refine s_icmp_ge (q := 33) (tgt := 62) dX6_from_30 rfl rfl (fun hb6 => ?_) (fun hb6 => ?_)
    · rw [if_pos hb6] at h
      obtain rfl := Option.some.inj h
      exact t_sub [2] rfl K
    · rw [if_neg hb6] at h
      refine s_aload_n (q := 34) dX6_from_33 rfl rfl 0 rfl ?_
      refine s_iload (q := 36) dX6_from_34 rfl 3 rfl ?_
      refine s_iload_n (q := 37) dX6_from_36 rfl rfl 1 rfl ?_
      obtain ⟨q7, hc7, h⟩ := bnd h
      try dsimp only at h
      refine t_callV (q := 40) (N := mX6_roundOf) (a := eB E + 51) [.int x4, .int x2] dX6_from_37 rfl nkX6_roundOf vkX6_roundOf lX6_148 ⟨Nat.le_of_ble_eq_true rfl, Nat.le_of_ble_eq_true rfl⟩ (rc_obj (k := 51) rfl rfl) rfl rfl (Nat.le_of_ble_eq_true rfl) (Nat.le_of_ble_eq_true rfl) (T_X6_roundOf_51 E _ _ hc7) ?_
      refine s_aload_n (q := 41) dX6_from_40 rfl rfl 0 rfl ?_
      refine s_iload_n (q := 42) dX6_from_41 rfl rfl 2 rfl ?_
      refine s_iload_n (q := 43) dX6_from_42 rfl rfl 1 rfl ?_
      obtain ⟨q8, hc8, h⟩ := bnd h
      try dsimp only at h
      refine t_callV (q := 46) (N := mX6_roundOf) (a := eB E + 51) [.int x3, .int x2] dX6_from_43 rfl nkX6_roundOf vkX6_roundOf lX6_148 ⟨Nat.le_of_ble_eq_true rfl, Nat.le_of_ble_eq_true rfl⟩ (rc_obj (k := 51) rfl rfl) rfl rfl (Nat.le_of_ble_eq_true rfl) (Nat.le_of_ble_eq_true rfl) (T_X6_roundOf_51 E _ _ hc8) ?_
      refine s_icmp_ge (q := 49) (tgt := 54) dX6_from_46 rfl rfl (fun hb9 => ?_) (fun hb9 => ?_)
      · rw [if_pos hb9] at h
        refine s_iload_n (q := 55) dX6_from_54 rfl rfl 2 rfl ?_
        refine s_istore_n (q := 56) (lv' := [(3, .int x3), (0, .ref (eB E + 51)), (2, .int x2), (4, .int x4)]) dX6_from_55 rfl rfl (Nat.le_of_ble_eq_true rfl) rfl ?_
        refine s_iinc (q := 59) (j := 3) (v := (x4 + 1)) (lv' := [(4, .int (x4 + 1)), (3, .int x3), (0, .ref (eB E + 51)), (2, .int x2)]) dX6_from_56 rfl rfl rfl (Nat.le_of_ble_eq_true rfl) rfl ?_
        refine s_goto (tgt := 26) dX6_from_59 rfl ?_
        exact t_sub [2, 3, 1, 0] rfl (ih _ _ _ _ _ h K)
      · rw [if_neg hb9] at h
        refine s_iload (q := 51) dX6_from_49 rfl 3 rfl ?_
        refine s_goto (tgt := 55) dX6_from_51 rfl ?_
        refine s_istore_n (q := 56) (lv' := [(3, .int x4), (0, .ref (eB E + 51)), (2, .int x2), (4, .int x4)]) dX6_from_55 rfl rfl (Nat.le_of_ble_eq_true rfl) rfl ?_
        refine s_iinc (q := 59) (j := 3) (v := (x4 + 1)) (lv' := [(4, .int (x4 + 1)), (3, .int x4), (0, .ref (eB E + 51)), (2, .int x2)]) dX6_from_56 rfl rfl rfl (Nat.le_of_ble_eq_true rfl) rfl ?_
        refine s_goto (tgt := 26) dX6_from_59 rfl ?_
        exact t_sub [2, 3, 1, 0] rfl (ih _ _ _ _ _ h K)
def G_X6_from_51 (x1 : Int32) (x2 : Int32) (S : ST) : Option (Int32 × ST) := ((G_X6_isCrew x1 S).bind fun q1 => (if q1.1 = 0 then ((G_X6_no_51 0 q1.2).bind fun q3 => some (q3.1, q3.2)) else ((G_X6_isSet_51 x2 q1.2).bind fun q4 => (if q4.1 = 0 then ((G_X6_no_51 0 q4.2).bind fun q11 => some (q11.1, q11.2)) else (G_X6_from_51_26 3000 x2 0 1 q4.2).bind fun q10 => some (q10.1, q10.2)))))
set_option maxHeartbeats 4000000 in
set_option maxRecDepth 100000 in
theorem T_X6_from_51 (E : EV) (x1 : Int32) (x2 : Int32) {S : ST} {w : (Int32 × ST)} (h : G_X6_from_51 x1 x2 S = some w) : SD E mX6_from 0 [(0, .ref (eB E + 51)), (1, .int x1), (2, .int x2)] [] S (some (.int w.1)) w.2 := by
  unfold G_X6_from_51 at h
  refine s_iload_n (q := 1) dX6_from_0 rfl rfl 1 rfl ?_
  obtain ⟨q1, hc1, h⟩ := bnd h
  try dsimp only at h
  refine t_callS (q := 4) (N := mX6_isCrew) [.int x1] dX6_from_1 rfl nkX6_isCrew sX6_isCrew lX6_104 ⟨Nat.le_of_ble_eq_true rfl, Nat.le_of_ble_eq_true rfl⟩ rfl rfl (Nat.le_of_ble_eq_true rfl) (Nat.le_of_ble_eq_true rfl) (T_X6_isCrew E _ hc1) ?_
  refine s_if_eq (q := 7) (tgt := 15) dX6_from_4 rfl rfl (fun hb2 => ?_) (fun hb2 => ?_)
  · rw [if_pos hb2] at h
    refine s_aload_n (q := 16) dX6_from_15 rfl rfl 0 rfl ?_
    refine s_iconst (q := 17) (v := 0) dX6_from_16 rfl rfl ?_
    obtain ⟨q3, hc3, h⟩ := bnd h
    try dsimp only at h
    refine t_callV (q := 20) (N := mX6_no) (a := eB E + 51) [.int 0] dX6_from_17 rfl nkX6_no vkX6_no lX6_94 ⟨Nat.le_of_ble_eq_true rfl, Nat.le_of_ble_eq_true rfl⟩ (rc_obj (k := 51) rfl rfl) rfl rfl (Nat.le_of_ble_eq_true rfl) (Nat.le_of_ble_eq_true rfl) (T_X6_no_51 E _ hc3) ?_
    obtain rfl := Option.some.inj h
    exact t_iret dX6_from_20 rfl rfl
  · rw [if_neg hb2] at h
    refine s_aload_n (q := 8) dX6_from_7 rfl rfl 0 rfl ?_
    refine s_iload_n (q := 9) dX6_from_8 rfl rfl 2 rfl ?_
    obtain ⟨q4, hc4, h⟩ := bnd h
    try dsimp only at h
    refine t_callV (q := 12) (N := mX6_isSet) (a := eB E + 51) [.int x2] dX6_from_9 rfl nkX6_isSet vkX6_isSet lX6_145 ⟨Nat.le_of_ble_eq_true rfl, Nat.le_of_ble_eq_true rfl⟩ (rc_obj (k := 51) rfl rfl) rfl rfl (Nat.le_of_ble_eq_true rfl) (Nat.le_of_ble_eq_true rfl) (T_X6_isSet_51 E _ hc4) ?_
    refine s_if_ne (q := 15) (tgt := 21) dX6_from_12 rfl rfl (fun hb5 => ?_) (fun hb5 => ?_)
    · rw [if_neg hb5] at h
      refine s_iconst (q := 22) (v := 0) dX6_from_21 rfl rfl ?_
      refine s_istore_n (q := 23) (lv' := [(3, .int 0), (0, .ref (eB E + 51)), (1, .int x1), (2, .int x2)]) dX6_from_22 rfl rfl (Nat.le_of_ble_eq_true rfl) rfl ?_
      refine s_iconst (q := 24) (v := 1) dX6_from_23 rfl rfl ?_
      refine s_istore (q := 26) (lv' := [(4, .int 1), (3, .int 0), (0, .ref (eB E + 51)), (1, .int x1), (2, .int x2)]) dX6_from_24 rfl (Nat.le_of_ble_eq_true rfl) rfl ?_
      obtain ⟨q10, hc10, h⟩ := bnd h
      try dsimp only at h
      refine t_sub [2, 4, 1, 0] rfl (T_X6_from_51_26 E _ _ _ _ _ _ hc10 ?_)
      refine s_iload_n (q := 63) dX6_from_62 rfl rfl 0 rfl ?_
      obtain rfl := Option.some.inj h
      exact t_iret dX6_from_63 rfl rfl
    · rw [if_pos hb5] at h
      refine s_aload_n (q := 16) dX6_from_15 rfl rfl 0 rfl ?_
      refine s_iconst (q := 17) (v := 0) dX6_from_16 rfl rfl ?_
      obtain ⟨q11, hc11, h⟩ := bnd h
      try dsimp only at h
      refine t_callV (q := 20) (N := mX6_no) (a := eB E + 51) [.int 0] dX6_from_17 rfl nkX6_no vkX6_no lX6_94 ⟨Nat.le_of_ble_eq_true rfl, Nat.le_of_ble_eq_true rfl⟩ (rc_obj (k := 51) rfl rfl) rfl rfl (Nat.le_of_ble_eq_true rfl) (Nat.le_of_ble_eq_true rfl) (T_X6_no_51 E _ hc11) ?_
      obtain rfl := Option.some.inj h
      exact t_iret dX6_from_20 rfl rfl
-- X5_canShare
def G_X5_canShare_0 (x1 : Int32) (x2 : Int32) (x3 : Int32) (S : ST) : Option (Int32 × ST) := ((G_X5_isBelow x1 4 S).bind fun q1 => (if q1.1 = 0 then some (0, q1.2) else ((G_X5_isBelow x2 4 q1.2).bind fun q3 => (if q3.1 = 0 then some (0, q3.2) else (if x1 = x2 then some (0, q3.2) else ((G_X5_isSetOfStars_0 x3 q3.2).bind fun q6 => (if q6.1 = 0 then some (0, q6.2) else some (1, q6.2))))))))
set_option maxHeartbeats 4000000 in
set_option maxRecDepth 100000 in
theorem T_X5_canShare_0 (E : EV) (x1 : Int32) (x2 : Int32) (x3 : Int32) {S : ST} {w : (Int32 × ST)} (h : G_X5_canShare_0 x1 x2 x3 S = some w) : SD E mX5_canShare 0 [(0, .ref (eB E + 0)), (1, .int x1), (2, .int x2), (3, .int x3)] [] S (some (.int w.1)) w.2 := by
  unfold G_X5_canShare_0 at h
  refine s_iload_n (q := 1) dX5_canShare_0 rfl rfl 1 rfl ?_
  refine s_iconst (q := 2) (v := 4) dX5_canShare_1 rfl rfl ?_
  obtain ⟨q1, hc1, h⟩ := bnd h
  try dsimp only at h
  refine t_callS (q := 5) (N := mX5_isBelow) [.int x1, .int 4] dX5_canShare_2 rfl nkX5_isBelow sX5_isBelow lX5_57 ⟨Nat.le_of_ble_eq_true rfl, Nat.le_of_ble_eq_true rfl⟩ rfl rfl (Nat.le_of_ble_eq_true rfl) (Nat.le_of_ble_eq_true rfl) (T_X5_isBelow E _ _ hc1) ?_
  refine s_if_eq (q := 8) (tgt := 33) dX5_canShare_5 rfl rfl (fun hb2 => ?_) (fun hb2 => ?_)
  · rw [if_pos hb2] at h
    refine s_iconst (q := 34) (v := 0) dX5_canShare_33 rfl rfl ?_
    obtain rfl := Option.some.inj h
    exact t_zret dX5_canShare_34 rfl rfl rfl
  · rw [if_neg hb2] at h
    refine s_iload_n (q := 9) dX5_canShare_8 rfl rfl 2 rfl ?_
    refine s_iconst (q := 10) (v := 4) dX5_canShare_9 rfl rfl ?_
    obtain ⟨q3, hc3, h⟩ := bnd h
    try dsimp only at h
    refine t_callS (q := 13) (N := mX5_isBelow) [.int x2, .int 4] dX5_canShare_10 rfl nkX5_isBelow sX5_isBelow lX5_57 ⟨Nat.le_of_ble_eq_true rfl, Nat.le_of_ble_eq_true rfl⟩ rfl rfl (Nat.le_of_ble_eq_true rfl) (Nat.le_of_ble_eq_true rfl) (T_X5_isBelow E _ _ hc3) ?_
    refine s_if_eq (q := 16) (tgt := 33) dX5_canShare_13 rfl rfl (fun hb4 => ?_) (fun hb4 => ?_)
    · rw [if_pos hb4] at h
      refine s_iconst (q := 34) (v := 0) dX5_canShare_33 rfl rfl ?_
      obtain rfl := Option.some.inj h
      exact t_zret dX5_canShare_34 rfl rfl rfl
    · rw [if_neg hb4] at h
      refine s_iload_n (q := 17) dX5_canShare_16 rfl rfl 1 rfl ?_
      refine s_iload_n (q := 18) dX5_canShare_17 rfl rfl 2 rfl ?_
      refine s_icmp_eq (q := 21) (tgt := 33) dX5_canShare_18 rfl rfl (fun hb5 => ?_) (fun hb5 => ?_)
      · rw [if_pos hb5] at h
        refine s_iconst (q := 34) (v := 0) dX5_canShare_33 rfl rfl ?_
        obtain rfl := Option.some.inj h
        exact t_zret dX5_canShare_34 rfl rfl rfl
      · rw [if_neg hb5] at h
        refine s_aload_n (q := 22) dX5_canShare_21 rfl rfl 0 rfl ?_
        refine s_iload_n (q := 23) dX5_canShare_22 rfl rfl 3 rfl ?_
        obtain ⟨q6, hc6, h⟩ := bnd h
        try dsimp only at h
        refine t_callV (q := 26) (N := mX5_isSetOfStars) (a := eB E + 0) [.int x3] dX5_canShare_23 rfl nkX5_isSetOfStars vkX5_isSetOfStars lX5_169 ⟨Nat.le_of_ble_eq_true rfl, Nat.le_of_ble_eq_true rfl⟩ (rc_obj (k := 0) rfl rfl) rfl rfl (Nat.le_of_ble_eq_true rfl) (Nat.le_of_ble_eq_true rfl) (T_X5_isSetOfStars_0 E _ hc6) ?_
        refine s_if_eq (q := 29) (tgt := 33) dX5_canShare_26 rfl rfl (fun hb7 => ?_) (fun hb7 => ?_)
        · rw [if_pos hb7] at h
          refine s_iconst (q := 34) (v := 0) dX5_canShare_33 rfl rfl ?_
          obtain rfl := Option.some.inj h
          exact t_zret dX5_canShare_34 rfl rfl rfl
        · rw [if_neg hb7] at h
          refine s_iconst (q := 30) (v := 1) dX5_canShare_29 rfl rfl ?_
          refine s_goto (tgt := 34) dX5_canShare_30 rfl ?_
          obtain rfl := Option.some.inj h
          exact t_zret dX5_canShare_34 rfl rfl rfl
-- X4_insert
def G_X4_insert_38_3 : Nat → Int32 → Int32 → Int32 → ST → Option (Int32 × Int32 × Int32 × ST)
  | 0, _, _, _, _ => none
  | n + 1, x1, x2, x4, S => (if x4 ≤ 0 then some (x1, x2, x4, S) else (if inB (x4 - 1) 10 = true then (if (S.1 40 ((x4 - 1).toNatClampNeg)) ≤ x2 then some (x1, x2, x4, S) else (if inB (x4 - 1) 10 = true then (if inB x4 10 = true then (if inB (x4 - 1) 10 = true then (if inB x4 10 = true then G_X4_insert_38_3 n x1 x2 (x4 + (-1)) (wr (wr S 39 x4.toNatClampNeg (S.1 39 ((x4 - 1).toNatClampNeg))) 40 x4.toNatClampNeg (S.1 40 ((x4 - 1).toNatClampNeg))) else none) else none) else none) else none)) else none))
set_option maxHeartbeats 4000000 in
set_option maxRecDepth 100000 in
theorem T_X4_insert_38_3 (E : EV) : ∀ (n : Nat) (x1 : Int32) (x2 : Int32) (x4 : Int32) (S : ST), ∀ (w : (Int32 × Int32 × Int32 × ST)), G_X4_insert_38_3 n x1 x2 x4 S = some w → ∀ {Q : Option Value → ST → Prop}, SS E mX4_insert 59 [(0, .ref (eB E + 38)), (1, .int w.1), (2, .int w.2.1), (4, .int w.2.2.1)] [] w.2.2.2 Q → SS E mX4_insert 3 [(0, .ref (eB E + 38)), (1, .int x1), (2, .int x2), (4, .int x4)] [] S Q := by
  intro n
  induction n with
  | zero =>
    intro x1 x2 x4 S w h
    cases h
  | succ n ih =>
    intro x1 x2 x4 S w h Q K
    unfold G_X4_insert_38_3 at h
    refine s_iload (q := 5) dX4_insert_3 rfl 3 rfl ?_
    refine s_if_le (q := 8) (tgt := 59) dX4_insert_5 rfl rfl (fun hb1 => ?_) (fun hb1 => ?_)
    · rw [if_pos hb1] at h
      obtain rfl := Option.some.inj h
      exact t_sub [0, 1, 2, 3] rfl K
    · rw [if_neg hb1] at h
      refine s_aload_n (q := 9) dX4_insert_8 rfl rfl 0 rfl ?_
      refine t_getR (q := 12) (k := 38) (f := 1) (t := 40) dX4_insert_9 rfl rfl rfl rfl inX4 (Nat.le_of_ble_eq_true rfl) fX4_15 ?_
      refine s_iload (q := 14) dX4_insert_12 rfl 3 rfl ?_
      refine s_iconst (q := 15) (v := 1) dX4_insert_14 rfl rfl ?_
      refine s_isub (q := 16) dX4_insert_15 rfl ?_
      obtain ⟨hg2, h⟩ := chk_some h
      refine u_iald (q := 17) (k := 40) (v := (S.1 40 ((x4 - 1).toNatClampNeg))) dX4_insert_16 rfl rfl (inB_in hg2) rfl rfl ?_
      refine s_iload_n (q := 18) dX4_insert_17 rfl rfl 2 rfl ?_
      refine s_icmp_le (q := 21) (tgt := 59) dX4_insert_18 rfl rfl (fun hb3 => ?_) (fun hb3 => ?_)
      · rw [if_pos hb3] at h
        obtain rfl := Option.some.inj h
        exact t_sub [0, 1, 2, 3] rfl K
      · rw [if_neg hb3] at h
        refine s_aload_n (q := 22) dX4_insert_21 rfl rfl 0 rfl ?_
        refine t_getR (q := 25) (k := 38) (f := 0) (t := 39) dX4_insert_22 rfl rfl rfl rfl inX4 (Nat.le_of_ble_eq_true rfl) fX4_9 ?_
        refine s_iload (q := 27) dX4_insert_25 rfl 3 rfl ?_
        refine s_aload_n (q := 28) dX4_insert_27 rfl rfl 0 rfl ?_
        refine t_getR (q := 31) (k := 38) (f := 0) (t := 39) dX4_insert_28 rfl rfl rfl rfl inX4 (Nat.le_of_ble_eq_true rfl) fX4_9 ?_
        refine s_iload (q := 33) dX4_insert_31 rfl 3 rfl ?_
        refine s_iconst (q := 34) (v := 1) dX4_insert_33 rfl rfl ?_
        refine s_isub (q := 35) dX4_insert_34 rfl ?_
        obtain ⟨hg4, h⟩ := chk_some h
        refine u_iald (q := 36) (k := 39) (v := (S.1 39 ((x4 - 1).toNatClampNeg))) dX4_insert_35 rfl rfl (inB_in hg4) rfl rfl ?_
        obtain ⟨hg5, h⟩ := chk_some h
        refine u_iast (q := 37) (k := 39) dX4_insert_36 rfl rfl (inB_in hg5) rfl ?_
        refine s_aload_n (q := 38) dX4_insert_37 rfl rfl 0 rfl ?_
        refine t_getR (q := 41) (k := 38) (f := 1) (t := 40) dX4_insert_38 rfl rfl rfl rfl inX4 (Nat.le_of_ble_eq_true rfl) fX4_15 ?_
        refine s_iload (q := 43) dX4_insert_41 rfl 3 rfl ?_
        refine s_aload_n (q := 44) dX4_insert_43 rfl rfl 0 rfl ?_
        refine t_getR (q := 47) (k := 38) (f := 1) (t := 40) dX4_insert_44 rfl rfl rfl rfl inX4 (Nat.le_of_ble_eq_true rfl) fX4_15 ?_
        refine s_iload (q := 49) dX4_insert_47 rfl 3 rfl ?_
        refine s_iconst (q := 50) (v := 1) dX4_insert_49 rfl rfl ?_
        refine s_isub (q := 51) dX4_insert_50 rfl ?_
        obtain ⟨hg6, h⟩ := chk_some h
        refine u_iald (q := 52) (k := 40) (v := (S.1 40 ((x4 - 1).toNatClampNeg))) dX4_insert_51 rfl rfl (inB_in hg6) rfl rfl ?_
        obtain ⟨hg7, h⟩ := chk_some h
        refine u_iast (q := 53) (k := 40) dX4_insert_52 rfl rfl (inB_in hg7) rfl ?_
        refine s_iinc (q := 56) (j := 3) (v := (x4 + (-1))) (lv' := [(4, .int (x4 + (-1))), (0, .ref (eB E + 38)), (1, .int x1), (2, .int x2)]) dX4_insert_53 rfl rfl rfl (Nat.le_of_ble_eq_true rfl) rfl ?_
        refine s_goto (tgt := 3) dX4_insert_56 rfl ?_
        exact t_sub [1, 2, 3, 0] rfl (ih _ _ _ _ _ h K)
def G_X4_insert_38_59 (x1 : Int32) (x2 : Int32) (x4 : Int32) (S : ST) : Option (Unit × ST) := (if inB x4 10 = true then (if inB x4 10 = true then some ((), (wr (wr S 39 x4.toNatClampNeg x1) 40 x4.toNatClampNeg x2)) else none) else none)
set_option maxHeartbeats 4000000 in
set_option maxRecDepth 100000 in
theorem T_X4_insert_38_59 (E : EV) (x1 : Int32) (x2 : Int32) (x4 : Int32) {S : ST} {w : (Unit × ST)} (h : G_X4_insert_38_59 x1 x2 x4 S = some w) : SD E mX4_insert 59 [(0, .ref (eB E + 38)), (1, .int x1), (2, .int x2), (4, .int x4)] [] S none w.2 := by
  unfold G_X4_insert_38_59 at h
  refine s_aload_n (q := 60) dX4_insert_59 rfl rfl 0 rfl ?_
  refine t_getR (q := 63) (k := 38) (f := 0) (t := 39) dX4_insert_60 rfl rfl rfl rfl inX4 (Nat.le_of_ble_eq_true rfl) fX4_9 ?_
  refine s_iload (q := 65) dX4_insert_63 rfl 3 rfl ?_
  refine s_iload_n (q := 66) dX4_insert_65 rfl rfl 1 rfl ?_
  obtain ⟨hg9, h⟩ := chk_some h
  refine u_iast (q := 67) (k := 39) dX4_insert_66 rfl rfl (inB_in hg9) rfl ?_
  refine s_aload_n (q := 68) dX4_insert_67 rfl rfl 0 rfl ?_
  refine t_getR (q := 71) (k := 38) (f := 1) (t := 40) dX4_insert_68 rfl rfl rfl rfl inX4 (Nat.le_of_ble_eq_true rfl) fX4_15 ?_
  refine s_iload (q := 73) dX4_insert_71 rfl 3 rfl ?_
  refine s_iload_n (q := 74) dX4_insert_73 rfl rfl 2 rfl ?_
  obtain ⟨hg10, h⟩ := chk_some h
  refine u_iast (q := 75) (k := 40) dX4_insert_74 rfl rfl (inB_in hg10) rfl ?_
  obtain rfl := Option.some.inj h
  exact t_vret dX4_insert_75 rfl rfl
def G_X4_insert_38 (x1 : Int32) (x2 : Int32) (x3 : Int32) (S : ST) : Option (Unit × ST) := (G_X4_insert_38_3 3000 x1 x2 x3 S).bind fun q8 => G_X4_insert_38_59 q8.1 q8.2.1 q8.2.2.1 q8.2.2.2
set_option maxHeartbeats 4000000 in
set_option maxRecDepth 100000 in
theorem T_X4_insert_38 (E : EV) (x1 : Int32) (x2 : Int32) (x3 : Int32) {S : ST} {w : (Unit × ST)} (h : G_X4_insert_38 x1 x2 x3 S = some w) : SD E mX4_insert 0 [(0, .ref (eB E + 38)), (1, .int x1), (2, .int x2), (3, .int x3)] [] S none w.2 := by
  unfold G_X4_insert_38 at h
  refine s_iload_n (q := 1) dX4_insert_0 rfl rfl 3 rfl ?_
  refine s_istore (q := 3) (lv' := [(4, .int x3), (0, .ref (eB E + 38)), (1, .int x1), (2, .int x2), (3, .int x3)]) dX4_insert_1 rfl (Nat.le_of_ble_eq_true rfl) rfl ?_
  obtain ⟨q8, hc8, h⟩ := bnd h
  try dsimp only at h
  refine t_sub [1, 2, 3, 0] rfl (T_X4_insert_38_3 E _ _ _ _ _ _ hc8 ?_)
  exact t_sub [0, 1, 2, 3] rfl (T_X4_insert_38_59 E _ _ _ h)
-- X4_standAt
def G_X4_standAt_38_1_20 : Nat → Int32 → Int32 → ST → Option (ST)
  | 0, _, _, _ => none
  | n + 1, x2, x3, S => (if (S.1 38 2) ≤ x3 then some (S) else (if inB x3 10 = true then ((G_X4_insert_38 x3 (irm (((S.1 3 x3.toNatClampNeg) - x2) + 100) 100) x3 S).bind fun q3 => G_X4_standAt_38_1_20 n x2 (x3 + 1) q3.2) else none))
set_option maxHeartbeats 4000000 in
set_option maxRecDepth 100000 in
theorem T_X4_standAt_38_1_20 (E : EV) : ∀ (n : Nat) (x2 : Int32) (x3 : Int32) (S : ST), ∀ (w : (ST)), G_X4_standAt_38_1_20 n x2 x3 S = some w → ∀ {Q : Option Value → ST → Prop}, SS E mX4_standAt 54 [] [] w Q → SS E mX4_standAt 20 [(0, .ref (eB E + 38)), (1, .ref (eB E + 1)), (2, .int x2), (3, .int x3)] [] S Q := by
  intro n
  induction n with
  | zero =>
    intro x2 x3 S w h
    cases h
  | succ n ih =>
    intro x2 x3 S w h Q K
    unfold G_X4_standAt_38_1_20 at h
    refine s_iload_n (q := 21) dX4_standAt_20 rfl rfl 3 rfl ?_
    refine s_aload_n (q := 22) dX4_standAt_21 rfl rfl 0 rfl ?_
    refine t_getI (q := 25) (k := 38) (f := 2) (v := (S.1 38 2)) dX4_standAt_22 rfl rfl rfl rfl inX4 (Nat.le_of_ble_eq_true rfl) fX4_18 rfl ?_
    refine s_icmp_ge (q := 28) (tgt := 54) dX4_standAt_25 rfl rfl (fun hb1 => ?_) (fun hb1 => ?_)
    · rw [if_pos hb1] at h
      obtain rfl := Option.some.inj h
      exact t_sub [] rfl K
    · rw [if_neg hb1] at h
      refine s_aload_n (q := 29) dX4_standAt_28 rfl rfl 0 rfl ?_
      refine s_iload_n (q := 30) dX4_standAt_29 rfl rfl 3 rfl ?_
      refine s_aload_n (q := 31) dX4_standAt_30 rfl rfl 1 rfl ?_
      refine t_getR (q := 34) (k := 1) (f := 2) (t := 3) dX4_standAt_31 rfl rfl rfl rfl inX1 (Nat.le_of_ble_eq_true rfl) fX4_31 ?_
      refine s_iload_n (q := 35) dX4_standAt_34 rfl rfl 3 rfl ?_
      obtain ⟨hg2, h⟩ := chk_some h
      refine u_iald (q := 36) (k := 3) (v := (S.1 3 x3.toNatClampNeg)) dX4_standAt_35 rfl rfl (inB_in hg2) rfl rfl ?_
      refine s_iload_n (q := 37) dX4_standAt_36 rfl rfl 2 rfl ?_
      refine s_isub (q := 38) dX4_standAt_37 rfl ?_
      refine s_bipush (q := 40) (v := 100) dX4_standAt_38 rfl rfl ?_
      refine s_iadd (q := 41) dX4_standAt_40 rfl ?_
      refine s_bipush (q := 43) (v := 100) dX4_standAt_41 rfl rfl ?_
      refine v_irem (q := 44) dX4_standAt_43 rfl (by decide) ?_
      refine s_iload_n (q := 45) dX4_standAt_44 rfl rfl 3 rfl ?_
      obtain ⟨q3, hc3, h⟩ := bnd h
      try dsimp only at h
      refine t_callV (q := 48) (N := mX4_insert) (a := eB E + 38) [.int x3, .int (irm (((S.1 3 x3.toNatClampNeg) - x2) + 100) 100), .int x3] dX4_standAt_45 rfl nkX4_insert vkX4_insert lX4_34 ⟨Nat.le_of_ble_eq_true rfl, Nat.le_of_ble_eq_true rfl⟩ (rc_obj (k := 38) rfl rfl) rfl rfl (Nat.le_of_ble_eq_true rfl) (Nat.le_of_ble_eq_true rfl) (T_X4_insert_38 E _ _ _ hc3) ?_
      refine s_iinc (q := 51) (j := 3) (v := (x3 + 1)) (lv' := [(3, .int (x3 + 1)), (0, .ref (eB E + 38)), (1, .ref (eB E + 1)), (2, .int x2)]) dX4_standAt_48 rfl rfl rfl (Nat.le_of_ble_eq_true rfl) rfl ?_
      refine s_goto (tgt := 20) dX4_standAt_51 rfl ?_
      exact t_sub [1, 2, 3, 0] rfl (ih _ _ _ _ h K)
def G_X4_standAt_38_1 (x2 : Int32) (S : ST) : Option (Unit × ST) := (G_X4_standAt_38_1_20 3000 x2 0 (wr (wr S 38 2 (S.1 1 0)) 38 3 (S.1 8 2))).bind fun q4 => some ((), q4)
set_option maxHeartbeats 4000000 in
set_option maxRecDepth 100000 in
theorem T_X4_standAt_38_1 (E : EV) (x2 : Int32) {S : ST} {w : (Unit × ST)} (h : G_X4_standAt_38_1 x2 S = some w) : SD E mX4_standAt 0 [(0, .ref (eB E + 38)), (1, .ref (eB E + 1)), (2, .int x2)] [] S none w.2 := by
  unfold G_X4_standAt_38_1 at h
  refine s_aload_n (q := 1) dX4_standAt_0 rfl rfl 0 rfl ?_
  refine s_aload_n (q := 2) dX4_standAt_1 rfl rfl 1 rfl ?_
  refine t_getI (q := 5) (k := 1) (f := 0) (v := (S.1 1 0)) dX4_standAt_2 rfl rfl rfl rfl inX1 (Nat.le_of_ble_eq_true rfl) fX4_25 rfl ?_
  refine t_putI (q := 8) (k := 38) (f := 2) dX4_standAt_5 rfl rfl rfl rfl inX4 tyX4_ok nmX4 (Nat.le_of_ble_eq_true rfl) fX4_18 rfl rfl rfl ?_
  refine s_aload_n (q := 9) dX4_standAt_8 rfl rfl 0 rfl ?_
  refine s_aload_n (q := 10) dX4_standAt_9 rfl rfl 1 rfl ?_
  refine t_getR (q := 13) (k := 1) (f := 7) (t := 8) dX4_standAt_10 rfl rfl rfl rfl inX1 (Nat.le_of_ble_eq_true rfl) fX4_28 ?_
  refine s_iconst (q := 14) (v := 2) dX4_standAt_13 rfl rfl ?_
  refine u_iald (q := 15) (k := 8) (j := 2) (v := (S.1 8 2)) dX4_standAt_14 rfl rfl (inB_in (by decide)) (by decide) rfl ?_
  refine t_putI (q := 18) (k := 38) (f := 3) dX4_standAt_15 rfl rfl rfl rfl inX4 tyX4_ok nmX4 (Nat.le_of_ble_eq_true rfl) fX4_22 rfl rfl rfl ?_
  refine s_iconst (q := 19) (v := 0) dX4_standAt_18 rfl rfl ?_
  refine s_istore_n (q := 20) (lv' := [(3, .int 0), (0, .ref (eB E + 38)), (1, .ref (eB E + 1)), (2, .int x2)]) dX4_standAt_19 rfl rfl (Nat.le_of_ble_eq_true rfl) rfl ?_
  obtain ⟨q4, hc4, h⟩ := bnd h
  try dsimp only at h
  refine t_sub [1, 2, 3, 0] rfl (T_X4_standAt_38_1_20 E _ _ _ _ _ hc4 ?_)
  obtain rfl := Option.some.inj h
  exact t_vret dX4_standAt_54 rfl rfl
-- X4_stepsBy
def G_X4_stepsBy_38_8 : Nat → Int32 → Int32 → Int32 → Int32 → ST → Option (Int32 × Int32 × Int32 × ST)
  | 0, _, _, _, _, _ => none
  | n + 1, x1, x2, x3, x4, S => (if (S.1 38 2) ≤ x4 then some (x1, x2, x3, S) else (if inB x4 10 = true then (if ((x1 >>> ((S.1 39 x4.toNatClampNeg) &&& 31)) &&& 1) = 1 then (if inB x4 10 = true then (if inB x4 10 = true then G_X4_stepsBy_38_8 n x1 (imn x2 ((x3 + (100 - (S.1 40 x4.toNatClampNeg))) + (imn x3 (100 - (S.1 40 x4.toNatClampNeg))))) (S.1 40 x4.toNatClampNeg) (x4 + 1) S else none) else none) else G_X4_stepsBy_38_8 n x1 x2 x3 (x4 + 1) S) else none))
set_option maxHeartbeats 4000000 in
set_option maxRecDepth 100000 in
theorem T_X4_stepsBy_38_8 (E : EV) : ∀ (n : Nat) (x1 : Int32) (x2 : Int32) (x3 : Int32) (x4 : Int32) (S : ST), ∀ (w : (Int32 × Int32 × Int32 × ST)), G_X4_stepsBy_38_8 n x1 x2 x3 x4 S = some w → ∀ {Q : Option Value → ST → Prop}, SS E mX4_stepsBy 74 [(0, .ref (eB E + 38)), (1, .int w.1), (2, .int w.2.1), (3, .int w.2.2.1)] [] w.2.2.2 Q → SS E mX4_stepsBy 8 [(0, .ref (eB E + 38)), (1, .int x1), (2, .int x2), (3, .int x3), (4, .int x4)] [] S Q := by
  intro n
  induction n with
  | zero =>
    intro x1 x2 x3 x4 S w h
    cases h
  | succ n ih =>
    intro x1 x2 x3 x4 S w h Q K
    unfold G_X4_stepsBy_38_8 at h
    refine s_iload (q := 10) dX4_stepsBy_8 rfl 4 rfl ?_
    refine s_aload_n (q := 11) dX4_stepsBy_10 rfl rfl 0 rfl ?_
    refine t_getI (q := 14) (k := 38) (f := 2) (v := (S.1 38 2)) dX4_stepsBy_11 rfl rfl rfl rfl inX4 (Nat.le_of_ble_eq_true rfl) fX4_18 rfl ?_
    refine s_icmp_ge (q := 17) (tgt := 74) dX4_stepsBy_14 rfl rfl (fun hb1 => ?_) (fun hb1 => ?_)
    · rw [if_pos hb1] at h
      obtain rfl := Option.some.inj h
      exact t_sub [0, 1, 2, 3] rfl K
    · rw [if_neg hb1] at h
      refine s_iload_n (q := 18) dX4_stepsBy_17 rfl rfl 1 rfl ?_
      refine s_aload_n (q := 19) dX4_stepsBy_18 rfl rfl 0 rfl ?_
      refine t_getR (q := 22) (k := 38) (f := 0) (t := 39) dX4_stepsBy_19 rfl rfl rfl rfl inX4 (Nat.le_of_ble_eq_true rfl) fX4_9 ?_
      refine s_iload (q := 24) dX4_stepsBy_22 rfl 4 rfl ?_
      obtain ⟨hg2, h⟩ := chk_some h
      refine u_iald (q := 25) (k := 39) (v := (S.1 39 x4.toNatClampNeg)) dX4_stepsBy_24 rfl rfl (inB_in hg2) rfl rfl ?_
      refine s_ishr (q := 26) dX4_stepsBy_25 rfl ?_
      refine s_iconst (q := 27) (v := 1) dX4_stepsBy_26 rfl rfl ?_
      refine s_iand (q := 28) dX4_stepsBy_27 rfl ?_
      refine s_iconst (q := 29) (v := 1) dX4_stepsBy_28 rfl rfl ?_
      refine s_icmp_ne (q := 32) (tgt := 68) dX4_stepsBy_29 rfl rfl (fun hb3 => ?_) (fun hb3 => ?_)
      · rw [if_neg hb3] at h
        refine s_iinc (q := 71) (j := 4) (v := (x4 + 1)) (lv' := [(4, .int (x4 + 1)), (0, .ref (eB E + 38)), (1, .int x1), (2, .int x2), (3, .int x3)]) dX4_stepsBy_68 rfl rfl rfl (Nat.le_of_ble_eq_true rfl) rfl ?_
        refine s_goto (tgt := 8) dX4_stepsBy_71 rfl ?_
        exact t_sub [1, 2, 3, 4, 0] rfl (ih _ _ _ _ _ _ h K)
      · rw [if_pos hb3] at h
        refine s_bipush (q := 34) (v := 100) dX4_stepsBy_32 rfl rfl ?_
        refine s_aload_n (q := 35) dX4_stepsBy_34 rfl rfl 0 rfl ?_
        refine t_getR (q := 38) (k := 38) (f := 1) (t := 40) dX4_stepsBy_35 rfl rfl rfl rfl inX4 (Nat.le_of_ble_eq_true rfl) fX4_15 ?_
        refine s_iload (q := 40) dX4_stepsBy_38 rfl 4 rfl ?_
        obtain ⟨hg4, h⟩ := chk_some h
        refine u_iald (q := 41) (k := 40) (v := (S.1 40 x4.toNatClampNeg)) dX4_stepsBy_40 rfl rfl (inB_in hg4) rfl rfl ?_
        refine s_isub (q := 42) dX4_stepsBy_41 rfl ?_
        refine s_istore (q := 44) (lv' := [(5, .int (100 - (S.1 40 x4.toNatClampNeg))), (0, .ref (eB E + 38)), (1, .int x1), (2, .int x2), (3, .int x3), (4, .int x4)]) dX4_stepsBy_42 rfl (Nat.le_of_ble_eq_true rfl) rfl ?_
        refine s_iload_n (q := 45) dX4_stepsBy_44 rfl rfl 3 rfl ?_
        refine s_iload_n (q := 46) dX4_stepsBy_45 rfl rfl 4 rfl ?_
        refine s_iload (q := 48) dX4_stepsBy_46 rfl 0 rfl ?_
        refine s_iadd (q := 49) dX4_stepsBy_48 rfl ?_
        refine s_iload_n (q := 50) dX4_stepsBy_49 rfl rfl 4 rfl ?_
        refine s_iload (q := 52) dX4_stepsBy_50 rfl 0 rfl ?_
        refine v_min (q := 55) dX4_stepsBy_52 rfl lX4_39 (Nat.le_of_ble_eq_true rfl) (Nat.le_of_ble_eq_true rfl) ?_
        refine s_iadd (q := 56) dX4_stepsBy_55 rfl ?_
        refine v_min (q := 59) dX4_stepsBy_56 rfl lX4_39 (Nat.le_of_ble_eq_true rfl) (Nat.le_of_ble_eq_true rfl) ?_
        refine s_istore_n (q := 60) (lv' := [(2, .int (imn x2 ((x3 + (100 - (S.1 40 x4.toNatClampNeg))) + (imn x3 (100 - (S.1 40 x4.toNatClampNeg)))))), (5, .int (100 - (S.1 40 x4.toNatClampNeg))), (0, .ref (eB E + 38)), (1, .int x1), (3, .int x3), (4, .int x4)]) dX4_stepsBy_59 rfl rfl (Nat.le_of_ble_eq_true rfl) rfl ?_
        refine s_aload_n (q := 61) dX4_stepsBy_60 rfl rfl 2 rfl ?_
        refine t_getR (q := 64) (k := 38) (f := 1) (t := 40) dX4_stepsBy_61 rfl rfl rfl rfl inX4 (Nat.le_of_ble_eq_true rfl) fX4_15 ?_
        refine s_iload (q := 66) dX4_stepsBy_64 rfl 5 rfl ?_
        obtain ⟨hg5, h⟩ := chk_some h
        refine u_iald (q := 67) (k := 40) (v := (S.1 40 x4.toNatClampNeg)) dX4_stepsBy_66 rfl rfl (inB_in hg5) rfl rfl ?_
        refine s_istore_n (q := 68) (lv' := [(3, .int (S.1 40 x4.toNatClampNeg)), (2, .int (imn x2 ((x3 + (100 - (S.1 40 x4.toNatClampNeg))) + (imn x3 (100 - (S.1 40 x4.toNatClampNeg)))))), (5, .int (100 - (S.1 40 x4.toNatClampNeg))), (0, .ref (eB E + 38)), (1, .int x1), (4, .int x4)]) dX4_stepsBy_67 rfl rfl (Nat.le_of_ble_eq_true rfl) rfl ?_
        refine s_iinc (q := 71) (j := 5) (v := (x4 + 1)) (lv' := [(4, .int (x4 + 1)), (3, .int (S.1 40 x4.toNatClampNeg)), (2, .int (imn x2 ((x3 + (100 - (S.1 40 x4.toNatClampNeg))) + (imn x3 (100 - (S.1 40 x4.toNatClampNeg)))))), (5, .int (100 - (S.1 40 x4.toNatClampNeg))), (0, .ref (eB E + 38)), (1, .int x1)]) dX4_stepsBy_68 rfl rfl rfl (Nat.le_of_ble_eq_true rfl) rfl ?_
        refine s_goto (tgt := 8) dX4_stepsBy_71 rfl ?_
        exact t_sub [4, 5, 2, 1, 0] rfl (ih _ _ _ _ _ _ h K)
def G_X4_stepsBy_38 (x1 : Int32) (S : ST) : Option (Int32 × ST) := (G_X4_stepsBy_38_8 3000 x1 1000000 0 0 S).bind fun q6 => ((G_J6_bitCount_0f7a4 q6.1 q6.2.2.2).bind fun q7 => some (((imn q6.2.1 q6.2.2.1) + ((q6.2.2.2.1 38 3) * q7.1)), q7.2))
set_option maxHeartbeats 4000000 in
set_option maxRecDepth 100000 in
theorem T_X4_stepsBy_38 (E : EV) (x1 : Int32) {S : ST} {w : (Int32 × ST)} (h : G_X4_stepsBy_38 x1 S = some w) : SD E mX4_stepsBy 0 [(0, .ref (eB E + 38)), (1, .int x1)] [] S (some (.int w.1)) w.2 := by
  unfold G_X4_stepsBy_38 at h
  refine s_ldc (q := 2) (v := 1000000) dX4_stepsBy_0 rfl kX4_38 ?_
  refine s_istore_n (q := 3) (lv' := [(2, .int 1000000), (0, .ref (eB E + 38)), (1, .int x1)]) dX4_stepsBy_2 rfl rfl (Nat.le_of_ble_eq_true rfl) rfl ?_
  refine s_iconst (q := 4) (v := 0) dX4_stepsBy_3 rfl rfl ?_
  refine s_istore_n (q := 5) (lv' := [(3, .int 0), (2, .int 1000000), (0, .ref (eB E + 38)), (1, .int x1)]) dX4_stepsBy_4 rfl rfl (Nat.le_of_ble_eq_true rfl) rfl ?_
  refine s_iconst (q := 6) (v := 0) dX4_stepsBy_5 rfl rfl ?_
  refine s_istore (q := 8) (lv' := [(4, .int 0), (3, .int 0), (2, .int 1000000), (0, .ref (eB E + 38)), (1, .int x1)]) dX4_stepsBy_6 rfl (Nat.le_of_ble_eq_true rfl) rfl ?_
  obtain ⟨q6, hc6, h⟩ := bnd h
  try dsimp only at h
  refine t_sub [3, 4, 2, 1, 0] rfl (T_X4_stepsBy_38_8 E _ _ _ _ _ _ _ hc6 ?_)
  refine s_iload_n (q := 75) dX4_stepsBy_74 rfl rfl 2 rfl ?_
  refine s_iload_n (q := 76) dX4_stepsBy_75 rfl rfl 3 rfl ?_
  refine v_min (q := 79) dX4_stepsBy_76 rfl lX4_39 (Nat.le_of_ble_eq_true rfl) (Nat.le_of_ble_eq_true rfl) ?_
  refine s_aload_n (q := 80) dX4_stepsBy_79 rfl rfl 0 rfl ?_
  refine t_getI (q := 83) (k := 38) (f := 3) (v := (q6.2.2.2.1 38 3)) dX4_stepsBy_80 rfl rfl rfl rfl inX4 (Nat.le_of_ble_eq_true rfl) fX4_22 rfl ?_
  refine s_iload_n (q := 84) dX4_stepsBy_83 rfl rfl 1 rfl ?_
  obtain ⟨q7, hc7, h⟩ := bnd h
  try dsimp only at h
  refine t_callS (q := 87) (N := mJ6_bitCount_0f7a4) [.int q6.1] dX4_stepsBy_84 rfl nkJ6_bitCount_0f7a4 sJ6_bitCount_0f7a4 lX4_45 ⟨Nat.le_of_ble_eq_true rfl, Nat.le_of_ble_eq_true rfl⟩ rfl rfl (Nat.le_of_ble_eq_true rfl) (Nat.le_of_ble_eq_true rfl) (T_J6_bitCount_0f7a4 E _ hc7) ?_
  refine s_imul (q := 88) dX4_stepsBy_87 rfl ?_
  refine s_iadd (q := 89) dX4_stepsBy_88 rfl ?_
  obtain rfl := Option.some.inj h
  exact t_iret dX4_stepsBy_89 rfl rfl
-- X5_longerWay
def G_X5_longerWay_0 (x1 : Int32) (x2 : Int32) (S : ST) : Option (Int32 × ST) := ((G_X4_stepsBy_35 x1 S).bind fun q1 => ((G_X4_stepsBy_38 (x2 &&& (x1 ^^^ (-1))) q1.2).bind fun q2 => some ((imx q1.1 q2.1), q2.2)))
set_option maxHeartbeats 4000000 in
set_option maxRecDepth 100000 in
theorem T_X5_longerWay_0 (E : EV) (x1 : Int32) (x2 : Int32) {S : ST} {w : (Int32 × ST)} (h : G_X5_longerWay_0 x1 x2 S = some w) : SD E mX5_longerWay 0 [(0, .ref (eB E + 0)), (1, .int x1), (2, .int x2)] [] S (some (.int w.1)) w.2 := by
  unfold G_X5_longerWay_0 at h
  refine s_aload_n (q := 1) dX5_longerWay_0 rfl rfl 0 rfl ?_
  refine t_getR (q := 4) (k := 0) (f := 6) (t := 35) dX5_longerWay_1 rfl rfl rfl rfl inX5 (Nat.le_of_ble_eq_true rfl) fX5_42 ?_
  refine s_iload_n (q := 5) dX5_longerWay_4 rfl rfl 1 rfl ?_
  obtain ⟨q1, hc1, h⟩ := bnd h
  try dsimp only at h
  refine t_callV (q := 8) (N := mX4_stepsBy) (a := eB E + 35) [.int x1] dX5_longerWay_5 rfl nkX4_stepsBy vkX4_stepsBy lX5_177 ⟨Nat.le_of_ble_eq_true rfl, Nat.le_of_ble_eq_true rfl⟩ (rc_obj (k := 35) rfl rfl) rfl rfl (Nat.le_of_ble_eq_true rfl) (Nat.le_of_ble_eq_true rfl) (T_X4_stepsBy_35 E _ hc1) ?_
  refine s_aload_n (q := 9) dX5_longerWay_8 rfl rfl 0 rfl ?_
  refine t_getR (q := 12) (k := 0) (f := 7) (t := 38) dX5_longerWay_9 rfl rfl rfl rfl inX5 (Nat.le_of_ble_eq_true rfl) fX5_46 ?_
  refine s_iload_n (q := 13) dX5_longerWay_12 rfl rfl 2 rfl ?_
  refine s_iload_n (q := 14) dX5_longerWay_13 rfl rfl 1 rfl ?_
  refine s_iconst (q := 15) (v := (-1)) dX5_longerWay_14 rfl rfl ?_
  refine s_ixor (q := 16) dX5_longerWay_15 rfl ?_
  refine s_iand (q := 17) dX5_longerWay_16 rfl ?_
  obtain ⟨q2, hc2, h⟩ := bnd h
  try dsimp only at h
  refine t_callV (q := 20) (N := mX4_stepsBy) (a := eB E + 38) [.int (x2 &&& (x1 ^^^ (-1)))] dX5_longerWay_17 rfl nkX4_stepsBy vkX4_stepsBy lX5_177 ⟨Nat.le_of_ble_eq_true rfl, Nat.le_of_ble_eq_true rfl⟩ (rc_obj (k := 38) rfl rfl) rfl rfl (Nat.le_of_ble_eq_true rfl) (Nat.le_of_ble_eq_true rfl) (T_X4_stepsBy_38 E _ hc2) ?_
  refine v_max (q := 23) dX5_longerWay_20 rfl lX5_288 (Nat.le_of_ble_eq_true rfl) (Nat.le_of_ble_eq_true rfl) ?_
  obtain rfl := Option.some.inj h
  exact t_iret dX5_longerWay_23 rfl rfl
-- X5_firstShare
def G_X5_firstShare_0_50 : Nat → Int32 → Int32 → Int32 → Int32 → ST → Option (Int32 × ST)
  | 0, _, _, _, _, _ => none
  | n + 1, x3, x4, x5, x6, S => (if x3 < x6 then some (x5, S) else (if (x6 &&& (x3 ^^^ (-1))) = 0 then ((G_X5_longerWay_0 x6 x3 S).bind fun q7 => (if x4 ≤ q7.1 then G_X5_firstShare_0_50 n x3 x4 x5 (x6 + 1) q7.2 else G_X5_firstShare_0_50 n x3 q7.1 x6 (x6 + 1) q7.2)) else G_X5_firstShare_0_50 n x3 x4 x5 (x6 + 1) S))
set_option maxHeartbeats 4000000 in
set_option maxRecDepth 100000 in
theorem T_X5_firstShare_0_50 (E : EV) : ∀ (n : Nat) (x3 : Int32) (x4 : Int32) (x5 : Int32) (x6 : Int32) (S : ST), ∀ (w : (Int32 × ST)), G_X5_firstShare_0_50 n x3 x4 x5 x6 S = some w → ∀ {Q : Option Value → ST → Prop}, SS E mX5_firstShare 95 [(5, .int w.1)] [] w.2 Q → SS E mX5_firstShare 50 [(0, .ref (eB E + 0)), (3, .int x3), (4, .int x4), (5, .int x5), (6, .int x6)] [] S Q := by
  intro n
  induction n with
  | zero =>
    intro x3 x4 x5 x6 S w h
    cases h
  | succ n ih =>
    intro x3 x4 x5 x6 S w h Q K
    unfold G_X5_firstShare_0_50 at h
    refine s_iload (q := 52) dX5_firstShare_50 rfl 4 rfl ?_
    refine s_iload_n (q := 53) dX5_firstShare_52 rfl rfl 1 rfl ?_
    refine s_icmp_gt (q := 56) (tgt := 95) dX5_firstShare_53 rfl rfl (fun hb5 => ?_) (fun hb5 => ?_)
    · rw [if_pos hb5] at h
      obtain rfl := Option.some.inj h
      exact t_sub [3] rfl K
    · rw [if_neg hb5] at h
      refine s_iload (q := 58) dX5_firstShare_56 rfl 4 rfl ?_
      refine s_iload_n (q := 59) dX5_firstShare_58 rfl rfl 1 rfl ?_
      refine s_iconst (q := 60) (v := (-1)) dX5_firstShare_59 rfl rfl ?_
      refine s_ixor (q := 61) dX5_firstShare_60 rfl ?_
      refine s_iand (q := 62) dX5_firstShare_61 rfl ?_
      refine s_if_ne (q := 65) (tgt := 89) dX5_firstShare_62 rfl rfl (fun hb6 => ?_) (fun hb6 => ?_)
      · rw [if_neg hb6] at h
        refine s_iinc (q := 92) (j := 4) (v := (x6 + 1)) (lv' := [(6, .int (x6 + 1)), (0, .ref (eB E + 0)), (3, .int x3), (4, .int x4), (5, .int x5)]) dX5_firstShare_89 rfl rfl rfl (Nat.le_of_ble_eq_true rfl) rfl ?_
        refine s_goto (tgt := 50) dX5_firstShare_92 rfl ?_
        exact t_sub [1, 2, 3, 4, 0] rfl (ih _ _ _ _ _ _ h K)
      · rw [if_pos hb6] at h
        refine s_aload_n (q := 66) dX5_firstShare_65 rfl rfl 0 rfl ?_
        refine s_iload (q := 68) dX5_firstShare_66 rfl 4 rfl ?_
        refine s_iload_n (q := 69) dX5_firstShare_68 rfl rfl 1 rfl ?_
        obtain ⟨q7, hc7, h⟩ := bnd h
        try dsimp only at h
        refine t_callV (q := 72) (N := mX5_longerWay) (a := eB E + 0) [.int x6, .int x3] dX5_firstShare_69 rfl nkX5_longerWay vkX5_longerWay lX5_191 ⟨Nat.le_of_ble_eq_true rfl, Nat.le_of_ble_eq_true rfl⟩ (rc_obj (k := 0) rfl rfl) rfl rfl (Nat.le_of_ble_eq_true rfl) (Nat.le_of_ble_eq_true rfl) (T_X5_longerWay_0 E _ _ hc7) ?_
        refine s_istore (q := 74) (lv' := [(7, .int q7.1), (0, .ref (eB E + 0)), (3, .int x3), (4, .int x4), (5, .int x5), (6, .int x6)]) dX5_firstShare_72 rfl (Nat.le_of_ble_eq_true rfl) rfl ?_
        refine s_iload (q := 76) dX5_firstShare_74 rfl 0 rfl ?_
        refine s_iload (q := 78) dX5_firstShare_76 rfl 3 rfl ?_
        refine s_icmp_ge (q := 81) (tgt := 89) dX5_firstShare_78 rfl rfl (fun hb8 => ?_) (fun hb8 => ?_)
        · rw [if_pos hb8] at h
          refine s_iinc (q := 92) (j := 5) (v := (x6 + 1)) (lv' := [(6, .int (x6 + 1)), (7, .int q7.1), (0, .ref (eB E + 0)), (3, .int x3), (4, .int x4), (5, .int x5)]) dX5_firstShare_89 rfl rfl rfl (Nat.le_of_ble_eq_true rfl) rfl ?_
          refine s_goto (tgt := 50) dX5_firstShare_92 rfl ?_
          exact t_sub [2, 3, 4, 5, 0] rfl (ih _ _ _ _ _ _ h K)
        · rw [if_neg hb8] at h
          refine s_iload (q := 83) dX5_firstShare_81 rfl 0 rfl ?_
          refine s_istore (q := 85) (lv' := [(4, .int q7.1), (7, .int q7.1), (0, .ref (eB E + 0)), (3, .int x3), (5, .int x5), (6, .int x6)]) dX5_firstShare_83 rfl (Nat.le_of_ble_eq_true rfl) rfl ?_
          refine s_iload (q := 87) dX5_firstShare_85 rfl 5 rfl ?_
          refine s_istore (q := 89) (lv' := [(5, .int x6), (4, .int q7.1), (7, .int q7.1), (0, .ref (eB E + 0)), (3, .int x3), (6, .int x6)]) dX5_firstShare_87 rfl (Nat.le_of_ble_eq_true rfl) rfl ?_
          refine s_iinc (q := 92) (j := 5) (v := (x6 + 1)) (lv' := [(6, .int (x6 + 1)), (5, .int x6), (4, .int q7.1), (7, .int q7.1), (0, .ref (eB E + 0)), (3, .int x3)]) dX5_firstShare_89 rfl rfl rfl (Nat.le_of_ble_eq_true rfl) rfl ?_
          refine s_goto (tgt := 50) dX5_firstShare_92 rfl ?_
          exact t_sub [4, 5, 2, 1, 0] rfl (ih _ _ _ _ _ _ h K)
def G_X5_firstShare_0 (x1 : Int32) (x2 : Int32) (x3 : Int32) (S : ST) : Option (Int32 × ST) := (if inB x1 4 = true then ((G_X4_standAt_35_1 (S.1 6 x1.toNatClampNeg) S).bind fun q2 => (if inB x2 4 = true then ((G_X4_standAt_38_1 (q2.2.1 6 x2.toNatClampNeg) q2.2).bind fun q4 => (G_X5_firstShare_0_50 3000 x3 1000000 0 0 q4.2).bind fun q9 => some (q9.1, q9.2)) else none)) else none)
set_option maxHeartbeats 4000000 in
set_option maxRecDepth 100000 in
theorem T_X5_firstShare_0 (E : EV) (x1 : Int32) (x2 : Int32) (x3 : Int32) {S : ST} {w : (Int32 × ST)} (h : G_X5_firstShare_0 x1 x2 x3 S = some w) : SD E mX5_firstShare 0 [(0, .ref (eB E + 0)), (1, .int x1), (2, .int x2), (3, .int x3)] [] S (some (.int w.1)) w.2 := by
  unfold G_X5_firstShare_0 at h
  refine s_aload_n (q := 1) dX5_firstShare_0 rfl rfl 0 rfl ?_
  refine t_getR (q := 4) (k := 0) (f := 6) (t := 35) dX5_firstShare_1 rfl rfl rfl rfl inX5 (Nat.le_of_ble_eq_true rfl) fX5_42 ?_
  refine s_aload_n (q := 5) dX5_firstShare_4 rfl rfl 0 rfl ?_
  refine t_getR (q := 8) (k := 0) (f := 0) (t := 1) dX5_firstShare_5 rfl rfl rfl rfl inX5 (Nat.le_of_ble_eq_true rfl) fX5_10 ?_
  refine s_aload_n (q := 9) dX5_firstShare_8 rfl rfl 0 rfl ?_
  refine t_getR (q := 12) (k := 0) (f := 0) (t := 1) dX5_firstShare_9 rfl rfl rfl rfl inX5 (Nat.le_of_ble_eq_true rfl) fX5_10 ?_
  refine t_getR (q := 15) (k := 1) (f := 5) (t := 6) dX5_firstShare_12 rfl rfl rfl rfl inX1 (Nat.le_of_ble_eq_true rfl) fX5_142 ?_
  refine s_iload_n (q := 16) dX5_firstShare_15 rfl rfl 1 rfl ?_
  obtain ⟨hg1, h⟩ := chk_some h
  refine u_iald (q := 17) (k := 6) (v := (S.1 6 x1.toNatClampNeg)) dX5_firstShare_16 rfl rfl (inB_in hg1) rfl rfl ?_
  obtain ⟨q2, hc2, h⟩ := bnd h
  try dsimp only at h
  refine t_callV (q := 20) (N := mX4_standAt) (a := eB E + 35) [.ref (eB E + 1), .int (S.1 6 x1.toNatClampNeg)] dX5_firstShare_17 rfl nkX4_standAt vkX4_standAt lX5_173 ⟨Nat.le_of_ble_eq_true rfl, Nat.le_of_ble_eq_true rfl⟩ (rc_obj (k := 35) rfl rfl) rfl rfl (Nat.le_of_ble_eq_true rfl) (Nat.le_of_ble_eq_true rfl) (T_X4_standAt_35_1 E _ hc2) ?_
  refine s_aload_n (q := 21) dX5_firstShare_20 rfl rfl 0 rfl ?_
  refine t_getR (q := 24) (k := 0) (f := 7) (t := 38) dX5_firstShare_21 rfl rfl rfl rfl inX5 (Nat.le_of_ble_eq_true rfl) fX5_46 ?_
  refine s_aload_n (q := 25) dX5_firstShare_24 rfl rfl 0 rfl ?_
  refine t_getR (q := 28) (k := 0) (f := 0) (t := 1) dX5_firstShare_25 rfl rfl rfl rfl inX5 (Nat.le_of_ble_eq_true rfl) fX5_10 ?_
  refine s_aload_n (q := 29) dX5_firstShare_28 rfl rfl 0 rfl ?_
  refine t_getR (q := 32) (k := 0) (f := 0) (t := 1) dX5_firstShare_29 rfl rfl rfl rfl inX5 (Nat.le_of_ble_eq_true rfl) fX5_10 ?_
  refine t_getR (q := 35) (k := 1) (f := 5) (t := 6) dX5_firstShare_32 rfl rfl rfl rfl inX1 (Nat.le_of_ble_eq_true rfl) fX5_142 ?_
  refine s_iload_n (q := 36) dX5_firstShare_35 rfl rfl 2 rfl ?_
  obtain ⟨hg3, h⟩ := chk_some h
  refine u_iald (q := 37) (k := 6) (v := (q2.2.1 6 x2.toNatClampNeg)) dX5_firstShare_36 rfl rfl (inB_in hg3) rfl rfl ?_
  obtain ⟨q4, hc4, h⟩ := bnd h
  try dsimp only at h
  refine t_callV (q := 40) (N := mX4_standAt) (a := eB E + 38) [.ref (eB E + 1), .int (q2.2.1 6 x2.toNatClampNeg)] dX5_firstShare_37 rfl nkX4_standAt vkX4_standAt lX5_173 ⟨Nat.le_of_ble_eq_true rfl, Nat.le_of_ble_eq_true rfl⟩ (rc_obj (k := 38) rfl rfl) rfl rfl (Nat.le_of_ble_eq_true rfl) (Nat.le_of_ble_eq_true rfl) (T_X4_standAt_38_1 E _ hc4) ?_
  refine s_ldc (q := 42) (v := 1000000) dX5_firstShare_40 rfl kX5_183 ?_
  refine s_istore (q := 44) (lv' := [(4, .int 1000000), (0, .ref (eB E + 0)), (1, .int x1), (2, .int x2), (3, .int x3)]) dX5_firstShare_42 rfl (Nat.le_of_ble_eq_true rfl) rfl ?_
  refine s_iconst (q := 45) (v := 0) dX5_firstShare_44 rfl rfl ?_
  refine s_istore (q := 47) (lv' := [(5, .int 0), (4, .int 1000000), (0, .ref (eB E + 0)), (1, .int x1), (2, .int x2), (3, .int x3)]) dX5_firstShare_45 rfl (Nat.le_of_ble_eq_true rfl) rfl ?_
  refine s_iconst (q := 48) (v := 0) dX5_firstShare_47 rfl rfl ?_
  refine s_istore (q := 50) (lv' := [(6, .int 0), (5, .int 0), (4, .int 1000000), (0, .ref (eB E + 0)), (1, .int x1), (2, .int x2), (3, .int x3)]) dX5_firstShare_48 rfl (Nat.le_of_ble_eq_true rfl) rfl ?_
  obtain ⟨q9, hc9, h⟩ := bnd h
  try dsimp only at h
  refine t_sub [3, 6, 2, 1, 0] rfl (T_X5_firstShare_0_50 E _ _ _ _ _ _ _ hc9 ?_)
  refine s_iload (q := 97) dX5_firstShare_95 rfl 0 rfl ?_
  obtain rfl := Option.some.inj h
  exact t_iret dX5_firstShare_97 rfl rfl
