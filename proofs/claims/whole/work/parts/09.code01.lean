-- X5_isBelow
def G_X5_isBelow (x0 : Int32) (x1 : Int32) (S : ST) : Option (Int32 × ST) := (if x0 < 0 then some (0, S) else (if x1 ≤ x0 then some (0, S) else some (1, S)))
set_option maxHeartbeats 4000000 in
set_option maxRecDepth 100000 in
theorem T_X5_isBelow (E : EV) (x0 : Int32) (x1 : Int32) {S : ST} {w : (Int32 × ST)} (h : G_X5_isBelow x0 x1 S = some w) : SD E mX5_isBelow 0 [(0, .int x0), (1, .int x1)] [] S (some (.int w.1)) w.2 := by
  unfold G_X5_isBelow at h
  refine s_iload_n (q := 1) dX5_isBelow_0 rfl rfl 0 rfl ?_
  refine s_if_lt (q := 4) (tgt := 13) dX5_isBelow_1 rfl rfl (fun hb1 => ?_) (fun hb1 => ?_)
  · rw [if_pos hb1] at h
    refine s_iconst (q := 14) (v := 0) dX5_isBelow_13 rfl rfl ?_
    obtain rfl := Option.some.inj h
    exact t_zret dX5_isBelow_14 rfl rfl rfl
  · rw [if_neg hb1] at h
    refine s_iload_n (q := 5) dX5_isBelow_4 rfl rfl 0 rfl ?_
    refine s_iload_n (q := 6) dX5_isBelow_5 rfl rfl 1 rfl ?_
    refine s_icmp_ge (q := 9) (tgt := 13) dX5_isBelow_6 rfl rfl (fun hb2 => ?_) (fun hb2 => ?_)
    · rw [if_pos hb2] at h
      refine s_iconst (q := 14) (v := 0) dX5_isBelow_13 rfl rfl ?_
      obtain rfl := Option.some.inj h
      exact t_zret dX5_isBelow_14 rfl rfl rfl
    · rw [if_neg hb2] at h
      refine s_iconst (q := 10) (v := 1) dX5_isBelow_9 rfl rfl ?_
      refine s_goto (tgt := 14) dX5_isBelow_10 rfl ?_
      obtain rfl := Option.some.inj h
      exact t_zret dX5_isBelow_14 rfl rfl rfl
-- X5_finding
def G_X5_finding_0 (x1 : Int32) (S : ST) : Option (Int32 × ST) := (if inB x1 7 = true then (if inB x1 7 = true then some (((-1000001) - x1), (wr S 42 x1.toNatClampNeg ((S.1 42 x1.toNatClampNeg) + 1))) else none) else none)
set_option maxHeartbeats 4000000 in
set_option maxRecDepth 100000 in
theorem T_X5_finding_0 (E : EV) (x1 : Int32) {S : ST} {w : (Int32 × ST)} (h : G_X5_finding_0 x1 S = some w) : SD E mX5_finding 0 [(0, .ref (eB E + 0)), (1, .int x1)] [] S (some (.int w.1)) w.2 := by
  unfold G_X5_finding_0 at h
  refine s_aload_n (q := 1) dX5_finding_0 rfl rfl 0 rfl ?_
  refine t_getR (q := 4) (k := 0) (f := 9) (t := 42) dX5_finding_1 rfl rfl rfl rfl inX5 (Nat.le_of_ble_eq_true rfl) fX5_53 ?_
  refine s_iload_n (q := 5) dX5_finding_4 rfl rfl 1 rfl ?_
  refine s_dup2 (q := 6) dX5_finding_5 rfl rfl rfl ?_
  obtain ⟨hg1, h⟩ := chk_some h
  refine u_iald (q := 7) (k := 42) (v := (S.1 42 x1.toNatClampNeg)) dX5_finding_6 rfl rfl (inB_in hg1) rfl rfl ?_
  refine s_iconst (q := 8) (v := 1) dX5_finding_7 rfl rfl ?_
  refine s_iadd (q := 9) dX5_finding_8 rfl ?_
  obtain ⟨hg2, h⟩ := chk_some h
  refine u_iast (q := 10) (k := 42) dX5_finding_9 rfl rfl (inB_in hg2) rfl ?_
  refine s_ldcw (q := 13) (v := (-1000001)) dX5_finding_10 rfl kX5_281 ?_
  refine s_iload_n (q := 14) dX5_finding_13 rfl rfl 1 rfl ?_
  refine s_isub (q := 15) dX5_finding_14 rfl ?_
  obtain rfl := Option.some.inj h
  exact t_iret dX5_finding_15 rfl rfl
-- X1_addStar
def G_X1_addStar_1 (x1 : Int32) (x2 : Int32) (x3 : Int32) (x4 : Int32) (S : ST) : Option (Int32 × ST) := (if inB (S.1 1 0) 10 = true then (if inB (S.1 1 0) 10 = true then (if inB (S.1 1 0) 10 = true then (if inB (S.1 1 0) 10 = true then some ((((S.1 1 0) + 1) - 1), (wr (wr (wr (wr (wr S 2 ((S.1 1 0).toNatClampNeg) x1) 3 ((S.1 1 0).toNatClampNeg) x2) 4 ((S.1 1 0).toNatClampNeg) x3) 5 ((S.1 1 0).toNatClampNeg) x4) 1 0 ((S.1 1 0) + 1))) else none) else none) else none) else none)
set_option maxHeartbeats 4000000 in
set_option maxRecDepth 100000 in
theorem T_X1_addStar_1 (E : EV) (x1 : Int32) (x2 : Int32) (x3 : Int32) (x4 : Int32) {S : ST} {w : (Int32 × ST)} (h : G_X1_addStar_1 x1 x2 x3 x4 S = some w) : SD E mX1_addStar 0 [(0, .ref (eB E + 1)), (1, .int x1), (2, .int x2), (3, .int x3), (4, .int x4)] [] S (some (.int w.1)) w.2 := by
  unfold G_X1_addStar_1 at h
  refine s_aload_n (q := 1) dX1_addStar_0 rfl rfl 0 rfl ?_
  refine t_getR (q := 4) (k := 1) (f := 1) (t := 2) dX1_addStar_1 rfl rfl rfl rfl inX1 (Nat.le_of_ble_eq_true rfl) fX1_15 ?_
  refine s_aload_n (q := 5) dX1_addStar_4 rfl rfl 0 rfl ?_
  refine t_getI (q := 8) (k := 1) (f := 0) (v := (S.1 1 0)) dX1_addStar_5 rfl rfl rfl rfl inX1 (Nat.le_of_ble_eq_true rfl) fX1_9 rfl ?_
  refine s_iload_n (q := 9) dX1_addStar_8 rfl rfl 1 rfl ?_
  obtain ⟨hg1, h⟩ := chk_some h
  refine u_iast (q := 10) (k := 2) dX1_addStar_9 rfl rfl (inB_in hg1) rfl ?_
  refine s_aload_n (q := 11) dX1_addStar_10 rfl rfl 0 rfl ?_
  refine t_getR (q := 14) (k := 1) (f := 2) (t := 3) dX1_addStar_11 rfl rfl rfl rfl inX1 (Nat.le_of_ble_eq_true rfl) fX1_19 ?_
  refine s_aload_n (q := 15) dX1_addStar_14 rfl rfl 0 rfl ?_
  refine t_getI (q := 18) (k := 1) (f := 0) (v := (S.1 1 0)) dX1_addStar_15 rfl rfl rfl rfl inX1 (Nat.le_of_ble_eq_true rfl) fX1_9 rfl ?_
  refine s_iload_n (q := 19) dX1_addStar_18 rfl rfl 2 rfl ?_
  obtain ⟨hg2, h⟩ := chk_some h
  refine u_iast (q := 20) (k := 3) dX1_addStar_19 rfl rfl (inB_in hg2) rfl ?_
  refine s_aload_n (q := 21) dX1_addStar_20 rfl rfl 0 rfl ?_
  refine t_getR (q := 24) (k := 1) (f := 3) (t := 4) dX1_addStar_21 rfl rfl rfl rfl inX1 (Nat.le_of_ble_eq_true rfl) fX1_22 ?_
  refine s_aload_n (q := 25) dX1_addStar_24 rfl rfl 0 rfl ?_
  refine t_getI (q := 28) (k := 1) (f := 0) (v := (S.1 1 0)) dX1_addStar_25 rfl rfl rfl rfl inX1 (Nat.le_of_ble_eq_true rfl) fX1_9 rfl ?_
  refine s_iload_n (q := 29) dX1_addStar_28 rfl rfl 3 rfl ?_
  obtain ⟨hg3, h⟩ := chk_some h
  refine u_iast (q := 30) (k := 4) dX1_addStar_29 rfl rfl (inB_in hg3) rfl ?_
  refine s_aload_n (q := 31) dX1_addStar_30 rfl rfl 0 rfl ?_
  refine t_getR (q := 34) (k := 1) (f := 4) (t := 5) dX1_addStar_31 rfl rfl rfl rfl inX1 (Nat.le_of_ble_eq_true rfl) fX1_25 ?_
  refine s_aload_n (q := 35) dX1_addStar_34 rfl rfl 0 rfl ?_
  refine t_getI (q := 38) (k := 1) (f := 0) (v := (S.1 1 0)) dX1_addStar_35 rfl rfl rfl rfl inX1 (Nat.le_of_ble_eq_true rfl) fX1_9 rfl ?_
  refine s_iload (q := 40) dX1_addStar_38 rfl 4 rfl ?_
  obtain ⟨hg4, h⟩ := chk_some h
  refine u_iast (q := 41) (k := 5) dX1_addStar_40 rfl rfl (inB_in hg4) rfl ?_
  refine s_aload_n (q := 42) dX1_addStar_41 rfl rfl 0 rfl ?_
  refine s_dup (q := 43) dX1_addStar_42 rfl rfl ?_
  refine t_getI (q := 46) (k := 1) (f := 0) (v := (S.1 1 0)) dX1_addStar_43 rfl rfl rfl rfl inX1 (Nat.le_of_ble_eq_true rfl) fX1_9 rfl ?_
  refine s_iconst (q := 47) (v := 1) dX1_addStar_46 rfl rfl ?_
  refine s_iadd (q := 48) dX1_addStar_47 rfl ?_
  refine t_putI (q := 51) (k := 1) (f := 0) dX1_addStar_48 rfl rfl rfl rfl inX1 tyX1_ok nmX1 (Nat.le_of_ble_eq_true rfl) fX1_9 rfl rfl rfl ?_
  refine s_aload_n (q := 52) dX1_addStar_51 rfl rfl 0 rfl ?_
  refine t_getI (q := 55) (k := 1) (f := 0) (v := ((S.1 1 0) + 1)) dX1_addStar_52 rfl rfl rfl rfl inX1 (Nat.le_of_ble_eq_true rfl) fX1_9 rfl ?_
  refine s_iconst (q := 56) (v := 1) dX1_addStar_55 rfl rfl ?_
  refine s_isub (q := 57) dX1_addStar_56 rfl ?_
  obtain rfl := Option.some.inj h
  exact t_iret dX1_addStar_57 rfl rfl
-- X5_star
def G_X5_star_0 (x1 : Int32) (x2 : Int32) (S : ST) : Option (Int32 × ST) := ((G_X5_isBelow x1 7 S).bind fun q1 => (if q1.1 = 0 then ((G_X5_finding_0 0 q1.2).bind fun q3 => some (q3.1, q3.2)) else ((G_X5_isBelow x2 100 q1.2).bind fun q4 => (if q4.1 = 0 then ((G_X5_finding_0 0 q4.2).bind fun q9 => some (q9.1, q9.2)) else (if (q4.2.1 1 0) < 10 then ((G_X1_addStar_1 x1 x2 50 1 q4.2).bind fun q7 => some (q7.1, q7.2)) else ((G_X5_finding_0 1 q4.2).bind fun q8 => some (q8.1, q8.2)))))))
set_option maxHeartbeats 4000000 in
set_option maxRecDepth 100000 in
theorem T_X5_star_0 (E : EV) (x1 : Int32) (x2 : Int32) {S : ST} {w : (Int32 × ST)} (h : G_X5_star_0 x1 x2 S = some w) : SD E mX5_star 0 [(0, .ref (eB E + 0)), (1, .int x1), (2, .int x2)] [] S (some (.int w.1)) w.2 := by
  unfold G_X5_star_0 at h
  refine s_iload_n (q := 1) dX5_star_0 rfl rfl 1 rfl ?_
  refine s_bipush (q := 3) (v := 7) dX5_star_1 rfl rfl ?_
  obtain ⟨q1, hc1, h⟩ := bnd h
  try dsimp only at h
  refine t_callS (q := 6) (N := mX5_isBelow) [.int x1, .int 7] dX5_star_3 rfl nkX5_isBelow sX5_isBelow lX5_57 ⟨Nat.le_of_ble_eq_true rfl, Nat.le_of_ble_eq_true rfl⟩ rfl rfl (Nat.le_of_ble_eq_true rfl) (Nat.le_of_ble_eq_true rfl) (T_X5_isBelow E _ _ hc1) ?_
  refine s_if_eq (q := 9) (tgt := 18) dX5_star_6 rfl rfl (fun hb2 => ?_) (fun hb2 => ?_)
  · rw [if_pos hb2] at h
    refine s_aload_n (q := 19) dX5_star_18 rfl rfl 0 rfl ?_
    refine s_iconst (q := 20) (v := 0) dX5_star_19 rfl rfl ?_
    obtain ⟨q3, hc3, h⟩ := bnd h
    try dsimp only at h
    refine t_callV (q := 23) (N := mX5_finding) (a := eB E + 0) [.int 0] dX5_star_20 rfl nkX5_finding vkX5_finding lX5_61 ⟨Nat.le_of_ble_eq_true rfl, Nat.le_of_ble_eq_true rfl⟩ (rc_obj (k := 0) rfl rfl) rfl rfl (Nat.le_of_ble_eq_true rfl) (Nat.le_of_ble_eq_true rfl) (T_X5_finding_0 E _ hc3) ?_
    obtain rfl := Option.some.inj h
    exact t_iret dX5_star_23 rfl rfl
  · rw [if_neg hb2] at h
    refine s_iload_n (q := 10) dX5_star_9 rfl rfl 2 rfl ?_
    refine s_bipush (q := 12) (v := 100) dX5_star_10 rfl rfl ?_
    obtain ⟨q4, hc4, h⟩ := bnd h
    try dsimp only at h
    refine t_callS (q := 15) (N := mX5_isBelow) [.int x2, .int 100] dX5_star_12 rfl nkX5_isBelow sX5_isBelow lX5_57 ⟨Nat.le_of_ble_eq_true rfl, Nat.le_of_ble_eq_true rfl⟩ rfl rfl (Nat.le_of_ble_eq_true rfl) (Nat.le_of_ble_eq_true rfl) (T_X5_isBelow E _ _ hc4) ?_
    refine s_if_ne (q := 18) (tgt := 24) dX5_star_15 rfl rfl (fun hb5 => ?_) (fun hb5 => ?_)
    · rw [if_neg hb5] at h
      refine s_aload_n (q := 25) dX5_star_24 rfl rfl 0 rfl ?_
      refine t_getR (q := 28) (k := 0) (f := 0) (t := 1) dX5_star_25 rfl rfl rfl rfl inX5 (Nat.le_of_ble_eq_true rfl) fX5_10 ?_
      refine t_getI (q := 31) (k := 1) (f := 0) (v := (q4.2.1 1 0)) dX5_star_28 rfl rfl rfl rfl inX1 (Nat.le_of_ble_eq_true rfl) fX5_65 rfl ?_
      refine s_bipush (q := 33) (v := 10) dX5_star_31 rfl rfl ?_
      refine s_icmp_lt (q := 36) (tgt := 42) dX5_star_33 rfl rfl (fun hb6 => ?_) (fun hb6 => ?_)
      · rw [if_pos hb6] at h
        refine s_aload_n (q := 43) dX5_star_42 rfl rfl 0 rfl ?_
        refine t_getR (q := 46) (k := 0) (f := 0) (t := 1) dX5_star_43 rfl rfl rfl rfl inX5 (Nat.le_of_ble_eq_true rfl) fX5_10 ?_
        refine s_iload_n (q := 47) dX5_star_46 rfl rfl 1 rfl ?_
        refine s_iload_n (q := 48) dX5_star_47 rfl rfl 2 rfl ?_
        refine s_bipush (q := 50) (v := 50) dX5_star_48 rfl rfl ?_
        refine s_iconst (q := 51) (v := 1) dX5_star_50 rfl rfl ?_
        obtain ⟨q7, hc7, h⟩ := bnd h
        try dsimp only at h
        refine t_callV (q := 54) (N := mX1_addStar) (a := eB E + 1) [.int x1, .int x2, .int 50, .int 1] dX5_star_51 rfl nkX1_addStar vkX1_addStar lX5_69 ⟨Nat.le_of_ble_eq_true rfl, Nat.le_of_ble_eq_true rfl⟩ (rc_obj (k := 1) rfl rfl) rfl rfl (Nat.le_of_ble_eq_true rfl) (Nat.le_of_ble_eq_true rfl) (T_X1_addStar_1 E _ _ _ _ hc7) ?_
        obtain rfl := Option.some.inj h
        exact t_iret dX5_star_54 rfl rfl
      · rw [if_neg hb6] at h
        refine s_aload_n (q := 37) dX5_star_36 rfl rfl 0 rfl ?_
        refine s_iconst (q := 38) (v := 1) dX5_star_37 rfl rfl ?_
        obtain ⟨q8, hc8, h⟩ := bnd h
        try dsimp only at h
        refine t_callV (q := 41) (N := mX5_finding) (a := eB E + 0) [.int 1] dX5_star_38 rfl nkX5_finding vkX5_finding lX5_61 ⟨Nat.le_of_ble_eq_true rfl, Nat.le_of_ble_eq_true rfl⟩ (rc_obj (k := 0) rfl rfl) rfl rfl (Nat.le_of_ble_eq_true rfl) (Nat.le_of_ble_eq_true rfl) (T_X5_finding_0 E _ hc8) ?_
        obtain rfl := Option.some.inj h
        exact t_iret dX5_star_41 rfl rfl
    · rw [if_pos hb5] at h
      refine s_aload_n (q := 19) dX5_star_18 rfl rfl 0 rfl ?_
      refine s_iconst (q := 20) (v := 0) dX5_star_19 rfl rfl ?_
      obtain ⟨q9, hc9, h⟩ := bnd h
      try dsimp only at h
      refine t_callV (q := 23) (N := mX5_finding) (a := eB E + 0) [.int 0] dX5_star_20 rfl nkX5_finding vkX5_finding lX5_61 ⟨Nat.le_of_ble_eq_true rfl, Nat.le_of_ble_eq_true rfl⟩ (rc_obj (k := 0) rfl rfl) rfl rfl (Nat.le_of_ble_eq_true rfl) (Nat.le_of_ble_eq_true rfl) (T_X5_finding_0 E _ hc9) ?_
      obtain rfl := Option.some.inj h
      exact t_iret dX5_star_23 rfl rfl
-- X6_in1
def G_X6_in1 (x0 : Int32) (x1 : Int32) (x2 : Int32) (S : ST) : Option (Int32 × ST) := (if x0 < x1 then some (0, S) else (if x2 < x0 then some (0, S) else some (1, S)))
set_option maxHeartbeats 4000000 in
set_option maxRecDepth 100000 in
theorem T_X6_in1 (E : EV) (x0 : Int32) (x1 : Int32) (x2 : Int32) {S : ST} {w : (Int32 × ST)} (h : G_X6_in1 x0 x1 x2 S = some w) : SD E mX6_in1 0 [(0, .int x0), (1, .int x1), (2, .int x2)] [] S (some (.int w.1)) w.2 := by
  unfold G_X6_in1 at h
  refine s_iload_n (q := 1) dX6_in1_0 rfl rfl 0 rfl ?_
  refine s_iload_n (q := 2) dX6_in1_1 rfl rfl 1 rfl ?_
  refine s_icmp_lt (q := 5) (tgt := 14) dX6_in1_2 rfl rfl (fun hb1 => ?_) (fun hb1 => ?_)
  · rw [if_pos hb1] at h
    refine s_iconst (q := 15) (v := 0) dX6_in1_14 rfl rfl ?_
    obtain rfl := Option.some.inj h
    exact t_zret dX6_in1_15 rfl rfl rfl
  · rw [if_neg hb1] at h
    refine s_iload_n (q := 6) dX6_in1_5 rfl rfl 0 rfl ?_
    refine s_iload_n (q := 7) dX6_in1_6 rfl rfl 2 rfl ?_
    refine s_icmp_gt (q := 10) (tgt := 14) dX6_in1_7 rfl rfl (fun hb2 => ?_) (fun hb2 => ?_)
    · rw [if_pos hb2] at h
      refine s_iconst (q := 15) (v := 0) dX6_in1_14 rfl rfl ?_
      obtain rfl := Option.some.inj h
      exact t_zret dX6_in1_15 rfl rfl rfl
    · rw [if_neg hb2] at h
      refine s_iconst (q := 11) (v := 1) dX6_in1_10 rfl rfl ?_
      refine s_goto (tgt := 15) dX6_in1_11 rfl ?_
      obtain rfl := Option.some.inj h
      exact t_zret dX6_in1_15 rfl rfl rfl
-- X6_no
def G_X6_no_51 (x1 : Int32) (S : ST) : Option (Int32 × ST) := (if inB x1 7 = true then (if inB x1 7 = true then some (((-1000001) - x1), (wr S 55 x1.toNatClampNeg ((S.1 55 x1.toNatClampNeg) + 1))) else none) else none)
set_option maxHeartbeats 4000000 in
set_option maxRecDepth 100000 in
theorem T_X6_no_51 (E : EV) (x1 : Int32) {S : ST} {w : (Int32 × ST)} (h : G_X6_no_51 x1 S = some w) : SD E mX6_no 0 [(0, .ref (eB E + 51)), (1, .int x1)] [] S (some (.int w.1)) w.2 := by
  unfold G_X6_no_51 at h
  refine s_aload_n (q := 1) dX6_no_0 rfl rfl 0 rfl ?_
  refine t_getR (q := 4) (k := 51) (f := 4) (t := 55) dX6_no_1 rfl rfl rfl rfl inX6 (Nat.le_of_ble_eq_true rfl) fX6_19 ?_
  refine s_iload_n (q := 5) dX6_no_4 rfl rfl 1 rfl ?_
  refine s_dup2 (q := 6) dX6_no_5 rfl rfl rfl ?_
  obtain ⟨hg1, h⟩ := chk_some h
  refine u_iald (q := 7) (k := 55) (v := (S.1 55 x1.toNatClampNeg)) dX6_no_6 rfl rfl (inB_in hg1) rfl rfl ?_
  refine s_iconst (q := 8) (v := 1) dX6_no_7 rfl rfl ?_
  refine s_iadd (q := 9) dX6_no_8 rfl ?_
  obtain ⟨hg2, h⟩ := chk_some h
  refine u_iast (q := 10) (k := 55) dX6_no_9 rfl rfl (inB_in hg2) rfl ?_
  refine s_ldc (q := 12) (v := (-1000001)) dX6_no_10 rfl kX6_53 ?_
  refine s_iload_n (q := 13) dX6_no_12 rfl rfl 1 rfl ?_
  refine s_isub (q := 14) dX6_no_13 rfl ?_
  obtain rfl := Option.some.inj h
  exact t_iret dX6_no_14 rfl rfl
-- X6_isPlace
def G_X6_isPlace (x0 : Int32) (S : ST) : Option (Int32 × ST) := ((G_X6_in1 x0 0 99 S).bind fun q1 => (if bitB q1.1 = true then some (q1.1, q1.2) else none))
set_option maxHeartbeats 4000000 in
set_option maxRecDepth 100000 in
theorem T_X6_isPlace (E : EV) (x0 : Int32) {S : ST} {w : (Int32 × ST)} (h : G_X6_isPlace x0 S = some w) : SD E mX6_isPlace 0 [(0, .int x0)] [] S (some (.int w.1)) w.2 := by
  unfold G_X6_isPlace at h
  refine s_iload_n (q := 1) dX6_isPlace_0 rfl rfl 0 rfl ?_
  refine s_iconst (q := 2) (v := 0) dX6_isPlace_1 rfl rfl ?_
  refine s_bipush (q := 4) (v := 99) dX6_isPlace_2 rfl rfl ?_
  obtain ⟨q1, hc1, h⟩ := bnd h
  try dsimp only at h
  refine t_callS (q := 7) (N := mX6_in1) [.int x0, .int 0, .int 99] dX6_isPlace_4 rfl nkX6_in1 sX6_in1 lX6_54 ⟨Nat.le_of_ble_eq_true rfl, Nat.le_of_ble_eq_true rfl⟩ rfl rfl (Nat.le_of_ble_eq_true rfl) (Nat.le_of_ble_eq_true rfl) (T_X6_in1 E _ _ _ hc1) ?_
  obtain ⟨hg2, h⟩ := chk_some h
  obtain rfl := Option.some.inj h
  exact t_zret dX6_isPlace_7 rfl (bitB_z hg2) rfl
-- X6_puts
def G_X6_puts_51 (x1 : Int32) (x2 : Int32) (x3 : Int32) (S : ST) : Option (Unit × ST) := (if inB ((16 + (4 * x1)) + x2) 72 = true then some ((), (wr S 52 (((16 + (4 * x1)) + x2).toNatClampNeg) x3)) else none)
set_option maxHeartbeats 4000000 in
set_option maxRecDepth 100000 in
theorem T_X6_puts_51 (E : EV) (x1 : Int32) (x2 : Int32) (x3 : Int32) {S : ST} {w : (Unit × ST)} (h : G_X6_puts_51 x1 x2 x3 S = some w) : SD E mX6_puts 0 [(0, .ref (eB E + 51)), (1, .int x1), (2, .int x2), (3, .int x3)] [] S none w.2 := by
  unfold G_X6_puts_51 at h
  refine s_aload_n (q := 1) dX6_puts_0 rfl rfl 0 rfl ?_
  refine t_getR (q := 4) (k := 51) (f := 0) (t := 52) dX6_puts_1 rfl rfl rfl rfl inX6 (Nat.le_of_ble_eq_true rfl) fX6_9 ?_
  refine s_bipush (q := 6) (v := 16) dX6_puts_4 rfl rfl ?_
  refine s_iconst (q := 7) (v := 4) dX6_puts_6 rfl rfl ?_
  refine s_iload_n (q := 8) dX6_puts_7 rfl rfl 1 rfl ?_
  refine s_imul (q := 9) dX6_puts_8 rfl ?_
  refine s_iadd (q := 10) dX6_puts_9 rfl ?_
  refine s_iload_n (q := 11) dX6_puts_10 rfl rfl 2 rfl ?_
  refine s_iadd (q := 12) dX6_puts_11 rfl ?_
  refine s_iload_n (q := 13) dX6_puts_12 rfl rfl 3 rfl ?_
  obtain ⟨hg1, h⟩ := chk_some h
  refine u_iast (q := 14) (k := 52) dX6_puts_13 rfl rfl (inB_in hg1) rfl ?_
  obtain rfl := Option.some.inj h
  exact t_vret dX6_puts_14 rfl rfl
-- X6_addsStar
def G_X6_addsStar_51 (x1 : Int32) (x2 : Int32) (S : ST) : Option (Unit × ST) := ((G_X6_puts_51 (S.1 52 1) 0 x1 S).bind fun q1 => ((G_X6_puts_51 (S.1 52 1) 1 x2 q1.2).bind fun q2 => ((G_X6_puts_51 (S.1 52 1) 2 50 q2.2).bind fun q3 => ((G_X6_puts_51 (S.1 52 1) 3 1 q3.2).bind fun q4 => some ((), (wr q4.2 52 1 ((q4.2.1 52 1) + 1)))))))
set_option maxHeartbeats 4000000 in
set_option maxRecDepth 100000 in
theorem T_X6_addsStar_51 (E : EV) (x1 : Int32) (x2 : Int32) {S : ST} {w : (Unit × ST)} (h : G_X6_addsStar_51 x1 x2 S = some w) : SD E mX6_addsStar 0 [(0, .ref (eB E + 51)), (1, .int x1), (2, .int x2)] [] S none w.2 := by
  unfold G_X6_addsStar_51 at h
  refine s_aload_n (q := 1) dX6_addsStar_0 rfl rfl 0 rfl ?_
  refine t_getR (q := 4) (k := 51) (f := 0) (t := 52) dX6_addsStar_1 rfl rfl rfl rfl inX6 (Nat.le_of_ble_eq_true rfl) fX6_9 ?_
  refine s_iconst (q := 5) (v := 1) dX6_addsStar_4 rfl rfl ?_
  refine u_iald (q := 6) (k := 52) (j := 1) (v := (S.1 52 1)) dX6_addsStar_5 rfl rfl (inB_in (by decide)) (by decide) rfl ?_
  refine s_istore_n (q := 7) (lv' := [(3, .int (S.1 52 1)), (0, .ref (eB E + 51)), (1, .int x1), (2, .int x2)]) dX6_addsStar_6 rfl rfl (Nat.le_of_ble_eq_true rfl) rfl ?_
  refine s_aload_n (q := 8) dX6_addsStar_7 rfl rfl 1 rfl ?_
  refine s_iload_n (q := 9) dX6_addsStar_8 rfl rfl 0 rfl ?_
  refine s_iconst (q := 10) (v := 0) dX6_addsStar_9 rfl rfl ?_
  refine s_iload_n (q := 11) dX6_addsStar_10 rfl rfl 2 rfl ?_
  obtain ⟨q1, hc1, h⟩ := bnd h
  try dsimp only at h
  refine t_callV (q := 14) (N := mX6_puts) (a := eB E + 51) [.int (S.1 52 1), .int 0, .int x1] dX6_addsStar_11 rfl nkX6_puts vkX6_puts lX6_80 ⟨Nat.le_of_ble_eq_true rfl, Nat.le_of_ble_eq_true rfl⟩ (rc_obj (k := 51) rfl rfl) rfl rfl (Nat.le_of_ble_eq_true rfl) (Nat.le_of_ble_eq_true rfl) (T_X6_puts_51 E _ _ _ hc1) ?_
  refine s_aload_n (q := 15) dX6_addsStar_14 rfl rfl 1 rfl ?_
  refine s_iload_n (q := 16) dX6_addsStar_15 rfl rfl 0 rfl ?_
  refine s_iconst (q := 17) (v := 1) dX6_addsStar_16 rfl rfl ?_
  refine s_iload_n (q := 18) dX6_addsStar_17 rfl rfl 3 rfl ?_
  obtain ⟨q2, hc2, h⟩ := bnd h
  try dsimp only at h
  refine t_callV (q := 21) (N := mX6_puts) (a := eB E + 51) [.int (S.1 52 1), .int 1, .int x2] dX6_addsStar_18 rfl nkX6_puts vkX6_puts lX6_80 ⟨Nat.le_of_ble_eq_true rfl, Nat.le_of_ble_eq_true rfl⟩ (rc_obj (k := 51) rfl rfl) rfl rfl (Nat.le_of_ble_eq_true rfl) (Nat.le_of_ble_eq_true rfl) (T_X6_puts_51 E _ _ _ hc2) ?_
  refine s_aload_n (q := 22) dX6_addsStar_21 rfl rfl 1 rfl ?_
  refine s_iload_n (q := 23) dX6_addsStar_22 rfl rfl 0 rfl ?_
  refine s_iconst (q := 24) (v := 2) dX6_addsStar_23 rfl rfl ?_
  refine s_bipush (q := 26) (v := 50) dX6_addsStar_24 rfl rfl ?_
  obtain ⟨q3, hc3, h⟩ := bnd h
  try dsimp only at h
  refine t_callV (q := 29) (N := mX6_puts) (a := eB E + 51) [.int (S.1 52 1), .int 2, .int 50] dX6_addsStar_26 rfl nkX6_puts vkX6_puts lX6_80 ⟨Nat.le_of_ble_eq_true rfl, Nat.le_of_ble_eq_true rfl⟩ (rc_obj (k := 51) rfl rfl) rfl rfl (Nat.le_of_ble_eq_true rfl) (Nat.le_of_ble_eq_true rfl) (T_X6_puts_51 E _ _ _ hc3) ?_
  refine s_aload_n (q := 30) dX6_addsStar_29 rfl rfl 1 rfl ?_
  refine s_iload_n (q := 31) dX6_addsStar_30 rfl rfl 0 rfl ?_
  refine s_iconst (q := 32) (v := 3) dX6_addsStar_31 rfl rfl ?_
  refine s_iconst (q := 33) (v := 1) dX6_addsStar_32 rfl rfl ?_
  obtain ⟨q4, hc4, h⟩ := bnd h
  try dsimp only at h
  refine t_callV (q := 36) (N := mX6_puts) (a := eB E + 51) [.int (S.1 52 1), .int 3, .int 1] dX6_addsStar_33 rfl nkX6_puts vkX6_puts lX6_80 ⟨Nat.le_of_ble_eq_true rfl, Nat.le_of_ble_eq_true rfl⟩ (rc_obj (k := 51) rfl rfl) rfl rfl (Nat.le_of_ble_eq_true rfl) (Nat.le_of_ble_eq_true rfl) (T_X6_puts_51 E _ _ _ hc4) ?_
  refine s_aload_n (q := 37) dX6_addsStar_36 rfl rfl 1 rfl ?_
  refine t_getR (q := 40) (k := 51) (f := 0) (t := 52) dX6_addsStar_37 rfl rfl rfl rfl inX6 (Nat.le_of_ble_eq_true rfl) fX6_9 ?_
  refine s_iconst (q := 41) (v := 1) dX6_addsStar_40 rfl rfl ?_
  refine s_dup2 (q := 42) dX6_addsStar_41 rfl rfl rfl ?_
  refine u_iald (q := 43) (k := 52) (j := 1) (v := (q4.2.1 52 1)) dX6_addsStar_42 rfl rfl (inB_in (by decide)) (by decide) rfl ?_
  refine s_iconst (q := 44) (v := 1) dX6_addsStar_43 rfl rfl ?_
  refine s_iadd (q := 45) dX6_addsStar_44 rfl ?_
  refine u_iast (q := 46) (k := 52) (j := 1) dX6_addsStar_45 rfl rfl (inB_in (by decide)) (by decide) ?_
  obtain rfl := Option.some.inj h
  exact t_vret dX6_addsStar_46 rfl rfl
-- X6_star
def G_X6_star_51 (x1 : Int32) (x2 : Int32) (S : ST) : Option (Int32 × ST) := ((G_X6_in1 x1 0 6 S).bind fun q1 => (if q1.1 = 0 then ((G_X6_no_51 0 q1.2).bind fun q3 => some (q3.1, q3.2)) else ((G_X6_isPlace x2 q1.2).bind fun q4 => (if q4.1 = 0 then ((G_X6_no_51 0 q4.2).bind fun q9 => some (q9.1, q9.2)) else (if (q4.2.1 52 1) = 10 then ((G_X6_no_51 1 q4.2).bind fun q8 => some (q8.1, q8.2)) else ((G_X6_addsStar_51 x1 x2 q4.2).bind fun q7 => some (((q7.2.1 52 1) - 1), q7.2)))))))
set_option maxHeartbeats 4000000 in
set_option maxRecDepth 100000 in
theorem T_X6_star_51 (E : EV) (x1 : Int32) (x2 : Int32) {S : ST} {w : (Int32 × ST)} (h : G_X6_star_51 x1 x2 S = some w) : SD E mX6_star 0 [(0, .ref (eB E + 51)), (1, .int x1), (2, .int x2)] [] S (some (.int w.1)) w.2 := by
  unfold G_X6_star_51 at h
  refine s_iload_n (q := 1) dX6_star_0 rfl rfl 1 rfl ?_
  refine s_iconst (q := 2) (v := 0) dX6_star_1 rfl rfl ?_
  refine s_bipush (q := 4) (v := 6) dX6_star_2 rfl rfl ?_
  obtain ⟨q1, hc1, h⟩ := bnd h
  try dsimp only at h
  refine t_callS (q := 7) (N := mX6_in1) [.int x1, .int 0, .int 6] dX6_star_4 rfl nkX6_in1 sX6_in1 lX6_54 ⟨Nat.le_of_ble_eq_true rfl, Nat.le_of_ble_eq_true rfl⟩ rfl rfl (Nat.le_of_ble_eq_true rfl) (Nat.le_of_ble_eq_true rfl) (T_X6_in1 E _ _ _ hc1) ?_
  refine s_if_eq (q := 10) (tgt := 17) dX6_star_7 rfl rfl (fun hb2 => ?_) (fun hb2 => ?_)
  · rw [if_pos hb2] at h
    refine s_aload_n (q := 18) dX6_star_17 rfl rfl 0 rfl ?_
    refine s_iconst (q := 19) (v := 0) dX6_star_18 rfl rfl ?_
    obtain ⟨q3, hc3, h⟩ := bnd h
    try dsimp only at h
    refine t_callV (q := 22) (N := mX6_no) (a := eB E + 51) [.int 0] dX6_star_19 rfl nkX6_no vkX6_no lX6_94 ⟨Nat.le_of_ble_eq_true rfl, Nat.le_of_ble_eq_true rfl⟩ (rc_obj (k := 51) rfl rfl) rfl rfl (Nat.le_of_ble_eq_true rfl) (Nat.le_of_ble_eq_true rfl) (T_X6_no_51 E _ hc3) ?_
    obtain rfl := Option.some.inj h
    exact t_iret dX6_star_22 rfl rfl
  · rw [if_neg hb2] at h
    refine s_iload_n (q := 11) dX6_star_10 rfl rfl 2 rfl ?_
    obtain ⟨q4, hc4, h⟩ := bnd h
    try dsimp only at h
    refine t_callS (q := 14) (N := mX6_isPlace) [.int x2] dX6_star_11 rfl nkX6_isPlace sX6_isPlace lX6_91 ⟨Nat.le_of_ble_eq_true rfl, Nat.le_of_ble_eq_true rfl⟩ rfl rfl (Nat.le_of_ble_eq_true rfl) (Nat.le_of_ble_eq_true rfl) (T_X6_isPlace E _ hc4) ?_
    refine s_if_ne (q := 17) (tgt := 23) dX6_star_14 rfl rfl (fun hb5 => ?_) (fun hb5 => ?_)
    · rw [if_neg hb5] at h
      refine s_aload_n (q := 24) dX6_star_23 rfl rfl 0 rfl ?_
      refine t_getR (q := 27) (k := 51) (f := 0) (t := 52) dX6_star_24 rfl rfl rfl rfl inX6 (Nat.le_of_ble_eq_true rfl) fX6_9 ?_
      refine s_iconst (q := 28) (v := 1) dX6_star_27 rfl rfl ?_
      refine u_iald (q := 29) (k := 52) (j := 1) (v := (q4.2.1 52 1)) dX6_star_28 rfl rfl (inB_in (by decide)) (by decide) rfl ?_
      refine s_bipush (q := 31) (v := 10) dX6_star_29 rfl rfl ?_
      refine s_icmp_ne (q := 34) (tgt := 40) dX6_star_31 rfl rfl (fun hb6 => ?_) (fun hb6 => ?_)
      · rw [if_neg hb6] at h
        refine s_aload_n (q := 41) dX6_star_40 rfl rfl 0 rfl ?_
        refine s_iload_n (q := 42) dX6_star_41 rfl rfl 1 rfl ?_
        refine s_iload_n (q := 43) dX6_star_42 rfl rfl 2 rfl ?_
        obtain ⟨q7, hc7, h⟩ := bnd h
        try dsimp only at h
        refine t_callV (q := 46) (N := mX6_addsStar) (a := eB E + 51) [.int x1, .int x2] dX6_star_43 rfl nkX6_addsStar vkX6_addsStar lX6_97 ⟨Nat.le_of_ble_eq_true rfl, Nat.le_of_ble_eq_true rfl⟩ (rc_obj (k := 51) rfl rfl) rfl rfl (Nat.le_of_ble_eq_true rfl) (Nat.le_of_ble_eq_true rfl) (T_X6_addsStar_51 E _ _ hc7) ?_
        refine s_aload_n (q := 47) dX6_star_46 rfl rfl 0 rfl ?_
        refine t_getR (q := 50) (k := 51) (f := 0) (t := 52) dX6_star_47 rfl rfl rfl rfl inX6 (Nat.le_of_ble_eq_true rfl) fX6_9 ?_
        refine s_iconst (q := 51) (v := 1) dX6_star_50 rfl rfl ?_
        refine u_iald (q := 52) (k := 52) (j := 1) (v := (q7.2.1 52 1)) dX6_star_51 rfl rfl (inB_in (by decide)) (by decide) rfl ?_
        refine s_iconst (q := 53) (v := 1) dX6_star_52 rfl rfl ?_
        refine s_isub (q := 54) dX6_star_53 rfl ?_
        obtain rfl := Option.some.inj h
        exact t_iret dX6_star_54 rfl rfl
      · rw [if_pos hb6] at h
        refine s_aload_n (q := 35) dX6_star_34 rfl rfl 0 rfl ?_
        refine s_iconst (q := 36) (v := 1) dX6_star_35 rfl rfl ?_
        obtain ⟨q8, hc8, h⟩ := bnd h
        try dsimp only at h
        refine t_callV (q := 39) (N := mX6_no) (a := eB E + 51) [.int 1] dX6_star_36 rfl nkX6_no vkX6_no lX6_94 ⟨Nat.le_of_ble_eq_true rfl, Nat.le_of_ble_eq_true rfl⟩ (rc_obj (k := 51) rfl rfl) rfl rfl (Nat.le_of_ble_eq_true rfl) (Nat.le_of_ble_eq_true rfl) (T_X6_no_51 E _ hc8) ?_
        obtain rfl := Option.some.inj h
        exact t_iret dX6_star_39 rfl rfl
    · rw [if_pos hb5] at h
      refine s_aload_n (q := 18) dX6_star_17 rfl rfl 0 rfl ?_
      refine s_iconst (q := 19) (v := 0) dX6_star_18 rfl rfl ?_
      obtain ⟨q9, hc9, h⟩ := bnd h
      try dsimp only at h
      refine t_callV (q := 22) (N := mX6_no) (a := eB E + 51) [.int 0] dX6_star_19 rfl nkX6_no vkX6_no lX6_94 ⟨Nat.le_of_ble_eq_true rfl, Nat.le_of_ble_eq_true rfl⟩ (rc_obj (k := 51) rfl rfl) rfl rfl (Nat.le_of_ble_eq_true rfl) (Nat.le_of_ble_eq_true rfl) (T_X6_no_51 E _ hc9) ?_
      obtain rfl := Option.some.inj h
      exact t_iret dX6_star_22 rfl rfl
-- X1_starRow
def G_X1_starRow_1 (x1 : Int32) (S : ST) : Option (Option Nat × ST) := (if x1 = 0 then some (some 2, S) else (if x1 = 1 then some (some 3, S) else (if x1 = 2 then some (some 4, S) else (if x1 = 3 then some (some 5, S) else some (none, S)))))
set_option maxHeartbeats 4000000 in
set_option maxRecDepth 100000 in
theorem T_X1_starRow_1 (E : EV) (x1 : Int32) {S : ST} {w : (Option Nat × ST)} (h : G_X1_starRow_1 x1 S = some w) : SD E mX1_starRow 0 [(0, .ref (eB E + 1)), (1, .int x1)] [] S (some (va_rf (Option.map (fun t => eB E + t) w.1))) w.2 := by
  unfold G_X1_starRow_1 at h
  refine s_iload_n (q := 1) dX1_starRow_0 rfl rfl 1 rfl ?_
  by_cases hs1_0 : x1 = 0
  · rw [if_pos hs1_0] at h
    refine s_tableIn (off := 31) (tgt := 32) dX1_starRow_1 (by rw [hs1_0]; decide) (by rw [hs1_0]; decide) (by rw [hs1_0]; rfl) rfl ?_
    refine s_aload_n (q := 33) dX1_starRow_32 rfl rfl 0 rfl ?_
    refine t_getR (q := 36) (k := 1) (f := 1) (t := 2) dX1_starRow_33 rfl rfl rfl rfl inX1 (Nat.le_of_ble_eq_true rfl) fX1_15 ?_
    obtain rfl := Option.some.inj h
    exact t_aret dX1_starRow_36 rfl (Or.inr ⟨_, rfl⟩) (Or.inr ⟨_, rfl⟩) rfl
  rw [if_neg hs1_0] at h
  by_cases hs1_1 : x1 = 1
  · rw [if_pos hs1_1] at h
    refine s_tableIn (off := 36) (tgt := 37) dX1_starRow_1 (by rw [hs1_1]; decide) (by rw [hs1_1]; decide) (by rw [hs1_1]; rfl) rfl ?_
    refine s_aload_n (q := 38) dX1_starRow_37 rfl rfl 0 rfl ?_
    refine t_getR (q := 41) (k := 1) (f := 2) (t := 3) dX1_starRow_38 rfl rfl rfl rfl inX1 (Nat.le_of_ble_eq_true rfl) fX1_19 ?_
    obtain rfl := Option.some.inj h
    exact t_aret dX1_starRow_41 rfl (Or.inr ⟨_, rfl⟩) (Or.inr ⟨_, rfl⟩) rfl
  rw [if_neg hs1_1] at h
  by_cases hs1_2 : x1 = 2
  · rw [if_pos hs1_2] at h
    refine s_tableIn (off := 41) (tgt := 42) dX1_starRow_1 (by rw [hs1_2]; decide) (by rw [hs1_2]; decide) (by rw [hs1_2]; rfl) rfl ?_
    refine s_aload_n (q := 43) dX1_starRow_42 rfl rfl 0 rfl ?_
    refine t_getR (q := 46) (k := 1) (f := 3) (t := 4) dX1_starRow_43 rfl rfl rfl rfl inX1 (Nat.le_of_ble_eq_true rfl) fX1_22 ?_
    obtain rfl := Option.some.inj h
    exact t_aret dX1_starRow_46 rfl (Or.inr ⟨_, rfl⟩) (Or.inr ⟨_, rfl⟩) rfl
  rw [if_neg hs1_2] at h
  by_cases hs1_3 : x1 = 3
  · rw [if_pos hs1_3] at h
    refine s_tableIn (off := 46) (tgt := 47) dX1_starRow_1 (by rw [hs1_3]; decide) (by rw [hs1_3]; decide) (by rw [hs1_3]; rfl) rfl ?_
    refine s_aload_n (q := 48) dX1_starRow_47 rfl rfl 0 rfl ?_
    refine t_getR (q := 51) (k := 1) (f := 4) (t := 5) dX1_starRow_48 rfl rfl rfl rfl inX1 (Nat.le_of_ble_eq_true rfl) fX1_25 ?_
    obtain rfl := Option.some.inj h
    exact t_aret dX1_starRow_51 rfl (Or.inr ⟨_, rfl⟩) (Or.inr ⟨_, rfl⟩) rfl
  rw [if_neg hs1_3] at h
  refine s_tableOut (tgt := 52) dX1_starRow_1 (by have e0 := lv_neT (a := 0) hs1_0 (by decide); have e1 := lv_neT (a := 1) hs1_1 (by decide); have e2 := lv_neT (a := 2) hs1_2 (by decide); have e3 := lv_neT (a := 3) hs1_3 (by decide); omega) rfl ?_
  refine s_null (q := 53) dX1_starRow_52 rfl ?_
  obtain rfl := Option.some.inj h
  exact t_aret dX1_starRow_53 rfl (Or.inr ⟨_, rfl⟩) (Or.inl rfl) rfl
-- X1_wearOf
def G_X1_wearOf_1_24 (x1 : Int32) (x2 : Int32) (x4 : Int32) (y0 : Int32) (y1 : Int32) (S : ST) : Option (Int32 × ST) := (if x1 = 1 then some ((x4 + 2), S) else (if x1 = 2 then some ((x4 / 2), S) else (if x1 = 3 then some ((y1 + y0), S) else (if x1 = 4 then some (((y1 + y0) + (S.1 8 1)), S) else (if x1 = 5 then some ((x4 + ((99 - x2) / 10)), S) else (if x1 = 6 then some ((2 * (x4 + 2)), S) else some (x4, S)))))))
set_option maxHeartbeats 4000000 in
set_option maxRecDepth 100000 in
theorem T_X1_wearOf_1_24 (E : EV) (x1 : Int32) (x2 : Int32) (x4 : Int32) (y0 : Int32) (y1 : Int32) {S : ST} {w : (Int32 × ST)} (h : G_X1_wearOf_1_24 x1 x2 x4 y0 y1 S = some w) : SD E mX1_wearOf 24 [(0, .ref (eB E + 1)), (1, .int x1), (2, .int x2), (4, .int x4)] [.int y0, .int y1] S (some (.int w.1)) w.2 := by
  unfold G_X1_wearOf_1_24 at h
  refine s_iadd (q := 25) dX1_wearOf_24 rfl ?_
  refine s_istore (q := 27) (lv' := [(5, .int (y1 + y0)), (0, .ref (eB E + 1)), (1, .int x1), (2, .int x2), (4, .int x4)]) dX1_wearOf_25 rfl (Nat.le_of_ble_eq_true rfl) rfl ?_
  refine s_iload_n (q := 28) dX1_wearOf_27 rfl rfl 2 rfl ?_
  by_cases hs2_0 : x1 = 1
  · rw [if_pos hs2_0] at h
    refine s_tableIn (off := 40) (tgt := 68) dX1_wearOf_28 (by rw [hs2_0]; decide) (by rw [hs2_0]; decide) (by rw [hs2_0]; rfl) rfl ?_
    refine s_iload (q := 70) dX1_wearOf_68 rfl 4 rfl ?_
    refine s_iconst (q := 71) (v := 2) dX1_wearOf_70 rfl rfl ?_
    refine s_iadd (q := 72) dX1_wearOf_71 rfl ?_
    obtain rfl := Option.some.inj h
    exact t_iret dX1_wearOf_72 rfl rfl
  rw [if_neg hs2_0] at h
  by_cases hs2_1 : x1 = 2
  · rw [if_pos hs2_1] at h
    refine s_tableIn (off := 52) (tgt := 80) dX1_wearOf_28 (by rw [hs2_1]; decide) (by rw [hs2_1]; decide) (by rw [hs2_1]; rfl) rfl ?_
    refine s_iload (q := 82) dX1_wearOf_80 rfl 4 rfl ?_
    refine s_iconst (q := 83) (v := 2) dX1_wearOf_82 rfl rfl ?_
    refine s_idiv (q := 84) dX1_wearOf_83 rfl (by decide) ?_
    obtain rfl := Option.some.inj h
    exact t_iret dX1_wearOf_84 rfl rfl
  rw [if_neg hs2_1] at h
  by_cases hs2_2 : x1 = 3
  · rw [if_pos hs2_2] at h
    refine s_tableIn (off := 57) (tgt := 85) dX1_wearOf_28 (by rw [hs2_2]; decide) (by rw [hs2_2]; decide) (by rw [hs2_2]; rfl) rfl ?_
    refine s_iload (q := 87) dX1_wearOf_85 rfl 0 rfl ?_
    obtain rfl := Option.some.inj h
    exact t_iret dX1_wearOf_87 rfl rfl
  rw [if_neg hs2_2] at h
  by_cases hs2_3 : x1 = 4
  · rw [if_pos hs2_3] at h
    refine s_tableIn (off := 60) (tgt := 88) dX1_wearOf_28 (by rw [hs2_3]; decide) (by rw [hs2_3]; decide) (by rw [hs2_3]; rfl) rfl ?_
    refine s_iload (q := 90) dX1_wearOf_88 rfl 0 rfl ?_
    refine s_aload_n (q := 91) dX1_wearOf_90 rfl rfl 1 rfl ?_
    refine t_getR (q := 94) (k := 1) (f := 7) (t := 8) dX1_wearOf_91 rfl rfl rfl rfl inX1 (Nat.le_of_ble_eq_true rfl) fX1_34 ?_
    refine s_iconst (q := 95) (v := 1) dX1_wearOf_94 rfl rfl ?_
    refine u_iald (q := 96) (k := 8) (j := 1) (v := (S.1 8 1)) dX1_wearOf_95 rfl rfl (inB_in (by decide)) (by decide) rfl ?_
    refine s_iadd (q := 97) dX1_wearOf_96 rfl ?_
    obtain rfl := Option.some.inj h
    exact t_iret dX1_wearOf_97 rfl rfl
  rw [if_neg hs2_3] at h
  by_cases hs2_4 : x1 = 5
  · rw [if_pos hs2_4] at h
    refine s_tableIn (off := 70) (tgt := 98) dX1_wearOf_28 (by rw [hs2_4]; decide) (by rw [hs2_4]; decide) (by rw [hs2_4]; rfl) rfl ?_
    refine s_iload (q := 100) dX1_wearOf_98 rfl 4 rfl ?_
    refine s_bipush (q := 102) (v := 99) dX1_wearOf_100 rfl rfl ?_
    refine s_iload_n (q := 103) dX1_wearOf_102 rfl rfl 3 rfl ?_
    refine s_isub (q := 104) dX1_wearOf_103 rfl ?_
    refine s_bipush (q := 106) (v := 10) dX1_wearOf_104 rfl rfl ?_
    refine s_idiv (q := 107) dX1_wearOf_106 rfl (by decide) ?_
    refine s_iadd (q := 108) dX1_wearOf_107 rfl ?_
    obtain rfl := Option.some.inj h
    exact t_iret dX1_wearOf_108 rfl rfl
  rw [if_neg hs2_4] at h
  by_cases hs2_5 : x1 = 6
  · rw [if_pos hs2_5] at h
    refine s_tableIn (off := 45) (tgt := 73) dX1_wearOf_28 (by rw [hs2_5]; decide) (by rw [hs2_5]; decide) (by rw [hs2_5]; rfl) rfl ?_
    refine s_iconst (q := 74) (v := 2) dX1_wearOf_73 rfl rfl ?_
    refine s_iload (q := 76) dX1_wearOf_74 rfl 4 rfl ?_
    refine s_iconst (q := 77) (v := 2) dX1_wearOf_76 rfl rfl ?_
    refine s_iadd (q := 78) dX1_wearOf_77 rfl ?_
    refine s_imul (q := 79) dX1_wearOf_78 rfl ?_
    obtain rfl := Option.some.inj h
    exact t_iret dX1_wearOf_79 rfl rfl
  rw [if_neg hs2_5] at h
  refine s_tableOut (tgt := 109) dX1_wearOf_28 (by have e0 := lv_neT (a := 1) hs2_0 (by decide); have e1 := lv_neT (a := 2) hs2_1 (by decide); have e2 := lv_neT (a := 3) hs2_2 (by decide); have e3 := lv_neT (a := 4) hs2_3 (by decide); have e4 := lv_neT (a := 5) hs2_4 (by decide); have e5 := lv_neT (a := 6) hs2_5 (by decide); omega) rfl ?_
  refine s_iload (q := 111) dX1_wearOf_109 rfl 4 rfl ?_
  obtain rfl := Option.some.inj h
  exact t_iret dX1_wearOf_111 rfl rfl
def G_X1_wearOf_1 (x1 : Int32) (x2 : Int32) (x3 : Int32) (S : ST) : Option (Int32 × ST) := (if (S.1 8 1) < 5 then G_X1_wearOf_1_24 x1 x2 (x3 + 1) 0 ((x3 + 1) / 2) S else G_X1_wearOf_1_24 x1 x2 (x3 + 1) 1 ((x3 + 1) / 2) S)
set_option maxHeartbeats 4000000 in
set_option maxRecDepth 100000 in
theorem T_X1_wearOf_1 (E : EV) (x1 : Int32) (x2 : Int32) (x3 : Int32) {S : ST} {w : (Int32 × ST)} (h : G_X1_wearOf_1 x1 x2 x3 S = some w) : SD E mX1_wearOf 0 [(0, .ref (eB E + 1)), (1, .int x1), (2, .int x2), (3, .int x3)] [] S (some (.int w.1)) w.2 := by
  unfold G_X1_wearOf_1 at h
  refine s_iload_n (q := 1) dX1_wearOf_0 rfl rfl 3 rfl ?_
  refine s_iconst (q := 2) (v := 1) dX1_wearOf_1 rfl rfl ?_
  refine s_iadd (q := 3) dX1_wearOf_2 rfl ?_
  refine s_istore (q := 5) (lv' := [(4, .int (x3 + 1)), (0, .ref (eB E + 1)), (1, .int x1), (2, .int x2), (3, .int x3)]) dX1_wearOf_3 rfl (Nat.le_of_ble_eq_true rfl) rfl ?_
  refine s_iload (q := 7) dX1_wearOf_5 rfl 0 rfl ?_
  refine s_iconst (q := 8) (v := 2) dX1_wearOf_7 rfl rfl ?_
  refine s_idiv (q := 9) dX1_wearOf_8 rfl (by decide) ?_
  refine s_aload_n (q := 10) dX1_wearOf_9 rfl rfl 1 rfl ?_
  refine t_getR (q := 13) (k := 1) (f := 7) (t := 8) dX1_wearOf_10 rfl rfl rfl rfl inX1 (Nat.le_of_ble_eq_true rfl) fX1_34 ?_
  refine s_iconst (q := 14) (v := 1) dX1_wearOf_13 rfl rfl ?_
  refine u_iald (q := 15) (k := 8) (j := 1) (v := (S.1 8 1)) dX1_wearOf_14 rfl rfl (inB_in (by decide)) (by decide) rfl ?_
  refine s_iconst (q := 16) (v := 5) dX1_wearOf_15 rfl rfl ?_
  refine s_icmp_lt (q := 19) (tgt := 23) dX1_wearOf_16 rfl rfl (fun hb1 => ?_) (fun hb1 => ?_)
  · rw [if_pos hb1] at h
    refine s_iconst (q := 24) (v := 0) dX1_wearOf_23 rfl rfl ?_
    exact t_sub [1, 2, 3, 0] rfl (T_X1_wearOf_1_24 E _ _ _ _ _ h)
  · rw [if_neg hb1] at h
    refine s_iconst (q := 20) (v := 1) dX1_wearOf_19 rfl rfl ?_
    refine s_goto (tgt := 24) dX1_wearOf_20 rfl ?_
    exact t_sub [1, 2, 3, 0] rfl (T_X1_wearOf_1_24 E _ _ _ _ _ h)
-- X1_dimOf
def G_X1_dimOf_1 (x1 : Int32) (S : ST) : Option (Int32 × ST) := (if x1 = 1 then some (19, S) else (if x1 = 2 then some ((9 / 2), S) else (if x1 = 3 then some (0, S) else (if x1 = 4 then some (0, S) else (if x1 = 5 then some ((9 + (S.1 8 1)), S) else (if x1 = 6 then some (19, S) else some (9, S)))))))
set_option maxHeartbeats 4000000 in
set_option maxRecDepth 100000 in
theorem T_X1_dimOf_1 (E : EV) (x1 : Int32) {S : ST} {w : (Int32 × ST)} (h : G_X1_dimOf_1 x1 S = some w) : SD E mX1_dimOf 0 [(0, .ref (eB E + 1)), (1, .int x1)] [] S (some (.int w.1)) w.2 := by
  unfold G_X1_dimOf_1 at h
  refine s_bipush (q := 2) (v := 9) dX1_dimOf_0 rfl rfl ?_
  refine s_istore_n (q := 3) (lv' := [(2, .int 9), (0, .ref (eB E + 1)), (1, .int x1)]) dX1_dimOf_2 rfl rfl (Nat.le_of_ble_eq_true rfl) rfl ?_
  refine s_iload_n (q := 4) dX1_dimOf_3 rfl rfl 2 rfl ?_
  by_cases hs1_0 : x1 = 1
  · rw [if_pos hs1_0] at h
    refine s_tableIn (off := 40) (tgt := 44) dX1_dimOf_4 (by rw [hs1_0]; decide) (by rw [hs1_0]; decide) (by rw [hs1_0]; rfl) rfl ?_
    refine s_bipush (q := 46) (v := 19) dX1_dimOf_44 rfl rfl ?_
    obtain rfl := Option.some.inj h
    exact t_iret dX1_dimOf_46 rfl rfl
  rw [if_neg hs1_0] at h
  by_cases hs1_1 : x1 = 2
  · rw [if_pos hs1_1] at h
    refine s_tableIn (off := 43) (tgt := 47) dX1_dimOf_4 (by rw [hs1_1]; decide) (by rw [hs1_1]; decide) (by rw [hs1_1]; rfl) rfl ?_
    refine s_iload_n (q := 48) dX1_dimOf_47 rfl rfl 0 rfl ?_
    refine s_iconst (q := 49) (v := 2) dX1_dimOf_48 rfl rfl ?_
    refine s_idiv (q := 50) dX1_dimOf_49 rfl (by decide) ?_
    obtain rfl := Option.some.inj h
    exact t_iret dX1_dimOf_50 rfl rfl
  rw [if_neg hs1_1] at h
  by_cases hs1_2 : x1 = 3
  · rw [if_pos hs1_2] at h
    refine s_tableIn (off := 47) (tgt := 51) dX1_dimOf_4 (by rw [hs1_2]; decide) (by rw [hs1_2]; decide) (by rw [hs1_2]; rfl) rfl ?_
    refine s_iconst (q := 52) (v := 0) dX1_dimOf_51 rfl rfl ?_
    obtain rfl := Option.some.inj h
    exact t_iret dX1_dimOf_52 rfl rfl
  rw [if_neg hs1_2] at h
  by_cases hs1_3 : x1 = 4
  · rw [if_pos hs1_3] at h
    refine s_tableIn (off := 47) (tgt := 51) dX1_dimOf_4 (by rw [hs1_3]; decide) (by rw [hs1_3]; decide) (by rw [hs1_3]; rfl) rfl ?_
    refine s_iconst (q := 52) (v := 0) dX1_dimOf_51 rfl rfl ?_
    obtain rfl := Option.some.inj h
    exact t_iret dX1_dimOf_52 rfl rfl
  rw [if_neg hs1_3] at h
  by_cases hs1_4 : x1 = 5
  · rw [if_pos hs1_4] at h
    refine s_tableIn (off := 49) (tgt := 53) dX1_dimOf_4 (by rw [hs1_4]; decide) (by rw [hs1_4]; decide) (by rw [hs1_4]; rfl) rfl ?_
    refine s_iload_n (q := 54) dX1_dimOf_53 rfl rfl 0 rfl ?_
    refine s_aload_n (q := 55) dX1_dimOf_54 rfl rfl 1 rfl ?_
    refine t_getR (q := 58) (k := 1) (f := 7) (t := 8) dX1_dimOf_55 rfl rfl rfl rfl inX1 (Nat.le_of_ble_eq_true rfl) fX1_34 ?_
    refine s_iconst (q := 59) (v := 1) dX1_dimOf_58 rfl rfl ?_
    refine u_iald (q := 60) (k := 8) (j := 1) (v := (S.1 8 1)) dX1_dimOf_59 rfl rfl (inB_in (by decide)) (by decide) rfl ?_
    refine s_iadd (q := 61) dX1_dimOf_60 rfl ?_
    obtain rfl := Option.some.inj h
    exact t_iret dX1_dimOf_61 rfl rfl
  rw [if_neg hs1_4] at h
  by_cases hs1_5 : x1 = 6
  · rw [if_pos hs1_5] at h
    refine s_tableIn (off := 40) (tgt := 44) dX1_dimOf_4 (by rw [hs1_5]; decide) (by rw [hs1_5]; decide) (by rw [hs1_5]; rfl) rfl ?_
    refine s_bipush (q := 46) (v := 19) dX1_dimOf_44 rfl rfl ?_
    obtain rfl := Option.some.inj h
    exact t_iret dX1_dimOf_46 rfl rfl
  rw [if_neg hs1_5] at h
  refine s_tableOut (tgt := 62) dX1_dimOf_4 (by have e0 := lv_neT (a := 1) hs1_0 (by decide); have e1 := lv_neT (a := 2) hs1_1 (by decide); have e2 := lv_neT (a := 3) hs1_2 (by decide); have e3 := lv_neT (a := 4) hs1_3 (by decide); have e4 := lv_neT (a := 5) hs1_4 (by decide); have e5 := lv_neT (a := 6) hs1_5 (by decide); omega) rfl ?_
  refine s_iload_n (q := 63) dX1_dimOf_62 rfl rfl 0 rfl ?_
  obtain rfl := Option.some.inj h
  exact t_iret dX1_dimOf_63 rfl rfl
-- X1_isBright
def G_X1_isBright_1 (x1 : Int32) (x2 : Int32) (S : ST) : Option (Int32 × ST) := ((G_X1_dimOf_1 x1 S).bind fun q1 => (if x2 ≤ q1.1 then some (0, q1.2) else some (1, q1.2)))
set_option maxHeartbeats 4000000 in
set_option maxRecDepth 100000 in
theorem T_X1_isBright_1 (E : EV) (x1 : Int32) (x2 : Int32) {S : ST} {w : (Int32 × ST)} (h : G_X1_isBright_1 x1 x2 S = some w) : SD E mX1_isBright 0 [(0, .ref (eB E + 1)), (1, .int x1), (2, .int x2)] [] S (some (.int w.1)) w.2 := by
  unfold G_X1_isBright_1 at h
  refine s_iload_n (q := 1) dX1_isBright_0 rfl rfl 2 rfl ?_
  refine s_aload_n (q := 2) dX1_isBright_1 rfl rfl 0 rfl ?_
  refine s_iload_n (q := 3) dX1_isBright_2 rfl rfl 1 rfl ?_
  obtain ⟨q1, hc1, h⟩ := bnd h
  try dsimp only at h
  refine t_callV (q := 6) (N := mX1_dimOf) (a := eB E + 1) [.int x1] dX1_isBright_3 rfl nkX1_dimOf vkX1_dimOf lX1_64 ⟨Nat.le_of_ble_eq_true rfl, Nat.le_of_ble_eq_true rfl⟩ (rc_obj (k := 1) rfl rfl) rfl rfl (Nat.le_of_ble_eq_true rfl) (Nat.le_of_ble_eq_true rfl) (T_X1_dimOf_1 E _ hc1) ?_
  refine s_icmp_le (q := 9) (tgt := 13) dX1_isBright_6 rfl rfl (fun hb2 => ?_) (fun hb2 => ?_)
  · rw [if_pos hb2] at h
    refine s_iconst (q := 14) (v := 0) dX1_isBright_13 rfl rfl ?_
    obtain rfl := Option.some.inj h
    exact t_zret dX1_isBright_14 rfl rfl rfl
  · rw [if_neg hb2] at h
    refine s_iconst (q := 10) (v := 1) dX1_isBright_9 rfl rfl ?_
    refine s_goto (tgt := 14) dX1_isBright_10 rfl ?_
    obtain rfl := Option.some.inj h
    exact t_zret dX1_isBright_14 rfl rfl rfl
-- X5_of
def G_X5_of_0 (x1 : Int32) (x2 : Int32) (S : ST) : Option (Int32 × ST) := ((G_X5_isBelow x1 (S.1 1 0) S).bind fun q1 => (if q1.1 = 0 then ((G_X5_finding_0 0 q1.2).bind fun q17 => some (q17.1, q17.2)) else ((G_X1_starRow_1 x2 q1.2).bind fun q3 => nl q3.1 ((if x2 = 4 then (if inB x1 10 = true then (if inB x1 10 = true then ((G_X1_wearOf_1 (q3.2.1 2 x1.toNatClampNeg) (q3.2.1 4 x1.toNatClampNeg) (q3.2.1 8 0) q3.2).bind fun q8 => some (q8.1, q8.2)) else none) else none) else (if x2 = 5 then (if inB x1 10 = true then ((G_X1_dimOf_1 (q3.2.1 2 x1.toNatClampNeg) q3.2).bind fun q10 => some (q10.1, q10.2)) else none) else (if x2 = 6 then (if inB x1 10 = true then (if inB x1 10 = true then ((G_X1_isBright_1 (q3.2.1 2 x1.toNatClampNeg) (q3.2.1 4 x1.toNatClampNeg) q3.2).bind fun q13 => (if q13.1 = 0 then some (0, q13.2) else some (1, q13.2))) else none) else none) else ((G_X5_finding_0 0 q3.2).bind fun q4 => some (q4.1, q4.2)))))) (fun k3 => ((lenI k3).bind fun n15 => (if inB x1 n15 = true then some ((q3.2.1 k3 x1.toNatClampNeg), q3.2) else none))))))
set_option maxHeartbeats 4000000 in
set_option maxRecDepth 100000 in
theorem T_X5_of_0 (E : EV) (x1 : Int32) (x2 : Int32) {S : ST} {w : (Int32 × ST)} (h : G_X5_of_0 x1 x2 S = some w) : SD E mX5_of 0 [(0, .ref (eB E + 0)), (1, .int x1), (2, .int x2)] [] S (some (.int w.1)) w.2 := by
  unfold G_X5_of_0 at h
  refine s_iload_n (q := 1) dX5_of_0 rfl rfl 1 rfl ?_
  refine s_aload_n (q := 2) dX5_of_1 rfl rfl 0 rfl ?_
  refine t_getR (q := 5) (k := 0) (f := 0) (t := 1) dX5_of_2 rfl rfl rfl rfl inX5 (Nat.le_of_ble_eq_true rfl) fX5_10 ?_
  refine t_getI (q := 8) (k := 1) (f := 0) (v := (S.1 1 0)) dX5_of_5 rfl rfl rfl rfl inX1 (Nat.le_of_ble_eq_true rfl) fX5_65 rfl ?_
  obtain ⟨q1, hc1, h⟩ := bnd h
  try dsimp only at h
  refine t_callS (q := 11) (N := mX5_isBelow) [.int x1, .int (S.1 1 0)] dX5_of_8 rfl nkX5_isBelow sX5_isBelow lX5_57 ⟨Nat.le_of_ble_eq_true rfl, Nat.le_of_ble_eq_true rfl⟩ rfl rfl (Nat.le_of_ble_eq_true rfl) (Nat.le_of_ble_eq_true rfl) (T_X5_isBelow E _ _ hc1) ?_
  refine s_if_ne (q := 14) (tgt := 20) dX5_of_11 rfl rfl (fun hb2 => ?_) (fun hb2 => ?_)
  · rw [if_neg hb2] at h
    refine s_aload_n (q := 21) dX5_of_20 rfl rfl 0 rfl ?_
    refine t_getR (q := 24) (k := 0) (f := 0) (t := 1) dX5_of_21 rfl rfl rfl rfl inX5 (Nat.le_of_ble_eq_true rfl) fX5_10 ?_
    refine s_iload_n (q := 25) dX5_of_24 rfl rfl 2 rfl ?_
    obtain ⟨q3, hc3, h⟩ := bnd h
    try dsimp only at h
    refine t_callV (q := 28) (N := mX1_starRow) (a := eB E + 1) [.int x2] dX5_of_25 rfl nkX1_starRow vkX1_starRow lX5_73 ⟨Nat.le_of_ble_eq_true rfl, Nat.le_of_ble_eq_true rfl⟩ (rc_obj (k := 1) rfl rfl) rfl rfl (Nat.le_of_ble_eq_true rfl) (Nat.le_of_ble_eq_true rfl) (T_X1_starRow_1 E _ hc3) ?_
    rcases ho3 : q3.1 with _ | k3
    · rw [ho3] at h
      dsimp only [nl] at h
      refine rv_null rfl ?_
      refine s_astore_nN (q := 29) (lv' := [(3, .null), (0, .ref (eB E + 0)), (1, .int x1), (2, .int x2)]) dX5_of_28 rfl rfl (Nat.le_of_ble_eq_true rfl) rfl ?_
      refine s_aload_nN (q := 30) dX5_of_29 rfl rfl 0 rfl ?_
      refine s_ifnullN (tgt := 37) dX5_of_30 rfl ?_
      refine s_iload_n (q := 38) dX5_of_37 rfl rfl 3 rfl ?_
      by_cases hs5_0 : x2 = 4
      · rw [if_pos hs5_0] at h
        refine s_tableIn (off := 26) (tgt := 64) dX5_of_38 (by rw [hs5_0]; decide) (by rw [hs5_0]; decide) (by rw [hs5_0]; rfl) rfl ?_
        refine s_aload_n (q := 65) dX5_of_64 rfl rfl 1 rfl ?_
        refine t_getR (q := 68) (k := 0) (f := 0) (t := 1) dX5_of_65 rfl rfl rfl rfl inX5 (Nat.le_of_ble_eq_true rfl) fX5_10 ?_
        refine s_aload_n (q := 69) dX5_of_68 rfl rfl 1 rfl ?_
        refine t_getR (q := 72) (k := 0) (f := 0) (t := 1) dX5_of_69 rfl rfl rfl rfl inX5 (Nat.le_of_ble_eq_true rfl) fX5_10 ?_
        refine t_getR (q := 75) (k := 1) (f := 1) (t := 2) dX5_of_72 rfl rfl rfl rfl inX1 (Nat.le_of_ble_eq_true rfl) fX5_77 ?_
        refine s_iload_n (q := 76) dX5_of_75 rfl rfl 2 rfl ?_
        obtain ⟨hg6, h⟩ := chk_some h
        refine u_iald (q := 77) (k := 2) (v := (q3.2.1 2 x1.toNatClampNeg)) dX5_of_76 rfl rfl (inB_in hg6) rfl rfl ?_
        refine s_aload_n (q := 78) dX5_of_77 rfl rfl 1 rfl ?_
        refine t_getR (q := 81) (k := 0) (f := 0) (t := 1) dX5_of_78 rfl rfl rfl rfl inX5 (Nat.le_of_ble_eq_true rfl) fX5_10 ?_
        refine t_getR (q := 84) (k := 1) (f := 3) (t := 4) dX5_of_81 rfl rfl rfl rfl inX1 (Nat.le_of_ble_eq_true rfl) fX5_80 ?_
        refine s_iload_n (q := 85) dX5_of_84 rfl rfl 2 rfl ?_
        obtain ⟨hg7, h⟩ := chk_some h
        refine u_iald (q := 86) (k := 4) (v := (q3.2.1 4 x1.toNatClampNeg)) dX5_of_85 rfl rfl (inB_in hg7) rfl rfl ?_
        refine s_aload_n (q := 87) dX5_of_86 rfl rfl 1 rfl ?_
        refine t_getR (q := 90) (k := 0) (f := 0) (t := 1) dX5_of_87 rfl rfl rfl rfl inX5 (Nat.le_of_ble_eq_true rfl) fX5_10 ?_
        refine t_getR (q := 93) (k := 1) (f := 7) (t := 8) dX5_of_90 rfl rfl rfl rfl inX1 (Nat.le_of_ble_eq_true rfl) fX5_83 ?_
        refine s_iconst (q := 94) (v := 0) dX5_of_93 rfl rfl ?_
        refine u_iald (q := 95) (k := 8) (j := 0) (v := (q3.2.1 8 0)) dX5_of_94 rfl rfl (inB_in (by decide)) (by decide) rfl ?_
        obtain ⟨q8, hc8, h⟩ := bnd h
        try dsimp only at h
        refine t_callV (q := 98) (N := mX1_wearOf) (a := eB E + 1) [.int (q3.2.1 2 x1.toNatClampNeg), .int (q3.2.1 4 x1.toNatClampNeg), .int (q3.2.1 8 0)] dX5_of_95 rfl nkX1_wearOf vkX1_wearOf lX5_86 ⟨Nat.le_of_ble_eq_true rfl, Nat.le_of_ble_eq_true rfl⟩ (rc_obj (k := 1) rfl rfl) rfl rfl (Nat.le_of_ble_eq_true rfl) (Nat.le_of_ble_eq_true rfl) (T_X1_wearOf_1 E _ _ _ hc8) ?_
        obtain rfl := Option.some.inj h
        exact t_iret dX5_of_98 rfl rfl
      rw [if_neg hs5_0] at h
      by_cases hs5_1 : x2 = 5
      · rw [if_pos hs5_1] at h
        refine s_tableIn (off := 61) (tgt := 99) dX5_of_38 (by rw [hs5_1]; decide) (by rw [hs5_1]; decide) (by rw [hs5_1]; rfl) rfl ?_
        refine s_aload_n (q := 100) dX5_of_99 rfl rfl 1 rfl ?_
        refine t_getR (q := 103) (k := 0) (f := 0) (t := 1) dX5_of_100 rfl rfl rfl rfl inX5 (Nat.le_of_ble_eq_true rfl) fX5_10 ?_
        refine s_aload_n (q := 104) dX5_of_103 rfl rfl 1 rfl ?_
        refine t_getR (q := 107) (k := 0) (f := 0) (t := 1) dX5_of_104 rfl rfl rfl rfl inX5 (Nat.le_of_ble_eq_true rfl) fX5_10 ?_
        refine t_getR (q := 110) (k := 1) (f := 1) (t := 2) dX5_of_107 rfl rfl rfl rfl inX1 (Nat.le_of_ble_eq_true rfl) fX5_77 ?_
        refine s_iload_n (q := 111) dX5_of_110 rfl rfl 2 rfl ?_
        obtain ⟨hg9, h⟩ := chk_some h
        refine u_iald (q := 112) (k := 2) (v := (q3.2.1 2 x1.toNatClampNeg)) dX5_of_111 rfl rfl (inB_in hg9) rfl rfl ?_
        obtain ⟨q10, hc10, h⟩ := bnd h
        try dsimp only at h
        refine t_callV (q := 115) (N := mX1_dimOf) (a := eB E + 1) [.int (q3.2.1 2 x1.toNatClampNeg)] dX5_of_112 rfl nkX1_dimOf vkX1_dimOf lX5_90 ⟨Nat.le_of_ble_eq_true rfl, Nat.le_of_ble_eq_true rfl⟩ (rc_obj (k := 1) rfl rfl) rfl rfl (Nat.le_of_ble_eq_true rfl) (Nat.le_of_ble_eq_true rfl) (T_X1_dimOf_1 E _ hc10) ?_
        obtain rfl := Option.some.inj h
        exact t_iret dX5_of_115 rfl rfl
      rw [if_neg hs5_1] at h
      by_cases hs5_2 : x2 = 6
      · rw [if_pos hs5_2] at h
        refine s_tableIn (off := 78) (tgt := 116) dX5_of_38 (by rw [hs5_2]; decide) (by rw [hs5_2]; decide) (by rw [hs5_2]; rfl) rfl ?_
        refine s_aload_n (q := 117) dX5_of_116 rfl rfl 1 rfl ?_
        refine t_getR (q := 120) (k := 0) (f := 0) (t := 1) dX5_of_117 rfl rfl rfl rfl inX5 (Nat.le_of_ble_eq_true rfl) fX5_10 ?_
        refine s_aload_n (q := 121) dX5_of_120 rfl rfl 1 rfl ?_
        refine t_getR (q := 124) (k := 0) (f := 0) (t := 1) dX5_of_121 rfl rfl rfl rfl inX5 (Nat.le_of_ble_eq_true rfl) fX5_10 ?_
        refine t_getR (q := 127) (k := 1) (f := 1) (t := 2) dX5_of_124 rfl rfl rfl rfl inX1 (Nat.le_of_ble_eq_true rfl) fX5_77 ?_
        refine s_iload_n (q := 128) dX5_of_127 rfl rfl 2 rfl ?_
        obtain ⟨hg11, h⟩ := chk_some h
        refine u_iald (q := 129) (k := 2) (v := (q3.2.1 2 x1.toNatClampNeg)) dX5_of_128 rfl rfl (inB_in hg11) rfl rfl ?_
        refine s_aload_n (q := 130) dX5_of_129 rfl rfl 1 rfl ?_
        refine t_getR (q := 133) (k := 0) (f := 0) (t := 1) dX5_of_130 rfl rfl rfl rfl inX5 (Nat.le_of_ble_eq_true rfl) fX5_10 ?_
        refine t_getR (q := 136) (k := 1) (f := 3) (t := 4) dX5_of_133 rfl rfl rfl rfl inX1 (Nat.le_of_ble_eq_true rfl) fX5_80 ?_
        refine s_iload_n (q := 137) dX5_of_136 rfl rfl 2 rfl ?_
        obtain ⟨hg12, h⟩ := chk_some h
        refine u_iald (q := 138) (k := 4) (v := (q3.2.1 4 x1.toNatClampNeg)) dX5_of_137 rfl rfl (inB_in hg12) rfl rfl ?_
        obtain ⟨q13, hc13, h⟩ := bnd h
        try dsimp only at h
        refine t_callV (q := 141) (N := mX1_isBright) (a := eB E + 1) [.int (q3.2.1 2 x1.toNatClampNeg), .int (q3.2.1 4 x1.toNatClampNeg)] dX5_of_138 rfl nkX1_isBright vkX1_isBright lX5_93 ⟨Nat.le_of_ble_eq_true rfl, Nat.le_of_ble_eq_true rfl⟩ (rc_obj (k := 1) rfl rfl) rfl rfl (Nat.le_of_ble_eq_true rfl) (Nat.le_of_ble_eq_true rfl) (T_X1_isBright_1 E _ _ hc13) ?_
        refine s_if_eq (q := 144) (tgt := 148) dX5_of_141 rfl rfl (fun hb14 => ?_) (fun hb14 => ?_)
        · rw [if_pos hb14] at h
          refine s_iconst (q := 149) (v := 0) dX5_of_148 rfl rfl ?_
          obtain rfl := Option.some.inj h
          exact t_iret dX5_of_149 rfl rfl
        · rw [if_neg hb14] at h
          refine s_iconst (q := 145) (v := 1) dX5_of_144 rfl rfl ?_
          refine s_goto (tgt := 149) dX5_of_145 rfl ?_
          obtain rfl := Option.some.inj h
          exact t_iret dX5_of_149 rfl rfl
      rw [if_neg hs5_2] at h
      refine s_tableOut (tgt := 150) dX5_of_38 (by have e0 := lv_neT (a := 4) hs5_0 (by decide); have e1 := lv_neT (a := 5) hs5_1 (by decide); have e2 := lv_neT (a := 6) hs5_2 (by decide); omega) rfl ?_
      refine s_aload_n (q := 151) dX5_of_150 rfl rfl 1 rfl ?_
      refine s_iconst (q := 152) (v := 0) dX5_of_151 rfl rfl ?_
      obtain ⟨q4, hc4, h⟩ := bnd h
      try dsimp only at h
      refine t_callV (q := 155) (N := mX5_finding) (a := eB E + 0) [.int 0] dX5_of_152 rfl nkX5_finding vkX5_finding lX5_61 ⟨Nat.le_of_ble_eq_true rfl, Nat.le_of_ble_eq_true rfl⟩ (rc_obj (k := 0) rfl rfl) rfl rfl (Nat.le_of_ble_eq_true rfl) (Nat.le_of_ble_eq_true rfl) (T_X5_finding_0 E _ hc4) ?_
      obtain rfl := Option.some.inj h
      exact t_iret dX5_of_155 rfl rfl
    · rw [ho3] at h
      dsimp only [nl] at h
      refine rv_ref rfl ?_
      refine s_astore_n (q := 29) (lv' := [(3, .ref (eB E + k3)), (0, .ref (eB E + 0)), (1, .int x1), (2, .int x2)]) dX5_of_28 rfl rfl (Nat.le_of_ble_eq_true rfl) rfl ?_
      refine s_aload_n (q := 30) dX5_of_29 rfl rfl 0 rfl ?_
      refine s_ifnull (tgt := 33) dX5_of_30 rfl ?_
      refine s_aload_n (q := 34) dX5_of_33 rfl rfl 0 rfl ?_
      refine s_iload_n (q := 35) dX5_of_34 rfl rfl 2 rfl ?_
      obtain ⟨n15, hn15, h⟩ := bnd h
      try dsimp only at h
      obtain ⟨hg16, h⟩ := chk_some h
      refine u_iald (q := 36) (k := k3) (v := (q3.2.1 k3 x1.toNatClampNeg)) dX5_of_35 rfl (lenI_sh hn15) (inB_in hg16) rfl rfl ?_
      obtain rfl := Option.some.inj h
      exact t_iret dX5_of_36 rfl rfl
  · rw [if_pos hb2] at h
    refine s_aload_n (q := 15) dX5_of_14 rfl rfl 0 rfl ?_
    refine s_iconst (q := 16) (v := 0) dX5_of_15 rfl rfl ?_
    obtain ⟨q17, hc17, h⟩ := bnd h
    try dsimp only at h
    refine t_callV (q := 19) (N := mX5_finding) (a := eB E + 0) [.int 0] dX5_of_16 rfl nkX5_finding vkX5_finding lX5_61 ⟨Nat.le_of_ble_eq_true rfl, Nat.le_of_ble_eq_true rfl⟩ (rc_obj (k := 0) rfl rfl) rfl rfl (Nat.le_of_ble_eq_true rfl) (Nat.le_of_ble_eq_true rfl) (T_X5_finding_0 E _ hc17) ?_
    obtain rfl := Option.some.inj h
    exact t_iret dX5_of_19 rfl rfl
-- X6_isStar
def G_X6_isStar_51 (x1 : Int32) (S : ST) : Option (Int32 × ST) := ((G_X6_in1 x1 0 ((S.1 52 1) - 1) S).bind fun q1 => (if bitB q1.1 = true then some (q1.1, q1.2) else none))
set_option maxHeartbeats 4000000 in
set_option maxRecDepth 100000 in
theorem T_X6_isStar_51 (E : EV) (x1 : Int32) {S : ST} {w : (Int32 × ST)} (h : G_X6_isStar_51 x1 S = some w) : SD E mX6_isStar 0 [(0, .ref (eB E + 51)), (1, .int x1)] [] S (some (.int w.1)) w.2 := by
  unfold G_X6_isStar_51 at h
  refine s_iload_n (q := 1) dX6_isStar_0 rfl rfl 1 rfl ?_
  refine s_iconst (q := 2) (v := 0) dX6_isStar_1 rfl rfl ?_
  refine s_aload_n (q := 3) dX6_isStar_2 rfl rfl 0 rfl ?_
  refine t_getR (q := 6) (k := 51) (f := 0) (t := 52) dX6_isStar_3 rfl rfl rfl rfl inX6 (Nat.le_of_ble_eq_true rfl) fX6_9 ?_
  refine s_iconst (q := 7) (v := 1) dX6_isStar_6 rfl rfl ?_
  refine u_iald (q := 8) (k := 52) (j := 1) (v := (S.1 52 1)) dX6_isStar_7 rfl rfl (inB_in (by decide)) (by decide) rfl ?_
  refine s_iconst (q := 9) (v := 1) dX6_isStar_8 rfl rfl ?_
  refine s_isub (q := 10) dX6_isStar_9 rfl ?_
  obtain ⟨q1, hc1, h⟩ := bnd h
  try dsimp only at h
  refine t_callS (q := 13) (N := mX6_in1) [.int x1, .int 0, .int ((S.1 52 1) - 1)] dX6_isStar_10 rfl nkX6_in1 sX6_in1 lX6_54 ⟨Nat.le_of_ble_eq_true rfl, Nat.le_of_ble_eq_true rfl⟩ rfl rfl (Nat.le_of_ble_eq_true rfl) (Nat.le_of_ble_eq_true rfl) (T_X6_in1 E _ _ _ hc1) ?_
  obtain ⟨hg2, h⟩ := chk_some h
  obtain rfl := Option.some.inj h
  exact t_zret dX6_isStar_13 rfl (bitB_z hg2) rfl
-- X6_get
def G_X6_get_51 (x1 : Int32) (x2 : Int32) (S : ST) : Option (Int32 × ST) := (if inB ((16 + (4 * x1)) + x2) 72 = true then some ((S.1 52 (((16 + (4 * x1)) + x2).toNatClampNeg)), S) else none)
set_option maxHeartbeats 4000000 in
set_option maxRecDepth 100000 in
theorem T_X6_get_51 (E : EV) (x1 : Int32) (x2 : Int32) {S : ST} {w : (Int32 × ST)} (h : G_X6_get_51 x1 x2 S = some w) : SD E mX6_get 0 [(0, .ref (eB E + 51)), (1, .int x1), (2, .int x2)] [] S (some (.int w.1)) w.2 := by
  unfold G_X6_get_51 at h
  refine s_aload_n (q := 1) dX6_get_0 rfl rfl 0 rfl ?_
  refine t_getR (q := 4) (k := 51) (f := 0) (t := 52) dX6_get_1 rfl rfl rfl rfl inX6 (Nat.le_of_ble_eq_true rfl) fX6_9 ?_
  refine s_bipush (q := 6) (v := 16) dX6_get_4 rfl rfl ?_
  refine s_iconst (q := 7) (v := 4) dX6_get_6 rfl rfl ?_
  refine s_iload_n (q := 8) dX6_get_7 rfl rfl 1 rfl ?_
  refine s_imul (q := 9) dX6_get_8 rfl ?_
  refine s_iadd (q := 10) dX6_get_9 rfl ?_
  refine s_iload_n (q := 11) dX6_get_10 rfl rfl 2 rfl ?_
  refine s_iadd (q := 12) dX6_get_11 rfl ?_
  obtain ⟨hg1, h⟩ := chk_some h
  refine u_iald (q := 13) (k := 52) (v := (S.1 52 (((16 + (4 * x1)) + x2).toNatClampNeg))) dX6_get_12 rfl rfl (inB_in hg1) rfl rfl ?_
  obtain rfl := Option.some.inj h
  exact t_iret dX6_get_13 rfl rfl
-- X6_dimOf
def G_X6_dimOf_51 (x1 : Int32) (S : ST) : Option (Int32 × ST) := ((G_X6_get_51 x1 0 S).bind fun q1 => (if q1.1 = 1 then some (19, q1.2) else (if q1.1 = 2 then some (4, q1.2) else (if q1.1 = 3 then some (0, q1.2) else (if q1.1 = 4 then some (0, q1.2) else (if q1.1 = 5 then some ((9 + (q1.2.1 52 5)), q1.2) else (if q1.1 = 6 then some (19, q1.2) else some (9, q1.2))))))))
set_option maxHeartbeats 4000000 in
set_option maxRecDepth 100000 in
theorem T_X6_dimOf_51 (E : EV) (x1 : Int32) {S : ST} {w : (Int32 × ST)} (h : G_X6_dimOf_51 x1 S = some w) : SD E mX6_dimOf 0 [(0, .ref (eB E + 51)), (1, .int x1)] [] S (some (.int w.1)) w.2 := by
  unfold G_X6_dimOf_51 at h
  refine s_aload_n (q := 1) dX6_dimOf_0 rfl rfl 0 rfl ?_
  refine s_iload_n (q := 2) dX6_dimOf_1 rfl rfl 1 rfl ?_
  refine s_iconst (q := 3) (v := 0) dX6_dimOf_2 rfl rfl ?_
  obtain ⟨q1, hc1, h⟩ := bnd h
  try dsimp only at h
  refine t_callV (q := 6) (N := mX6_get) (a := eB E + 51) [.int x1, .int 0] dX6_dimOf_3 rfl nkX6_get vkX6_get lX6_58 ⟨Nat.le_of_ble_eq_true rfl, Nat.le_of_ble_eq_true rfl⟩ (rc_obj (k := 51) rfl rfl) rfl rfl (Nat.le_of_ble_eq_true rfl) (Nat.le_of_ble_eq_true rfl) (T_X6_get_51 E _ _ hc1) ?_
  by_cases hs2_0 : q1.1 = 1
  · rw [if_pos hs2_0] at h
    refine s_tableIn (off := 38) (tgt := 44) dX6_dimOf_6 (by rw [hs2_0]; decide) (by rw [hs2_0]; decide) (by rw [hs2_0]; rfl) rfl ?_
    refine s_bipush (q := 46) (v := 19) dX6_dimOf_44 rfl rfl ?_
    obtain rfl := Option.some.inj h
    exact t_iret dX6_dimOf_46 rfl rfl
  rw [if_neg hs2_0] at h
  by_cases hs2_1 : q1.1 = 2
  · rw [if_pos hs2_1] at h
    refine s_tableIn (off := 41) (tgt := 47) dX6_dimOf_6 (by rw [hs2_1]; decide) (by rw [hs2_1]; decide) (by rw [hs2_1]; rfl) rfl ?_
    refine s_iconst (q := 48) (v := 4) dX6_dimOf_47 rfl rfl ?_
    obtain rfl := Option.some.inj h
    exact t_iret dX6_dimOf_48 rfl rfl
  rw [if_neg hs2_1] at h
  by_cases hs2_2 : q1.1 = 3
  · rw [if_pos hs2_2] at h
    refine s_tableIn (off := 43) (tgt := 49) dX6_dimOf_6 (by rw [hs2_2]; decide) (by rw [hs2_2]; decide) (by rw [hs2_2]; rfl) rfl ?_
    refine s_iconst (q := 50) (v := 0) dX6_dimOf_49 rfl rfl ?_
    obtain rfl := Option.some.inj h
    exact t_iret dX6_dimOf_50 rfl rfl
  rw [if_neg hs2_2] at h
  by_cases hs2_3 : q1.1 = 4
  · rw [if_pos hs2_3] at h
    refine s_tableIn (off := 43) (tgt := 49) dX6_dimOf_6 (by rw [hs2_3]; decide) (by rw [hs2_3]; decide) (by rw [hs2_3]; rfl) rfl ?_
    refine s_iconst (q := 50) (v := 0) dX6_dimOf_49 rfl rfl ?_
    obtain rfl := Option.some.inj h
    exact t_iret dX6_dimOf_50 rfl rfl
  rw [if_neg hs2_3] at h
  by_cases hs2_4 : q1.1 = 5
  · rw [if_pos hs2_4] at h
    refine s_tableIn (off := 45) (tgt := 51) dX6_dimOf_6 (by rw [hs2_4]; decide) (by rw [hs2_4]; decide) (by rw [hs2_4]; rfl) rfl ?_
    refine s_bipush (q := 53) (v := 9) dX6_dimOf_51 rfl rfl ?_
    refine s_aload_n (q := 54) dX6_dimOf_53 rfl rfl 0 rfl ?_
    refine t_getR (q := 57) (k := 51) (f := 0) (t := 52) dX6_dimOf_54 rfl rfl rfl rfl inX6 (Nat.le_of_ble_eq_true rfl) fX6_9 ?_
    refine s_iconst (q := 58) (v := 5) dX6_dimOf_57 rfl rfl ?_
    refine u_iald (q := 59) (k := 52) (j := 5) (v := (q1.2.1 52 5)) dX6_dimOf_58 rfl rfl (inB_in (by decide)) (by decide) rfl ?_
    refine s_iadd (q := 60) dX6_dimOf_59 rfl ?_
    obtain rfl := Option.some.inj h
    exact t_iret dX6_dimOf_60 rfl rfl
  rw [if_neg hs2_4] at h
  by_cases hs2_5 : q1.1 = 6
  · rw [if_pos hs2_5] at h
    refine s_tableIn (off := 38) (tgt := 44) dX6_dimOf_6 (by rw [hs2_5]; decide) (by rw [hs2_5]; decide) (by rw [hs2_5]; rfl) rfl ?_
    refine s_bipush (q := 46) (v := 19) dX6_dimOf_44 rfl rfl ?_
    obtain rfl := Option.some.inj h
    exact t_iret dX6_dimOf_46 rfl rfl
  rw [if_neg hs2_5] at h
  refine s_tableOut (tgt := 61) dX6_dimOf_6 (by have e0 := lv_neT (a := 1) hs2_0 (by decide); have e1 := lv_neT (a := 2) hs2_1 (by decide); have e2 := lv_neT (a := 3) hs2_2 (by decide); have e3 := lv_neT (a := 4) hs2_3 (by decide); have e4 := lv_neT (a := 5) hs2_4 (by decide); have e5 := lv_neT (a := 6) hs2_5 (by decide); omega) rfl ?_
  refine s_bipush (q := 63) (v := 9) dX6_dimOf_61 rfl rfl ?_
  obtain rfl := Option.some.inj h
  exact t_iret dX6_dimOf_63 rfl rfl
-- X6_shines
def G_X6_shines_51 (x1 : Int32) (S : ST) : Option (Int32 × ST) := ((G_X6_get_51 x1 2 S).bind fun q1 => ((G_X6_dimOf_51 x1 q1.2).bind fun q2 => (if q1.1 ≤ q2.1 then some (0, q2.2) else some (1, q2.2))))
set_option maxHeartbeats 4000000 in
set_option maxRecDepth 100000 in
theorem T_X6_shines_51 (E : EV) (x1 : Int32) {S : ST} {w : (Int32 × ST)} (h : G_X6_shines_51 x1 S = some w) : SD E mX6_shines 0 [(0, .ref (eB E + 51)), (1, .int x1)] [] S (some (.int w.1)) w.2 := by
  unfold G_X6_shines_51 at h
  refine s_aload_n (q := 1) dX6_shines_0 rfl rfl 0 rfl ?_
  refine s_iload_n (q := 2) dX6_shines_1 rfl rfl 1 rfl ?_
  refine s_iconst (q := 3) (v := 2) dX6_shines_2 rfl rfl ?_
  obtain ⟨q1, hc1, h⟩ := bnd h
  try dsimp only at h
  refine t_callV (q := 6) (N := mX6_get) (a := eB E + 51) [.int x1, .int 2] dX6_shines_3 rfl nkX6_get vkX6_get lX6_58 ⟨Nat.le_of_ble_eq_true rfl, Nat.le_of_ble_eq_true rfl⟩ (rc_obj (k := 51) rfl rfl) rfl rfl (Nat.le_of_ble_eq_true rfl) (Nat.le_of_ble_eq_true rfl) (T_X6_get_51 E _ _ hc1) ?_
  refine s_aload_n (q := 7) dX6_shines_6 rfl rfl 0 rfl ?_
  refine s_iload_n (q := 8) dX6_shines_7 rfl rfl 1 rfl ?_
  obtain ⟨q2, hc2, h⟩ := bnd h
  try dsimp only at h
  refine t_callV (q := 11) (N := mX6_dimOf) (a := eB E + 51) [.int x1] dX6_shines_8 rfl nkX6_dimOf vkX6_dimOf lX6_62 ⟨Nat.le_of_ble_eq_true rfl, Nat.le_of_ble_eq_true rfl⟩ (rc_obj (k := 51) rfl rfl) rfl rfl (Nat.le_of_ble_eq_true rfl) (Nat.le_of_ble_eq_true rfl) (T_X6_dimOf_51 E _ hc2) ?_
  refine s_icmp_le (q := 14) (tgt := 18) dX6_shines_11 rfl rfl (fun hb3 => ?_) (fun hb3 => ?_)
  · rw [if_pos hb3] at h
    refine s_iconst (q := 19) (v := 0) dX6_shines_18 rfl rfl ?_
    obtain rfl := Option.some.inj h
    exact t_zret dX6_shines_19 rfl rfl rfl
  · rw [if_neg hb3] at h
    refine s_iconst (q := 15) (v := 1) dX6_shines_14 rfl rfl ?_
    refine s_goto (tgt := 19) dX6_shines_15 rfl ?_
    obtain rfl := Option.some.inj h
    exact t_zret dX6_shines_19 rfl rfl rfl
-- X6_wearOf
def G_X6_wearOf_51_27 (x1 : Int32) (x2 : Int32) (y0 : Int32) (y1 : Int32) (S : ST) : Option (Int32 × ST) := ((G_X6_get_51 x1 0 S).bind fun q2 => (if q2.1 = 1 then some ((x2 + 2), q2.2) else (if q2.1 = 2 then some ((x2 / 2), q2.2) else (if q2.1 = 3 then some ((y1 + y0), q2.2) else (if q2.1 = 4 then some (((y1 + y0) + (q2.2.1 52 5)), q2.2) else (if q2.1 = 5 then ((G_X6_get_51 x1 2 q2.2).bind fun q4 => some ((x2 + ((99 - q4.1) / 10)), q4.2)) else (if q2.1 = 6 then some ((2 * (x2 + 2)), q2.2) else some (x2, q2.2))))))))
set_option maxHeartbeats 4000000 in
set_option maxRecDepth 100000 in
theorem T_X6_wearOf_51_27 (E : EV) (x1 : Int32) (x2 : Int32) (y0 : Int32) (y1 : Int32) {S : ST} {w : (Int32 × ST)} (h : G_X6_wearOf_51_27 x1 x2 y0 y1 S = some w) : SD E mX6_wearOf 27 [(0, .ref (eB E + 51)), (1, .int x1), (2, .int x2)] [.int y0, .int y1] S (some (.int w.1)) w.2 := by
  unfold G_X6_wearOf_51_27 at h
  refine s_iadd (q := 28) dX6_wearOf_27 rfl ?_
  refine s_istore_n (q := 29) (lv' := [(3, .int (y1 + y0)), (0, .ref (eB E + 51)), (1, .int x1), (2, .int x2)]) dX6_wearOf_28 rfl rfl (Nat.le_of_ble_eq_true rfl) rfl ?_
  refine s_aload_n (q := 30) dX6_wearOf_29 rfl rfl 1 rfl ?_
  refine s_iload_n (q := 31) dX6_wearOf_30 rfl rfl 2 rfl ?_
  refine s_iconst (q := 32) (v := 0) dX6_wearOf_31 rfl rfl ?_
  obtain ⟨q2, hc2, h⟩ := bnd h
  try dsimp only at h
  refine t_callV (q := 35) (N := mX6_get) (a := eB E + 51) [.int x1, .int 0] dX6_wearOf_32 rfl nkX6_get vkX6_get lX6_58 ⟨Nat.le_of_ble_eq_true rfl, Nat.le_of_ble_eq_true rfl⟩ (rc_obj (k := 51) rfl rfl) rfl rfl (Nat.le_of_ble_eq_true rfl) (Nat.le_of_ble_eq_true rfl) (T_X6_get_51 E _ _ hc2) ?_
  by_cases hs3_0 : q2.1 = 1
  · rw [if_pos hs3_0] at h
    refine s_tableIn (off := 37) (tgt := 72) dX6_wearOf_35 (by rw [hs3_0]; decide) (by rw [hs3_0]; decide) (by rw [hs3_0]; rfl) rfl ?_
    refine s_iload_n (q := 73) dX6_wearOf_72 rfl rfl 3 rfl ?_
    refine s_iconst (q := 74) (v := 2) dX6_wearOf_73 rfl rfl ?_
    refine s_iadd (q := 75) dX6_wearOf_74 rfl ?_
    obtain rfl := Option.some.inj h
    exact t_iret dX6_wearOf_75 rfl rfl
  rw [if_neg hs3_0] at h
  by_cases hs3_1 : q2.1 = 2
  · rw [if_pos hs3_1] at h
    refine s_tableIn (off := 41) (tgt := 76) dX6_wearOf_35 (by rw [hs3_1]; decide) (by rw [hs3_1]; decide) (by rw [hs3_1]; rfl) rfl ?_
    refine s_iload_n (q := 77) dX6_wearOf_76 rfl rfl 3 rfl ?_
    refine s_iconst (q := 78) (v := 2) dX6_wearOf_77 rfl rfl ?_
    refine s_idiv (q := 79) dX6_wearOf_78 rfl (by decide) ?_
    obtain rfl := Option.some.inj h
    exact t_iret dX6_wearOf_79 rfl rfl
  rw [if_neg hs3_1] at h
  by_cases hs3_2 : q2.1 = 3
  · rw [if_pos hs3_2] at h
    refine s_tableIn (off := 45) (tgt := 80) dX6_wearOf_35 (by rw [hs3_2]; decide) (by rw [hs3_2]; decide) (by rw [hs3_2]; rfl) rfl ?_
    refine s_iload_n (q := 81) dX6_wearOf_80 rfl rfl 0 rfl ?_
    obtain rfl := Option.some.inj h
    exact t_iret dX6_wearOf_81 rfl rfl
  rw [if_neg hs3_2] at h
  by_cases hs3_3 : q2.1 = 4
  · rw [if_pos hs3_3] at h
    refine s_tableIn (off := 47) (tgt := 82) dX6_wearOf_35 (by rw [hs3_3]; decide) (by rw [hs3_3]; decide) (by rw [hs3_3]; rfl) rfl ?_
    refine s_iload_n (q := 83) dX6_wearOf_82 rfl rfl 0 rfl ?_
    refine s_aload_n (q := 84) dX6_wearOf_83 rfl rfl 1 rfl ?_
    refine t_getR (q := 87) (k := 51) (f := 0) (t := 52) dX6_wearOf_84 rfl rfl rfl rfl inX6 (Nat.le_of_ble_eq_true rfl) fX6_9 ?_
    refine s_iconst (q := 88) (v := 5) dX6_wearOf_87 rfl rfl ?_
    refine u_iald (q := 89) (k := 52) (j := 5) (v := (q2.2.1 52 5)) dX6_wearOf_88 rfl rfl (inB_in (by decide)) (by decide) rfl ?_
    refine s_iadd (q := 90) dX6_wearOf_89 rfl ?_
    obtain rfl := Option.some.inj h
    exact t_iret dX6_wearOf_90 rfl rfl
  rw [if_neg hs3_3] at h
  by_cases hs3_4 : q2.1 = 5
  · rw [if_pos hs3_4] at h
    refine s_tableIn (off := 56) (tgt := 91) dX6_wearOf_35 (by rw [hs3_4]; decide) (by rw [hs3_4]; decide) (by rw [hs3_4]; rfl) rfl ?_
    refine s_iload_n (q := 92) dX6_wearOf_91 rfl rfl 3 rfl ?_
    refine s_bipush (q := 94) (v := 99) dX6_wearOf_92 rfl rfl ?_
    refine s_aload_n (q := 95) dX6_wearOf_94 rfl rfl 1 rfl ?_
    refine s_iload_n (q := 96) dX6_wearOf_95 rfl rfl 2 rfl ?_
    refine s_iconst (q := 97) (v := 2) dX6_wearOf_96 rfl rfl ?_
    obtain ⟨q4, hc4, h⟩ := bnd h
    try dsimp only at h
    refine t_callV (q := 100) (N := mX6_get) (a := eB E + 51) [.int x1, .int 2] dX6_wearOf_97 rfl nkX6_get vkX6_get lX6_58 ⟨Nat.le_of_ble_eq_true rfl, Nat.le_of_ble_eq_true rfl⟩ (rc_obj (k := 51) rfl rfl) rfl rfl (Nat.le_of_ble_eq_true rfl) (Nat.le_of_ble_eq_true rfl) (T_X6_get_51 E _ _ hc4) ?_
    refine s_isub (q := 101) dX6_wearOf_100 rfl ?_
    refine s_bipush (q := 103) (v := 10) dX6_wearOf_101 rfl rfl ?_
    refine s_idiv (q := 104) dX6_wearOf_103 rfl (by decide) ?_
    refine s_iadd (q := 105) dX6_wearOf_104 rfl ?_
    obtain rfl := Option.some.inj h
    exact t_iret dX6_wearOf_105 rfl rfl
  rw [if_neg hs3_4] at h
  by_cases hs3_5 : q2.1 = 6
  · rw [if_pos hs3_5] at h
    refine s_tableIn (off := 71) (tgt := 106) dX6_wearOf_35 (by rw [hs3_5]; decide) (by rw [hs3_5]; decide) (by rw [hs3_5]; rfl) rfl ?_
    refine s_iconst (q := 107) (v := 2) dX6_wearOf_106 rfl rfl ?_
    refine s_iload_n (q := 108) dX6_wearOf_107 rfl rfl 3 rfl ?_
    refine s_iconst (q := 109) (v := 2) dX6_wearOf_108 rfl rfl ?_
    refine s_iadd (q := 110) dX6_wearOf_109 rfl ?_
    refine s_imul (q := 111) dX6_wearOf_110 rfl ?_
    obtain rfl := Option.some.inj h
    exact t_iret dX6_wearOf_111 rfl rfl
  rw [if_neg hs3_5] at h
  refine s_tableOut (tgt := 112) dX6_wearOf_35 (by have e0 := lv_neT (a := 1) hs3_0 (by decide); have e1 := lv_neT (a := 2) hs3_1 (by decide); have e2 := lv_neT (a := 3) hs3_2 (by decide); have e3 := lv_neT (a := 4) hs3_3 (by decide); have e4 := lv_neT (a := 5) hs3_4 (by decide); have e5 := lv_neT (a := 6) hs3_5 (by decide); omega) rfl ?_
  refine s_iload_n (q := 113) dX6_wearOf_112 rfl rfl 3 rfl ?_
  obtain rfl := Option.some.inj h
  exact t_iret dX6_wearOf_113 rfl rfl
def G_X6_wearOf_51 (x1 : Int32) (S : ST) : Option (Int32 × ST) := (if (S.1 52 5) < 5 then G_X6_wearOf_51_27 x1 ((S.1 52 4) + 1) 0 (((S.1 52 4) + 1) / 2) S else G_X6_wearOf_51_27 x1 ((S.1 52 4) + 1) 1 (((S.1 52 4) + 1) / 2) S)
set_option maxHeartbeats 4000000 in
set_option maxRecDepth 100000 in
theorem T_X6_wearOf_51 (E : EV) (x1 : Int32) {S : ST} {w : (Int32 × ST)} (h : G_X6_wearOf_51 x1 S = some w) : SD E mX6_wearOf 0 [(0, .ref (eB E + 51)), (1, .int x1)] [] S (some (.int w.1)) w.2 := by
  unfold G_X6_wearOf_51 at h
  refine s_aload_n (q := 1) dX6_wearOf_0 rfl rfl 0 rfl ?_
  refine t_getR (q := 4) (k := 51) (f := 0) (t := 52) dX6_wearOf_1 rfl rfl rfl rfl inX6 (Nat.le_of_ble_eq_true rfl) fX6_9 ?_
  refine s_iconst (q := 5) (v := 4) dX6_wearOf_4 rfl rfl ?_
  refine u_iald (q := 6) (k := 52) (j := 4) (v := (S.1 52 4)) dX6_wearOf_5 rfl rfl (inB_in (by decide)) (by decide) rfl ?_
  refine s_iconst (q := 7) (v := 1) dX6_wearOf_6 rfl rfl ?_
  refine s_iadd (q := 8) dX6_wearOf_7 rfl ?_
  refine s_istore_n (q := 9) (lv' := [(2, .int ((S.1 52 4) + 1)), (0, .ref (eB E + 51)), (1, .int x1)]) dX6_wearOf_8 rfl rfl (Nat.le_of_ble_eq_true rfl) rfl ?_
  refine s_iload_n (q := 10) dX6_wearOf_9 rfl rfl 0 rfl ?_
  refine s_iconst (q := 11) (v := 2) dX6_wearOf_10 rfl rfl ?_
  refine s_idiv (q := 12) dX6_wearOf_11 rfl (by decide) ?_
  refine s_aload_n (q := 13) dX6_wearOf_12 rfl rfl 1 rfl ?_
  refine t_getR (q := 16) (k := 51) (f := 0) (t := 52) dX6_wearOf_13 rfl rfl rfl rfl inX6 (Nat.le_of_ble_eq_true rfl) fX6_9 ?_
  refine s_iconst (q := 17) (v := 5) dX6_wearOf_16 rfl rfl ?_
  refine u_iald (q := 18) (k := 52) (j := 5) (v := (S.1 52 5)) dX6_wearOf_17 rfl rfl (inB_in (by decide)) (by decide) rfl ?_
  refine s_iconst (q := 19) (v := 5) dX6_wearOf_18 rfl rfl ?_
  refine s_icmp_lt (q := 22) (tgt := 26) dX6_wearOf_19 rfl rfl (fun hb1 => ?_) (fun hb1 => ?_)
  · rw [if_pos hb1] at h
    refine s_iconst (q := 27) (v := 0) dX6_wearOf_26 rfl rfl ?_
    exact t_sub [1, 2, 0] rfl (T_X6_wearOf_51_27 E _ _ _ _ h)
  · rw [if_neg hb1] at h
    refine s_iconst (q := 23) (v := 1) dX6_wearOf_22 rfl rfl ?_
    refine s_goto (tgt := 27) dX6_wearOf_23 rfl ?_
    exact t_sub [1, 2, 0] rfl (T_X6_wearOf_51_27 E _ _ _ _ h)
-- X6_of
def G_X6_of_51 (x1 : Int32) (x2 : Int32) (S : ST) : Option (Int32 × ST) := ((G_X6_isStar_51 x1 S).bind fun q1 => (if q1.1 = 0 then ((G_X6_no_51 0 q1.2).bind fun q3 => some (q3.1, q3.2)) else ((G_X6_in1 x2 0 6 q1.2).bind fun q4 => (if q4.1 = 0 then ((G_X6_no_51 0 q4.2).bind fun q14 => some (q14.1, q14.2)) else (if (4 : Int32) ≤ x2 then (if x2 = 4 then ((G_X6_wearOf_51 x1 q4.2).bind fun q12 => some (q12.1, q12.2)) else (if x2 = 5 then ((G_X6_dimOf_51 x1 q4.2).bind fun q11 => some (q11.1, q11.2)) else ((G_X6_shines_51 x1 q4.2).bind fun q9 => (if q9.1 = 0 then some (0, q9.2) else some (1, q9.2))))) else ((G_X6_get_51 x1 x2 q4.2).bind fun q13 => some (q13.1, q13.2)))))))
set_option maxHeartbeats 4000000 in
set_option maxRecDepth 100000 in
theorem T_X6_of_51 (E : EV) (x1 : Int32) (x2 : Int32) {S : ST} {w : (Int32 × ST)} (h : G_X6_of_51 x1 x2 S = some w) : SD E mX6_of 0 [(0, .ref (eB E + 51)), (1, .int x1), (2, .int x2)] [] S (some (.int w.1)) w.2 := by
  unfold G_X6_of_51 at h
  refine s_aload_n (q := 1) dX6_of_0 rfl rfl 0 rfl ?_
  refine s_iload_n (q := 2) dX6_of_1 rfl rfl 1 rfl ?_
  obtain ⟨q1, hc1, h⟩ := bnd h
  try dsimp only at h
  refine t_callV (q := 5) (N := mX6_isStar) (a := eB E + 51) [.int x1] dX6_of_2 rfl nkX6_isStar vkX6_isStar lX6_101 ⟨Nat.le_of_ble_eq_true rfl, Nat.le_of_ble_eq_true rfl⟩ (rc_obj (k := 51) rfl rfl) rfl rfl (Nat.le_of_ble_eq_true rfl) (Nat.le_of_ble_eq_true rfl) (T_X6_isStar_51 E _ hc1) ?_
  refine s_if_eq (q := 8) (tgt := 18) dX6_of_5 rfl rfl (fun hb2 => ?_) (fun hb2 => ?_)
  · rw [if_pos hb2] at h
    refine s_aload_n (q := 19) dX6_of_18 rfl rfl 0 rfl ?_
    refine s_iconst (q := 20) (v := 0) dX6_of_19 rfl rfl ?_
    obtain ⟨q3, hc3, h⟩ := bnd h
    try dsimp only at h
    refine t_callV (q := 23) (N := mX6_no) (a := eB E + 51) [.int 0] dX6_of_20 rfl nkX6_no vkX6_no lX6_94 ⟨Nat.le_of_ble_eq_true rfl, Nat.le_of_ble_eq_true rfl⟩ (rc_obj (k := 51) rfl rfl) rfl rfl (Nat.le_of_ble_eq_true rfl) (Nat.le_of_ble_eq_true rfl) (T_X6_no_51 E _ hc3) ?_
    obtain rfl := Option.some.inj h
    exact t_iret dX6_of_23 rfl rfl
  · rw [if_neg hb2] at h
    refine s_iload_n (q := 9) dX6_of_8 rfl rfl 2 rfl ?_
    refine s_iconst (q := 10) (v := 0) dX6_of_9 rfl rfl ?_
    refine s_bipush (q := 12) (v := 6) dX6_of_10 rfl rfl ?_
    obtain ⟨q4, hc4, h⟩ := bnd h
    try dsimp only at h
    refine t_callS (q := 15) (N := mX6_in1) [.int x2, .int 0, .int 6] dX6_of_12 rfl nkX6_in1 sX6_in1 lX6_54 ⟨Nat.le_of_ble_eq_true rfl, Nat.le_of_ble_eq_true rfl⟩ rfl rfl (Nat.le_of_ble_eq_true rfl) (Nat.le_of_ble_eq_true rfl) (T_X6_in1 E _ _ _ hc4) ?_
    refine s_if_ne (q := 18) (tgt := 24) dX6_of_15 rfl rfl (fun hb5 => ?_) (fun hb5 => ?_)
    · rw [if_neg hb5] at h
      refine s_iload_n (q := 25) dX6_of_24 rfl rfl 2 rfl ?_
      refine s_iconst (q := 26) (v := 4) dX6_of_25 rfl rfl ?_
      refine s_icmp_ge (q := 29) (tgt := 38) dX6_of_26 rfl rfl (fun hb6 => ?_) (fun hb6 => ?_)
      · rw [if_pos hb6] at h
        refine s_iload_n (q := 39) dX6_of_38 rfl rfl 2 rfl ?_
        refine s_iconst (q := 40) (v := 4) dX6_of_39 rfl rfl ?_
        refine s_icmp_ne (q := 43) (tgt := 51) dX6_of_40 rfl rfl (fun hb7 => ?_) (fun hb7 => ?_)
        · rw [if_neg hb7] at h
          refine s_iload_n (q := 52) dX6_of_51 rfl rfl 2 rfl ?_
          refine s_iconst (q := 53) (v := 5) dX6_of_52 rfl rfl ?_
          refine s_icmp_ne (q := 56) (tgt := 64) dX6_of_53 rfl rfl (fun hb8 => ?_) (fun hb8 => ?_)
          · rw [if_neg hb8] at h
            refine s_aload_n (q := 65) dX6_of_64 rfl rfl 0 rfl ?_
            refine s_iload_n (q := 66) dX6_of_65 rfl rfl 1 rfl ?_
            obtain ⟨q9, hc9, h⟩ := bnd h
            try dsimp only at h
            refine t_callV (q := 69) (N := mX6_shines) (a := eB E + 51) [.int x1] dX6_of_66 rfl nkX6_shines vkX6_shines lX6_66 ⟨Nat.le_of_ble_eq_true rfl, Nat.le_of_ble_eq_true rfl⟩ (rc_obj (k := 51) rfl rfl) rfl rfl (Nat.le_of_ble_eq_true rfl) (Nat.le_of_ble_eq_true rfl) (T_X6_shines_51 E _ hc9) ?_
            refine s_if_eq (q := 72) (tgt := 76) dX6_of_69 rfl rfl (fun hb10 => ?_) (fun hb10 => ?_)
            · rw [if_pos hb10] at h
              refine s_iconst (q := 77) (v := 0) dX6_of_76 rfl rfl ?_
              obtain rfl := Option.some.inj h
              exact t_iret dX6_of_77 rfl rfl
            · rw [if_neg hb10] at h
              refine s_iconst (q := 73) (v := 1) dX6_of_72 rfl rfl ?_
              refine s_goto (tgt := 77) dX6_of_73 rfl ?_
              obtain rfl := Option.some.inj h
              exact t_iret dX6_of_77 rfl rfl
          · rw [if_pos hb8] at h
            refine s_aload_n (q := 57) dX6_of_56 rfl rfl 0 rfl ?_
            refine s_iload_n (q := 58) dX6_of_57 rfl rfl 1 rfl ?_
            obtain ⟨q11, hc11, h⟩ := bnd h
            try dsimp only at h
            refine t_callV (q := 61) (N := mX6_dimOf) (a := eB E + 51) [.int x1] dX6_of_58 rfl nkX6_dimOf vkX6_dimOf lX6_62 ⟨Nat.le_of_ble_eq_true rfl, Nat.le_of_ble_eq_true rfl⟩ (rc_obj (k := 51) rfl rfl) rfl rfl (Nat.le_of_ble_eq_true rfl) (Nat.le_of_ble_eq_true rfl) (T_X6_dimOf_51 E _ hc11) ?_
            refine s_goto (tgt := 77) dX6_of_61 rfl ?_
            obtain rfl := Option.some.inj h
            exact t_iret dX6_of_77 rfl rfl
        · rw [if_pos hb7] at h
          refine s_aload_n (q := 44) dX6_of_43 rfl rfl 0 rfl ?_
          refine s_iload_n (q := 45) dX6_of_44 rfl rfl 1 rfl ?_
          obtain ⟨q12, hc12, h⟩ := bnd h
          try dsimp only at h
          refine t_callV (q := 48) (N := mX6_wearOf) (a := eB E + 51) [.int x1] dX6_of_45 rfl nkX6_wearOf vkX6_wearOf lX6_74 ⟨Nat.le_of_ble_eq_true rfl, Nat.le_of_ble_eq_true rfl⟩ (rc_obj (k := 51) rfl rfl) rfl rfl (Nat.le_of_ble_eq_true rfl) (Nat.le_of_ble_eq_true rfl) (T_X6_wearOf_51 E _ hc12) ?_
          refine s_goto (tgt := 77) dX6_of_48 rfl ?_
          obtain rfl := Option.some.inj h
          exact t_iret dX6_of_77 rfl rfl
      · rw [if_neg hb6] at h
        refine s_aload_n (q := 30) dX6_of_29 rfl rfl 0 rfl ?_
        refine s_iload_n (q := 31) dX6_of_30 rfl rfl 1 rfl ?_
        refine s_iload_n (q := 32) dX6_of_31 rfl rfl 2 rfl ?_
        obtain ⟨q13, hc13, h⟩ := bnd h
        try dsimp only at h
        refine t_callV (q := 35) (N := mX6_get) (a := eB E + 51) [.int x1, .int x2] dX6_of_32 rfl nkX6_get vkX6_get lX6_58 ⟨Nat.le_of_ble_eq_true rfl, Nat.le_of_ble_eq_true rfl⟩ (rc_obj (k := 51) rfl rfl) rfl rfl (Nat.le_of_ble_eq_true rfl) (Nat.le_of_ble_eq_true rfl) (T_X6_get_51 E _ _ hc13) ?_
        refine s_goto (tgt := 77) dX6_of_35 rfl ?_
        obtain rfl := Option.some.inj h
        exact t_iret dX6_of_77 rfl rfl
    · rw [if_pos hb5] at h
      refine s_aload_n (q := 19) dX6_of_18 rfl rfl 0 rfl ?_
      refine s_iconst (q := 20) (v := 0) dX6_of_19 rfl rfl ?_
      obtain ⟨q14, hc14, h⟩ := bnd h
      try dsimp only at h
      refine t_callV (q := 23) (N := mX6_no) (a := eB E + 51) [.int 0] dX6_of_20 rfl nkX6_no vkX6_no lX6_94 ⟨Nat.le_of_ble_eq_true rfl, Nat.le_of_ble_eq_true rfl⟩ (rc_obj (k := 51) rfl rfl) rfl rfl (Nat.le_of_ble_eq_true rfl) (Nat.le_of_ble_eq_true rfl) (T_X6_no_51 E _ hc14) ?_
      obtain rfl := Option.some.inj h
      exact t_iret dX6_of_23 rfl rfl
-- X1_mostOfStar
def G_X1_mostOfStar (x0 : Int32) (S : ST) : Option (Int32 × ST) := (if x0 = 0 then some (6, S) else (if x0 = 1 then some (99, S) else (if x0 = 2 then some (99, S) else some (99, S))))
set_option maxHeartbeats 4000000 in
set_option maxRecDepth 100000 in
theorem T_X1_mostOfStar (E : EV) (x0 : Int32) {S : ST} {w : (Int32 × ST)} (h : G_X1_mostOfStar x0 S = some w) : SD E mX1_mostOfStar 0 [(0, .int x0)] [] S (some (.int w.1)) w.2 := by
  unfold G_X1_mostOfStar at h
  refine s_iload_n (q := 1) dX1_mostOfStar_0 rfl rfl 0 rfl ?_
  by_cases hs1_0 : x0 = 0
  · rw [if_pos hs1_0] at h
    refine s_tableIn (off := 27) (tgt := 28) dX1_mostOfStar_1 (by rw [hs1_0]; decide) (by rw [hs1_0]; decide) (by rw [hs1_0]; rfl) rfl ?_
    refine s_bipush (q := 30) (v := 6) dX1_mostOfStar_28 rfl rfl ?_
    obtain rfl := Option.some.inj h
    exact t_iret dX1_mostOfStar_30 rfl rfl
  rw [if_neg hs1_0] at h
  by_cases hs1_1 : x0 = 1
  · rw [if_pos hs1_1] at h
    refine s_tableIn (off := 30) (tgt := 31) dX1_mostOfStar_1 (by rw [hs1_1]; decide) (by rw [hs1_1]; decide) (by rw [hs1_1]; rfl) rfl ?_
    refine s_bipush (q := 33) (v := 99) dX1_mostOfStar_31 rfl rfl ?_
    obtain rfl := Option.some.inj h
    exact t_iret dX1_mostOfStar_33 rfl rfl
  rw [if_neg hs1_1] at h
  by_cases hs1_2 : x0 = 2
  · rw [if_pos hs1_2] at h
    refine s_tableIn (off := 33) (tgt := 34) dX1_mostOfStar_1 (by rw [hs1_2]; decide) (by rw [hs1_2]; decide) (by rw [hs1_2]; rfl) rfl ?_
    refine s_bipush (q := 36) (v := 99) dX1_mostOfStar_34 rfl rfl ?_
    obtain rfl := Option.some.inj h
    exact t_iret dX1_mostOfStar_36 rfl rfl
  rw [if_neg hs1_2] at h
  refine s_tableOut (tgt := 37) dX1_mostOfStar_1 (by have e0 := lv_neT (a := 0) hs1_0 (by decide); have e1 := lv_neT (a := 1) hs1_1 (by decide); have e2 := lv_neT (a := 2) hs1_2 (by decide); omega) rfl ?_
  refine s_bipush (q := 39) (v := 99) dX1_mostOfStar_37 rfl rfl ?_
  obtain rfl := Option.some.inj h
  exact t_iret dX1_mostOfStar_39 rfl rfl
-- X5_isWithin
def G_X5_isWithin (x0 : Int32) (x1 : Int32) (S : ST) : Option (Int32 × ST) := (if x0 < 0 then some (0, S) else (if x1 < x0 then some (0, S) else some (1, S)))
set_option maxHeartbeats 4000000 in
set_option maxRecDepth 100000 in
theorem T_X5_isWithin (E : EV) (x0 : Int32) (x1 : Int32) {S : ST} {w : (Int32 × ST)} (h : G_X5_isWithin x0 x1 S = some w) : SD E mX5_isWithin 0 [(0, .int x0), (1, .int x1)] [] S (some (.int w.1)) w.2 := by
  unfold G_X5_isWithin at h
  refine s_iload_n (q := 1) dX5_isWithin_0 rfl rfl 0 rfl ?_
  refine s_if_lt (q := 4) (tgt := 13) dX5_isWithin_1 rfl rfl (fun hb1 => ?_) (fun hb1 => ?_)
  · rw [if_pos hb1] at h
    refine s_iconst (q := 14) (v := 0) dX5_isWithin_13 rfl rfl ?_
    obtain rfl := Option.some.inj h
    exact t_zret dX5_isWithin_14 rfl rfl rfl
  · rw [if_neg hb1] at h
    refine s_iload_n (q := 5) dX5_isWithin_4 rfl rfl 0 rfl ?_
    refine s_iload_n (q := 6) dX5_isWithin_5 rfl rfl 1 rfl ?_
    refine s_icmp_gt (q := 9) (tgt := 13) dX5_isWithin_6 rfl rfl (fun hb2 => ?_) (fun hb2 => ?_)
    · rw [if_pos hb2] at h
      refine s_iconst (q := 14) (v := 0) dX5_isWithin_13 rfl rfl ?_
      obtain rfl := Option.some.inj h
      exact t_zret dX5_isWithin_14 rfl rfl rfl
    · rw [if_neg hb2] at h
      refine s_iconst (q := 10) (v := 1) dX5_isWithin_9 rfl rfl ?_
      refine s_goto (tgt := 14) dX5_isWithin_10 rfl ?_
      obtain rfl := Option.some.inj h
      exact t_zret dX5_isWithin_14 rfl rfl rfl
-- X5_replaced
def G_X5_replaced_d (x0 : Nat) (x1 : Int32) (x2 : Int32) (S : ST) : Option (Int32 × ST) := ((lenI x0).bind fun n1 => (if inB x1 n1 = true then ((lenI x0).bind fun n3 => (if inB x1 n3 = true then some ((S.1 x0 x1.toNatClampNeg), (wr S x0 x1.toNatClampNeg x2)) else none)) else none))
set_option maxHeartbeats 4000000 in
set_option maxRecDepth 100000 in
theorem T_X5_replaced_d (E : EV) (x0 : Nat) (x1 : Int32) (x2 : Int32) {S : ST} {w : (Int32 × ST)} (h : G_X5_replaced_d x0 x1 x2 S = some w) : SD E mX5_replaced 0 [(0, .ref (eB E + x0)), (1, .int x1), (2, .int x2)] [] S (some (.int w.1)) w.2 := by
  unfold G_X5_replaced_d at h
  refine s_aload_n (q := 1) dX5_replaced_0 rfl rfl 0 rfl ?_
  refine s_iload_n (q := 2) dX5_replaced_1 rfl rfl 1 rfl ?_
  obtain ⟨n1, hn1, h⟩ := bnd h
  try dsimp only at h
  obtain ⟨hg2, h⟩ := chk_some h
  refine u_iald (q := 3) (k := x0) (v := (S.1 x0 x1.toNatClampNeg)) dX5_replaced_2 rfl (lenI_sh hn1) (inB_in hg2) rfl rfl ?_
  refine s_istore_n (q := 4) (lv' := [(3, .int (S.1 x0 x1.toNatClampNeg)), (0, .ref (eB E + x0)), (1, .int x1), (2, .int x2)]) dX5_replaced_3 rfl rfl (Nat.le_of_ble_eq_true rfl) rfl ?_
  refine s_aload_n (q := 5) dX5_replaced_4 rfl rfl 1 rfl ?_
  refine s_iload_n (q := 6) dX5_replaced_5 rfl rfl 2 rfl ?_
  refine s_iload_n (q := 7) dX5_replaced_6 rfl rfl 3 rfl ?_
  obtain ⟨n3, hn3, h⟩ := bnd h
  try dsimp only at h
  obtain ⟨hg4, h⟩ := chk_some h
  refine u_iast (q := 8) (k := x0) dX5_replaced_7 rfl (lenI_sh hn3) (inB_in hg4) rfl ?_
  refine s_iload_n (q := 9) dX5_replaced_8 rfl rfl 0 rfl ?_
  obtain rfl := Option.some.inj h
  exact t_iret dX5_replaced_9 rfl rfl
-- X5_change
def G_X5_change_0 (x1 : Int32) (x2 : Int32) (x3 : Int32) (S : ST) : Option (Int32 × ST) := ((G_X1_starRow_1 x2 S).bind fun q1 => nl q1.1 (((G_X5_finding_0 0 q1.2).bind fun q2 => some (q2.1, q2.2))) (fun k1 => ((G_X5_isBelow x1 (q1.2.1 1 0) q1.2).bind fun q3 => (if q3.1 = 0 then ((G_X5_finding_0 0 q3.2).bind fun q5 => some (q5.1, q5.2)) else ((G_X1_mostOfStar x2 q3.2).bind fun q6 => ((G_X5_isWithin x3 q6.1 q6.2).bind fun q7 => (if q7.1 = 0 then ((G_X5_finding_0 0 q7.2).bind fun q10 => some (q10.1, q10.2)) else ((G_X5_replaced_d k1 x1 x3 q7.2).bind fun q9 => some (q9.1, q9.2)))))))))
set_option maxHeartbeats 4000000 in
set_option maxRecDepth 100000 in
theorem T_X5_change_0 (E : EV) (x1 : Int32) (x2 : Int32) (x3 : Int32) {S : ST} {w : (Int32 × ST)} (h : G_X5_change_0 x1 x2 x3 S = some w) : SD E mX5_change 0 [(0, .ref (eB E + 0)), (1, .int x1), (2, .int x2), (3, .int x3)] [] S (some (.int w.1)) w.2 := by
  unfold G_X5_change_0 at h
  refine s_aload_n (q := 1) dX5_change_0 rfl rfl 0 rfl ?_
  refine t_getR (q := 4) (k := 0) (f := 0) (t := 1) dX5_change_1 rfl rfl rfl rfl inX5 (Nat.le_of_ble_eq_true rfl) fX5_10 ?_
  refine s_iload_n (q := 5) dX5_change_4 rfl rfl 2 rfl ?_
  obtain ⟨q1, hc1, h⟩ := bnd h
  try dsimp only at h
  refine t_callV (q := 8) (N := mX1_starRow) (a := eB E + 1) [.int x2] dX5_change_5 rfl nkX1_starRow vkX1_starRow lX5_73 ⟨Nat.le_of_ble_eq_true rfl, Nat.le_of_ble_eq_true rfl⟩ (rc_obj (k := 1) rfl rfl) rfl rfl (Nat.le_of_ble_eq_true rfl) (Nat.le_of_ble_eq_true rfl) (T_X1_starRow_1 E _ hc1) ?_
  rcases ho1 : q1.1 with _ | k1
  · rw [ho1] at h
    dsimp only [nl] at h
    refine rv_null rfl ?_
    refine s_astoreN (q := 10) (lv' := [(4, .null), (0, .ref (eB E + 0)), (1, .int x1), (2, .int x2), (3, .int x3)]) dX5_change_8 rfl (Nat.le_of_ble_eq_true rfl) rfl ?_
    refine s_aloadN (q := 12) dX5_change_10 rfl 0 rfl ?_
    refine s_ifnullN (tgt := 40) dX5_change_12 rfl ?_
    refine s_aload_n (q := 41) dX5_change_40 rfl rfl 1 rfl ?_
    refine s_iconst (q := 42) (v := 0) dX5_change_41 rfl rfl ?_
    obtain ⟨q2, hc2, h⟩ := bnd h
    try dsimp only at h
    refine t_callV (q := 45) (N := mX5_finding) (a := eB E + 0) [.int 0] dX5_change_42 rfl nkX5_finding vkX5_finding lX5_61 ⟨Nat.le_of_ble_eq_true rfl, Nat.le_of_ble_eq_true rfl⟩ (rc_obj (k := 0) rfl rfl) rfl rfl (Nat.le_of_ble_eq_true rfl) (Nat.le_of_ble_eq_true rfl) (T_X5_finding_0 E _ hc2) ?_
    obtain rfl := Option.some.inj h
    exact t_iret dX5_change_45 rfl rfl
  · rw [ho1] at h
    dsimp only [nl] at h
    refine rv_ref rfl ?_
    refine s_astore (q := 10) (lv' := [(4, .ref (eB E + k1)), (0, .ref (eB E + 0)), (1, .int x1), (2, .int x2), (3, .int x3)]) dX5_change_8 rfl (Nat.le_of_ble_eq_true rfl) rfl ?_
    refine s_aload (q := 12) dX5_change_10 rfl 0 rfl ?_
    refine s_ifnull (tgt := 15) dX5_change_12 rfl ?_
    refine s_iload_n (q := 16) dX5_change_15 rfl rfl 2 rfl ?_
    refine s_aload_n (q := 17) dX5_change_16 rfl rfl 1 rfl ?_
    refine t_getR (q := 20) (k := 0) (f := 0) (t := 1) dX5_change_17 rfl rfl rfl rfl inX5 (Nat.le_of_ble_eq_true rfl) fX5_10 ?_
    refine t_getI (q := 23) (k := 1) (f := 0) (v := (q1.2.1 1 0)) dX5_change_20 rfl rfl rfl rfl inX1 (Nat.le_of_ble_eq_true rfl) fX5_65 rfl ?_
    obtain ⟨q3, hc3, h⟩ := bnd h
    try dsimp only at h
    refine t_callS (q := 26) (N := mX5_isBelow) [.int x1, .int (q1.2.1 1 0)] dX5_change_23 rfl nkX5_isBelow sX5_isBelow lX5_57 ⟨Nat.le_of_ble_eq_true rfl, Nat.le_of_ble_eq_true rfl⟩ rfl rfl (Nat.le_of_ble_eq_true rfl) (Nat.le_of_ble_eq_true rfl) (T_X5_isBelow E _ _ hc3) ?_
    refine s_if_eq (q := 29) (tgt := 40) dX5_change_26 rfl rfl (fun hb4 => ?_) (fun hb4 => ?_)
    · rw [if_pos hb4] at h
      refine s_aload_n (q := 41) dX5_change_40 rfl rfl 1 rfl ?_
      refine s_iconst (q := 42) (v := 0) dX5_change_41 rfl rfl ?_
      obtain ⟨q5, hc5, h⟩ := bnd h
      try dsimp only at h
      refine t_callV (q := 45) (N := mX5_finding) (a := eB E + 0) [.int 0] dX5_change_42 rfl nkX5_finding vkX5_finding lX5_61 ⟨Nat.le_of_ble_eq_true rfl, Nat.le_of_ble_eq_true rfl⟩ (rc_obj (k := 0) rfl rfl) rfl rfl (Nat.le_of_ble_eq_true rfl) (Nat.le_of_ble_eq_true rfl) (T_X5_finding_0 E _ hc5) ?_
      obtain rfl := Option.some.inj h
      exact t_iret dX5_change_45 rfl rfl
    · rw [if_neg hb4] at h
      refine s_iload_n (q := 30) dX5_change_29 rfl rfl 4 rfl ?_
      refine s_iload_n (q := 31) dX5_change_30 rfl rfl 3 rfl ?_
      obtain ⟨q6, hc6, h⟩ := bnd h
      try dsimp only at h
      refine t_callS (q := 34) (N := mX1_mostOfStar) [.int x2] dX5_change_31 rfl nkX1_mostOfStar sX1_mostOfStar lX5_96 ⟨Nat.le_of_ble_eq_true rfl, Nat.le_of_ble_eq_true rfl⟩ rfl rfl (Nat.le_of_ble_eq_true rfl) (Nat.le_of_ble_eq_true rfl) (T_X1_mostOfStar E _ hc6) ?_
      obtain ⟨q7, hc7, h⟩ := bnd h
      try dsimp only at h
      refine t_callS (q := 37) (N := mX5_isWithin) [.int x3, .int q6.1] dX5_change_34 rfl nkX5_isWithin sX5_isWithin lX5_99 ⟨Nat.le_of_ble_eq_true rfl, Nat.le_of_ble_eq_true rfl⟩ rfl rfl (Nat.le_of_ble_eq_true rfl) (Nat.le_of_ble_eq_true rfl) (T_X5_isWithin E _ _ hc7) ?_
      refine s_if_ne (q := 40) (tgt := 46) dX5_change_37 rfl rfl (fun hb8 => ?_) (fun hb8 => ?_)
      · rw [if_neg hb8] at h
        refine s_aload (q := 48) dX5_change_46 rfl 0 rfl ?_
        refine s_iload_n (q := 49) dX5_change_48 rfl rfl 2 rfl ?_
        refine s_iload_n (q := 50) dX5_change_49 rfl rfl 4 rfl ?_
        obtain ⟨q9, hc9, h⟩ := bnd h
        try dsimp only at h
        refine t_callS (q := 53) (N := mX5_replaced) [.ref (eB E + k1), .int x1, .int x3] dX5_change_50 rfl nkX5_replaced sX5_replaced lX5_102 ⟨Nat.le_of_ble_eq_true rfl, Nat.le_of_ble_eq_true rfl⟩ rfl rfl (Nat.le_of_ble_eq_true rfl) (Nat.le_of_ble_eq_true rfl) (T_X5_replaced_d E _ _ _ hc9) ?_
        obtain rfl := Option.some.inj h
        exact t_iret dX5_change_53 rfl rfl
      · rw [if_pos hb8] at h
        refine s_aload_n (q := 41) dX5_change_40 rfl rfl 1 rfl ?_
        refine s_iconst (q := 42) (v := 0) dX5_change_41 rfl rfl ?_
        obtain ⟨q10, hc10, h⟩ := bnd h
        try dsimp only at h
        refine t_callV (q := 45) (N := mX5_finding) (a := eB E + 0) [.int 0] dX5_change_42 rfl nkX5_finding vkX5_finding lX5_61 ⟨Nat.le_of_ble_eq_true rfl, Nat.le_of_ble_eq_true rfl⟩ (rc_obj (k := 0) rfl rfl) rfl rfl (Nat.le_of_ble_eq_true rfl) (Nat.le_of_ble_eq_true rfl) (T_X5_finding_0 E _ hc10) ?_
        obtain rfl := Option.some.inj h
        exact t_iret dX5_change_45 rfl rfl
-- X6_change
def G_X6_change_51_30 (x1 : Int32) (x2 : Int32) (x3 : Int32) (y0 : Int32) (y1 : Int32) (y2 : Int32) (S : ST) : Option (Int32 × ST) := ((G_X6_in1 y2 y1 y0 S).bind fun q8 => (if q8.1 = 0 then ((G_X6_no_51 0 q8.2).bind fun q12 => some (q12.1, q12.2)) else ((G_X6_get_51 x1 x2 q8.2).bind fun q10 => ((G_X6_puts_51 x1 x2 x3 q10.2).bind fun q11 => some (q10.1, q11.2)))))
set_option maxHeartbeats 4000000 in
set_option maxRecDepth 100000 in
theorem T_X6_change_51_30 (E : EV) (x1 : Int32) (x2 : Int32) (x3 : Int32) (y0 : Int32) (y1 : Int32) (y2 : Int32) {S : ST} {w : (Int32 × ST)} (h : G_X6_change_51_30 x1 x2 x3 y0 y1 y2 S = some w) : SD E mX6_change 30 [(0, .ref (eB E + 51)), (1, .int x1), (2, .int x2), (3, .int x3)] [.int y0, .int y1, .int y2] S (some (.int w.1)) w.2 := by
  unfold G_X6_change_51_30 at h
  obtain ⟨q8, hc8, h⟩ := bnd h
  try dsimp only at h
  refine t_callS (q := 33) (N := mX6_in1) [.int y2, .int y1, .int y0] dX6_change_30 rfl nkX6_in1 sX6_in1 lX6_54 ⟨Nat.le_of_ble_eq_true rfl, Nat.le_of_ble_eq_true rfl⟩ rfl rfl (Nat.le_of_ble_eq_true rfl) (Nat.le_of_ble_eq_true rfl) (T_X6_in1 E _ _ _ hc8) ?_
  refine s_if_ne (q := 36) (tgt := 42) dX6_change_33 rfl rfl (fun hb9 => ?_) (fun hb9 => ?_)
  · rw [if_neg hb9] at h
    refine s_aload_n (q := 43) dX6_change_42 rfl rfl 0 rfl ?_
    refine s_iload_n (q := 44) dX6_change_43 rfl rfl 1 rfl ?_
    refine s_iload_n (q := 45) dX6_change_44 rfl rfl 2 rfl ?_
    obtain ⟨q10, hc10, h⟩ := bnd h
    try dsimp only at h
    refine t_callV (q := 48) (N := mX6_get) (a := eB E + 51) [.int x1, .int x2] dX6_change_45 rfl nkX6_get vkX6_get lX6_58 ⟨Nat.le_of_ble_eq_true rfl, Nat.le_of_ble_eq_true rfl⟩ (rc_obj (k := 51) rfl rfl) rfl rfl (Nat.le_of_ble_eq_true rfl) (Nat.le_of_ble_eq_true rfl) (T_X6_get_51 E _ _ hc10) ?_
    refine s_istore (q := 50) (lv' := [(4, .int q10.1), (0, .ref (eB E + 51)), (1, .int x1), (2, .int x2), (3, .int x3)]) dX6_change_48 rfl (Nat.le_of_ble_eq_true rfl) rfl ?_
    refine s_aload_n (q := 51) dX6_change_50 rfl rfl 1 rfl ?_
    refine s_iload_n (q := 52) dX6_change_51 rfl rfl 2 rfl ?_
    refine s_iload_n (q := 53) dX6_change_52 rfl rfl 3 rfl ?_
    refine s_iload_n (q := 54) dX6_change_53 rfl rfl 4 rfl ?_
    obtain ⟨q11, hc11, h⟩ := bnd h
    try dsimp only at h
    refine t_callV (q := 57) (N := mX6_puts) (a := eB E + 51) [.int x1, .int x2, .int x3] dX6_change_54 rfl nkX6_puts vkX6_puts lX6_80 ⟨Nat.le_of_ble_eq_true rfl, Nat.le_of_ble_eq_true rfl⟩ (rc_obj (k := 51) rfl rfl) rfl rfl (Nat.le_of_ble_eq_true rfl) (Nat.le_of_ble_eq_true rfl) (T_X6_puts_51 E _ _ _ hc11) ?_
    refine s_iload (q := 59) dX6_change_57 rfl 0 rfl ?_
    obtain rfl := Option.some.inj h
    exact t_iret dX6_change_59 rfl rfl
  · rw [if_pos hb9] at h
    refine s_aload_n (q := 37) dX6_change_36 rfl rfl 0 rfl ?_
    refine s_iconst (q := 38) (v := 0) dX6_change_37 rfl rfl ?_
    obtain ⟨q12, hc12, h⟩ := bnd h
    try dsimp only at h
    refine t_callV (q := 41) (N := mX6_no) (a := eB E + 51) [.int 0] dX6_change_38 rfl nkX6_no vkX6_no lX6_94 ⟨Nat.le_of_ble_eq_true rfl, Nat.le_of_ble_eq_true rfl⟩ (rc_obj (k := 51) rfl rfl) rfl rfl (Nat.le_of_ble_eq_true rfl) (Nat.le_of_ble_eq_true rfl) (T_X6_no_51 E _ hc12) ?_
    obtain rfl := Option.some.inj h
    exact t_iret dX6_change_41 rfl rfl
def G_X6_change_51 (x1 : Int32) (x2 : Int32) (x3 : Int32) (S : ST) : Option (Int32 × ST) := ((G_X6_isStar_51 x1 S).bind fun q1 => (if q1.1 = 0 then ((G_X6_no_51 0 q1.2).bind fun q3 => some (q3.1, q3.2)) else ((G_X6_in1 x2 0 3 q1.2).bind fun q4 => (if q4.1 = 0 then ((G_X6_no_51 0 q4.2).bind fun q6 => some (q6.1, q6.2)) else (if x2 = 0 then G_X6_change_51_30 x1 x2 x3 6 0 x3 q4.2 else G_X6_change_51_30 x1 x2 x3 99 0 x3 q4.2)))))
set_option maxHeartbeats 4000000 in
set_option maxRecDepth 100000 in
theorem T_X6_change_51 (E : EV) (x1 : Int32) (x2 : Int32) (x3 : Int32) {S : ST} {w : (Int32 × ST)} (h : G_X6_change_51 x1 x2 x3 S = some w) : SD E mX6_change 0 [(0, .ref (eB E + 51)), (1, .int x1), (2, .int x2), (3, .int x3)] [] S (some (.int w.1)) w.2 := by
  unfold G_X6_change_51 at h
  refine s_aload_n (q := 1) dX6_change_0 rfl rfl 0 rfl ?_
  refine s_iload_n (q := 2) dX6_change_1 rfl rfl 1 rfl ?_
  obtain ⟨q1, hc1, h⟩ := bnd h
  try dsimp only at h
  refine t_callV (q := 5) (N := mX6_isStar) (a := eB E + 51) [.int x1] dX6_change_2 rfl nkX6_isStar vkX6_isStar lX6_101 ⟨Nat.le_of_ble_eq_true rfl, Nat.le_of_ble_eq_true rfl⟩ (rc_obj (k := 51) rfl rfl) rfl rfl (Nat.le_of_ble_eq_true rfl) (Nat.le_of_ble_eq_true rfl) (T_X6_isStar_51 E _ hc1) ?_
  refine s_if_eq (q := 8) (tgt := 36) dX6_change_5 rfl rfl (fun hb2 => ?_) (fun hb2 => ?_)
  · rw [if_pos hb2] at h
    refine s_aload_n (q := 37) dX6_change_36 rfl rfl 0 rfl ?_
    refine s_iconst (q := 38) (v := 0) dX6_change_37 rfl rfl ?_
    obtain ⟨q3, hc3, h⟩ := bnd h
    try dsimp only at h
    refine t_callV (q := 41) (N := mX6_no) (a := eB E + 51) [.int 0] dX6_change_38 rfl nkX6_no vkX6_no lX6_94 ⟨Nat.le_of_ble_eq_true rfl, Nat.le_of_ble_eq_true rfl⟩ (rc_obj (k := 51) rfl rfl) rfl rfl (Nat.le_of_ble_eq_true rfl) (Nat.le_of_ble_eq_true rfl) (T_X6_no_51 E _ hc3) ?_
    obtain rfl := Option.some.inj h
    exact t_iret dX6_change_41 rfl rfl
  · rw [if_neg hb2] at h
    refine s_iload_n (q := 9) dX6_change_8 rfl rfl 2 rfl ?_
    refine s_iconst (q := 10) (v := 0) dX6_change_9 rfl rfl ?_
    refine s_iconst (q := 11) (v := 3) dX6_change_10 rfl rfl ?_
    obtain ⟨q4, hc4, h⟩ := bnd h
    try dsimp only at h
    refine t_callS (q := 14) (N := mX6_in1) [.int x2, .int 0, .int 3] dX6_change_11 rfl nkX6_in1 sX6_in1 lX6_54 ⟨Nat.le_of_ble_eq_true rfl, Nat.le_of_ble_eq_true rfl⟩ rfl rfl (Nat.le_of_ble_eq_true rfl) (Nat.le_of_ble_eq_true rfl) (T_X6_in1 E _ _ _ hc4) ?_
    refine s_if_eq (q := 17) (tgt := 36) dX6_change_14 rfl rfl (fun hb5 => ?_) (fun hb5 => ?_)
    · rw [if_pos hb5] at h
      refine s_aload_n (q := 37) dX6_change_36 rfl rfl 0 rfl ?_
      refine s_iconst (q := 38) (v := 0) dX6_change_37 rfl rfl ?_
      obtain ⟨q6, hc6, h⟩ := bnd h
      try dsimp only at h
      refine t_callV (q := 41) (N := mX6_no) (a := eB E + 51) [.int 0] dX6_change_38 rfl nkX6_no vkX6_no lX6_94 ⟨Nat.le_of_ble_eq_true rfl, Nat.le_of_ble_eq_true rfl⟩ (rc_obj (k := 51) rfl rfl) rfl rfl (Nat.le_of_ble_eq_true rfl) (Nat.le_of_ble_eq_true rfl) (T_X6_no_51 E _ hc6) ?_
      obtain rfl := Option.some.inj h
      exact t_iret dX6_change_41 rfl rfl
    · rw [if_neg hb5] at h
      refine s_iload_n (q := 18) dX6_change_17 rfl rfl 3 rfl ?_
      refine s_iconst (q := 19) (v := 0) dX6_change_18 rfl rfl ?_
      refine s_iload_n (q := 20) dX6_change_19 rfl rfl 2 rfl ?_
      refine s_if_ne (q := 23) (tgt := 28) dX6_change_20 rfl rfl (fun hb7 => ?_) (fun hb7 => ?_)
      · rw [if_neg hb7] at h
        refine s_bipush (q := 30) (v := 99) dX6_change_28 rfl rfl ?_
        exact t_sub [0, 1, 2, 3] rfl (T_X6_change_51_30 E _ _ _ _ _ _ h)
      · rw [if_pos hb7] at h
        refine s_bipush (q := 25) (v := 6) dX6_change_23 rfl rfl ?_
        refine s_goto (tgt := 30) dX6_change_25 rfl ?_
        exact t_sub [0, 1, 2, 3] rfl (T_X6_change_51_30 E _ _ _ _ _ _ h)
-- X1_crewRow
def G_X1_crewRow_1 (x1 : Int32) (S : ST) : Option (Option Nat × ST) := (if x1 = 0 then some (some 6, S) else (if x1 = 1 then some (some 7, S) else some (none, S)))
set_option maxHeartbeats 4000000 in
set_option maxRecDepth 100000 in
theorem T_X1_crewRow_1 (E : EV) (x1 : Int32) {S : ST} {w : (Option Nat × ST)} (h : G_X1_crewRow_1 x1 S = some w) : SD E mX1_crewRow 0 [(0, .ref (eB E + 1)), (1, .int x1)] [] S (some (va_rf (Option.map (fun t => eB E + t) w.1))) w.2 := by
  unfold G_X1_crewRow_1 at h
  refine s_iload_n (q := 1) dX1_crewRow_0 rfl rfl 1 rfl ?_
  by_cases hs1_0 : x1 = 0
  · rw [if_pos hs1_0] at h
    refine s_lookup (off := 27) (tgt := 28) dX1_crewRow_1 (by decide) (by rw [hs1_0]; rfl) rfl ?_
    refine s_aload_n (q := 29) dX1_crewRow_28 rfl rfl 0 rfl ?_
    refine t_getR (q := 32) (k := 1) (f := 5) (t := 6) dX1_crewRow_29 rfl rfl rfl rfl inX1 (Nat.le_of_ble_eq_true rfl) fX1_28 ?_
    obtain rfl := Option.some.inj h
    exact t_aret dX1_crewRow_32 rfl (Or.inr ⟨_, rfl⟩) (Or.inr ⟨_, rfl⟩) rfl
  rw [if_neg hs1_0] at h
  by_cases hs1_1 : x1 = 1
  · rw [if_pos hs1_1] at h
    refine s_lookup (off := 32) (tgt := 33) dX1_crewRow_1 (by decide) (by rw [hs1_1]; rfl) rfl ?_
    refine s_aload_n (q := 34) dX1_crewRow_33 rfl rfl 0 rfl ?_
    refine t_getR (q := 37) (k := 1) (f := 6) (t := 7) dX1_crewRow_34 rfl rfl rfl rfl inX1 (Nat.le_of_ble_eq_true rfl) fX1_31 ?_
    obtain rfl := Option.some.inj h
    exact t_aret dX1_crewRow_37 rfl (Or.inr ⟨_, rfl⟩) (Or.inr ⟨_, rfl⟩) rfl
  rw [if_neg hs1_1] at h
  refine s_lookup (off := 37) (tgt := 38) dX1_crewRow_1 (by decide) (by show Op.lookupswitch.offset [(0, 27), (1, 32)] 37 _ = _; rw [lv_osw (a := 0) (k := 0) hs1_0 rfl]; rw [lv_osw (a := 1) (k := 1) hs1_1 rfl]; rfl) rfl ?_
  refine s_null (q := 39) dX1_crewRow_38 rfl ?_
  obtain rfl := Option.some.inj h
  exact t_aret dX1_crewRow_39 rfl (Or.inr ⟨_, rfl⟩) (Or.inl rfl) rfl
-- X1_mostOfCrew
def G_X1_mostOfCrew (x0 : Int32) (S : ST) : Option (Int32 × ST) := (if x0 = 0 then some (99, S) else some (999, S))
set_option maxHeartbeats 4000000 in
set_option maxRecDepth 100000 in
theorem T_X1_mostOfCrew (E : EV) (x0 : Int32) {S : ST} {w : (Int32 × ST)} (h : G_X1_mostOfCrew x0 S = some w) : SD E mX1_mostOfCrew 0 [(0, .int x0)] [] S (some (.int w.1)) w.2 := by
  unfold G_X1_mostOfCrew at h
  refine s_iload_n (q := 1) dX1_mostOfCrew_0 rfl rfl 0 rfl ?_
  refine s_if_ne (q := 4) (tgt := 9) dX1_mostOfCrew_1 rfl rfl (fun hb1 => ?_) (fun hb1 => ?_)
  · rw [if_neg hb1] at h
    refine s_sipush (q := 12) (v := 999) dX1_mostOfCrew_9 rfl rfl ?_
    obtain rfl := Option.some.inj h
    exact t_iret dX1_mostOfCrew_12 rfl rfl
  · rw [if_pos hb1] at h
    refine s_bipush (q := 6) (v := 99) dX1_mostOfCrew_4 rfl rfl ?_
    refine s_goto (tgt := 12) dX1_mostOfCrew_6 rfl ?_
    obtain rfl := Option.some.inj h
    exact t_iret dX1_mostOfCrew_12 rfl rfl
-- X5_crew
def G_X5_crew_0 (x1 : Int32) (x2 : Int32) (x3 : Int32) (S : ST) : Option (Int32 × ST) := ((G_X1_crewRow_1 x2 S).bind fun q1 => nl q1.1 (((G_X5_finding_0 0 q1.2).bind fun q2 => some (q2.1, q2.2))) (fun k1 => ((G_X5_isBelow x1 4 q1.2).bind fun q3 => (if q3.1 = 0 then ((G_X5_finding_0 0 q3.2).bind fun q5 => some (q5.1, q5.2)) else ((G_X1_mostOfCrew x2 q3.2).bind fun q6 => ((G_X5_isWithin x3 q6.1 q6.2).bind fun q7 => (if q7.1 = 0 then ((G_X5_finding_0 0 q7.2).bind fun q10 => some (q10.1, q10.2)) else ((G_X5_replaced_d k1 x1 x3 q7.2).bind fun q9 => some (q9.1, q9.2)))))))))
set_option maxHeartbeats 4000000 in
set_option maxRecDepth 100000 in
theorem T_X5_crew_0 (E : EV) (x1 : Int32) (x2 : Int32) (x3 : Int32) {S : ST} {w : (Int32 × ST)} (h : G_X5_crew_0 x1 x2 x3 S = some w) : SD E mX5_crew 0 [(0, .ref (eB E + 0)), (1, .int x1), (2, .int x2), (3, .int x3)] [] S (some (.int w.1)) w.2 := by
  unfold G_X5_crew_0 at h
  refine s_aload_n (q := 1) dX5_crew_0 rfl rfl 0 rfl ?_
  refine t_getR (q := 4) (k := 0) (f := 0) (t := 1) dX5_crew_1 rfl rfl rfl rfl inX5 (Nat.le_of_ble_eq_true rfl) fX5_10 ?_
  refine s_iload_n (q := 5) dX5_crew_4 rfl rfl 2 rfl ?_
  obtain ⟨q1, hc1, h⟩ := bnd h
  try dsimp only at h
  refine t_callV (q := 8) (N := mX1_crewRow) (a := eB E + 1) [.int x2] dX5_crew_5 rfl nkX1_crewRow vkX1_crewRow lX5_106 ⟨Nat.le_of_ble_eq_true rfl, Nat.le_of_ble_eq_true rfl⟩ (rc_obj (k := 1) rfl rfl) rfl rfl (Nat.le_of_ble_eq_true rfl) (Nat.le_of_ble_eq_true rfl) (T_X1_crewRow_1 E _ hc1) ?_
  rcases ho1 : q1.1 with _ | k1
  · rw [ho1] at h
    dsimp only [nl] at h
    refine rv_null rfl ?_
    refine s_astoreN (q := 10) (lv' := [(4, .null), (0, .ref (eB E + 0)), (1, .int x1), (2, .int x2), (3, .int x3)]) dX5_crew_8 rfl (Nat.le_of_ble_eq_true rfl) rfl ?_
    refine s_aloadN (q := 12) dX5_crew_10 rfl 0 rfl ?_
    refine s_ifnullN (tgt := 34) dX5_crew_12 rfl ?_
    refine s_aload_n (q := 35) dX5_crew_34 rfl rfl 1 rfl ?_
    refine s_iconst (q := 36) (v := 0) dX5_crew_35 rfl rfl ?_
    obtain ⟨q2, hc2, h⟩ := bnd h
    try dsimp only at h
    refine t_callV (q := 39) (N := mX5_finding) (a := eB E + 0) [.int 0] dX5_crew_36 rfl nkX5_finding vkX5_finding lX5_61 ⟨Nat.le_of_ble_eq_true rfl, Nat.le_of_ble_eq_true rfl⟩ (rc_obj (k := 0) rfl rfl) rfl rfl (Nat.le_of_ble_eq_true rfl) (Nat.le_of_ble_eq_true rfl) (T_X5_finding_0 E _ hc2) ?_
    obtain rfl := Option.some.inj h
    exact t_iret dX5_crew_39 rfl rfl
  · rw [ho1] at h
    dsimp only [nl] at h
    refine rv_ref rfl ?_
    refine s_astore (q := 10) (lv' := [(4, .ref (eB E + k1)), (0, .ref (eB E + 0)), (1, .int x1), (2, .int x2), (3, .int x3)]) dX5_crew_8 rfl (Nat.le_of_ble_eq_true rfl) rfl ?_
    refine s_aload (q := 12) dX5_crew_10 rfl 0 rfl ?_
    refine s_ifnull (tgt := 15) dX5_crew_12 rfl ?_
    refine s_iload_n (q := 16) dX5_crew_15 rfl rfl 2 rfl ?_
    refine s_iconst (q := 17) (v := 4) dX5_crew_16 rfl rfl ?_
    obtain ⟨q3, hc3, h⟩ := bnd h
    try dsimp only at h
    refine t_callS (q := 20) (N := mX5_isBelow) [.int x1, .int 4] dX5_crew_17 rfl nkX5_isBelow sX5_isBelow lX5_57 ⟨Nat.le_of_ble_eq_true rfl, Nat.le_of_ble_eq_true rfl⟩ rfl rfl (Nat.le_of_ble_eq_true rfl) (Nat.le_of_ble_eq_true rfl) (T_X5_isBelow E _ _ hc3) ?_
    refine s_if_eq (q := 23) (tgt := 34) dX5_crew_20 rfl rfl (fun hb4 => ?_) (fun hb4 => ?_)
    · rw [if_pos hb4] at h
      refine s_aload_n (q := 35) dX5_crew_34 rfl rfl 1 rfl ?_
      refine s_iconst (q := 36) (v := 0) dX5_crew_35 rfl rfl ?_
      obtain ⟨q5, hc5, h⟩ := bnd h
      try dsimp only at h
      refine t_callV (q := 39) (N := mX5_finding) (a := eB E + 0) [.int 0] dX5_crew_36 rfl nkX5_finding vkX5_finding lX5_61 ⟨Nat.le_of_ble_eq_true rfl, Nat.le_of_ble_eq_true rfl⟩ (rc_obj (k := 0) rfl rfl) rfl rfl (Nat.le_of_ble_eq_true rfl) (Nat.le_of_ble_eq_true rfl) (T_X5_finding_0 E _ hc5) ?_
      obtain rfl := Option.some.inj h
      exact t_iret dX5_crew_39 rfl rfl
    · rw [if_neg hb4] at h
      refine s_iload_n (q := 24) dX5_crew_23 rfl rfl 4 rfl ?_
      refine s_iload_n (q := 25) dX5_crew_24 rfl rfl 3 rfl ?_
      obtain ⟨q6, hc6, h⟩ := bnd h
      try dsimp only at h
      refine t_callS (q := 28) (N := mX1_mostOfCrew) [.int x2] dX5_crew_25 rfl nkX1_mostOfCrew sX1_mostOfCrew lX5_109 ⟨Nat.le_of_ble_eq_true rfl, Nat.le_of_ble_eq_true rfl⟩ rfl rfl (Nat.le_of_ble_eq_true rfl) (Nat.le_of_ble_eq_true rfl) (T_X1_mostOfCrew E _ hc6) ?_
      obtain ⟨q7, hc7, h⟩ := bnd h
      try dsimp only at h
      refine t_callS (q := 31) (N := mX5_isWithin) [.int x3, .int q6.1] dX5_crew_28 rfl nkX5_isWithin sX5_isWithin lX5_99 ⟨Nat.le_of_ble_eq_true rfl, Nat.le_of_ble_eq_true rfl⟩ rfl rfl (Nat.le_of_ble_eq_true rfl) (Nat.le_of_ble_eq_true rfl) (T_X5_isWithin E _ _ hc7) ?_
      refine s_if_ne (q := 34) (tgt := 40) dX5_crew_31 rfl rfl (fun hb8 => ?_) (fun hb8 => ?_)
      · rw [if_neg hb8] at h
        refine s_aload (q := 42) dX5_crew_40 rfl 0 rfl ?_
        refine s_iload_n (q := 43) dX5_crew_42 rfl rfl 2 rfl ?_
        refine s_iload_n (q := 44) dX5_crew_43 rfl rfl 4 rfl ?_
        obtain ⟨q9, hc9, h⟩ := bnd h
        try dsimp only at h
        refine t_callS (q := 47) (N := mX5_replaced) [.ref (eB E + k1), .int x1, .int x3] dX5_crew_44 rfl nkX5_replaced sX5_replaced lX5_102 ⟨Nat.le_of_ble_eq_true rfl, Nat.le_of_ble_eq_true rfl⟩ rfl rfl (Nat.le_of_ble_eq_true rfl) (Nat.le_of_ble_eq_true rfl) (T_X5_replaced_d E _ _ _ hc9) ?_
        obtain rfl := Option.some.inj h
        exact t_iret dX5_crew_47 rfl rfl
      · rw [if_pos hb8] at h
        refine s_aload_n (q := 35) dX5_crew_34 rfl rfl 1 rfl ?_
        refine s_iconst (q := 36) (v := 0) dX5_crew_35 rfl rfl ?_
        obtain ⟨q10, hc10, h⟩ := bnd h
        try dsimp only at h
        refine t_callV (q := 39) (N := mX5_finding) (a := eB E + 0) [.int 0] dX5_crew_36 rfl nkX5_finding vkX5_finding lX5_61 ⟨Nat.le_of_ble_eq_true rfl, Nat.le_of_ble_eq_true rfl⟩ (rc_obj (k := 0) rfl rfl) rfl rfl (Nat.le_of_ble_eq_true rfl) (Nat.le_of_ble_eq_true rfl) (T_X5_finding_0 E _ hc10) ?_
        obtain rfl := Option.some.inj h
        exact t_iret dX5_crew_39 rfl rfl
-- X6_isCrew
def G_X6_isCrew (x0 : Int32) (S : ST) : Option (Int32 × ST) := ((G_X6_in1 x0 0 3 S).bind fun q1 => (if bitB q1.1 = true then some (q1.1, q1.2) else none))
set_option maxHeartbeats 4000000 in
set_option maxRecDepth 100000 in
theorem T_X6_isCrew (E : EV) (x0 : Int32) {S : ST} {w : (Int32 × ST)} (h : G_X6_isCrew x0 S = some w) : SD E mX6_isCrew 0 [(0, .int x0)] [] S (some (.int w.1)) w.2 := by
  unfold G_X6_isCrew at h
  refine s_iload_n (q := 1) dX6_isCrew_0 rfl rfl 0 rfl ?_
  refine s_iconst (q := 2) (v := 0) dX6_isCrew_1 rfl rfl ?_
  refine s_iconst (q := 3) (v := 3) dX6_isCrew_2 rfl rfl ?_
  obtain ⟨q1, hc1, h⟩ := bnd h
  try dsimp only at h
  refine t_callS (q := 6) (N := mX6_in1) [.int x0, .int 0, .int 3] dX6_isCrew_3 rfl nkX6_in1 sX6_in1 lX6_54 ⟨Nat.le_of_ble_eq_true rfl, Nat.le_of_ble_eq_true rfl⟩ rfl rfl (Nat.le_of_ble_eq_true rfl) (Nat.le_of_ble_eq_true rfl) (T_X6_in1 E _ _ _ hc1) ?_
  obtain ⟨hg2, h⟩ := chk_some h
  obtain rfl := Option.some.inj h
  exact t_zret dX6_isCrew_6 rfl (bitB_z hg2) rfl
-- X6_crew
def G_X6_crew_51_30 (x1 : Int32) (x2 : Int32) (x3 : Int32) (y0 : Int32) (y1 : Int32) (y2 : Int32) (S : ST) : Option (Int32 × ST) := ((G_X6_in1 y2 y1 y0 S).bind fun q8 => (if q8.1 = 0 then ((G_X6_no_51 0 q8.2).bind fun q12 => some (q12.1, q12.2)) else (if inB ((8 + (2 * x1)) + x2) 72 = true then (if inB ((8 + (2 * x1)) + x2) 72 = true then some ((q8.2.1 52 (((8 + (2 * x1)) + x2).toNatClampNeg)), (wr q8.2 52 (((8 + (2 * x1)) + x2).toNatClampNeg) x3)) else none) else none)))
set_option maxHeartbeats 4000000 in
set_option maxRecDepth 100000 in
theorem T_X6_crew_51_30 (E : EV) (x1 : Int32) (x2 : Int32) (x3 : Int32) (y0 : Int32) (y1 : Int32) (y2 : Int32) {S : ST} {w : (Int32 × ST)} (h : G_X6_crew_51_30 x1 x2 x3 y0 y1 y2 S = some w) : SD E mX6_crew 30 [(0, .ref (eB E + 51)), (1, .int x1), (2, .int x2), (3, .int x3)] [.int y0, .int y1, .int y2] S (some (.int w.1)) w.2 := by
  unfold G_X6_crew_51_30 at h
  obtain ⟨q8, hc8, h⟩ := bnd h
  try dsimp only at h
  refine t_callS (q := 33) (N := mX6_in1) [.int y2, .int y1, .int y0] dX6_crew_30 rfl nkX6_in1 sX6_in1 lX6_54 ⟨Nat.le_of_ble_eq_true rfl, Nat.le_of_ble_eq_true rfl⟩ rfl rfl (Nat.le_of_ble_eq_true rfl) (Nat.le_of_ble_eq_true rfl) (T_X6_in1 E _ _ _ hc8) ?_
  refine s_if_ne (q := 36) (tgt := 42) dX6_crew_33 rfl rfl (fun hb9 => ?_) (fun hb9 => ?_)
  · rw [if_neg hb9] at h
    refine s_aload_n (q := 43) dX6_crew_42 rfl rfl 0 rfl ?_
    refine t_getR (q := 46) (k := 51) (f := 0) (t := 52) dX6_crew_43 rfl rfl rfl rfl inX6 (Nat.le_of_ble_eq_true rfl) fX6_9 ?_
    refine s_bipush (q := 48) (v := 8) dX6_crew_46 rfl rfl ?_
    refine s_iconst (q := 49) (v := 2) dX6_crew_48 rfl rfl ?_
    refine s_iload_n (q := 50) dX6_crew_49 rfl rfl 1 rfl ?_
    refine s_imul (q := 51) dX6_crew_50 rfl ?_
    refine s_iadd (q := 52) dX6_crew_51 rfl ?_
    refine s_iload_n (q := 53) dX6_crew_52 rfl rfl 2 rfl ?_
    refine s_iadd (q := 54) dX6_crew_53 rfl ?_
    obtain ⟨hg10, h⟩ := chk_some h
    refine u_iald (q := 55) (k := 52) (v := (q8.2.1 52 (((8 + (2 * x1)) + x2).toNatClampNeg))) dX6_crew_54 rfl rfl (inB_in hg10) rfl rfl ?_
    refine s_istore (q := 57) (lv' := [(4, .int (q8.2.1 52 (((8 + (2 * x1)) + x2).toNatClampNeg))), (0, .ref (eB E + 51)), (1, .int x1), (2, .int x2), (3, .int x3)]) dX6_crew_55 rfl (Nat.le_of_ble_eq_true rfl) rfl ?_
    refine s_aload_n (q := 58) dX6_crew_57 rfl rfl 1 rfl ?_
    refine t_getR (q := 61) (k := 51) (f := 0) (t := 52) dX6_crew_58 rfl rfl rfl rfl inX6 (Nat.le_of_ble_eq_true rfl) fX6_9 ?_
    refine s_bipush (q := 63) (v := 8) dX6_crew_61 rfl rfl ?_
    refine s_iconst (q := 64) (v := 2) dX6_crew_63 rfl rfl ?_
    refine s_iload_n (q := 65) dX6_crew_64 rfl rfl 2 rfl ?_
    refine s_imul (q := 66) dX6_crew_65 rfl ?_
    refine s_iadd (q := 67) dX6_crew_66 rfl ?_
    refine s_iload_n (q := 68) dX6_crew_67 rfl rfl 3 rfl ?_
    refine s_iadd (q := 69) dX6_crew_68 rfl ?_
    refine s_iload_n (q := 70) dX6_crew_69 rfl rfl 4 rfl ?_
    obtain ⟨hg11, h⟩ := chk_some h
    refine u_iast (q := 71) (k := 52) dX6_crew_70 rfl rfl (inB_in hg11) rfl ?_
    refine s_iload (q := 73) dX6_crew_71 rfl 0 rfl ?_
    obtain rfl := Option.some.inj h
    exact t_iret dX6_crew_73 rfl rfl
  · rw [if_pos hb9] at h
    refine s_aload_n (q := 37) dX6_crew_36 rfl rfl 0 rfl ?_
    refine s_iconst (q := 38) (v := 0) dX6_crew_37 rfl rfl ?_
    obtain ⟨q12, hc12, h⟩ := bnd h
    try dsimp only at h
    refine t_callV (q := 41) (N := mX6_no) (a := eB E + 51) [.int 0] dX6_crew_38 rfl nkX6_no vkX6_no lX6_94 ⟨Nat.le_of_ble_eq_true rfl, Nat.le_of_ble_eq_true rfl⟩ (rc_obj (k := 51) rfl rfl) rfl rfl (Nat.le_of_ble_eq_true rfl) (Nat.le_of_ble_eq_true rfl) (T_X6_no_51 E _ hc12) ?_
    obtain rfl := Option.some.inj h
    exact t_iret dX6_crew_41 rfl rfl
def G_X6_crew_51 (x1 : Int32) (x2 : Int32) (x3 : Int32) (S : ST) : Option (Int32 × ST) := ((G_X6_isCrew x1 S).bind fun q1 => (if q1.1 = 0 then ((G_X6_no_51 0 q1.2).bind fun q3 => some (q3.1, q3.2)) else ((G_X6_in1 x2 0 1 q1.2).bind fun q4 => (if q4.1 = 0 then ((G_X6_no_51 0 q4.2).bind fun q6 => some (q6.1, q6.2)) else (if x2 = 0 then G_X6_crew_51_30 x1 x2 x3 99 0 x3 q4.2 else G_X6_crew_51_30 x1 x2 x3 999 0 x3 q4.2)))))
set_option maxHeartbeats 4000000 in
set_option maxRecDepth 100000 in
theorem T_X6_crew_51 (E : EV) (x1 : Int32) (x2 : Int32) (x3 : Int32) {S : ST} {w : (Int32 × ST)} (h : G_X6_crew_51 x1 x2 x3 S = some w) : SD E mX6_crew 0 [(0, .ref (eB E + 51)), (1, .int x1), (2, .int x2), (3, .int x3)] [] S (some (.int w.1)) w.2 := by
  unfold G_X6_crew_51 at h
  refine s_iload_n (q := 1) dX6_crew_0 rfl rfl 1 rfl ?_
  obtain ⟨q1, hc1, h⟩ := bnd h
  try dsimp only at h
  refine t_callS (q := 4) (N := mX6_isCrew) [.int x1] dX6_crew_1 rfl nkX6_isCrew sX6_isCrew lX6_104 ⟨Nat.le_of_ble_eq_true rfl, Nat.le_of_ble_eq_true rfl⟩ rfl rfl (Nat.le_of_ble_eq_true rfl) (Nat.le_of_ble_eq_true rfl) (T_X6_isCrew E _ hc1) ?_
  refine s_if_eq (q := 7) (tgt := 36) dX6_crew_4 rfl rfl (fun hb2 => ?_) (fun hb2 => ?_)
  · rw [if_pos hb2] at h
    refine s_aload_n (q := 37) dX6_crew_36 rfl rfl 0 rfl ?_
    refine s_iconst (q := 38) (v := 0) dX6_crew_37 rfl rfl ?_
    obtain ⟨q3, hc3, h⟩ := bnd h
    try dsimp only at h
    refine t_callV (q := 41) (N := mX6_no) (a := eB E + 51) [.int 0] dX6_crew_38 rfl nkX6_no vkX6_no lX6_94 ⟨Nat.le_of_ble_eq_true rfl, Nat.le_of_ble_eq_true rfl⟩ (rc_obj (k := 51) rfl rfl) rfl rfl (Nat.le_of_ble_eq_true rfl) (Nat.le_of_ble_eq_true rfl) (T_X6_no_51 E _ hc3) ?_
    obtain rfl := Option.some.inj h
    exact t_iret dX6_crew_41 rfl rfl
  · rw [if_neg hb2] at h
    refine s_iload_n (q := 8) dX6_crew_7 rfl rfl 2 rfl ?_
    refine s_iconst (q := 9) (v := 0) dX6_crew_8 rfl rfl ?_
    refine s_iconst (q := 10) (v := 1) dX6_crew_9 rfl rfl ?_
    obtain ⟨q4, hc4, h⟩ := bnd h
    try dsimp only at h
    refine t_callS (q := 13) (N := mX6_in1) [.int x2, .int 0, .int 1] dX6_crew_10 rfl nkX6_in1 sX6_in1 lX6_54 ⟨Nat.le_of_ble_eq_true rfl, Nat.le_of_ble_eq_true rfl⟩ rfl rfl (Nat.le_of_ble_eq_true rfl) (Nat.le_of_ble_eq_true rfl) (T_X6_in1 E _ _ _ hc4) ?_
    refine s_if_eq (q := 16) (tgt := 36) dX6_crew_13 rfl rfl (fun hb5 => ?_) (fun hb5 => ?_)
    · rw [if_pos hb5] at h
      refine s_aload_n (q := 37) dX6_crew_36 rfl rfl 0 rfl ?_
      refine s_iconst (q := 38) (v := 0) dX6_crew_37 rfl rfl ?_
      obtain ⟨q6, hc6, h⟩ := bnd h
      try dsimp only at h
      refine t_callV (q := 41) (N := mX6_no) (a := eB E + 51) [.int 0] dX6_crew_38 rfl nkX6_no vkX6_no lX6_94 ⟨Nat.le_of_ble_eq_true rfl, Nat.le_of_ble_eq_true rfl⟩ (rc_obj (k := 51) rfl rfl) rfl rfl (Nat.le_of_ble_eq_true rfl) (Nat.le_of_ble_eq_true rfl) (T_X6_no_51 E _ hc6) ?_
      obtain rfl := Option.some.inj h
      exact t_iret dX6_crew_41 rfl rfl
    · rw [if_neg hb5] at h
      refine s_iload_n (q := 17) dX6_crew_16 rfl rfl 3 rfl ?_
      refine s_iconst (q := 18) (v := 0) dX6_crew_17 rfl rfl ?_
      refine s_iload_n (q := 19) dX6_crew_18 rfl rfl 2 rfl ?_
      refine s_if_ne (q := 22) (tgt := 27) dX6_crew_19 rfl rfl (fun hb7 => ?_) (fun hb7 => ?_)
      · rw [if_neg hb7] at h
        refine s_sipush (q := 30) (v := 999) dX6_crew_27 rfl rfl ?_
        exact t_sub [0, 1, 2, 3] rfl (T_X6_crew_51_30 E _ _ _ _ _ _ h)
      · rw [if_pos hb7] at h
        refine s_bipush (q := 24) (v := 99) dX6_crew_22 rfl rfl ?_
        refine s_goto (tgt := 30) dX6_crew_24 rfl ?_
        exact t_sub [0, 1, 2, 3] rfl (T_X6_crew_51_30 E _ _ _ _ _ _ h)
-- X5_crewOf
def G_X5_crewOf_0 (x1 : Int32) (x2 : Int32) (S : ST) : Option (Int32 × ST) := ((G_X1_crewRow_1 x2 S).bind fun q1 => nl q1.1 (((G_X5_finding_0 0 q1.2).bind fun q2 => some (q2.1, q2.2))) (fun k1 => ((G_X5_isBelow x1 4 q1.2).bind fun q3 => (if q3.1 = 0 then ((G_X5_finding_0 0 q3.2).bind fun q7 => some (q7.1, q7.2)) else ((lenI k1).bind fun n5 => (if inB x1 n5 = true then some ((q3.2.1 k1 x1.toNatClampNeg), q3.2) else none))))))
set_option maxHeartbeats 4000000 in
set_option maxRecDepth 100000 in
theorem T_X5_crewOf_0 (E : EV) (x1 : Int32) (x2 : Int32) {S : ST} {w : (Int32 × ST)} (h : G_X5_crewOf_0 x1 x2 S = some w) : SD E mX5_crewOf 0 [(0, .ref (eB E + 0)), (1, .int x1), (2, .int x2)] [] S (some (.int w.1)) w.2 := by
  unfold G_X5_crewOf_0 at h
  refine s_aload_n (q := 1) dX5_crewOf_0 rfl rfl 0 rfl ?_
  refine t_getR (q := 4) (k := 0) (f := 0) (t := 1) dX5_crewOf_1 rfl rfl rfl rfl inX5 (Nat.le_of_ble_eq_true rfl) fX5_10 ?_
  refine s_iload_n (q := 5) dX5_crewOf_4 rfl rfl 2 rfl ?_
  obtain ⟨q1, hc1, h⟩ := bnd h
  try dsimp only at h
  refine t_callV (q := 8) (N := mX1_crewRow) (a := eB E + 1) [.int x2] dX5_crewOf_5 rfl nkX1_crewRow vkX1_crewRow lX5_106 ⟨Nat.le_of_ble_eq_true rfl, Nat.le_of_ble_eq_true rfl⟩ (rc_obj (k := 1) rfl rfl) rfl rfl (Nat.le_of_ble_eq_true rfl) (Nat.le_of_ble_eq_true rfl) (T_X1_crewRow_1 E _ hc1) ?_
  rcases ho1 : q1.1 with _ | k1
  · rw [ho1] at h
    dsimp only [nl] at h
    refine rv_null rfl ?_
    refine s_astore_nN (q := 9) (lv' := [(3, .null), (0, .ref (eB E + 0)), (1, .int x1), (2, .int x2)]) dX5_crewOf_8 rfl rfl (Nat.le_of_ble_eq_true rfl) rfl ?_
    refine s_aload_nN (q := 10) dX5_crewOf_9 rfl rfl 0 rfl ?_
    refine s_ifnullN (tgt := 21) dX5_crewOf_10 rfl ?_
    refine s_aload_n (q := 22) dX5_crewOf_21 rfl rfl 1 rfl ?_
    refine s_iconst (q := 23) (v := 0) dX5_crewOf_22 rfl rfl ?_
    obtain ⟨q2, hc2, h⟩ := bnd h
    try dsimp only at h
    refine t_callV (q := 26) (N := mX5_finding) (a := eB E + 0) [.int 0] dX5_crewOf_23 rfl nkX5_finding vkX5_finding lX5_61 ⟨Nat.le_of_ble_eq_true rfl, Nat.le_of_ble_eq_true rfl⟩ (rc_obj (k := 0) rfl rfl) rfl rfl (Nat.le_of_ble_eq_true rfl) (Nat.le_of_ble_eq_true rfl) (T_X5_finding_0 E _ hc2) ?_
    obtain rfl := Option.some.inj h
    exact t_iret dX5_crewOf_26 rfl rfl
  · rw [ho1] at h
    dsimp only [nl] at h
    refine rv_ref rfl ?_
    refine s_astore_n (q := 9) (lv' := [(3, .ref (eB E + k1)), (0, .ref (eB E + 0)), (1, .int x1), (2, .int x2)]) dX5_crewOf_8 rfl rfl (Nat.le_of_ble_eq_true rfl) rfl ?_
    refine s_aload_n (q := 10) dX5_crewOf_9 rfl rfl 0 rfl ?_
    refine s_ifnull (tgt := 13) dX5_crewOf_10 rfl ?_
    refine s_iload_n (q := 14) dX5_crewOf_13 rfl rfl 2 rfl ?_
    refine s_iconst (q := 15) (v := 4) dX5_crewOf_14 rfl rfl ?_
    obtain ⟨q3, hc3, h⟩ := bnd h
    try dsimp only at h
    refine t_callS (q := 18) (N := mX5_isBelow) [.int x1, .int 4] dX5_crewOf_15 rfl nkX5_isBelow sX5_isBelow lX5_57 ⟨Nat.le_of_ble_eq_true rfl, Nat.le_of_ble_eq_true rfl⟩ rfl rfl (Nat.le_of_ble_eq_true rfl) (Nat.le_of_ble_eq_true rfl) (T_X5_isBelow E _ _ hc3) ?_
    refine s_if_ne (q := 21) (tgt := 27) dX5_crewOf_18 rfl rfl (fun hb4 => ?_) (fun hb4 => ?_)
    · rw [if_neg hb4] at h
      refine s_aload_n (q := 28) dX5_crewOf_27 rfl rfl 0 rfl ?_
      refine s_iload_n (q := 29) dX5_crewOf_28 rfl rfl 2 rfl ?_
      obtain ⟨n5, hn5, h⟩ := bnd h
      try dsimp only at h
      obtain ⟨hg6, h⟩ := chk_some h
      refine u_iald (q := 30) (k := k1) (v := (q3.2.1 k1 x1.toNatClampNeg)) dX5_crewOf_29 rfl (lenI_sh hn5) (inB_in hg6) rfl rfl ?_
      obtain rfl := Option.some.inj h
      exact t_iret dX5_crewOf_30 rfl rfl
    · rw [if_pos hb4] at h
      refine s_aload_n (q := 22) dX5_crewOf_21 rfl rfl 1 rfl ?_
      refine s_iconst (q := 23) (v := 0) dX5_crewOf_22 rfl rfl ?_
      obtain ⟨q7, hc7, h⟩ := bnd h
      try dsimp only at h
      refine t_callV (q := 26) (N := mX5_finding) (a := eB E + 0) [.int 0] dX5_crewOf_23 rfl nkX5_finding vkX5_finding lX5_61 ⟨Nat.le_of_ble_eq_true rfl, Nat.le_of_ble_eq_true rfl⟩ (rc_obj (k := 0) rfl rfl) rfl rfl (Nat.le_of_ble_eq_true rfl) (Nat.le_of_ble_eq_true rfl) (T_X5_finding_0 E _ hc7) ?_
      obtain rfl := Option.some.inj h
      exact t_iret dX5_crewOf_26 rfl rfl
-- X6_crewOf
def G_X6_crewOf_51 (x1 : Int32) (x2 : Int32) (S : ST) : Option (Int32 × ST) := ((G_X6_isCrew x1 S).bind fun q1 => (if q1.1 = 0 then ((G_X6_no_51 0 q1.2).bind fun q3 => some (q3.1, q3.2)) else ((G_X6_in1 x2 0 1 q1.2).bind fun q4 => (if q4.1 = 0 then ((G_X6_no_51 0 q4.2).bind fun q6 => some (q6.1, q6.2)) else (if inB ((8 + (2 * x1)) + x2) 72 = true then some ((q4.2.1 52 (((8 + (2 * x1)) + x2).toNatClampNeg)), q4.2) else none)))))
set_option maxHeartbeats 4000000 in
set_option maxRecDepth 100000 in
theorem T_X6_crewOf_51 (E : EV) (x1 : Int32) (x2 : Int32) {S : ST} {w : (Int32 × ST)} (h : G_X6_crewOf_51 x1 x2 S = some w) : SD E mX6_crewOf 0 [(0, .ref (eB E + 51)), (1, .int x1), (2, .int x2)] [] S (some (.int w.1)) w.2 := by
  unfold G_X6_crewOf_51 at h
  refine s_iload_n (q := 1) dX6_crewOf_0 rfl rfl 1 rfl ?_
  obtain ⟨q1, hc1, h⟩ := bnd h
  try dsimp only at h
  refine t_callS (q := 4) (N := mX6_isCrew) [.int x1] dX6_crewOf_1 rfl nkX6_isCrew sX6_isCrew lX6_104 ⟨Nat.le_of_ble_eq_true rfl, Nat.le_of_ble_eq_true rfl⟩ rfl rfl (Nat.le_of_ble_eq_true rfl) (Nat.le_of_ble_eq_true rfl) (T_X6_isCrew E _ hc1) ?_
  refine s_if_eq (q := 7) (tgt := 32) dX6_crewOf_4 rfl rfl (fun hb2 => ?_) (fun hb2 => ?_)
  · rw [if_pos hb2] at h
    refine s_aload_n (q := 33) dX6_crewOf_32 rfl rfl 0 rfl ?_
    refine s_iconst (q := 34) (v := 0) dX6_crewOf_33 rfl rfl ?_
    obtain ⟨q3, hc3, h⟩ := bnd h
    try dsimp only at h
    refine t_callV (q := 37) (N := mX6_no) (a := eB E + 51) [.int 0] dX6_crewOf_34 rfl nkX6_no vkX6_no lX6_94 ⟨Nat.le_of_ble_eq_true rfl, Nat.le_of_ble_eq_true rfl⟩ (rc_obj (k := 51) rfl rfl) rfl rfl (Nat.le_of_ble_eq_true rfl) (Nat.le_of_ble_eq_true rfl) (T_X6_no_51 E _ hc3) ?_
    obtain rfl := Option.some.inj h
    exact t_iret dX6_crewOf_37 rfl rfl
  · rw [if_neg hb2] at h
    refine s_iload_n (q := 8) dX6_crewOf_7 rfl rfl 2 rfl ?_
    refine s_iconst (q := 9) (v := 0) dX6_crewOf_8 rfl rfl ?_
    refine s_iconst (q := 10) (v := 1) dX6_crewOf_9 rfl rfl ?_
    obtain ⟨q4, hc4, h⟩ := bnd h
    try dsimp only at h
    refine t_callS (q := 13) (N := mX6_in1) [.int x2, .int 0, .int 1] dX6_crewOf_10 rfl nkX6_in1 sX6_in1 lX6_54 ⟨Nat.le_of_ble_eq_true rfl, Nat.le_of_ble_eq_true rfl⟩ rfl rfl (Nat.le_of_ble_eq_true rfl) (Nat.le_of_ble_eq_true rfl) (T_X6_in1 E _ _ _ hc4) ?_
    refine s_if_eq (q := 16) (tgt := 32) dX6_crewOf_13 rfl rfl (fun hb5 => ?_) (fun hb5 => ?_)
    · rw [if_pos hb5] at h
      refine s_aload_n (q := 33) dX6_crewOf_32 rfl rfl 0 rfl ?_
      refine s_iconst (q := 34) (v := 0) dX6_crewOf_33 rfl rfl ?_
      obtain ⟨q6, hc6, h⟩ := bnd h
      try dsimp only at h
      refine t_callV (q := 37) (N := mX6_no) (a := eB E + 51) [.int 0] dX6_crewOf_34 rfl nkX6_no vkX6_no lX6_94 ⟨Nat.le_of_ble_eq_true rfl, Nat.le_of_ble_eq_true rfl⟩ (rc_obj (k := 51) rfl rfl) rfl rfl (Nat.le_of_ble_eq_true rfl) (Nat.le_of_ble_eq_true rfl) (T_X6_no_51 E _ hc6) ?_
      obtain rfl := Option.some.inj h
      exact t_iret dX6_crewOf_37 rfl rfl
    · rw [if_neg hb5] at h
      refine s_aload_n (q := 17) dX6_crewOf_16 rfl rfl 0 rfl ?_
      refine t_getR (q := 20) (k := 51) (f := 0) (t := 52) dX6_crewOf_17 rfl rfl rfl rfl inX6 (Nat.le_of_ble_eq_true rfl) fX6_9 ?_
      refine s_bipush (q := 22) (v := 8) dX6_crewOf_20 rfl rfl ?_
      refine s_iconst (q := 23) (v := 2) dX6_crewOf_22 rfl rfl ?_
      refine s_iload_n (q := 24) dX6_crewOf_23 rfl rfl 1 rfl ?_
      refine s_imul (q := 25) dX6_crewOf_24 rfl ?_
      refine s_iadd (q := 26) dX6_crewOf_25 rfl ?_
      refine s_iload_n (q := 27) dX6_crewOf_26 rfl rfl 2 rfl ?_
      refine s_iadd (q := 28) dX6_crewOf_27 rfl ?_
      obtain ⟨hg7, h⟩ := chk_some h
      refine u_iald (q := 29) (k := 52) (v := (q4.2.1 52 (((8 + (2 * x1)) + x2).toNatClampNeg))) dX6_crewOf_28 rfl rfl (inB_in hg7) rfl rfl ?_
      refine s_goto (tgt := 37) dX6_crewOf_29 rfl ?_
      obtain rfl := Option.some.inj h
      exact t_iret dX6_crewOf_37 rfl rfl
-- X5_replaced
def G_X5_replaced_8 (x1 : Int32) (x2 : Int32) (S : ST) : Option (Int32 × ST) := (if inB x1 4 = true then (if inB x1 4 = true then some ((S.1 8 x1.toNatClampNeg), (wr S 8 x1.toNatClampNeg x2)) else none) else none)
set_option maxHeartbeats 4000000 in
set_option maxRecDepth 100000 in
theorem T_X5_replaced_8 (E : EV) (x1 : Int32) (x2 : Int32) {S : ST} {w : (Int32 × ST)} (h : G_X5_replaced_8 x1 x2 S = some w) : SD E mX5_replaced 0 [(0, .ref (eB E + 8)), (1, .int x1), (2, .int x2)] [] S (some (.int w.1)) w.2 := by
  unfold G_X5_replaced_8 at h
  refine s_aload_n (q := 1) dX5_replaced_0 rfl rfl 0 rfl ?_
  refine s_iload_n (q := 2) dX5_replaced_1 rfl rfl 1 rfl ?_
  obtain ⟨hg1, h⟩ := chk_some h
  refine u_iald (q := 3) (k := 8) (v := (S.1 8 x1.toNatClampNeg)) dX5_replaced_2 rfl rfl (inB_in hg1) rfl rfl ?_
  refine s_istore_n (q := 4) (lv' := [(3, .int (S.1 8 x1.toNatClampNeg)), (0, .ref (eB E + 8)), (1, .int x1), (2, .int x2)]) dX5_replaced_3 rfl rfl (Nat.le_of_ble_eq_true rfl) rfl ?_
  refine s_aload_n (q := 5) dX5_replaced_4 rfl rfl 1 rfl ?_
  refine s_iload_n (q := 6) dX5_replaced_5 rfl rfl 2 rfl ?_
  refine s_iload_n (q := 7) dX5_replaced_6 rfl rfl 3 rfl ?_
  obtain ⟨hg2, h⟩ := chk_some h
  refine u_iast (q := 8) (k := 8) dX5_replaced_7 rfl rfl (inB_in hg2) rfl ?_
  refine s_iload_n (q := 9) dX5_replaced_8 rfl rfl 0 rfl ?_
  obtain rfl := Option.some.inj h
  exact t_iret dX5_replaced_9 rfl rfl
-- X5_set
def G_X5_set_0 (x1 : Int32) (x2 : Int32) (S : ST) : Option (Int32 × ST) := ((G_X5_isBelow x1 4 S).bind fun q1 => (if q1.1 = 0 then ((G_X5_finding_0 0 q1.2).bind fun q3 => some (q3.1, q3.2)) else (if inB x1 4 = true then ((G_X5_isWithin x2 (tabS x1) q1.2).bind fun q5 => (if q5.1 = 0 then ((G_X5_finding_0 0 q5.2).bind fun q8 => some (q8.1, q8.2)) else ((G_X5_replaced_8 x1 x2 q5.2).bind fun q7 => some (q7.1, q7.2)))) else none)))
set_option maxHeartbeats 4000000 in
set_option maxRecDepth 100000 in
theorem T_X5_set_0 (E : EV) (x1 : Int32) (x2 : Int32) {S : ST} {w : (Int32 × ST)} (h : G_X5_set_0 x1 x2 S = some w) : SD E mX5_set 0 [(0, .ref (eB E + 0)), (1, .int x1), (2, .int x2)] [] S (some (.int w.1)) w.2 := by
  unfold G_X5_set_0 at h
  refine s_iload_n (q := 1) dX5_set_0 rfl rfl 1 rfl ?_
  refine s_iconst (q := 2) (v := 4) dX5_set_1 rfl rfl ?_
  obtain ⟨q1, hc1, h⟩ := bnd h
  try dsimp only at h
  refine t_callS (q := 5) (N := mX5_isBelow) [.int x1, .int 4] dX5_set_2 rfl nkX5_isBelow sX5_isBelow lX5_57 ⟨Nat.le_of_ble_eq_true rfl, Nat.le_of_ble_eq_true rfl⟩ rfl rfl (Nat.le_of_ble_eq_true rfl) (Nat.le_of_ble_eq_true rfl) (T_X5_isBelow E _ _ hc1) ?_
  refine s_if_eq (q := 8) (tgt := 20) dX5_set_5 rfl rfl (fun hb2 => ?_) (fun hb2 => ?_)
  · rw [if_pos hb2] at h
    refine s_aload_n (q := 21) dX5_set_20 rfl rfl 0 rfl ?_
    refine s_iconst (q := 22) (v := 0) dX5_set_21 rfl rfl ?_
    obtain ⟨q3, hc3, h⟩ := bnd h
    try dsimp only at h
    refine t_callV (q := 25) (N := mX5_finding) (a := eB E + 0) [.int 0] dX5_set_22 rfl nkX5_finding vkX5_finding lX5_61 ⟨Nat.le_of_ble_eq_true rfl, Nat.le_of_ble_eq_true rfl⟩ (rc_obj (k := 0) rfl rfl) rfl rfl (Nat.le_of_ble_eq_true rfl) (Nat.le_of_ble_eq_true rfl) (T_X5_finding_0 E _ hc3) ?_
    obtain rfl := Option.some.inj h
    exact t_iret dX5_set_25 rfl rfl
  · rw [if_neg hb2] at h
    refine s_iload_n (q := 9) dX5_set_8 rfl rfl 2 rfl ?_
    refine s_table (q := 12) dX5_set_9 rfl fX5_112 ?_
    refine s_iload_n (q := 13) dX5_set_12 rfl rfl 1 rfl ?_
    obtain ⟨hg4, h⟩ := chk_some h
    refine t_tab (q := 14) dX5_set_13 rfl (inB_in hg4) ?_
    obtain ⟨q5, hc5, h⟩ := bnd h
    try dsimp only at h
    refine t_callS (q := 17) (N := mX5_isWithin) [.int x2, .int (tabS x1)] dX5_set_14 rfl nkX5_isWithin sX5_isWithin lX5_99 ⟨Nat.le_of_ble_eq_true rfl, Nat.le_of_ble_eq_true rfl⟩ rfl rfl (Nat.le_of_ble_eq_true rfl) (Nat.le_of_ble_eq_true rfl) (T_X5_isWithin E _ _ hc5) ?_
    refine s_if_ne (q := 20) (tgt := 26) dX5_set_17 rfl rfl (fun hb6 => ?_) (fun hb6 => ?_)
    · rw [if_neg hb6] at h
      refine s_aload_n (q := 27) dX5_set_26 rfl rfl 0 rfl ?_
      refine t_getR (q := 30) (k := 0) (f := 0) (t := 1) dX5_set_27 rfl rfl rfl rfl inX5 (Nat.le_of_ble_eq_true rfl) fX5_10 ?_
      refine t_getR (q := 33) (k := 1) (f := 7) (t := 8) dX5_set_30 rfl rfl rfl rfl inX1 (Nat.le_of_ble_eq_true rfl) fX5_83 ?_
      refine s_iload_n (q := 34) dX5_set_33 rfl rfl 1 rfl ?_
      refine s_iload_n (q := 35) dX5_set_34 rfl rfl 2 rfl ?_
      obtain ⟨q7, hc7, h⟩ := bnd h
      try dsimp only at h
      refine t_callS (q := 38) (N := mX5_replaced) [.ref (eB E + 8), .int x1, .int x2] dX5_set_35 rfl nkX5_replaced sX5_replaced lX5_102 ⟨Nat.le_of_ble_eq_true rfl, Nat.le_of_ble_eq_true rfl⟩ rfl rfl (Nat.le_of_ble_eq_true rfl) (Nat.le_of_ble_eq_true rfl) (T_X5_replaced_8 E _ _ hc7) ?_
      obtain rfl := Option.some.inj h
      exact t_iret dX5_set_38 rfl rfl
    · rw [if_pos hb6] at h
      refine s_aload_n (q := 21) dX5_set_20 rfl rfl 0 rfl ?_
      refine s_iconst (q := 22) (v := 0) dX5_set_21 rfl rfl ?_
      obtain ⟨q8, hc8, h⟩ := bnd h
      try dsimp only at h
      refine t_callV (q := 25) (N := mX5_finding) (a := eB E + 0) [.int 0] dX5_set_22 rfl nkX5_finding vkX5_finding lX5_61 ⟨Nat.le_of_ble_eq_true rfl, Nat.le_of_ble_eq_true rfl⟩ (rc_obj (k := 0) rfl rfl) rfl rfl (Nat.le_of_ble_eq_true rfl) (Nat.le_of_ble_eq_true rfl) (T_X5_finding_0 E _ hc8) ?_
      obtain rfl := Option.some.inj h
      exact t_iret dX5_set_25 rfl rfl
-- X6_greatest
def G_X6_greatest (x0 : Int32) (S : ST) : Option (Int32 × ST) := (if (2 : Int32) ≤ x0 then (if x0 = 2 then some (99, S) else some (9999, S)) else some (9, S))
set_option maxHeartbeats 4000000 in
set_option maxRecDepth 100000 in
theorem T_X6_greatest (E : EV) (x0 : Int32) {S : ST} {w : (Int32 × ST)} (h : G_X6_greatest x0 S = some w) : SD E mX6_greatest 0 [(0, .int x0)] [] S (some (.int w.1)) w.2 := by
  unfold G_X6_greatest at h
  refine s_iload_n (q := 1) dX6_greatest_0 rfl rfl 0 rfl ?_
  refine s_iconst (q := 2) (v := 2) dX6_greatest_1 rfl rfl ?_
  refine s_icmp_ge (q := 5) (tgt := 10) dX6_greatest_2 rfl rfl (fun hb1 => ?_) (fun hb1 => ?_)
  · rw [if_pos hb1] at h
    refine s_iload_n (q := 11) dX6_greatest_10 rfl rfl 0 rfl ?_
    refine s_iconst (q := 12) (v := 2) dX6_greatest_11 rfl rfl ?_
    refine s_icmp_ne (q := 15) (tgt := 20) dX6_greatest_12 rfl rfl (fun hb2 => ?_) (fun hb2 => ?_)
    · rw [if_neg hb2] at h
      refine s_sipush (q := 23) (v := 9999) dX6_greatest_20 rfl rfl ?_
      obtain rfl := Option.some.inj h
      exact t_iret dX6_greatest_23 rfl rfl
    · rw [if_pos hb2] at h
      refine s_bipush (q := 17) (v := 99) dX6_greatest_15 rfl rfl ?_
      refine s_goto (tgt := 23) dX6_greatest_17 rfl ?_
      obtain rfl := Option.some.inj h
      exact t_iret dX6_greatest_23 rfl rfl
  · rw [if_neg hb1] at h
    refine s_bipush (q := 7) (v := 9) dX6_greatest_5 rfl rfl ?_
    refine s_goto (tgt := 23) dX6_greatest_7 rfl ?_
    obtain rfl := Option.some.inj h
    exact t_iret dX6_greatest_23 rfl rfl
-- X6_set
def G_X6_set_51 (x1 : Int32) (x2 : Int32) (S : ST) : Option (Int32 × ST) := ((G_X6_in1 x1 0 3 S).bind fun q1 => (if q1.1 = 0 then ((G_X6_no_51 0 q1.2).bind fun q3 => some (q3.1, q3.2)) else ((G_X6_greatest x1 q1.2).bind fun q4 => ((G_X6_in1 x2 0 q4.1 q4.2).bind fun q5 => (if q5.1 = 0 then ((G_X6_no_51 0 q5.2).bind fun q9 => some (q9.1, q9.2)) else (if inB (4 + x1) 72 = true then (if inB (4 + x1) 72 = true then some ((q5.2.1 52 ((4 + x1).toNatClampNeg)), (wr q5.2 52 ((4 + x1).toNatClampNeg) x2)) else none) else none))))))
set_option maxHeartbeats 4000000 in
set_option maxRecDepth 100000 in
theorem T_X6_set_51 (E : EV) (x1 : Int32) (x2 : Int32) {S : ST} {w : (Int32 × ST)} (h : G_X6_set_51 x1 x2 S = some w) : SD E mX6_set 0 [(0, .ref (eB E + 51)), (1, .int x1), (2, .int x2)] [] S (some (.int w.1)) w.2 := by
  unfold G_X6_set_51 at h
  refine s_iload_n (q := 1) dX6_set_0 rfl rfl 1 rfl ?_
  refine s_iconst (q := 2) (v := 0) dX6_set_1 rfl rfl ?_
  refine s_iconst (q := 3) (v := 3) dX6_set_2 rfl rfl ?_
  obtain ⟨q1, hc1, h⟩ := bnd h
  try dsimp only at h
  refine t_callS (q := 6) (N := mX6_in1) [.int x1, .int 0, .int 3] dX6_set_3 rfl nkX6_in1 sX6_in1 lX6_54 ⟨Nat.le_of_ble_eq_true rfl, Nat.le_of_ble_eq_true rfl⟩ rfl rfl (Nat.le_of_ble_eq_true rfl) (Nat.le_of_ble_eq_true rfl) (T_X6_in1 E _ _ _ hc1) ?_
  refine s_if_eq (q := 9) (tgt := 21) dX6_set_6 rfl rfl (fun hb2 => ?_) (fun hb2 => ?_)
  · rw [if_pos hb2] at h
    refine s_aload_n (q := 22) dX6_set_21 rfl rfl 0 rfl ?_
    refine s_iconst (q := 23) (v := 0) dX6_set_22 rfl rfl ?_
    obtain ⟨q3, hc3, h⟩ := bnd h
    try dsimp only at h
    refine t_callV (q := 26) (N := mX6_no) (a := eB E + 51) [.int 0] dX6_set_23 rfl nkX6_no vkX6_no lX6_94 ⟨Nat.le_of_ble_eq_true rfl, Nat.le_of_ble_eq_true rfl⟩ (rc_obj (k := 51) rfl rfl) rfl rfl (Nat.le_of_ble_eq_true rfl) (Nat.le_of_ble_eq_true rfl) (T_X6_no_51 E _ hc3) ?_
    obtain rfl := Option.some.inj h
    exact t_iret dX6_set_26 rfl rfl
  · rw [if_neg hb2] at h
    refine s_iload_n (q := 10) dX6_set_9 rfl rfl 2 rfl ?_
    refine s_iconst (q := 11) (v := 0) dX6_set_10 rfl rfl ?_
    refine s_iload_n (q := 12) dX6_set_11 rfl rfl 1 rfl ?_
    obtain ⟨q4, hc4, h⟩ := bnd h
    try dsimp only at h
    refine t_callS (q := 15) (N := mX6_greatest) [.int x1] dX6_set_12 rfl nkX6_greatest sX6_greatest lX6_107 ⟨Nat.le_of_ble_eq_true rfl, Nat.le_of_ble_eq_true rfl⟩ rfl rfl (Nat.le_of_ble_eq_true rfl) (Nat.le_of_ble_eq_true rfl) (T_X6_greatest E _ hc4) ?_
    obtain ⟨q5, hc5, h⟩ := bnd h
    try dsimp only at h
    refine t_callS (q := 18) (N := mX6_in1) [.int x2, .int 0, .int q4.1] dX6_set_15 rfl nkX6_in1 sX6_in1 lX6_54 ⟨Nat.le_of_ble_eq_true rfl, Nat.le_of_ble_eq_true rfl⟩ rfl rfl (Nat.le_of_ble_eq_true rfl) (Nat.le_of_ble_eq_true rfl) (T_X6_in1 E _ _ _ hc5) ?_
    refine s_if_ne (q := 21) (tgt := 27) dX6_set_18 rfl rfl (fun hb6 => ?_) (fun hb6 => ?_)
    · rw [if_neg hb6] at h
      refine s_aload_n (q := 28) dX6_set_27 rfl rfl 0 rfl ?_
      refine t_getR (q := 31) (k := 51) (f := 0) (t := 52) dX6_set_28 rfl rfl rfl rfl inX6 (Nat.le_of_ble_eq_true rfl) fX6_9 ?_
      refine s_iconst (q := 32) (v := 4) dX6_set_31 rfl rfl ?_
      refine s_iload_n (q := 33) dX6_set_32 rfl rfl 1 rfl ?_
      refine s_iadd (q := 34) dX6_set_33 rfl ?_
      obtain ⟨hg7, h⟩ := chk_some h
      refine u_iald (q := 35) (k := 52) (v := (q5.2.1 52 ((4 + x1).toNatClampNeg))) dX6_set_34 rfl rfl (inB_in hg7) rfl rfl ?_
      refine s_istore_n (q := 36) (lv' := [(3, .int (q5.2.1 52 ((4 + x1).toNatClampNeg))), (0, .ref (eB E + 51)), (1, .int x1), (2, .int x2)]) dX6_set_35 rfl rfl (Nat.le_of_ble_eq_true rfl) rfl ?_
      refine s_aload_n (q := 37) dX6_set_36 rfl rfl 1 rfl ?_
      refine t_getR (q := 40) (k := 51) (f := 0) (t := 52) dX6_set_37 rfl rfl rfl rfl inX6 (Nat.le_of_ble_eq_true rfl) fX6_9 ?_
      refine s_iconst (q := 41) (v := 4) dX6_set_40 rfl rfl ?_
      refine s_iload_n (q := 42) dX6_set_41 rfl rfl 2 rfl ?_
      refine s_iadd (q := 43) dX6_set_42 rfl ?_
      refine s_iload_n (q := 44) dX6_set_43 rfl rfl 3 rfl ?_
      obtain ⟨hg8, h⟩ := chk_some h
      refine u_iast (q := 45) (k := 52) dX6_set_44 rfl rfl (inB_in hg8) rfl ?_
      refine s_iload_n (q := 46) dX6_set_45 rfl rfl 0 rfl ?_
      obtain rfl := Option.some.inj h
      exact t_iret dX6_set_46 rfl rfl
    · rw [if_pos hb6] at h
      refine s_aload_n (q := 22) dX6_set_21 rfl rfl 0 rfl ?_
      refine s_iconst (q := 23) (v := 0) dX6_set_22 rfl rfl ?_
      obtain ⟨q9, hc9, h⟩ := bnd h
      try dsimp only at h
      refine t_callV (q := 26) (N := mX6_no) (a := eB E + 51) [.int 0] dX6_set_23 rfl nkX6_no vkX6_no lX6_94 ⟨Nat.le_of_ble_eq_true rfl, Nat.le_of_ble_eq_true rfl⟩ (rc_obj (k := 51) rfl rfl) rfl rfl (Nat.le_of_ble_eq_true rfl) (Nat.le_of_ble_eq_true rfl) (T_X6_no_51 E _ hc9) ?_
      obtain rfl := Option.some.inj h
      exact t_iret dX6_set_26 rfl rfl
