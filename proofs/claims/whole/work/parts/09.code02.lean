-- X5_stepsBetween
def G_X5_stepsBetween (x0 : Int32) (x1 : Int32) (S : ST) : Option (Int32 × ST) := some ((imn (iab (x0 - x1)) (100 - (iab (x0 - x1)))), S)
set_option maxHeartbeats 4000000 in
set_option maxRecDepth 100000 in
theorem T_X5_stepsBetween (E : EV) (x0 : Int32) (x1 : Int32) {S : ST} {w : (Int32 × ST)} (h : G_X5_stepsBetween x0 x1 S = some w) : SD E mX5_stepsBetween 0 [(0, .int x0), (1, .int x1)] [] S (some (.int w.1)) w.2 := by
  unfold G_X5_stepsBetween at h
  refine s_iload_n (q := 1) dX5_stepsBetween_0 rfl rfl 0 rfl ?_
  refine s_iload_n (q := 2) dX5_stepsBetween_1 rfl rfl 1 rfl ?_
  refine s_isub (q := 3) dX5_stepsBetween_2 rfl ?_
  refine v_abs (q := 6) dX5_stepsBetween_3 rfl lX5_282 (Nat.le_of_ble_eq_true rfl) (Nat.le_of_ble_eq_true rfl) ?_
  refine s_istore_n (q := 7) (lv' := [(2, .int (iab (x0 - x1))), (0, .int x0), (1, .int x1)]) dX5_stepsBetween_6 rfl rfl (Nat.le_of_ble_eq_true rfl) rfl ?_
  refine s_iload_n (q := 8) dX5_stepsBetween_7 rfl rfl 0 rfl ?_
  refine s_bipush (q := 10) (v := 100) dX5_stepsBetween_8 rfl rfl ?_
  refine s_iload_n (q := 11) dX5_stepsBetween_10 rfl rfl 0 rfl ?_
  refine s_isub (q := 12) dX5_stepsBetween_11 rfl ?_
  refine v_min (q := 15) dX5_stepsBetween_12 rfl lX5_161 (Nat.le_of_ble_eq_true rfl) (Nat.le_of_ble_eq_true rfl) ?_
  obtain rfl := Option.some.inj h
  exact t_iret dX5_stepsBetween_15 rfl rfl
-- X5_apart
def G_X5_apart_0 (x1 : Int32) (x2 : Int32) (S : ST) : Option (Int32 × ST) := ((G_X5_isBelow x1 100 S).bind fun q1 => (if q1.1 = 0 then ((G_X5_finding_0 0 q1.2).bind fun q3 => some (q3.1, q3.2)) else ((G_X5_isBelow x2 100 q1.2).bind fun q4 => (if q4.1 = 0 then ((G_X5_finding_0 0 q4.2).bind fun q7 => some (q7.1, q7.2)) else ((G_X5_stepsBetween x1 x2 q4.2).bind fun q6 => some (q6.1, q6.2))))))
set_option maxHeartbeats 4000000 in
set_option maxRecDepth 100000 in
theorem T_X5_apart_0 (E : EV) (x1 : Int32) (x2 : Int32) {S : ST} {w : (Int32 × ST)} (h : G_X5_apart_0 x1 x2 S = some w) : SD E mX5_apart 0 [(0, .ref (eB E + 0)), (1, .int x1), (2, .int x2)] [] S (some (.int w.1)) w.2 := by
  unfold G_X5_apart_0 at h
  refine s_iload_n (q := 1) dX5_apart_0 rfl rfl 1 rfl ?_
  refine s_bipush (q := 3) (v := 100) dX5_apart_1 rfl rfl ?_
  obtain ⟨q1, hc1, h⟩ := bnd h
  try dsimp only at h
  refine t_callS (q := 6) (N := mX5_isBelow) [.int x1, .int 100] dX5_apart_3 rfl nkX5_isBelow sX5_isBelow lX5_57 ⟨Nat.le_of_ble_eq_true rfl, Nat.le_of_ble_eq_true rfl⟩ rfl rfl (Nat.le_of_ble_eq_true rfl) (Nat.le_of_ble_eq_true rfl) (T_X5_isBelow E _ _ hc1) ?_
  refine s_if_eq (q := 9) (tgt := 18) dX5_apart_6 rfl rfl (fun hb2 => ?_) (fun hb2 => ?_)
  · rw [if_pos hb2] at h
    refine s_aload_n (q := 19) dX5_apart_18 rfl rfl 0 rfl ?_
    refine s_iconst (q := 20) (v := 0) dX5_apart_19 rfl rfl ?_
    obtain ⟨q3, hc3, h⟩ := bnd h
    try dsimp only at h
    refine t_callV (q := 23) (N := mX5_finding) (a := eB E + 0) [.int 0] dX5_apart_20 rfl nkX5_finding vkX5_finding lX5_61 ⟨Nat.le_of_ble_eq_true rfl, Nat.le_of_ble_eq_true rfl⟩ (rc_obj (k := 0) rfl rfl) rfl rfl (Nat.le_of_ble_eq_true rfl) (Nat.le_of_ble_eq_true rfl) (T_X5_finding_0 E _ hc3) ?_
    obtain rfl := Option.some.inj h
    exact t_iret dX5_apart_23 rfl rfl
  · rw [if_neg hb2] at h
    refine s_iload_n (q := 10) dX5_apart_9 rfl rfl 2 rfl ?_
    refine s_bipush (q := 12) (v := 100) dX5_apart_10 rfl rfl ?_
    obtain ⟨q4, hc4, h⟩ := bnd h
    try dsimp only at h
    refine t_callS (q := 15) (N := mX5_isBelow) [.int x2, .int 100] dX5_apart_12 rfl nkX5_isBelow sX5_isBelow lX5_57 ⟨Nat.le_of_ble_eq_true rfl, Nat.le_of_ble_eq_true rfl⟩ rfl rfl (Nat.le_of_ble_eq_true rfl) (Nat.le_of_ble_eq_true rfl) (T_X5_isBelow E _ _ hc4) ?_
    refine s_if_ne (q := 18) (tgt := 24) dX5_apart_15 rfl rfl (fun hb5 => ?_) (fun hb5 => ?_)
    · rw [if_neg hb5] at h
      refine s_iload_n (q := 25) dX5_apart_24 rfl rfl 1 rfl ?_
      refine s_iload_n (q := 26) dX5_apart_25 rfl rfl 2 rfl ?_
      obtain ⟨q6, hc6, h⟩ := bnd h
      try dsimp only at h
      refine t_callS (q := 29) (N := mX5_stepsBetween) [.int x1, .int x2] dX5_apart_26 rfl nkX5_stepsBetween sX5_stepsBetween lX5_115 ⟨Nat.le_of_ble_eq_true rfl, Nat.le_of_ble_eq_true rfl⟩ rfl rfl (Nat.le_of_ble_eq_true rfl) (Nat.le_of_ble_eq_true rfl) (T_X5_stepsBetween E _ _ hc6) ?_
      obtain rfl := Option.some.inj h
      exact t_iret dX5_apart_29 rfl rfl
    · rw [if_pos hb5] at h
      refine s_aload_n (q := 19) dX5_apart_18 rfl rfl 0 rfl ?_
      refine s_iconst (q := 20) (v := 0) dX5_apart_19 rfl rfl ?_
      obtain ⟨q7, hc7, h⟩ := bnd h
      try dsimp only at h
      refine t_callV (q := 23) (N := mX5_finding) (a := eB E + 0) [.int 0] dX5_apart_20 rfl nkX5_finding vkX5_finding lX5_61 ⟨Nat.le_of_ble_eq_true rfl, Nat.le_of_ble_eq_true rfl⟩ (rc_obj (k := 0) rfl rfl) rfl rfl (Nat.le_of_ble_eq_true rfl) (Nat.le_of_ble_eq_true rfl) (T_X5_finding_0 E _ hc7) ?_
      obtain rfl := Option.some.inj h
      exact t_iret dX5_apart_23 rfl rfl
-- X6_less
def G_X6_less (x0 : Int32) (x1 : Int32) (S : ST) : Option (Int32 × ST) := (if x1 ≤ x0 then some (x1, S) else some (x0, S))
set_option maxHeartbeats 4000000 in
set_option maxRecDepth 100000 in
theorem T_X6_less (E : EV) (x0 : Int32) (x1 : Int32) {S : ST} {w : (Int32 × ST)} (h : G_X6_less x0 x1 S = some w) : SD E mX6_less 0 [(0, .int x0), (1, .int x1)] [] S (some (.int w.1)) w.2 := by
  unfold G_X6_less at h
  refine s_iload_n (q := 1) dX6_less_0 rfl rfl 0 rfl ?_
  refine s_iload_n (q := 2) dX6_less_1 rfl rfl 1 rfl ?_
  refine s_icmp_ge (q := 5) (tgt := 9) dX6_less_2 rfl rfl (fun hb1 => ?_) (fun hb1 => ?_)
  · rw [if_pos hb1] at h
    refine s_iload_n (q := 10) dX6_less_9 rfl rfl 1 rfl ?_
    obtain rfl := Option.some.inj h
    exact t_iret dX6_less_10 rfl rfl
  · rw [if_neg hb1] at h
    refine s_iload_n (q := 6) dX6_less_5 rfl rfl 0 rfl ?_
    refine s_goto (tgt := 10) dX6_less_6 rfl ?_
    obtain rfl := Option.some.inj h
    exact t_iret dX6_less_10 rfl rfl
-- X6_apartOf
def G_X6_apartOf (x0 : Int32) (x1 : Int32) (S : ST) : Option (Int32 × ST) := ((G_X6_less (irm ((x0 - x1) + 100) 100) (100 - (irm ((x0 - x1) + 100) 100)) S).bind fun q1 => some (q1.1, q1.2))
set_option maxHeartbeats 4000000 in
set_option maxRecDepth 100000 in
theorem T_X6_apartOf (E : EV) (x0 : Int32) (x1 : Int32) {S : ST} {w : (Int32 × ST)} (h : G_X6_apartOf x0 x1 S = some w) : SD E mX6_apartOf 0 [(0, .int x0), (1, .int x1)] [] S (some (.int w.1)) w.2 := by
  unfold G_X6_apartOf at h
  refine s_iload_n (q := 1) dX6_apartOf_0 rfl rfl 0 rfl ?_
  refine s_iload_n (q := 2) dX6_apartOf_1 rfl rfl 1 rfl ?_
  refine s_isub (q := 3) dX6_apartOf_2 rfl ?_
  refine s_bipush (q := 5) (v := 100) dX6_apartOf_3 rfl rfl ?_
  refine s_iadd (q := 6) dX6_apartOf_5 rfl ?_
  refine s_bipush (q := 8) (v := 100) dX6_apartOf_6 rfl rfl ?_
  refine v_irem (q := 9) dX6_apartOf_8 rfl (by decide) ?_
  refine s_istore_n (q := 10) (lv' := [(2, .int (irm ((x0 - x1) + 100) 100)), (0, .int x0), (1, .int x1)]) dX6_apartOf_9 rfl rfl (Nat.le_of_ble_eq_true rfl) rfl ?_
  refine s_iload_n (q := 11) dX6_apartOf_10 rfl rfl 0 rfl ?_
  refine s_bipush (q := 13) (v := 100) dX6_apartOf_11 rfl rfl ?_
  refine s_iload_n (q := 14) dX6_apartOf_13 rfl rfl 0 rfl ?_
  refine s_isub (q := 15) dX6_apartOf_14 rfl ?_
  obtain ⟨q1, hc1, h⟩ := bnd h
  try dsimp only at h
  refine t_callS (q := 18) (N := mX6_less) [.int (irm ((x0 - x1) + 100) 100), .int (100 - (irm ((x0 - x1) + 100) 100))] dX6_apartOf_15 rfl nkX6_less sX6_less lX6_85 ⟨Nat.le_of_ble_eq_true rfl, Nat.le_of_ble_eq_true rfl⟩ rfl rfl (Nat.le_of_ble_eq_true rfl) (Nat.le_of_ble_eq_true rfl) (T_X6_less E _ _ hc1) ?_
  obtain rfl := Option.some.inj h
  exact t_iret dX6_apartOf_18 rfl rfl
-- X6_apart
def G_X6_apart_51 (x1 : Int32) (x2 : Int32) (S : ST) : Option (Int32 × ST) := ((G_X6_isPlace x1 S).bind fun q1 => (if q1.1 = 0 then ((G_X6_no_51 0 q1.2).bind fun q3 => some (q3.1, q3.2)) else ((G_X6_isPlace x2 q1.2).bind fun q4 => (if q4.1 = 0 then ((G_X6_no_51 0 q4.2).bind fun q6 => some (q6.1, q6.2)) else ((G_X6_apartOf x1 x2 q4.2).bind fun q7 => some (q7.1, q7.2))))))
set_option maxHeartbeats 4000000 in
set_option maxRecDepth 100000 in
theorem T_X6_apart_51 (E : EV) (x1 : Int32) (x2 : Int32) {S : ST} {w : (Int32 × ST)} (h : G_X6_apart_51 x1 x2 S = some w) : SD E mX6_apart 0 [(0, .ref (eB E + 51)), (1, .int x1), (2, .int x2)] [] S (some (.int w.1)) w.2 := by
  unfold G_X6_apart_51 at h
  refine s_iload_n (q := 1) dX6_apart_0 rfl rfl 1 rfl ?_
  obtain ⟨q1, hc1, h⟩ := bnd h
  try dsimp only at h
  refine t_callS (q := 4) (N := mX6_isPlace) [.int x1] dX6_apart_1 rfl nkX6_isPlace sX6_isPlace lX6_91 ⟨Nat.le_of_ble_eq_true rfl, Nat.le_of_ble_eq_true rfl⟩ rfl rfl (Nat.le_of_ble_eq_true rfl) (Nat.le_of_ble_eq_true rfl) (T_X6_isPlace E _ hc1) ?_
  refine s_if_eq (q := 7) (tgt := 22) dX6_apart_4 rfl rfl (fun hb2 => ?_) (fun hb2 => ?_)
  · rw [if_pos hb2] at h
    refine s_aload_n (q := 23) dX6_apart_22 rfl rfl 0 rfl ?_
    refine s_iconst (q := 24) (v := 0) dX6_apart_23 rfl rfl ?_
    obtain ⟨q3, hc3, h⟩ := bnd h
    try dsimp only at h
    refine t_callV (q := 27) (N := mX6_no) (a := eB E + 51) [.int 0] dX6_apart_24 rfl nkX6_no vkX6_no lX6_94 ⟨Nat.le_of_ble_eq_true rfl, Nat.le_of_ble_eq_true rfl⟩ (rc_obj (k := 51) rfl rfl) rfl rfl (Nat.le_of_ble_eq_true rfl) (Nat.le_of_ble_eq_true rfl) (T_X6_no_51 E _ hc3) ?_
    obtain rfl := Option.some.inj h
    exact t_iret dX6_apart_27 rfl rfl
  · rw [if_neg hb2] at h
    refine s_iload_n (q := 8) dX6_apart_7 rfl rfl 2 rfl ?_
    obtain ⟨q4, hc4, h⟩ := bnd h
    try dsimp only at h
    refine t_callS (q := 11) (N := mX6_isPlace) [.int x2] dX6_apart_8 rfl nkX6_isPlace sX6_isPlace lX6_91 ⟨Nat.le_of_ble_eq_true rfl, Nat.le_of_ble_eq_true rfl⟩ rfl rfl (Nat.le_of_ble_eq_true rfl) (Nat.le_of_ble_eq_true rfl) (T_X6_isPlace E _ hc4) ?_
    refine s_if_eq (q := 14) (tgt := 22) dX6_apart_11 rfl rfl (fun hb5 => ?_) (fun hb5 => ?_)
    · rw [if_pos hb5] at h
      refine s_aload_n (q := 23) dX6_apart_22 rfl rfl 0 rfl ?_
      refine s_iconst (q := 24) (v := 0) dX6_apart_23 rfl rfl ?_
      obtain ⟨q6, hc6, h⟩ := bnd h
      try dsimp only at h
      refine t_callV (q := 27) (N := mX6_no) (a := eB E + 51) [.int 0] dX6_apart_24 rfl nkX6_no vkX6_no lX6_94 ⟨Nat.le_of_ble_eq_true rfl, Nat.le_of_ble_eq_true rfl⟩ (rc_obj (k := 51) rfl rfl) rfl rfl (Nat.le_of_ble_eq_true rfl) (Nat.le_of_ble_eq_true rfl) (T_X6_no_51 E _ hc6) ?_
      obtain rfl := Option.some.inj h
      exact t_iret dX6_apart_27 rfl rfl
    · rw [if_neg hb5] at h
      refine s_iload_n (q := 15) dX6_apart_14 rfl rfl 1 rfl ?_
      refine s_iload_n (q := 16) dX6_apart_15 rfl rfl 2 rfl ?_
      obtain ⟨q7, hc7, h⟩ := bnd h
      try dsimp only at h
      refine t_callS (q := 19) (N := mX6_apartOf) [.int x1, .int x2] dX6_apart_16 rfl nkX6_apartOf sX6_apartOf lX6_110 ⟨Nat.le_of_ble_eq_true rfl, Nat.le_of_ble_eq_true rfl⟩ rfl rfl (Nat.le_of_ble_eq_true rfl) (Nat.le_of_ble_eq_true rfl) (T_X6_apartOf E _ _ hc7) ?_
      refine s_goto (tgt := 27) dX6_apart_19 rfl ?_
      obtain rfl := Option.some.inj h
      exact t_iret dX6_apart_27 rfl rfl
-- X1_lifeNext
def G_X1_lifeNext_1 (x1 : Int32) (x2 : Int32) (x3 : Int32) (S : ST) : Option (Int32 × ST) := ((G_X1_wearOf_1 x1 x2 x3 S).bind fun q1 => some ((imx 0 (x2 - q1.1)), q1.2))
set_option maxHeartbeats 4000000 in
set_option maxRecDepth 100000 in
theorem T_X1_lifeNext_1 (E : EV) (x1 : Int32) (x2 : Int32) (x3 : Int32) {S : ST} {w : (Int32 × ST)} (h : G_X1_lifeNext_1 x1 x2 x3 S = some w) : SD E mX1_lifeNext 0 [(0, .ref (eB E + 1)), (1, .int x1), (2, .int x2), (3, .int x3)] [] S (some (.int w.1)) w.2 := by
  unfold G_X1_lifeNext_1 at h
  refine s_iconst (q := 1) (v := 0) dX1_lifeNext_0 rfl rfl ?_
  refine s_iload_n (q := 2) dX1_lifeNext_1 rfl rfl 2 rfl ?_
  refine s_aload_n (q := 3) dX1_lifeNext_2 rfl rfl 0 rfl ?_
  refine s_iload_n (q := 4) dX1_lifeNext_3 rfl rfl 1 rfl ?_
  refine s_iload_n (q := 5) dX1_lifeNext_4 rfl rfl 2 rfl ?_
  refine s_iload_n (q := 6) dX1_lifeNext_5 rfl rfl 3 rfl ?_
  obtain ⟨q1, hc1, h⟩ := bnd h
  try dsimp only at h
  refine t_callV (q := 9) (N := mX1_wearOf) (a := eB E + 1) [.int x1, .int x2, .int x3] dX1_lifeNext_6 rfl nkX1_wearOf vkX1_wearOf lX1_68 ⟨Nat.le_of_ble_eq_true rfl, Nat.le_of_ble_eq_true rfl⟩ (rc_obj (k := 1) rfl rfl) rfl rfl (Nat.le_of_ble_eq_true rfl) (Nat.le_of_ble_eq_true rfl) (T_X1_wearOf_1 E _ _ _ hc1) ?_
  refine s_isub (q := 10) dX1_lifeNext_9 rfl ?_
  refine v_max (q := 13) dX1_lifeNext_10 rfl lX1_72 (Nat.le_of_ble_eq_true rfl) (Nat.le_of_ble_eq_true rfl) ?_
  obtain rfl := Option.some.inj h
  exact t_iret dX1_lifeNext_13 rfl rfl
-- X1_wearDown
def G_X1_wearDown_1_4_2 : Nat → Int32 → ST → Option (ST)
  | 0, _, _ => none
  | n + 1, x2, S => (if (S.1 1 0) ≤ x2 then some (S) else (if inB x2 10 = true then (if inB x2 10 = true then ((G_X1_lifeNext_1 (S.1 2 x2.toNatClampNeg) (S.1 4 x2.toNatClampNeg) (S.1 8 0) S).bind fun q4 => (if inB x2 10 = true then G_X1_wearDown_1_4_2 n (x2 + 1) (wr q4.2 4 x2.toNatClampNeg q4.1) else none)) else none) else none))
set_option maxHeartbeats 4000000 in
set_option maxRecDepth 100000 in
theorem T_X1_wearDown_1_4_2 (E : EV) : ∀ (n : Nat) (x2 : Int32) (S : ST), ∀ (w : (ST)), G_X1_wearDown_1_4_2 n x2 S = some w → ∀ {Q : Option Value → ST → Prop}, SS E mX1_wearDown 38 [] [] w Q → SS E mX1_wearDown 2 [(0, .ref (eB E + 1)), (1, .ref (eB E + 4)), (2, .int x2)] [] S Q := by
  intro n
  induction n with
  | zero =>
    intro x2 S w h
    cases h
  | succ n ih =>
    intro x2 S w h Q K
    unfold G_X1_wearDown_1_4_2 at h
    refine s_iload_n (q := 3) dX1_wearDown_2 rfl rfl 2 rfl ?_
    refine s_aload_n (q := 4) dX1_wearDown_3 rfl rfl 0 rfl ?_
    refine t_getI (q := 7) (k := 1) (f := 0) (v := (S.1 1 0)) dX1_wearDown_4 rfl rfl rfl rfl inX1 (Nat.le_of_ble_eq_true rfl) fX1_9 rfl ?_
    refine s_icmp_ge (q := 10) (tgt := 38) dX1_wearDown_7 rfl rfl (fun hb1 => ?_) (fun hb1 => ?_)
    · rw [if_pos hb1] at h
      obtain rfl := Option.some.inj h
      exact t_sub [] rfl K
    · rw [if_neg hb1] at h
      refine s_aload_n (q := 11) dX1_wearDown_10 rfl rfl 1 rfl ?_
      refine s_iload_n (q := 12) dX1_wearDown_11 rfl rfl 2 rfl ?_
      refine s_aload_n (q := 13) dX1_wearDown_12 rfl rfl 0 rfl ?_
      refine s_aload_n (q := 14) dX1_wearDown_13 rfl rfl 0 rfl ?_
      refine t_getR (q := 17) (k := 1) (f := 1) (t := 2) dX1_wearDown_14 rfl rfl rfl rfl inX1 (Nat.le_of_ble_eq_true rfl) fX1_15 ?_
      refine s_iload_n (q := 18) dX1_wearDown_17 rfl rfl 2 rfl ?_
      obtain ⟨hg2, h⟩ := chk_some h
      refine u_iald (q := 19) (k := 2) (v := (S.1 2 x2.toNatClampNeg)) dX1_wearDown_18 rfl rfl (inB_in hg2) rfl rfl ?_
      refine s_aload_n (q := 20) dX1_wearDown_19 rfl rfl 1 rfl ?_
      refine s_iload_n (q := 21) dX1_wearDown_20 rfl rfl 2 rfl ?_
      obtain ⟨hg3, h⟩ := chk_some h
      refine u_iald (q := 22) (k := 4) (v := (S.1 4 x2.toNatClampNeg)) dX1_wearDown_21 rfl rfl (inB_in hg3) rfl rfl ?_
      refine s_aload_n (q := 23) dX1_wearDown_22 rfl rfl 0 rfl ?_
      refine t_getR (q := 26) (k := 1) (f := 7) (t := 8) dX1_wearDown_23 rfl rfl rfl rfl inX1 (Nat.le_of_ble_eq_true rfl) fX1_34 ?_
      refine s_iconst (q := 27) (v := 0) dX1_wearDown_26 rfl rfl ?_
      refine u_iald (q := 28) (k := 8) (j := 0) (v := (S.1 8 0)) dX1_wearDown_27 rfl rfl (inB_in (by decide)) (by decide) rfl ?_
      obtain ⟨q4, hc4, h⟩ := bnd h
      try dsimp only at h
      refine t_callV (q := 31) (N := mX1_lifeNext) (a := eB E + 1) [.int (S.1 2 x2.toNatClampNeg), .int (S.1 4 x2.toNatClampNeg), .int (S.1 8 0)] dX1_wearDown_28 rfl nkX1_lifeNext vkX1_lifeNext lX1_78 ⟨Nat.le_of_ble_eq_true rfl, Nat.le_of_ble_eq_true rfl⟩ (rc_obj (k := 1) rfl rfl) rfl rfl (Nat.le_of_ble_eq_true rfl) (Nat.le_of_ble_eq_true rfl) (T_X1_lifeNext_1 E _ _ _ hc4) ?_
      obtain ⟨hg5, h⟩ := chk_some h
      refine u_iast (q := 32) (k := 4) dX1_wearDown_31 rfl rfl (inB_in hg5) rfl ?_
      refine s_iinc (q := 35) (j := 2) (v := (x2 + 1)) (lv' := [(2, .int (x2 + 1)), (0, .ref (eB E + 1)), (1, .ref (eB E + 4))]) dX1_wearDown_32 rfl rfl rfl (Nat.le_of_ble_eq_true rfl) rfl ?_
      refine s_goto (tgt := 2) dX1_wearDown_35 rfl ?_
      exact t_sub [1, 2, 0] rfl (ih _ _ _ h K)
def G_X1_wearDown_1_4  (S : ST) : Option (Unit × ST) := (G_X1_wearDown_1_4_2 3000 0 S).bind fun q6 => some ((), q6)
set_option maxHeartbeats 4000000 in
set_option maxRecDepth 100000 in
theorem T_X1_wearDown_1_4 (E : EV)  {S : ST} {w : (Unit × ST)} (h : G_X1_wearDown_1_4  S = some w) : SD E mX1_wearDown 0 [(0, .ref (eB E + 1)), (1, .ref (eB E + 4))] [] S none w.2 := by
  unfold G_X1_wearDown_1_4 at h
  refine s_iconst (q := 1) (v := 0) dX1_wearDown_0 rfl rfl ?_
  refine s_istore_n (q := 2) (lv' := [(2, .int 0), (0, .ref (eB E + 1)), (1, .ref (eB E + 4))]) dX1_wearDown_1 rfl rfl (Nat.le_of_ble_eq_true rfl) rfl ?_
  obtain ⟨q6, hc6, h⟩ := bnd h
  try dsimp only at h
  refine t_sub [1, 2, 0] rfl (T_X1_wearDown_1_4_2 E _ _ _ _ hc6 ?_)
  obtain rfl := Option.some.inj h
  exact t_vret dX1_wearDown_38 rfl rfl
-- X1_passNight
def G_X1_passNight_1  (S : ST) : Option (Unit × ST) := ((G_X1_wearDown_1_4  S).bind fun q1 => some ((), (wr q1.2 1 8 ((q1.2.1 1 8) + 1))))
set_option maxHeartbeats 4000000 in
set_option maxRecDepth 100000 in
theorem T_X1_passNight_1 (E : EV)  {S : ST} {w : (Unit × ST)} (h : G_X1_passNight_1  S = some w) : SD E mX1_passNight 0 [(0, .ref (eB E + 1))] [] S none w.2 := by
  unfold G_X1_passNight_1 at h
  refine s_aload_n (q := 1) dX1_passNight_0 rfl rfl 0 rfl ?_
  refine s_aload_n (q := 2) dX1_passNight_1 rfl rfl 0 rfl ?_
  refine t_getR (q := 5) (k := 1) (f := 3) (t := 4) dX1_passNight_2 rfl rfl rfl rfl inX1 (Nat.le_of_ble_eq_true rfl) fX1_22 ?_
  obtain ⟨q1, hc1, h⟩ := bnd h
  try dsimp only at h
  refine t_callV (q := 8) (N := mX1_wearDown) (a := eB E + 1) [.ref (eB E + 4)] dX1_passNight_5 rfl nkX1_wearDown vkX1_wearDown lX1_85 ⟨Nat.le_of_ble_eq_true rfl, Nat.le_of_ble_eq_true rfl⟩ (rc_obj (k := 1) rfl rfl) rfl rfl (Nat.le_of_ble_eq_true rfl) (Nat.le_of_ble_eq_true rfl) (T_X1_wearDown_1_4 E  hc1) ?_
  refine s_aload_n (q := 9) dX1_passNight_8 rfl rfl 0 rfl ?_
  refine s_dup (q := 10) dX1_passNight_9 rfl rfl ?_
  refine t_getI (q := 13) (k := 1) (f := 8) (v := (q1.2.1 1 8)) dX1_passNight_10 rfl rfl rfl rfl inX1 (Nat.le_of_ble_eq_true rfl) fX1_37 rfl ?_
  refine s_iconst (q := 14) (v := 1) dX1_passNight_13 rfl rfl ?_
  refine s_iadd (q := 15) dX1_passNight_14 rfl ?_
  refine t_putI (q := 18) (k := 1) (f := 8) dX1_passNight_15 rfl rfl rfl rfl inX1 tyX1_ok nmX1 (Nat.le_of_ble_eq_true rfl) fX1_37 rfl rfl rfl ?_
  obtain rfl := Option.some.inj h
  exact t_vret dX1_passNight_18 rfl rfl
-- X1_brightSet
def G_X1_brightSet_1_4_4 : Nat → Int32 → Int32 → ST → Option (Int32 × ST)
  | 0, _, _, _ => none
  | n + 1, x2, x3, S => (if (S.1 1 0) ≤ x3 then some (x2, S) else (if inB x3 10 = true then (if inB x3 10 = true then ((G_X1_isBright_1 (S.1 2 x3.toNatClampNeg) (S.1 4 x3.toNatClampNeg) S).bind fun q4 => (if q4.1 = 0 then G_X1_brightSet_1_4_4 n x2 (x3 + 1) q4.2 else G_X1_brightSet_1_4_4 n (x2 ||| (1 <<< (x3 &&& 31))) (x3 + 1) q4.2)) else none) else none))
set_option maxHeartbeats 4000000 in
set_option maxRecDepth 100000 in
theorem T_X1_brightSet_1_4_4 (E : EV) : ∀ (n : Nat) (x2 : Int32) (x3 : Int32) (S : ST), ∀ (w : (Int32 × ST)), G_X1_brightSet_1_4_4 n x2 x3 S = some w → ∀ {Q : Option Value → ST → Prop}, SS E mX1_brightSet 40 [(2, .int w.1)] [] w.2 Q → SS E mX1_brightSet 4 [(0, .ref (eB E + 1)), (1, .ref (eB E + 4)), (2, .int x2), (3, .int x3)] [] S Q := by
  intro n
  induction n with
  | zero =>
    intro x2 x3 S w h
    cases h
  | succ n ih =>
    intro x2 x3 S w h Q K
    unfold G_X1_brightSet_1_4_4 at h
    refine s_iload_n (q := 5) dX1_brightSet_4 rfl rfl 3 rfl ?_
    refine s_aload_n (q := 6) dX1_brightSet_5 rfl rfl 0 rfl ?_
    refine t_getI (q := 9) (k := 1) (f := 0) (v := (S.1 1 0)) dX1_brightSet_6 rfl rfl rfl rfl inX1 (Nat.le_of_ble_eq_true rfl) fX1_9 rfl ?_
    refine s_icmp_ge (q := 12) (tgt := 40) dX1_brightSet_9 rfl rfl (fun hb1 => ?_) (fun hb1 => ?_)
    · rw [if_pos hb1] at h
      obtain rfl := Option.some.inj h
      exact t_sub [2] rfl K
    · rw [if_neg hb1] at h
      refine s_aload_n (q := 13) dX1_brightSet_12 rfl rfl 0 rfl ?_
      refine s_aload_n (q := 14) dX1_brightSet_13 rfl rfl 0 rfl ?_
      refine t_getR (q := 17) (k := 1) (f := 1) (t := 2) dX1_brightSet_14 rfl rfl rfl rfl inX1 (Nat.le_of_ble_eq_true rfl) fX1_15 ?_
      refine s_iload_n (q := 18) dX1_brightSet_17 rfl rfl 3 rfl ?_
      obtain ⟨hg2, h⟩ := chk_some h
      refine u_iald (q := 19) (k := 2) (v := (S.1 2 x3.toNatClampNeg)) dX1_brightSet_18 rfl rfl (inB_in hg2) rfl rfl ?_
      refine s_aload_n (q := 20) dX1_brightSet_19 rfl rfl 1 rfl ?_
      refine s_iload_n (q := 21) dX1_brightSet_20 rfl rfl 3 rfl ?_
      obtain ⟨hg3, h⟩ := chk_some h
      refine u_iald (q := 22) (k := 4) (v := (S.1 4 x3.toNatClampNeg)) dX1_brightSet_21 rfl rfl (inB_in hg3) rfl rfl ?_
      obtain ⟨q4, hc4, h⟩ := bnd h
      try dsimp only at h
      refine t_callV (q := 25) (N := mX1_isBright) (a := eB E + 1) [.int (S.1 2 x3.toNatClampNeg), .int (S.1 4 x3.toNatClampNeg)] dX1_brightSet_22 rfl nkX1_isBright vkX1_isBright lX1_81 ⟨Nat.le_of_ble_eq_true rfl, Nat.le_of_ble_eq_true rfl⟩ (rc_obj (k := 1) rfl rfl) rfl rfl (Nat.le_of_ble_eq_true rfl) (Nat.le_of_ble_eq_true rfl) (T_X1_isBright_1 E _ _ hc4) ?_
      refine s_if_eq (q := 28) (tgt := 34) dX1_brightSet_25 rfl rfl (fun hb5 => ?_) (fun hb5 => ?_)
      · rw [if_pos hb5] at h
        refine s_iinc (q := 37) (j := 3) (v := (x3 + 1)) (lv' := [(3, .int (x3 + 1)), (0, .ref (eB E + 1)), (1, .ref (eB E + 4)), (2, .int x2)]) dX1_brightSet_34 rfl rfl rfl (Nat.le_of_ble_eq_true rfl) rfl ?_
        refine s_goto (tgt := 4) dX1_brightSet_37 rfl ?_
        exact t_sub [1, 2, 3, 0] rfl (ih _ _ _ _ h K)
      · rw [if_neg hb5] at h
        refine s_iload_n (q := 29) dX1_brightSet_28 rfl rfl 2 rfl ?_
        refine s_iconst (q := 30) (v := 1) dX1_brightSet_29 rfl rfl ?_
        refine s_iload_n (q := 31) dX1_brightSet_30 rfl rfl 3 rfl ?_
        refine s_ishl (q := 32) dX1_brightSet_31 rfl ?_
        refine s_ior (q := 33) dX1_brightSet_32 rfl ?_
        refine s_istore_n (q := 34) (lv' := [(2, .int (x2 ||| (1 <<< (x3 &&& 31)))), (0, .ref (eB E + 1)), (1, .ref (eB E + 4)), (3, .int x3)]) dX1_brightSet_33 rfl rfl (Nat.le_of_ble_eq_true rfl) rfl ?_
        refine s_iinc (q := 37) (j := 3) (v := (x3 + 1)) (lv' := [(3, .int (x3 + 1)), (2, .int (x2 ||| (1 <<< (x3 &&& 31)))), (0, .ref (eB E + 1)), (1, .ref (eB E + 4))]) dX1_brightSet_34 rfl rfl rfl (Nat.le_of_ble_eq_true rfl) rfl ?_
        refine s_goto (tgt := 4) dX1_brightSet_37 rfl ?_
        exact t_sub [2, 3, 1, 0] rfl (ih _ _ _ _ h K)
def G_X1_brightSet_1_4  (S : ST) : Option (Int32 × ST) := (G_X1_brightSet_1_4_4 3000 0 0 S).bind fun q6 => some (q6.1, q6.2)
set_option maxHeartbeats 4000000 in
set_option maxRecDepth 100000 in
theorem T_X1_brightSet_1_4 (E : EV)  {S : ST} {w : (Int32 × ST)} (h : G_X1_brightSet_1_4  S = some w) : SD E mX1_brightSet 0 [(0, .ref (eB E + 1)), (1, .ref (eB E + 4))] [] S (some (.int w.1)) w.2 := by
  unfold G_X1_brightSet_1_4 at h
  refine s_iconst (q := 1) (v := 0) dX1_brightSet_0 rfl rfl ?_
  refine s_istore_n (q := 2) (lv' := [(2, .int 0), (0, .ref (eB E + 1)), (1, .ref (eB E + 4))]) dX1_brightSet_1 rfl rfl (Nat.le_of_ble_eq_true rfl) rfl ?_
  refine s_iconst (q := 3) (v := 0) dX1_brightSet_2 rfl rfl ?_
  refine s_istore_n (q := 4) (lv' := [(3, .int 0), (2, .int 0), (0, .ref (eB E + 1)), (1, .ref (eB E + 4))]) dX1_brightSet_3 rfl rfl (Nat.le_of_ble_eq_true rfl) rfl ?_
  obtain ⟨q6, hc6, h⟩ := bnd h
  try dsimp only at h
  refine t_sub [2, 3, 1, 0] rfl (T_X1_brightSet_1_4_4 E _ _ _ _ _ hc6 ?_)
  refine s_iload_n (q := 41) dX1_brightSet_40 rfl rfl 0 rfl ?_
  obtain rfl := Option.some.inj h
  exact t_iret dX1_brightSet_41 rfl rfl
-- J6_bitCount_0f7a4
def G_J6_bitCount_0f7a4 (x0 : Int32) (S : ST) : Option (Int32 × ST) := some (((((((((x0 - ((ush x0 1) &&& 1431655765)) &&& 858993459) + ((ush (x0 - ((ush x0 1) &&& 1431655765)) 2) &&& 858993459)) + (ush (((x0 - ((ush x0 1) &&& 1431655765)) &&& 858993459) + ((ush (x0 - ((ush x0 1) &&& 1431655765)) 2) &&& 858993459)) 4)) &&& 252645135) + (ush (((((x0 - ((ush x0 1) &&& 1431655765)) &&& 858993459) + ((ush (x0 - ((ush x0 1) &&& 1431655765)) 2) &&& 858993459)) + (ush (((x0 - ((ush x0 1) &&& 1431655765)) &&& 858993459) + ((ush (x0 - ((ush x0 1) &&& 1431655765)) 2) &&& 858993459)) 4)) &&& 252645135) 8)) + (ush ((((((x0 - ((ush x0 1) &&& 1431655765)) &&& 858993459) + ((ush (x0 - ((ush x0 1) &&& 1431655765)) 2) &&& 858993459)) + (ush (((x0 - ((ush x0 1) &&& 1431655765)) &&& 858993459) + ((ush (x0 - ((ush x0 1) &&& 1431655765)) 2) &&& 858993459)) 4)) &&& 252645135) + (ush (((((x0 - ((ush x0 1) &&& 1431655765)) &&& 858993459) + ((ush (x0 - ((ush x0 1) &&& 1431655765)) 2) &&& 858993459)) + (ush (((x0 - ((ush x0 1) &&& 1431655765)) &&& 858993459) + ((ush (x0 - ((ush x0 1) &&& 1431655765)) 2) &&& 858993459)) 4)) &&& 252645135) 8)) 16)) &&& 63), S)
set_option maxHeartbeats 4000000 in
set_option maxRecDepth 100000 in
theorem T_J6_bitCount_0f7a4 (E : EV) (x0 : Int32) {S : ST} {w : (Int32 × ST)} (h : G_J6_bitCount_0f7a4 x0 S = some w) : SD E mJ6_bitCount_0f7a4 0 [(0, .int x0)] [] S (some (.int w.1)) w.2 := by
  unfold G_J6_bitCount_0f7a4 at h
  refine s_iload_n (q := 1) dJ6_bitCount_0f7a4_0 rfl rfl 0 rfl ?_
  refine s_iload_n (q := 2) dJ6_bitCount_0f7a4_1 rfl rfl 0 rfl ?_
  refine s_iconst (q := 3) (v := 1) dJ6_bitCount_0f7a4_2 rfl rfl ?_
  refine v_iushr (q := 4) dJ6_bitCount_0f7a4_3 rfl ?_
  refine s_ldcw (q := 7) (v := 1431655765) dJ6_bitCount_0f7a4_4 rfl kJ6_265 ?_
  refine s_iand (q := 8) dJ6_bitCount_0f7a4_7 rfl ?_
  refine s_isub (q := 9) dJ6_bitCount_0f7a4_8 rfl ?_
  refine s_istore_n (q := 10) (lv' := [(0, .int (x0 - ((ush x0 1) &&& 1431655765)))]) dJ6_bitCount_0f7a4_9 rfl rfl (Nat.le_of_ble_eq_true rfl) rfl ?_
  refine s_iload_n (q := 11) dJ6_bitCount_0f7a4_10 rfl rfl 0 rfl ?_
  refine s_ldcw (q := 14) (v := 858993459) dJ6_bitCount_0f7a4_11 rfl kJ6_266 ?_
  refine s_iand (q := 15) dJ6_bitCount_0f7a4_14 rfl ?_
  refine s_iload_n (q := 16) dJ6_bitCount_0f7a4_15 rfl rfl 0 rfl ?_
  refine s_iconst (q := 17) (v := 2) dJ6_bitCount_0f7a4_16 rfl rfl ?_
  refine v_iushr (q := 18) dJ6_bitCount_0f7a4_17 rfl ?_
  refine s_ldcw (q := 21) (v := 858993459) dJ6_bitCount_0f7a4_18 rfl kJ6_266 ?_
  refine s_iand (q := 22) dJ6_bitCount_0f7a4_21 rfl ?_
  refine s_iadd (q := 23) dJ6_bitCount_0f7a4_22 rfl ?_
  refine s_istore_n (q := 24) (lv' := [(0, .int (((x0 - ((ush x0 1) &&& 1431655765)) &&& 858993459) + ((ush (x0 - ((ush x0 1) &&& 1431655765)) 2) &&& 858993459)))]) dJ6_bitCount_0f7a4_23 rfl rfl (Nat.le_of_ble_eq_true rfl) rfl ?_
  refine s_iload_n (q := 25) dJ6_bitCount_0f7a4_24 rfl rfl 0 rfl ?_
  refine s_iload_n (q := 26) dJ6_bitCount_0f7a4_25 rfl rfl 0 rfl ?_
  refine s_iconst (q := 27) (v := 4) dJ6_bitCount_0f7a4_26 rfl rfl ?_
  refine v_iushr (q := 28) dJ6_bitCount_0f7a4_27 rfl ?_
  refine s_iadd (q := 29) dJ6_bitCount_0f7a4_28 rfl ?_
  refine s_ldcw (q := 32) (v := 252645135) dJ6_bitCount_0f7a4_29 rfl kJ6_267 ?_
  refine s_iand (q := 33) dJ6_bitCount_0f7a4_32 rfl ?_
  refine s_istore_n (q := 34) (lv' := [(0, .int (((((x0 - ((ush x0 1) &&& 1431655765)) &&& 858993459) + ((ush (x0 - ((ush x0 1) &&& 1431655765)) 2) &&& 858993459)) + (ush (((x0 - ((ush x0 1) &&& 1431655765)) &&& 858993459) + ((ush (x0 - ((ush x0 1) &&& 1431655765)) 2) &&& 858993459)) 4)) &&& 252645135))]) dJ6_bitCount_0f7a4_33 rfl rfl (Nat.le_of_ble_eq_true rfl) rfl ?_
  refine s_iload_n (q := 35) dJ6_bitCount_0f7a4_34 rfl rfl 0 rfl ?_
  refine s_iload_n (q := 36) dJ6_bitCount_0f7a4_35 rfl rfl 0 rfl ?_
  refine s_bipush (q := 38) (v := 8) dJ6_bitCount_0f7a4_36 rfl rfl ?_
  refine v_iushr (q := 39) dJ6_bitCount_0f7a4_38 rfl ?_
  refine s_iadd (q := 40) dJ6_bitCount_0f7a4_39 rfl ?_
  refine s_istore_n (q := 41) (lv' := [(0, .int ((((((x0 - ((ush x0 1) &&& 1431655765)) &&& 858993459) + ((ush (x0 - ((ush x0 1) &&& 1431655765)) 2) &&& 858993459)) + (ush (((x0 - ((ush x0 1) &&& 1431655765)) &&& 858993459) + ((ush (x0 - ((ush x0 1) &&& 1431655765)) 2) &&& 858993459)) 4)) &&& 252645135) + (ush (((((x0 - ((ush x0 1) &&& 1431655765)) &&& 858993459) + ((ush (x0 - ((ush x0 1) &&& 1431655765)) 2) &&& 858993459)) + (ush (((x0 - ((ush x0 1) &&& 1431655765)) &&& 858993459) + ((ush (x0 - ((ush x0 1) &&& 1431655765)) 2) &&& 858993459)) 4)) &&& 252645135) 8)))]) dJ6_bitCount_0f7a4_40 rfl rfl (Nat.le_of_ble_eq_true rfl) rfl ?_
  refine s_iload_n (q := 42) dJ6_bitCount_0f7a4_41 rfl rfl 0 rfl ?_
  refine s_iload_n (q := 43) dJ6_bitCount_0f7a4_42 rfl rfl 0 rfl ?_
  refine s_bipush (q := 45) (v := 16) dJ6_bitCount_0f7a4_43 rfl rfl ?_
  refine v_iushr (q := 46) dJ6_bitCount_0f7a4_45 rfl ?_
  refine s_iadd (q := 47) dJ6_bitCount_0f7a4_46 rfl ?_
  refine s_istore_n (q := 48) (lv' := [(0, .int (((((((x0 - ((ush x0 1) &&& 1431655765)) &&& 858993459) + ((ush (x0 - ((ush x0 1) &&& 1431655765)) 2) &&& 858993459)) + (ush (((x0 - ((ush x0 1) &&& 1431655765)) &&& 858993459) + ((ush (x0 - ((ush x0 1) &&& 1431655765)) 2) &&& 858993459)) 4)) &&& 252645135) + (ush (((((x0 - ((ush x0 1) &&& 1431655765)) &&& 858993459) + ((ush (x0 - ((ush x0 1) &&& 1431655765)) 2) &&& 858993459)) + (ush (((x0 - ((ush x0 1) &&& 1431655765)) &&& 858993459) + ((ush (x0 - ((ush x0 1) &&& 1431655765)) 2) &&& 858993459)) 4)) &&& 252645135) 8)) + (ush ((((((x0 - ((ush x0 1) &&& 1431655765)) &&& 858993459) + ((ush (x0 - ((ush x0 1) &&& 1431655765)) 2) &&& 858993459)) + (ush (((x0 - ((ush x0 1) &&& 1431655765)) &&& 858993459) + ((ush (x0 - ((ush x0 1) &&& 1431655765)) 2) &&& 858993459)) 4)) &&& 252645135) + (ush (((((x0 - ((ush x0 1) &&& 1431655765)) &&& 858993459) + ((ush (x0 - ((ush x0 1) &&& 1431655765)) 2) &&& 858993459)) + (ush (((x0 - ((ush x0 1) &&& 1431655765)) &&& 858993459) + ((ush (x0 - ((ush x0 1) &&& 1431655765)) 2) &&& 858993459)) 4)) &&& 252645135) 8)) 16)))]) dJ6_bitCount_0f7a4_47 rfl rfl (Nat.le_of_ble_eq_true rfl) rfl ?_
  refine s_iload_n (q := 49) dJ6_bitCount_0f7a4_48 rfl rfl 0 rfl ?_
  refine s_bipush (q := 51) (v := 63) dJ6_bitCount_0f7a4_49 rfl rfl ?_
  refine s_iand (q := 52) dJ6_bitCount_0f7a4_51 rfl ?_
  obtain rfl := Option.some.inj h
  exact t_iret dJ6_bitCount_0f7a4_52 rfl rfl
-- X5_go
def G_X5_go_0_39 : Nat → Int32 → Int32 → ST → Option (ST)
  | 0, _, _, _ => none
  | n + 1, x1, x2, S => (if x1 ≤ x2 then some (S) else ((G_X1_passNight_1  S).bind fun q6 => G_X5_go_0_39 n x1 (x2 + 1) q6.2))
set_option maxHeartbeats 4000000 in
set_option maxRecDepth 100000 in
theorem T_X5_go_0_39 (E : EV) : ∀ (n : Nat) (x1 : Int32) (x2 : Int32) (S : ST), ∀ (w : (ST)), G_X5_go_0_39 n x1 x2 S = some w → ∀ {Q : Option Value → ST → Prop}, SS E mX5_go 57 [(0, .ref (eB E + 0))] [] w Q → SS E mX5_go 39 [(0, .ref (eB E + 0)), (1, .int x1), (2, .int x2)] [] S Q := by
  intro n
  induction n with
  | zero =>
    intro x1 x2 S w h
    cases h
  | succ n ih =>
    intro x1 x2 S w h Q K
    unfold G_X5_go_0_39 at h
    refine s_iload_n (q := 40) dX5_go_39 rfl rfl 2 rfl ?_
    refine s_iload_n (q := 41) dX5_go_40 rfl rfl 1 rfl ?_
    refine s_icmp_ge (q := 44) (tgt := 57) dX5_go_41 rfl rfl (fun hb5 => ?_) (fun hb5 => ?_)
    · rw [if_pos hb5] at h
      obtain rfl := Option.some.inj h
      exact t_sub [0] rfl K
    · rw [if_neg hb5] at h
      refine s_aload_n (q := 45) dX5_go_44 rfl rfl 0 rfl ?_
      refine t_getR (q := 48) (k := 0) (f := 0) (t := 1) dX5_go_45 rfl rfl rfl rfl inX5 (Nat.le_of_ble_eq_true rfl) fX5_10 ?_
      obtain ⟨q6, hc6, h⟩ := bnd h
      try dsimp only at h
      refine t_callV (q := 51) (N := mX1_passNight) (a := eB E + 1) [] dX5_go_48 rfl nkX1_passNight vkX1_passNight lX5_123 ⟨Nat.le_of_ble_eq_true rfl, Nat.le_of_ble_eq_true rfl⟩ (rc_obj (k := 1) rfl rfl) rfl rfl (Nat.le_of_ble_eq_true rfl) (Nat.le_of_ble_eq_true rfl) (T_X1_passNight_1 E  hc6) ?_
      refine s_iinc (q := 54) (j := 2) (v := (x2 + 1)) (lv' := [(2, .int (x2 + 1)), (0, .ref (eB E + 0)), (1, .int x1)]) dX5_go_51 rfl rfl rfl (Nat.le_of_ble_eq_true rfl) rfl ?_
      refine s_goto (tgt := 39) dX5_go_54 rfl ?_
      exact t_sub [1, 2, 0] rfl (ih _ _ _ _ h K)
def G_X5_go_0 (x1 : Int32) (S : ST) : Option (Int32 × ST) := (if x1 < 1 then ((G_X5_finding_0 0 S).bind fun q2 => some (q2.1, q2.2)) else (if x1 ≤ 60 then (if ((S.1 1 8) + x1) ≤ 99999 then (G_X5_go_0_39 3000 x1 0 S).bind fun q7 => ((G_X1_brightSet_1_4  q7).bind fun q8 => ((G_J6_bitCount_0f7a4 q8.1 q8.2).bind fun q9 => some (q9.1, q9.2))) else ((G_X5_finding_0 4 S).bind fun q10 => some (q10.1, q10.2))) else ((G_X5_finding_0 0 S).bind fun q11 => some (q11.1, q11.2))))
set_option maxHeartbeats 4000000 in
set_option maxRecDepth 100000 in
theorem T_X5_go_0 (E : EV) (x1 : Int32) {S : ST} {w : (Int32 × ST)} (h : G_X5_go_0 x1 S = some w) : SD E mX5_go 0 [(0, .ref (eB E + 0)), (1, .int x1)] [] S (some (.int w.1)) w.2 := by
  unfold G_X5_go_0 at h
  refine s_iload_n (q := 1) dX5_go_0 rfl rfl 1 rfl ?_
  refine s_iconst (q := 2) (v := 1) dX5_go_1 rfl rfl ?_
  refine s_icmp_lt (q := 5) (tgt := 11) dX5_go_2 rfl rfl (fun hb1 => ?_) (fun hb1 => ?_)
  · rw [if_pos hb1] at h
    refine s_aload_n (q := 12) dX5_go_11 rfl rfl 0 rfl ?_
    refine s_iconst (q := 13) (v := 0) dX5_go_12 rfl rfl ?_
    obtain ⟨q2, hc2, h⟩ := bnd h
    try dsimp only at h
    refine t_callV (q := 16) (N := mX5_finding) (a := eB E + 0) [.int 0] dX5_go_13 rfl nkX5_finding vkX5_finding lX5_61 ⟨Nat.le_of_ble_eq_true rfl, Nat.le_of_ble_eq_true rfl⟩ (rc_obj (k := 0) rfl rfl) rfl rfl (Nat.le_of_ble_eq_true rfl) (Nat.le_of_ble_eq_true rfl) (T_X5_finding_0 E _ hc2) ?_
    obtain rfl := Option.some.inj h
    exact t_iret dX5_go_16 rfl rfl
  · rw [if_neg hb1] at h
    refine s_iload_n (q := 6) dX5_go_5 rfl rfl 1 rfl ?_
    refine s_bipush (q := 8) (v := 60) dX5_go_6 rfl rfl ?_
    refine s_icmp_le (q := 11) (tgt := 17) dX5_go_8 rfl rfl (fun hb3 => ?_) (fun hb3 => ?_)
    · rw [if_pos hb3] at h
      refine s_aload_n (q := 18) dX5_go_17 rfl rfl 0 rfl ?_
      refine t_getR (q := 21) (k := 0) (f := 0) (t := 1) dX5_go_18 rfl rfl rfl rfl inX5 (Nat.le_of_ble_eq_true rfl) fX5_10 ?_
      refine t_getI (q := 24) (k := 1) (f := 8) (v := (S.1 1 8)) dX5_go_21 rfl rfl rfl rfl inX1 (Nat.le_of_ble_eq_true rfl) fX5_119 rfl ?_
      refine s_iload_n (q := 25) dX5_go_24 rfl rfl 1 rfl ?_
      refine s_iadd (q := 26) dX5_go_25 rfl ?_
      refine s_ldc (q := 28) (v := 99999) dX5_go_26 rfl kX5_122 ?_
      refine s_icmp_le (q := 31) (tgt := 37) dX5_go_28 rfl rfl (fun hb4 => ?_) (fun hb4 => ?_)
      · rw [if_pos hb4] at h
        refine s_iconst (q := 38) (v := 0) dX5_go_37 rfl rfl ?_
        refine s_istore_n (q := 39) (lv' := [(2, .int 0), (0, .ref (eB E + 0)), (1, .int x1)]) dX5_go_38 rfl rfl (Nat.le_of_ble_eq_true rfl) rfl ?_
        obtain ⟨q7, hc7, h⟩ := bnd h
        try dsimp only at h
        refine t_sub [1, 2, 0] rfl (T_X5_go_0_39 E _ _ _ _ _ hc7 ?_)
        refine s_aload_n (q := 58) dX5_go_57 rfl rfl 0 rfl ?_
        refine t_getR (q := 61) (k := 0) (f := 0) (t := 1) dX5_go_58 rfl rfl rfl rfl inX5 (Nat.le_of_ble_eq_true rfl) fX5_10 ?_
        refine s_aload_n (q := 62) dX5_go_61 rfl rfl 0 rfl ?_
        refine t_getR (q := 65) (k := 0) (f := 0) (t := 1) dX5_go_62 rfl rfl rfl rfl inX5 (Nat.le_of_ble_eq_true rfl) fX5_10 ?_
        refine t_getR (q := 68) (k := 1) (f := 3) (t := 4) dX5_go_65 rfl rfl rfl rfl inX1 (Nat.le_of_ble_eq_true rfl) fX5_80 ?_
        obtain ⟨q8, hc8, h⟩ := bnd h
        try dsimp only at h
        refine t_callV (q := 71) (N := mX1_brightSet) (a := eB E + 1) [.ref (eB E + 4)] dX5_go_68 rfl nkX1_brightSet vkX1_brightSet lX5_126 ⟨Nat.le_of_ble_eq_true rfl, Nat.le_of_ble_eq_true rfl⟩ (rc_obj (k := 1) rfl rfl) rfl rfl (Nat.le_of_ble_eq_true rfl) (Nat.le_of_ble_eq_true rfl) (T_X1_brightSet_1_4 E  hc8) ?_
        obtain ⟨q9, hc9, h⟩ := bnd h
        try dsimp only at h
        refine t_callS (q := 74) (N := mJ6_bitCount_0f7a4) [.int q8.1] dX5_go_71 rfl nkJ6_bitCount_0f7a4 sJ6_bitCount_0f7a4 lX5_130 ⟨Nat.le_of_ble_eq_true rfl, Nat.le_of_ble_eq_true rfl⟩ rfl rfl (Nat.le_of_ble_eq_true rfl) (Nat.le_of_ble_eq_true rfl) (T_J6_bitCount_0f7a4 E _ hc9) ?_
        obtain rfl := Option.some.inj h
        exact t_iret dX5_go_74 rfl rfl
      · rw [if_neg hb4] at h
        refine s_aload_n (q := 32) dX5_go_31 rfl rfl 0 rfl ?_
        refine s_iconst (q := 33) (v := 4) dX5_go_32 rfl rfl ?_
        obtain ⟨q10, hc10, h⟩ := bnd h
        try dsimp only at h
        refine t_callV (q := 36) (N := mX5_finding) (a := eB E + 0) [.int 4] dX5_go_33 rfl nkX5_finding vkX5_finding lX5_61 ⟨Nat.le_of_ble_eq_true rfl, Nat.le_of_ble_eq_true rfl⟩ (rc_obj (k := 0) rfl rfl) rfl rfl (Nat.le_of_ble_eq_true rfl) (Nat.le_of_ble_eq_true rfl) (T_X5_finding_0 E _ hc10) ?_
        obtain rfl := Option.some.inj h
        exact t_iret dX5_go_36 rfl rfl
    · rw [if_neg hb3] at h
      refine s_aload_n (q := 12) dX5_go_11 rfl rfl 0 rfl ?_
      refine s_iconst (q := 13) (v := 0) dX5_go_12 rfl rfl ?_
      obtain ⟨q11, hc11, h⟩ := bnd h
      try dsimp only at h
      refine t_callV (q := 16) (N := mX5_finding) (a := eB E + 0) [.int 0] dX5_go_13 rfl nkX5_finding vkX5_finding lX5_61 ⟨Nat.le_of_ble_eq_true rfl, Nat.le_of_ble_eq_true rfl⟩ (rc_obj (k := 0) rfl rfl) rfl rfl (Nat.le_of_ble_eq_true rfl) (Nat.le_of_ble_eq_true rfl) (T_X5_finding_0 E _ hc11) ?_
      obtain rfl := Option.some.inj h
      exact t_iret dX5_go_16 rfl rfl
-- X6_greater
def G_X6_greater (x0 : Int32) (x1 : Int32) (S : ST) : Option (Int32 × ST) := (if x0 ≤ x1 then some (x1, S) else some (x0, S))
set_option maxHeartbeats 4000000 in
set_option maxRecDepth 100000 in
theorem T_X6_greater (E : EV) (x0 : Int32) (x1 : Int32) {S : ST} {w : (Int32 × ST)} (h : G_X6_greater x0 x1 S = some w) : SD E mX6_greater 0 [(0, .int x0), (1, .int x1)] [] S (some (.int w.1)) w.2 := by
  unfold G_X6_greater at h
  refine s_iload_n (q := 1) dX6_greater_0 rfl rfl 0 rfl ?_
  refine s_iload_n (q := 2) dX6_greater_1 rfl rfl 1 rfl ?_
  refine s_icmp_le (q := 5) (tgt := 9) dX6_greater_2 rfl rfl (fun hb1 => ?_) (fun hb1 => ?_)
  · rw [if_pos hb1] at h
    refine s_iload_n (q := 10) dX6_greater_9 rfl rfl 1 rfl ?_
    obtain rfl := Option.some.inj h
    exact t_iret dX6_greater_10 rfl rfl
  · rw [if_neg hb1] at h
    refine s_iload_n (q := 6) dX6_greater_5 rfl rfl 0 rfl ?_
    refine s_goto (tgt := 10) dX6_greater_6 rfl ?_
    obtain rfl := Option.some.inj h
    exact t_iret dX6_greater_10 rfl rfl
-- X6_night
def G_X6_night_51_2 : Nat → Int32 → ST → Option (ST)
  | 0, _, _ => none
  | n + 1, x1, S => (if (S.1 52 1) ≤ x1 then some (S) else ((G_X6_get_51 x1 2 S).bind fun q2 => ((G_X6_wearOf_51 x1 q2.2).bind fun q3 => ((G_X6_greater 0 (q2.1 - q3.1) q3.2).bind fun q4 => ((G_X6_puts_51 x1 2 q4.1 q4.2).bind fun q5 => G_X6_night_51_2 n (x1 + 1) q5.2)))))
set_option maxHeartbeats 4000000 in
set_option maxRecDepth 100000 in
theorem T_X6_night_51_2 (E : EV) : ∀ (n : Nat) (x1 : Int32) (S : ST), ∀ (w : (ST)), G_X6_night_51_2 n x1 S = some w → ∀ {Q : Option Value → ST → Prop}, SS E mX6_night 40 [(0, .ref (eB E + 51))] [] w Q → SS E mX6_night 2 [(0, .ref (eB E + 51)), (1, .int x1)] [] S Q := by
  intro n
  induction n with
  | zero =>
    intro x1 S w h
    cases h
  | succ n ih =>
    intro x1 S w h Q K
    unfold G_X6_night_51_2 at h
    refine s_iload_n (q := 3) dX6_night_2 rfl rfl 1 rfl ?_
    refine s_aload_n (q := 4) dX6_night_3 rfl rfl 0 rfl ?_
    refine t_getR (q := 7) (k := 51) (f := 0) (t := 52) dX6_night_4 rfl rfl rfl rfl inX6 (Nat.le_of_ble_eq_true rfl) fX6_9 ?_
    refine s_iconst (q := 8) (v := 1) dX6_night_7 rfl rfl ?_
    refine u_iald (q := 9) (k := 52) (j := 1) (v := (S.1 52 1)) dX6_night_8 rfl rfl (inB_in (by decide)) (by decide) rfl ?_
    refine s_icmp_ge (q := 12) (tgt := 40) dX6_night_9 rfl rfl (fun hb1 => ?_) (fun hb1 => ?_)
    · rw [if_pos hb1] at h
      obtain rfl := Option.some.inj h
      exact t_sub [0] rfl K
    · rw [if_neg hb1] at h
      refine s_aload_n (q := 13) dX6_night_12 rfl rfl 0 rfl ?_
      refine s_iload_n (q := 14) dX6_night_13 rfl rfl 1 rfl ?_
      refine s_iconst (q := 15) (v := 2) dX6_night_14 rfl rfl ?_
      refine s_iconst (q := 16) (v := 0) dX6_night_15 rfl rfl ?_
      refine s_aload_n (q := 17) dX6_night_16 rfl rfl 0 rfl ?_
      refine s_iload_n (q := 18) dX6_night_17 rfl rfl 1 rfl ?_
      refine s_iconst (q := 19) (v := 2) dX6_night_18 rfl rfl ?_
      obtain ⟨q2, hc2, h⟩ := bnd h
      try dsimp only at h
      refine t_callV (q := 22) (N := mX6_get) (a := eB E + 51) [.int x1, .int 2] dX6_night_19 rfl nkX6_get vkX6_get lX6_58 ⟨Nat.le_of_ble_eq_true rfl, Nat.le_of_ble_eq_true rfl⟩ (rc_obj (k := 51) rfl rfl) rfl rfl (Nat.le_of_ble_eq_true rfl) (Nat.le_of_ble_eq_true rfl) (T_X6_get_51 E _ _ hc2) ?_
      refine s_aload_n (q := 23) dX6_night_22 rfl rfl 0 rfl ?_
      refine s_iload_n (q := 24) dX6_night_23 rfl rfl 1 rfl ?_
      obtain ⟨q3, hc3, h⟩ := bnd h
      try dsimp only at h
      refine t_callV (q := 27) (N := mX6_wearOf) (a := eB E + 51) [.int x1] dX6_night_24 rfl nkX6_wearOf vkX6_wearOf lX6_74 ⟨Nat.le_of_ble_eq_true rfl, Nat.le_of_ble_eq_true rfl⟩ (rc_obj (k := 51) rfl rfl) rfl rfl (Nat.le_of_ble_eq_true rfl) (Nat.le_of_ble_eq_true rfl) (T_X6_wearOf_51 E _ hc3) ?_
      refine s_isub (q := 28) dX6_night_27 rfl ?_
      obtain ⟨q4, hc4, h⟩ := bnd h
      try dsimp only at h
      refine t_callS (q := 31) (N := mX6_greater) [.int 0, .int (q2.1 - q3.1)] dX6_night_28 rfl nkX6_greater sX6_greater lX6_77 ⟨Nat.le_of_ble_eq_true rfl, Nat.le_of_ble_eq_true rfl⟩ rfl rfl (Nat.le_of_ble_eq_true rfl) (Nat.le_of_ble_eq_true rfl) (T_X6_greater E _ _ hc4) ?_
      obtain ⟨q5, hc5, h⟩ := bnd h
      try dsimp only at h
      refine t_callV (q := 34) (N := mX6_puts) (a := eB E + 51) [.int x1, .int 2, .int q4.1] dX6_night_31 rfl nkX6_puts vkX6_puts lX6_80 ⟨Nat.le_of_ble_eq_true rfl, Nat.le_of_ble_eq_true rfl⟩ (rc_obj (k := 51) rfl rfl) rfl rfl (Nat.le_of_ble_eq_true rfl) (Nat.le_of_ble_eq_true rfl) (T_X6_puts_51 E _ _ _ hc5) ?_
      refine s_iinc (q := 37) (j := 1) (v := (x1 + 1)) (lv' := [(1, .int (x1 + 1)), (0, .ref (eB E + 51))]) dX6_night_34 rfl rfl rfl (Nat.le_of_ble_eq_true rfl) rfl ?_
      refine s_goto (tgt := 2) dX6_night_37 rfl ?_
      exact t_sub [1, 0] rfl (ih _ _ _ h K)
def G_X6_night_51  (S : ST) : Option (Unit × ST) := (G_X6_night_51_2 3000 0 S).bind fun q6 => ((G_X6_less 99999 ((q6.1 52 0) + 1) q6).bind fun q7 => some ((), (wr q7.2 52 0 q7.1)))
set_option maxHeartbeats 4000000 in
set_option maxRecDepth 100000 in
theorem T_X6_night_51 (E : EV)  {S : ST} {w : (Unit × ST)} (h : G_X6_night_51  S = some w) : SD E mX6_night 0 [(0, .ref (eB E + 51))] [] S none w.2 := by
  unfold G_X6_night_51 at h
  refine s_iconst (q := 1) (v := 0) dX6_night_0 rfl rfl ?_
  refine s_istore_n (q := 2) (lv' := [(1, .int 0), (0, .ref (eB E + 51))]) dX6_night_1 rfl rfl (Nat.le_of_ble_eq_true rfl) rfl ?_
  obtain ⟨q6, hc6, h⟩ := bnd h
  try dsimp only at h
  refine t_sub [1, 0] rfl (T_X6_night_51_2 E _ _ _ _ hc6 ?_)
  refine s_aload_n (q := 41) dX6_night_40 rfl rfl 0 rfl ?_
  refine t_getR (q := 44) (k := 51) (f := 0) (t := 52) dX6_night_41 rfl rfl rfl rfl inX6 (Nat.le_of_ble_eq_true rfl) fX6_9 ?_
  refine s_iconst (q := 45) (v := 0) dX6_night_44 rfl rfl ?_
  refine s_ldc (q := 47) (v := 99999) dX6_night_45 rfl kX6_84 ?_
  refine s_aload_n (q := 48) dX6_night_47 rfl rfl 0 rfl ?_
  refine t_getR (q := 51) (k := 51) (f := 0) (t := 52) dX6_night_48 rfl rfl rfl rfl inX6 (Nat.le_of_ble_eq_true rfl) fX6_9 ?_
  refine s_iconst (q := 52) (v := 0) dX6_night_51 rfl rfl ?_
  refine u_iald (q := 53) (k := 52) (j := 0) (v := (q6.1 52 0)) dX6_night_52 rfl rfl (inB_in (by decide)) (by decide) rfl ?_
  refine s_iconst (q := 54) (v := 1) dX6_night_53 rfl rfl ?_
  refine s_iadd (q := 55) dX6_night_54 rfl ?_
  obtain ⟨q7, hc7, h⟩ := bnd h
  try dsimp only at h
  refine t_callS (q := 58) (N := mX6_less) [.int 99999, .int ((q6.1 52 0) + 1)] dX6_night_55 rfl nkX6_less sX6_less lX6_85 ⟨Nat.le_of_ble_eq_true rfl, Nat.le_of_ble_eq_true rfl⟩ rfl rfl (Nat.le_of_ble_eq_true rfl) (Nat.le_of_ble_eq_true rfl) (T_X6_less E _ _ hc7) ?_
  refine u_iast (q := 59) (k := 52) (j := 0) dX6_night_58 rfl rfl (inB_in (by decide)) (by decide) ?_
  obtain rfl := Option.some.inj h
  exact t_vret dX6_night_59 rfl rfl
-- X6_nights
def G_X6_nights_51_2 : Nat → Int32 → Int32 → ST → Option (ST)
  | 0, _, _, _ => none
  | n + 1, x1, x2, S => (if x1 ≤ x2 then some (S) else ((G_X6_night_51  S).bind fun q2 => G_X6_nights_51_2 n x1 (x2 + 1) q2.2))
set_option maxHeartbeats 4000000 in
set_option maxRecDepth 100000 in
theorem T_X6_nights_51_2 (E : EV) : ∀ (n : Nat) (x1 : Int32) (x2 : Int32) (S : ST), ∀ (w : (ST)), G_X6_nights_51_2 n x1 x2 S = some w → ∀ {Q : Option Value → ST → Prop}, SS E mX6_nights 17 [] [] w Q → SS E mX6_nights 2 [(0, .ref (eB E + 51)), (1, .int x1), (2, .int x2)] [] S Q := by
  intro n
  induction n with
  | zero =>
    intro x1 x2 S w h
    cases h
  | succ n ih =>
    intro x1 x2 S w h Q K
    unfold G_X6_nights_51_2 at h
    refine s_iload_n (q := 3) dX6_nights_2 rfl rfl 2 rfl ?_
    refine s_iload_n (q := 4) dX6_nights_3 rfl rfl 1 rfl ?_
    refine s_icmp_ge (q := 7) (tgt := 17) dX6_nights_4 rfl rfl (fun hb1 => ?_) (fun hb1 => ?_)
    · rw [if_pos hb1] at h
      obtain rfl := Option.some.inj h
      exact t_sub [] rfl K
    · rw [if_neg hb1] at h
      refine s_aload_n (q := 8) dX6_nights_7 rfl rfl 0 rfl ?_
      obtain ⟨q2, hc2, h⟩ := bnd h
      try dsimp only at h
      refine t_callV (q := 11) (N := mX6_night) (a := eB E + 51) [] dX6_nights_8 rfl nkX6_night vkX6_night lX6_88 ⟨Nat.le_of_ble_eq_true rfl, Nat.le_of_ble_eq_true rfl⟩ (rc_obj (k := 51) rfl rfl) rfl rfl (Nat.le_of_ble_eq_true rfl) (Nat.le_of_ble_eq_true rfl) (T_X6_night_51 E  hc2) ?_
      refine s_iinc (q := 14) (j := 2) (v := (x2 + 1)) (lv' := [(2, .int (x2 + 1)), (0, .ref (eB E + 51)), (1, .int x1)]) dX6_nights_11 rfl rfl rfl (Nat.le_of_ble_eq_true rfl) rfl ?_
      refine s_goto (tgt := 2) dX6_nights_14 rfl ?_
      exact t_sub [1, 2, 0] rfl (ih _ _ _ _ h K)
def G_X6_nights_51 (x1 : Int32) (S : ST) : Option (Unit × ST) := (G_X6_nights_51_2 3000 x1 0 S).bind fun q3 => some ((), q3)
set_option maxHeartbeats 4000000 in
set_option maxRecDepth 100000 in
theorem T_X6_nights_51 (E : EV) (x1 : Int32) {S : ST} {w : (Unit × ST)} (h : G_X6_nights_51 x1 S = some w) : SD E mX6_nights 0 [(0, .ref (eB E + 51)), (1, .int x1)] [] S none w.2 := by
  unfold G_X6_nights_51 at h
  refine s_iconst (q := 1) (v := 0) dX6_nights_0 rfl rfl ?_
  refine s_istore_n (q := 2) (lv' := [(2, .int 0), (0, .ref (eB E + 51)), (1, .int x1)]) dX6_nights_1 rfl rfl (Nat.le_of_ble_eq_true rfl) rfl ?_
  obtain ⟨q3, hc3, h⟩ := bnd h
  try dsimp only at h
  refine t_sub [1, 2, 0] rfl (T_X6_nights_51_2 E _ _ _ _ _ hc3 ?_)
  obtain rfl := Option.some.inj h
  exact t_vret dX6_nights_17 rfl rfl
-- X6_shining
def G_X6_shining_51_4 : Nat → Int32 → Int32 → ST → Option (Int32 × ST)
  | 0, _, _, _ => none
  | n + 1, x1, x2, S => (if (S.1 52 1) ≤ x2 then some (x1, S) else ((G_X6_shines_51 x2 S).bind fun q2 => (if q2.1 = 0 then G_X6_shining_51_4 n (x1 ||| 0) (x2 + 1) q2.2 else G_X6_shining_51_4 n (x1 ||| (1 <<< (x2 &&& 31))) (x2 + 1) q2.2)))
set_option maxHeartbeats 4000000 in
set_option maxRecDepth 100000 in
theorem T_X6_shining_51_4 (E : EV) : ∀ (n : Nat) (x1 : Int32) (x2 : Int32) (S : ST), ∀ (w : (Int32 × ST)), G_X6_shining_51_4 n x1 x2 S = some w → ∀ {Q : Option Value → ST → Prop}, SS E mX6_shining 38 [(1, .int w.1)] [] w.2 Q → SS E mX6_shining 4 [(0, .ref (eB E + 51)), (1, .int x1), (2, .int x2)] [] S Q := by
  intro n
  induction n with
  | zero =>
    intro x1 x2 S w h
    cases h
  | succ n ih =>
    intro x1 x2 S w h Q K
    unfold G_X6_shining_51_4 at h
    refine s_iload_n (q := 5) dX6_shining_4 rfl rfl 2 rfl ?_
    refine s_aload_n (q := 6) dX6_shining_5 rfl rfl 0 rfl ?_
    refine t_getR (q := 9) (k := 51) (f := 0) (t := 52) dX6_shining_6 rfl rfl rfl rfl inX6 (Nat.le_of_ble_eq_true rfl) fX6_9 ?_
    refine s_iconst (q := 10) (v := 1) dX6_shining_9 rfl rfl ?_
    refine u_iald (q := 11) (k := 52) (j := 1) (v := (S.1 52 1)) dX6_shining_10 rfl rfl (inB_in (by decide)) (by decide) rfl ?_
    refine s_icmp_ge (q := 14) (tgt := 38) dX6_shining_11 rfl rfl (fun hb1 => ?_) (fun hb1 => ?_)
    · rw [if_pos hb1] at h
      obtain rfl := Option.some.inj h
      exact t_sub [1] rfl K
    · rw [if_neg hb1] at h
      refine s_iload_n (q := 15) dX6_shining_14 rfl rfl 1 rfl ?_
      refine s_aload_n (q := 16) dX6_shining_15 rfl rfl 0 rfl ?_
      refine s_iload_n (q := 17) dX6_shining_16 rfl rfl 2 rfl ?_
      obtain ⟨q2, hc2, h⟩ := bnd h
      try dsimp only at h
      refine t_callV (q := 20) (N := mX6_shines) (a := eB E + 51) [.int x2] dX6_shining_17 rfl nkX6_shines vkX6_shines lX6_66 ⟨Nat.le_of_ble_eq_true rfl, Nat.le_of_ble_eq_true rfl⟩ (rc_obj (k := 51) rfl rfl) rfl rfl (Nat.le_of_ble_eq_true rfl) (Nat.le_of_ble_eq_true rfl) (T_X6_shines_51 E _ hc2) ?_
      refine s_if_eq (q := 23) (tgt := 29) dX6_shining_20 rfl rfl (fun hb3 => ?_) (fun hb3 => ?_)
      · rw [if_pos hb3] at h
        refine s_iconst (q := 30) (v := 0) dX6_shining_29 rfl rfl ?_
        refine s_ior (q := 31) dX6_shining_30 rfl ?_
        refine s_istore_n (q := 32) (lv' := [(1, .int (x1 ||| 0)), (0, .ref (eB E + 51)), (2, .int x2)]) dX6_shining_31 rfl rfl (Nat.le_of_ble_eq_true rfl) rfl ?_
        refine s_iinc (q := 35) (j := 2) (v := (x2 + 1)) (lv' := [(2, .int (x2 + 1)), (1, .int (x1 ||| 0)), (0, .ref (eB E + 51))]) dX6_shining_32 rfl rfl rfl (Nat.le_of_ble_eq_true rfl) rfl ?_
        refine s_goto (tgt := 4) dX6_shining_35 rfl ?_
        exact t_sub [2, 1, 0] rfl (ih _ _ _ _ h K)
      · rw [if_neg hb3] at h
        refine s_iconst (q := 24) (v := 1) dX6_shining_23 rfl rfl ?_
        refine s_iload_n (q := 25) dX6_shining_24 rfl rfl 2 rfl ?_
        refine s_ishl (q := 26) dX6_shining_25 rfl ?_
        refine s_goto (tgt := 30) dX6_shining_26 rfl ?_
        refine s_ior (q := 31) dX6_shining_30 rfl ?_
        refine s_istore_n (q := 32) (lv' := [(1, .int (x1 ||| (1 <<< (x2 &&& 31)))), (0, .ref (eB E + 51)), (2, .int x2)]) dX6_shining_31 rfl rfl (Nat.le_of_ble_eq_true rfl) rfl ?_
        refine s_iinc (q := 35) (j := 2) (v := (x2 + 1)) (lv' := [(2, .int (x2 + 1)), (1, .int (x1 ||| (1 <<< (x2 &&& 31)))), (0, .ref (eB E + 51))]) dX6_shining_32 rfl rfl rfl (Nat.le_of_ble_eq_true rfl) rfl ?_
        refine s_goto (tgt := 4) dX6_shining_35 rfl ?_
        exact t_sub [2, 1, 0] rfl (ih _ _ _ _ h K)
def G_X6_shining_51  (S : ST) : Option (Int32 × ST) := (G_X6_shining_51_4 3000 0 0 S).bind fun q4 => some (q4.1, q4.2)
set_option maxHeartbeats 4000000 in
set_option maxRecDepth 100000 in
theorem T_X6_shining_51 (E : EV)  {S : ST} {w : (Int32 × ST)} (h : G_X6_shining_51  S = some w) : SD E mX6_shining 0 [(0, .ref (eB E + 51))] [] S (some (.int w.1)) w.2 := by
  unfold G_X6_shining_51 at h
  refine s_iconst (q := 1) (v := 0) dX6_shining_0 rfl rfl ?_
  refine s_istore_n (q := 2) (lv' := [(1, .int 0), (0, .ref (eB E + 51))]) dX6_shining_1 rfl rfl (Nat.le_of_ble_eq_true rfl) rfl ?_
  refine s_iconst (q := 3) (v := 0) dX6_shining_2 rfl rfl ?_
  refine s_istore_n (q := 4) (lv' := [(2, .int 0), (1, .int 0), (0, .ref (eB E + 51))]) dX6_shining_3 rfl rfl (Nat.le_of_ble_eq_true rfl) rfl ?_
  obtain ⟨q4, hc4, h⟩ := bnd h
  try dsimp only at h
  refine t_sub [2, 1, 0] rfl (T_X6_shining_51_4 E _ _ _ _ _ hc4 ?_)
  refine s_iload_n (q := 39) dX6_shining_38 rfl rfl 0 rfl ?_
  obtain rfl := Option.some.inj h
  exact t_iret dX6_shining_39 rfl rfl
-- X6_bits
def G_X6_bits_4 : Nat → Int32 → Int32 → ST → Option (Int32 × ST)
  | 0, _, _, _ => none
  | n + 1, x1, x2, S => (if x2 = 0 then some (x1, S) else G_X6_bits_4 n (x1 + 1) (x2 &&& (x2 - 1)) S)
set_option maxHeartbeats 4000000 in
set_option maxRecDepth 100000 in
theorem T_X6_bits_4 (E : EV) : ∀ (n : Nat) (x1 : Int32) (x2 : Int32) (S : ST), ∀ (w : (Int32 × ST)), G_X6_bits_4 n x1 x2 S = some w → ∀ {Q : Option Value → ST → Prop}, SS E mX6_bits 20 [(1, .int w.1)] [] w.2 Q → SS E mX6_bits 4 [(1, .int x1), (2, .int x2)] [] S Q := by
  intro n
  induction n with
  | zero =>
    intro x1 x2 S w h
    cases h
  | succ n ih =>
    intro x1 x2 S w h Q K
    unfold G_X6_bits_4 at h
    refine s_iload_n (q := 5) dX6_bits_4 rfl rfl 1 rfl ?_
    refine s_if_eq (q := 8) (tgt := 20) dX6_bits_5 rfl rfl (fun hb1 => ?_) (fun hb1 => ?_)
    · rw [if_pos hb1] at h
      obtain rfl := Option.some.inj h
      exact t_sub [0] rfl K
    · rw [if_neg hb1] at h
      refine s_iinc (q := 11) (j := 0) (v := (x1 + 1)) (lv' := [(1, .int (x1 + 1)), (2, .int x2)]) dX6_bits_8 rfl rfl rfl (Nat.le_of_ble_eq_true rfl) rfl ?_
      refine s_iload_n (q := 12) dX6_bits_11 rfl rfl 1 rfl ?_
      refine s_iload_n (q := 13) dX6_bits_12 rfl rfl 1 rfl ?_
      refine s_iconst (q := 14) (v := 1) dX6_bits_13 rfl rfl ?_
      refine s_isub (q := 15) dX6_bits_14 rfl ?_
      refine s_iand (q := 16) dX6_bits_15 rfl ?_
      refine s_istore_n (q := 17) (lv' := [(2, .int (x2 &&& (x2 - 1))), (1, .int (x1 + 1))]) dX6_bits_16 rfl rfl (Nat.le_of_ble_eq_true rfl) rfl ?_
      refine s_goto (tgt := 4) dX6_bits_17 rfl ?_
      exact t_sub [1, 0] rfl (ih _ _ _ _ h K)
def G_X6_bits (x0 : Int32) (S : ST) : Option (Int32 × ST) := (G_X6_bits_4 3000 0 x0 S).bind fun q2 => some (q2.1, q2.2)
set_option maxHeartbeats 4000000 in
set_option maxRecDepth 100000 in
theorem T_X6_bits (E : EV) (x0 : Int32) {S : ST} {w : (Int32 × ST)} (h : G_X6_bits x0 S = some w) : SD E mX6_bits 0 [(0, .int x0)] [] S (some (.int w.1)) w.2 := by
  unfold G_X6_bits at h
  refine s_iconst (q := 1) (v := 0) dX6_bits_0 rfl rfl ?_
  refine s_istore_n (q := 2) (lv' := [(1, .int 0), (0, .int x0)]) dX6_bits_1 rfl rfl (Nat.le_of_ble_eq_true rfl) rfl ?_
  refine s_iload_n (q := 3) dX6_bits_2 rfl rfl 1 rfl ?_
  refine s_istore_n (q := 4) (lv' := [(2, .int x0), (1, .int 0), (0, .int x0)]) dX6_bits_3 rfl rfl (Nat.le_of_ble_eq_true rfl) rfl ?_
  obtain ⟨q2, hc2, h⟩ := bnd h
  try dsimp only at h
  refine t_sub [1, 0] rfl (T_X6_bits_4 E _ _ _ _ _ hc2 ?_)
  refine s_iload_n (q := 21) dX6_bits_20 rfl rfl 0 rfl ?_
  obtain rfl := Option.some.inj h
  exact t_iret dX6_bits_21 rfl rfl
-- X6_go
def G_X6_go_51 (x1 : Int32) (S : ST) : Option (Int32 × ST) := ((G_X6_in1 x1 1 60 S).bind fun q1 => (if q1.1 = 0 then ((G_X6_no_51 0 q1.2).bind fun q8 => some (q8.1, q8.2)) else (if ((q1.2.1 52 0) + x1) ≤ 99999 then ((G_X6_nights_51 x1 q1.2).bind fun q4 => ((G_X6_shining_51  q4.2).bind fun q5 => ((G_X6_bits q5.1 q5.2).bind fun q6 => some (q6.1, q6.2)))) else ((G_X6_no_51 4 q1.2).bind fun q7 => some (q7.1, q7.2)))))
set_option maxHeartbeats 4000000 in
set_option maxRecDepth 100000 in
theorem T_X6_go_51 (E : EV) (x1 : Int32) {S : ST} {w : (Int32 × ST)} (h : G_X6_go_51 x1 S = some w) : SD E mX6_go 0 [(0, .ref (eB E + 51)), (1, .int x1)] [] S (some (.int w.1)) w.2 := by
  unfold G_X6_go_51 at h
  refine s_iload_n (q := 1) dX6_go_0 rfl rfl 1 rfl ?_
  refine s_iconst (q := 2) (v := 1) dX6_go_1 rfl rfl ?_
  refine s_bipush (q := 4) (v := 60) dX6_go_2 rfl rfl ?_
  obtain ⟨q1, hc1, h⟩ := bnd h
  try dsimp only at h
  refine t_callS (q := 7) (N := mX6_in1) [.int x1, .int 1, .int 60] dX6_go_4 rfl nkX6_in1 sX6_in1 lX6_54 ⟨Nat.le_of_ble_eq_true rfl, Nat.le_of_ble_eq_true rfl⟩ rfl rfl (Nat.le_of_ble_eq_true rfl) (Nat.le_of_ble_eq_true rfl) (T_X6_in1 E _ _ _ hc1) ?_
  refine s_if_ne (q := 10) (tgt := 16) dX6_go_7 rfl rfl (fun hb2 => ?_) (fun hb2 => ?_)
  · rw [if_neg hb2] at h
    refine s_aload_n (q := 17) dX6_go_16 rfl rfl 0 rfl ?_
    refine t_getR (q := 20) (k := 51) (f := 0) (t := 52) dX6_go_17 rfl rfl rfl rfl inX6 (Nat.le_of_ble_eq_true rfl) fX6_9 ?_
    refine s_iconst (q := 21) (v := 0) dX6_go_20 rfl rfl ?_
    refine u_iald (q := 22) (k := 52) (j := 0) (v := (q1.2.1 52 0)) dX6_go_21 rfl rfl (inB_in (by decide)) (by decide) rfl ?_
    refine s_iload_n (q := 23) dX6_go_22 rfl rfl 1 rfl ?_
    refine s_iadd (q := 24) dX6_go_23 rfl ?_
    refine s_ldc (q := 26) (v := 99999) dX6_go_24 rfl kX6_84 ?_
    refine s_icmp_le (q := 29) (tgt := 35) dX6_go_26 rfl rfl (fun hb3 => ?_) (fun hb3 => ?_)
    · rw [if_pos hb3] at h
      refine s_aload_n (q := 36) dX6_go_35 rfl rfl 0 rfl ?_
      refine s_iload_n (q := 37) dX6_go_36 rfl rfl 1 rfl ?_
      obtain ⟨q4, hc4, h⟩ := bnd h
      try dsimp only at h
      refine t_callV (q := 40) (N := mX6_nights) (a := eB E + 51) [.int x1] dX6_go_37 rfl nkX6_nights vkX6_nights lX6_113 ⟨Nat.le_of_ble_eq_true rfl, Nat.le_of_ble_eq_true rfl⟩ (rc_obj (k := 51) rfl rfl) rfl rfl (Nat.le_of_ble_eq_true rfl) (Nat.le_of_ble_eq_true rfl) (T_X6_nights_51 E _ hc4) ?_
      refine s_aload_n (q := 41) dX6_go_40 rfl rfl 0 rfl ?_
      obtain ⟨q5, hc5, h⟩ := bnd h
      try dsimp only at h
      refine t_callV (q := 44) (N := mX6_shining) (a := eB E + 51) [] dX6_go_41 rfl nkX6_shining vkX6_shining lX6_117 ⟨Nat.le_of_ble_eq_true rfl, Nat.le_of_ble_eq_true rfl⟩ (rc_obj (k := 51) rfl rfl) rfl rfl (Nat.le_of_ble_eq_true rfl) (Nat.le_of_ble_eq_true rfl) (T_X6_shining_51 E  hc5) ?_
      obtain ⟨q6, hc6, h⟩ := bnd h
      try dsimp only at h
      refine t_callS (q := 47) (N := mX6_bits) [.int q5.1] dX6_go_44 rfl nkX6_bits sX6_bits lX6_121 ⟨Nat.le_of_ble_eq_true rfl, Nat.le_of_ble_eq_true rfl⟩ rfl rfl (Nat.le_of_ble_eq_true rfl) (Nat.le_of_ble_eq_true rfl) (T_X6_bits E _ hc6) ?_
      obtain rfl := Option.some.inj h
      exact t_iret dX6_go_47 rfl rfl
    · rw [if_neg hb3] at h
      refine s_aload_n (q := 30) dX6_go_29 rfl rfl 0 rfl ?_
      refine s_iconst (q := 31) (v := 4) dX6_go_30 rfl rfl ?_
      obtain ⟨q7, hc7, h⟩ := bnd h
      try dsimp only at h
      refine t_callV (q := 34) (N := mX6_no) (a := eB E + 51) [.int 4] dX6_go_31 rfl nkX6_no vkX6_no lX6_94 ⟨Nat.le_of_ble_eq_true rfl, Nat.le_of_ble_eq_true rfl⟩ (rc_obj (k := 51) rfl rfl) rfl rfl (Nat.le_of_ble_eq_true rfl) (Nat.le_of_ble_eq_true rfl) (T_X6_no_51 E _ hc7) ?_
      obtain rfl := Option.some.inj h
      exact t_iret dX6_go_34 rfl rfl
  · rw [if_pos hb2] at h
    refine s_aload_n (q := 11) dX6_go_10 rfl rfl 0 rfl ?_
    refine s_iconst (q := 12) (v := 0) dX6_go_11 rfl rfl ?_
    obtain ⟨q8, hc8, h⟩ := bnd h
    try dsimp only at h
    refine t_callV (q := 15) (N := mX6_no) (a := eB E + 51) [.int 0] dX6_go_12 rfl nkX6_no vkX6_no lX6_94 ⟨Nat.le_of_ble_eq_true rfl, Nat.le_of_ble_eq_true rfl⟩ (rc_obj (k := 51) rfl rfl) rfl rfl (Nat.le_of_ble_eq_true rfl) (Nat.le_of_ble_eq_true rfl) (T_X6_no_51 E _ hc8) ?_
    obtain rfl := Option.some.inj h
    exact t_iret dX6_go_15 rfl rfl
-- X1_lifeTogether
def G_X1_lifeTogether_1_4 : Nat → Int32 → Int32 → ST → Option (Int32 × ST)
  | 0, _, _, _ => none
  | n + 1, x1, x2, S => (if (S.1 1 0) ≤ x2 then some (x1, S) else (if inB x2 10 = true then G_X1_lifeTogether_1_4 n (x1 + (S.1 4 x2.toNatClampNeg)) (x2 + 1) S else none))
set_option maxHeartbeats 4000000 in
set_option maxRecDepth 100000 in
theorem T_X1_lifeTogether_1_4 (E : EV) : ∀ (n : Nat) (x1 : Int32) (x2 : Int32) (S : ST), ∀ (w : (Int32 × ST)), G_X1_lifeTogether_1_4 n x1 x2 S = some w → ∀ {Q : Option Value → ST → Prop}, SS E mX1_lifeTogether 27 [(1, .int w.1)] [] w.2 Q → SS E mX1_lifeTogether 4 [(0, .ref (eB E + 1)), (1, .int x1), (2, .int x2)] [] S Q := by
  intro n
  induction n with
  | zero =>
    intro x1 x2 S w h
    cases h
  | succ n ih =>
    intro x1 x2 S w h Q K
    unfold G_X1_lifeTogether_1_4 at h
    refine s_iload_n (q := 5) dX1_lifeTogether_4 rfl rfl 2 rfl ?_
    refine s_aload_n (q := 6) dX1_lifeTogether_5 rfl rfl 0 rfl ?_
    refine t_getI (q := 9) (k := 1) (f := 0) (v := (S.1 1 0)) dX1_lifeTogether_6 rfl rfl rfl rfl inX1 (Nat.le_of_ble_eq_true rfl) fX1_9 rfl ?_
    refine s_icmp_ge (q := 12) (tgt := 27) dX1_lifeTogether_9 rfl rfl (fun hb1 => ?_) (fun hb1 => ?_)
    · rw [if_pos hb1] at h
      obtain rfl := Option.some.inj h
      exact t_sub [1] rfl K
    · rw [if_neg hb1] at h
      refine s_iload_n (q := 13) dX1_lifeTogether_12 rfl rfl 1 rfl ?_
      refine s_aload_n (q := 14) dX1_lifeTogether_13 rfl rfl 0 rfl ?_
      refine t_getR (q := 17) (k := 1) (f := 3) (t := 4) dX1_lifeTogether_14 rfl rfl rfl rfl inX1 (Nat.le_of_ble_eq_true rfl) fX1_22 ?_
      refine s_iload_n (q := 18) dX1_lifeTogether_17 rfl rfl 2 rfl ?_
      obtain ⟨hg2, h⟩ := chk_some h
      refine u_iald (q := 19) (k := 4) (v := (S.1 4 x2.toNatClampNeg)) dX1_lifeTogether_18 rfl rfl (inB_in hg2) rfl rfl ?_
      refine s_iadd (q := 20) dX1_lifeTogether_19 rfl ?_
      refine s_istore_n (q := 21) (lv' := [(1, .int (x1 + (S.1 4 x2.toNatClampNeg))), (0, .ref (eB E + 1)), (2, .int x2)]) dX1_lifeTogether_20 rfl rfl (Nat.le_of_ble_eq_true rfl) rfl ?_
      refine s_iinc (q := 24) (j := 2) (v := (x2 + 1)) (lv' := [(2, .int (x2 + 1)), (1, .int (x1 + (S.1 4 x2.toNatClampNeg))), (0, .ref (eB E + 1))]) dX1_lifeTogether_21 rfl rfl rfl (Nat.le_of_ble_eq_true rfl) rfl ?_
      refine s_goto (tgt := 4) dX1_lifeTogether_24 rfl ?_
      exact t_sub [2, 1, 0] rfl (ih _ _ _ _ h K)
def G_X1_lifeTogether_1  (S : ST) : Option (Int32 × ST) := (G_X1_lifeTogether_1_4 3000 0 0 S).bind fun q3 => some (q3.1, q3.2)
set_option maxHeartbeats 4000000 in
set_option maxRecDepth 100000 in
theorem T_X1_lifeTogether_1 (E : EV)  {S : ST} {w : (Int32 × ST)} (h : G_X1_lifeTogether_1  S = some w) : SD E mX1_lifeTogether 0 [(0, .ref (eB E + 1))] [] S (some (.int w.1)) w.2 := by
  unfold G_X1_lifeTogether_1 at h
  refine s_iconst (q := 1) (v := 0) dX1_lifeTogether_0 rfl rfl ?_
  refine s_istore_n (q := 2) (lv' := [(1, .int 0), (0, .ref (eB E + 1))]) dX1_lifeTogether_1 rfl rfl (Nat.le_of_ble_eq_true rfl) rfl ?_
  refine s_iconst (q := 3) (v := 0) dX1_lifeTogether_2 rfl rfl ?_
  refine s_istore_n (q := 4) (lv' := [(2, .int 0), (1, .int 0), (0, .ref (eB E + 1))]) dX1_lifeTogether_3 rfl rfl (Nat.le_of_ble_eq_true rfl) rfl ?_
  obtain ⟨q3, hc3, h⟩ := bnd h
  try dsimp only at h
  refine t_sub [2, 1, 0] rfl (T_X1_lifeTogether_1_4 E _ _ _ _ _ hc3 ?_)
  refine s_iload_n (q := 28) dX1_lifeTogether_27 rfl rfl 0 rfl ?_
  obtain rfl := Option.some.inj h
  exact t_iret dX1_lifeTogether_28 rfl rfl
-- X1_worthOf
def G_X1_worthOf_1_4 : Nat → Int32 → Int32 → Int32 → ST → Option (Int32 × ST)
  | 0, _, _, _, _ => none
  | n + 1, x1, x2, x3, S => (if (S.1 1 0) ≤ x3 then some (x2, S) else (if ((x1 >>> (x3 &&& 31)) &&& 1) = 1 then (if inB x3 10 = true then G_X1_worthOf_1_4 n x1 (x2 + (S.1 5 x3.toNatClampNeg)) (x3 + 1) S else none) else G_X1_worthOf_1_4 n x1 x2 (x3 + 1) S))
set_option maxHeartbeats 4000000 in
set_option maxRecDepth 100000 in
theorem T_X1_worthOf_1_4 (E : EV) : ∀ (n : Nat) (x1 : Int32) (x2 : Int32) (x3 : Int32) (S : ST), ∀ (w : (Int32 × ST)), G_X1_worthOf_1_4 n x1 x2 x3 S = some w → ∀ {Q : Option Value → ST → Prop}, SS E mX1_worthOf 36 [(2, .int w.1)] [] w.2 Q → SS E mX1_worthOf 4 [(0, .ref (eB E + 1)), (1, .int x1), (2, .int x2), (3, .int x3)] [] S Q := by
  intro n
  induction n with
  | zero =>
    intro x1 x2 x3 S w h
    cases h
  | succ n ih =>
    intro x1 x2 x3 S w h Q K
    unfold G_X1_worthOf_1_4 at h
    refine s_iload_n (q := 5) dX1_worthOf_4 rfl rfl 3 rfl ?_
    refine s_aload_n (q := 6) dX1_worthOf_5 rfl rfl 0 rfl ?_
    refine t_getI (q := 9) (k := 1) (f := 0) (v := (S.1 1 0)) dX1_worthOf_6 rfl rfl rfl rfl inX1 (Nat.le_of_ble_eq_true rfl) fX1_9 rfl ?_
    refine s_icmp_ge (q := 12) (tgt := 36) dX1_worthOf_9 rfl rfl (fun hb1 => ?_) (fun hb1 => ?_)
    · rw [if_pos hb1] at h
      obtain rfl := Option.some.inj h
      exact t_sub [2] rfl K
    · rw [if_neg hb1] at h
      refine s_iload_n (q := 13) dX1_worthOf_12 rfl rfl 1 rfl ?_
      refine s_iload_n (q := 14) dX1_worthOf_13 rfl rfl 3 rfl ?_
      refine s_ishr (q := 15) dX1_worthOf_14 rfl ?_
      refine s_iconst (q := 16) (v := 1) dX1_worthOf_15 rfl rfl ?_
      refine s_iand (q := 17) dX1_worthOf_16 rfl ?_
      refine s_iconst (q := 18) (v := 1) dX1_worthOf_17 rfl rfl ?_
      refine s_icmp_ne (q := 21) (tgt := 30) dX1_worthOf_18 rfl rfl (fun hb2 => ?_) (fun hb2 => ?_)
      · rw [if_neg hb2] at h
        refine s_iinc (q := 33) (j := 3) (v := (x3 + 1)) (lv' := [(3, .int (x3 + 1)), (0, .ref (eB E + 1)), (1, .int x1), (2, .int x2)]) dX1_worthOf_30 rfl rfl rfl (Nat.le_of_ble_eq_true rfl) rfl ?_
        refine s_goto (tgt := 4) dX1_worthOf_33 rfl ?_
        exact t_sub [1, 2, 3, 0] rfl (ih _ _ _ _ _ h K)
      · rw [if_pos hb2] at h
        refine s_iload_n (q := 22) dX1_worthOf_21 rfl rfl 2 rfl ?_
        refine s_aload_n (q := 23) dX1_worthOf_22 rfl rfl 0 rfl ?_
        refine t_getR (q := 26) (k := 1) (f := 4) (t := 5) dX1_worthOf_23 rfl rfl rfl rfl inX1 (Nat.le_of_ble_eq_true rfl) fX1_25 ?_
        refine s_iload_n (q := 27) dX1_worthOf_26 rfl rfl 3 rfl ?_
        obtain ⟨hg3, h⟩ := chk_some h
        refine u_iald (q := 28) (k := 5) (v := (S.1 5 x3.toNatClampNeg)) dX1_worthOf_27 rfl rfl (inB_in hg3) rfl rfl ?_
        refine s_iadd (q := 29) dX1_worthOf_28 rfl ?_
        refine s_istore_n (q := 30) (lv' := [(2, .int (x2 + (S.1 5 x3.toNatClampNeg))), (0, .ref (eB E + 1)), (1, .int x1), (3, .int x3)]) dX1_worthOf_29 rfl rfl (Nat.le_of_ble_eq_true rfl) rfl ?_
        refine s_iinc (q := 33) (j := 3) (v := (x3 + 1)) (lv' := [(3, .int (x3 + 1)), (2, .int (x2 + (S.1 5 x3.toNatClampNeg))), (0, .ref (eB E + 1)), (1, .int x1)]) dX1_worthOf_30 rfl rfl rfl (Nat.le_of_ble_eq_true rfl) rfl ?_
        refine s_goto (tgt := 4) dX1_worthOf_33 rfl ?_
        exact t_sub [2, 3, 1, 0] rfl (ih _ _ _ _ _ h K)
def G_X1_worthOf_1 (x1 : Int32) (S : ST) : Option (Int32 × ST) := (G_X1_worthOf_1_4 3000 x1 0 0 S).bind fun q4 => some (q4.1, q4.2)
set_option maxHeartbeats 4000000 in
set_option maxRecDepth 100000 in
theorem T_X1_worthOf_1 (E : EV) (x1 : Int32) {S : ST} {w : (Int32 × ST)} (h : G_X1_worthOf_1 x1 S = some w) : SD E mX1_worthOf 0 [(0, .ref (eB E + 1)), (1, .int x1)] [] S (some (.int w.1)) w.2 := by
  unfold G_X1_worthOf_1 at h
  refine s_iconst (q := 1) (v := 0) dX1_worthOf_0 rfl rfl ?_
  refine s_istore_n (q := 2) (lv' := [(2, .int 0), (0, .ref (eB E + 1)), (1, .int x1)]) dX1_worthOf_1 rfl rfl (Nat.le_of_ble_eq_true rfl) rfl ?_
  refine s_iconst (q := 3) (v := 0) dX1_worthOf_2 rfl rfl ?_
  refine s_istore_n (q := 4) (lv' := [(3, .int 0), (2, .int 0), (0, .ref (eB E + 1)), (1, .int x1)]) dX1_worthOf_3 rfl rfl (Nat.le_of_ble_eq_true rfl) rfl ?_
  obtain ⟨q4, hc4, h⟩ := bnd h
  try dsimp only at h
  refine t_sub [2, 3, 1, 0] rfl (T_X1_worthOf_1_4 E _ _ _ _ _ _ hc4 ?_)
  refine s_iload_n (q := 37) dX1_worthOf_36 rfl rfl 0 rfl ?_
  obtain rfl := Option.some.inj h
  exact t_iret dX1_worthOf_37 rfl rfl
-- X5_now
def G_X5_now_0 (x1 : Int32) (S : ST) : Option (Int32 × ST) := (if x1 = 0 then some ((S.1 1 8), S) else (if x1 = 1 then ((G_X1_brightSet_1_4  S).bind fun q3 => some (q3.1, q3.2)) else (if x1 = 2 then ((G_X1_lifeTogether_1  S).bind fun q4 => some (q4.1, q4.2)) else (if x1 = 3 then ((G_X1_brightSet_1_4  S).bind fun q5 => ((G_X1_worthOf_1 q5.1 q5.2).bind fun q6 => some (q6.1, q6.2))) else (if x1 = 4 then some ((S.1 8 3), S) else (if x1 = 5 then some ((S.1 8 0), S) else (if x1 = 6 then some ((S.1 8 1), S) else ((G_X5_finding_0 0 S).bind fun q1 => some (q1.1, q1.2)))))))))
set_option maxHeartbeats 4000000 in
set_option maxRecDepth 100000 in
theorem T_X5_now_0 (E : EV) (x1 : Int32) {S : ST} {w : (Int32 × ST)} (h : G_X5_now_0 x1 S = some w) : SD E mX5_now 0 [(0, .ref (eB E + 0)), (1, .int x1)] [] S (some (.int w.1)) w.2 := by
  unfold G_X5_now_0 at h
  refine s_iload_n (q := 1) dX5_now_0 rfl rfl 1 rfl ?_
  by_cases hs2_0 : x1 = 0
  · rw [if_pos hs2_0] at h
    refine s_tableIn (off := 43) (tgt := 44) dX5_now_1 (by rw [hs2_0]; decide) (by rw [hs2_0]; decide) (by rw [hs2_0]; rfl) rfl ?_
    refine s_aload_n (q := 45) dX5_now_44 rfl rfl 0 rfl ?_
    refine t_getR (q := 48) (k := 0) (f := 0) (t := 1) dX5_now_45 rfl rfl rfl rfl inX5 (Nat.le_of_ble_eq_true rfl) fX5_10 ?_
    refine t_getI (q := 51) (k := 1) (f := 8) (v := (S.1 1 8)) dX5_now_48 rfl rfl rfl rfl inX1 (Nat.le_of_ble_eq_true rfl) fX5_119 rfl ?_
    obtain rfl := Option.some.inj h
    exact t_iret dX5_now_51 rfl rfl
  rw [if_neg hs2_0] at h
  by_cases hs2_1 : x1 = 1
  · rw [if_pos hs2_1] at h
    refine s_tableIn (off := 51) (tgt := 52) dX5_now_1 (by rw [hs2_1]; decide) (by rw [hs2_1]; decide) (by rw [hs2_1]; rfl) rfl ?_
    refine s_aload_n (q := 53) dX5_now_52 rfl rfl 0 rfl ?_
    refine t_getR (q := 56) (k := 0) (f := 0) (t := 1) dX5_now_53 rfl rfl rfl rfl inX5 (Nat.le_of_ble_eq_true rfl) fX5_10 ?_
    refine s_aload_n (q := 57) dX5_now_56 rfl rfl 0 rfl ?_
    refine t_getR (q := 60) (k := 0) (f := 0) (t := 1) dX5_now_57 rfl rfl rfl rfl inX5 (Nat.le_of_ble_eq_true rfl) fX5_10 ?_
    refine t_getR (q := 63) (k := 1) (f := 3) (t := 4) dX5_now_60 rfl rfl rfl rfl inX1 (Nat.le_of_ble_eq_true rfl) fX5_80 ?_
    obtain ⟨q3, hc3, h⟩ := bnd h
    try dsimp only at h
    refine t_callV (q := 66) (N := mX1_brightSet) (a := eB E + 1) [.ref (eB E + 4)] dX5_now_63 rfl nkX1_brightSet vkX1_brightSet lX5_126 ⟨Nat.le_of_ble_eq_true rfl, Nat.le_of_ble_eq_true rfl⟩ (rc_obj (k := 1) rfl rfl) rfl rfl (Nat.le_of_ble_eq_true rfl) (Nat.le_of_ble_eq_true rfl) (T_X1_brightSet_1_4 E  hc3) ?_
    obtain rfl := Option.some.inj h
    exact t_iret dX5_now_66 rfl rfl
  rw [if_neg hs2_1] at h
  by_cases hs2_2 : x1 = 2
  · rw [if_pos hs2_2] at h
    refine s_tableIn (off := 66) (tgt := 67) dX5_now_1 (by rw [hs2_2]; decide) (by rw [hs2_2]; decide) (by rw [hs2_2]; rfl) rfl ?_
    refine s_aload_n (q := 68) dX5_now_67 rfl rfl 0 rfl ?_
    refine t_getR (q := 71) (k := 0) (f := 0) (t := 1) dX5_now_68 rfl rfl rfl rfl inX5 (Nat.le_of_ble_eq_true rfl) fX5_10 ?_
    obtain ⟨q4, hc4, h⟩ := bnd h
    try dsimp only at h
    refine t_callV (q := 74) (N := mX1_lifeTogether) (a := eB E + 1) [] dX5_now_71 rfl nkX1_lifeTogether vkX1_lifeTogether lX5_135 ⟨Nat.le_of_ble_eq_true rfl, Nat.le_of_ble_eq_true rfl⟩ (rc_obj (k := 1) rfl rfl) rfl rfl (Nat.le_of_ble_eq_true rfl) (Nat.le_of_ble_eq_true rfl) (T_X1_lifeTogether_1 E  hc4) ?_
    obtain rfl := Option.some.inj h
    exact t_iret dX5_now_74 rfl rfl
  rw [if_neg hs2_2] at h
  by_cases hs2_3 : x1 = 3
  · rw [if_pos hs2_3] at h
    refine s_tableIn (off := 74) (tgt := 75) dX5_now_1 (by rw [hs2_3]; decide) (by rw [hs2_3]; decide) (by rw [hs2_3]; rfl) rfl ?_
    refine s_aload_n (q := 76) dX5_now_75 rfl rfl 0 rfl ?_
    refine t_getR (q := 79) (k := 0) (f := 0) (t := 1) dX5_now_76 rfl rfl rfl rfl inX5 (Nat.le_of_ble_eq_true rfl) fX5_10 ?_
    refine s_aload_n (q := 80) dX5_now_79 rfl rfl 0 rfl ?_
    refine t_getR (q := 83) (k := 0) (f := 0) (t := 1) dX5_now_80 rfl rfl rfl rfl inX5 (Nat.le_of_ble_eq_true rfl) fX5_10 ?_
    refine s_aload_n (q := 84) dX5_now_83 rfl rfl 0 rfl ?_
    refine t_getR (q := 87) (k := 0) (f := 0) (t := 1) dX5_now_84 rfl rfl rfl rfl inX5 (Nat.le_of_ble_eq_true rfl) fX5_10 ?_
    refine t_getR (q := 90) (k := 1) (f := 3) (t := 4) dX5_now_87 rfl rfl rfl rfl inX1 (Nat.le_of_ble_eq_true rfl) fX5_80 ?_
    obtain ⟨q5, hc5, h⟩ := bnd h
    try dsimp only at h
    refine t_callV (q := 93) (N := mX1_brightSet) (a := eB E + 1) [.ref (eB E + 4)] dX5_now_90 rfl nkX1_brightSet vkX1_brightSet lX5_126 ⟨Nat.le_of_ble_eq_true rfl, Nat.le_of_ble_eq_true rfl⟩ (rc_obj (k := 1) rfl rfl) rfl rfl (Nat.le_of_ble_eq_true rfl) (Nat.le_of_ble_eq_true rfl) (T_X1_brightSet_1_4 E  hc5) ?_
    obtain ⟨q6, hc6, h⟩ := bnd h
    try dsimp only at h
    refine t_callV (q := 96) (N := mX1_worthOf) (a := eB E + 1) [.int q5.1] dX5_now_93 rfl nkX1_worthOf vkX1_worthOf lX5_139 ⟨Nat.le_of_ble_eq_true rfl, Nat.le_of_ble_eq_true rfl⟩ (rc_obj (k := 1) rfl rfl) rfl rfl (Nat.le_of_ble_eq_true rfl) (Nat.le_of_ble_eq_true rfl) (T_X1_worthOf_1 E _ hc6) ?_
    obtain rfl := Option.some.inj h
    exact t_iret dX5_now_96 rfl rfl
  rw [if_neg hs2_3] at h
  by_cases hs2_4 : x1 = 4
  · rw [if_pos hs2_4] at h
    refine s_tableIn (off := 96) (tgt := 97) dX5_now_1 (by rw [hs2_4]; decide) (by rw [hs2_4]; decide) (by rw [hs2_4]; rfl) rfl ?_
    refine s_aload_n (q := 98) dX5_now_97 rfl rfl 0 rfl ?_
    refine t_getR (q := 101) (k := 0) (f := 0) (t := 1) dX5_now_98 rfl rfl rfl rfl inX5 (Nat.le_of_ble_eq_true rfl) fX5_10 ?_
    refine t_getR (q := 104) (k := 1) (f := 7) (t := 8) dX5_now_101 rfl rfl rfl rfl inX1 (Nat.le_of_ble_eq_true rfl) fX5_83 ?_
    refine s_iconst (q := 105) (v := 3) dX5_now_104 rfl rfl ?_
    refine u_iald (q := 106) (k := 8) (j := 3) (v := (S.1 8 3)) dX5_now_105 rfl rfl (inB_in (by decide)) (by decide) rfl ?_
    obtain rfl := Option.some.inj h
    exact t_iret dX5_now_106 rfl rfl
  rw [if_neg hs2_4] at h
  by_cases hs2_5 : x1 = 5
  · rw [if_pos hs2_5] at h
    refine s_tableIn (off := 106) (tgt := 107) dX5_now_1 (by rw [hs2_5]; decide) (by rw [hs2_5]; decide) (by rw [hs2_5]; rfl) rfl ?_
    refine s_aload_n (q := 108) dX5_now_107 rfl rfl 0 rfl ?_
    refine t_getR (q := 111) (k := 0) (f := 0) (t := 1) dX5_now_108 rfl rfl rfl rfl inX5 (Nat.le_of_ble_eq_true rfl) fX5_10 ?_
    refine t_getR (q := 114) (k := 1) (f := 7) (t := 8) dX5_now_111 rfl rfl rfl rfl inX1 (Nat.le_of_ble_eq_true rfl) fX5_83 ?_
    refine s_iconst (q := 115) (v := 0) dX5_now_114 rfl rfl ?_
    refine u_iald (q := 116) (k := 8) (j := 0) (v := (S.1 8 0)) dX5_now_115 rfl rfl (inB_in (by decide)) (by decide) rfl ?_
    obtain rfl := Option.some.inj h
    exact t_iret dX5_now_116 rfl rfl
  rw [if_neg hs2_5] at h
  by_cases hs2_6 : x1 = 6
  · rw [if_pos hs2_6] at h
    refine s_tableIn (off := 116) (tgt := 117) dX5_now_1 (by rw [hs2_6]; decide) (by rw [hs2_6]; decide) (by rw [hs2_6]; rfl) rfl ?_
    refine s_aload_n (q := 118) dX5_now_117 rfl rfl 0 rfl ?_
    refine t_getR (q := 121) (k := 0) (f := 0) (t := 1) dX5_now_118 rfl rfl rfl rfl inX5 (Nat.le_of_ble_eq_true rfl) fX5_10 ?_
    refine t_getR (q := 124) (k := 1) (f := 7) (t := 8) dX5_now_121 rfl rfl rfl rfl inX1 (Nat.le_of_ble_eq_true rfl) fX5_83 ?_
    refine s_iconst (q := 125) (v := 1) dX5_now_124 rfl rfl ?_
    refine u_iald (q := 126) (k := 8) (j := 1) (v := (S.1 8 1)) dX5_now_125 rfl rfl (inB_in (by decide)) (by decide) rfl ?_
    obtain rfl := Option.some.inj h
    exact t_iret dX5_now_126 rfl rfl
  rw [if_neg hs2_6] at h
  refine s_tableOut (tgt := 127) dX5_now_1 (by have e0 := lv_neT (a := 0) hs2_0 (by decide); have e1 := lv_neT (a := 1) hs2_1 (by decide); have e2 := lv_neT (a := 2) hs2_2 (by decide); have e3 := lv_neT (a := 3) hs2_3 (by decide); have e4 := lv_neT (a := 4) hs2_4 (by decide); have e5 := lv_neT (a := 5) hs2_5 (by decide); have e6 := lv_neT (a := 6) hs2_6 (by decide); omega) rfl ?_
  refine s_aload_n (q := 128) dX5_now_127 rfl rfl 0 rfl ?_
  refine s_iconst (q := 129) (v := 0) dX5_now_128 rfl rfl ?_
  obtain ⟨q1, hc1, h⟩ := bnd h
  try dsimp only at h
  refine t_callV (q := 132) (N := mX5_finding) (a := eB E + 0) [.int 0] dX5_now_129 rfl nkX5_finding vkX5_finding lX5_61 ⟨Nat.le_of_ble_eq_true rfl, Nat.le_of_ble_eq_true rfl⟩ (rc_obj (k := 0) rfl rfl) rfl rfl (Nat.le_of_ble_eq_true rfl) (Nat.le_of_ble_eq_true rfl) (T_X5_finding_0 E _ hc1) ?_
  obtain rfl := Option.some.inj h
  exact t_iret dX5_now_132 rfl rfl
-- X6_lives
def G_X6_lives_51_4 : Nat → Int32 → Int32 → ST → Option (Int32 × ST)
  | 0, _, _, _ => none
  | n + 1, x1, x2, S => (if (S.1 52 1) ≤ x2 then some (x1, S) else ((G_X6_get_51 x2 2 S).bind fun q2 => G_X6_lives_51_4 n (x1 + q2.1) (x2 + 1) q2.2))
set_option maxHeartbeats 4000000 in
set_option maxRecDepth 100000 in
theorem T_X6_lives_51_4 (E : EV) : ∀ (n : Nat) (x1 : Int32) (x2 : Int32) (S : ST), ∀ (w : (Int32 × ST)), G_X6_lives_51_4 n x1 x2 S = some w → ∀ {Q : Option Value → ST → Prop}, SS E mX6_lives 29 [(1, .int w.1)] [] w.2 Q → SS E mX6_lives 4 [(0, .ref (eB E + 51)), (1, .int x1), (2, .int x2)] [] S Q := by
  intro n
  induction n with
  | zero =>
    intro x1 x2 S w h
    cases h
  | succ n ih =>
    intro x1 x2 S w h Q K
    unfold G_X6_lives_51_4 at h
    refine s_iload_n (q := 5) dX6_lives_4 rfl rfl 2 rfl ?_
    refine s_aload_n (q := 6) dX6_lives_5 rfl rfl 0 rfl ?_
    refine t_getR (q := 9) (k := 51) (f := 0) (t := 52) dX6_lives_6 rfl rfl rfl rfl inX6 (Nat.le_of_ble_eq_true rfl) fX6_9 ?_
    refine s_iconst (q := 10) (v := 1) dX6_lives_9 rfl rfl ?_
    refine u_iald (q := 11) (k := 52) (j := 1) (v := (S.1 52 1)) dX6_lives_10 rfl rfl (inB_in (by decide)) (by decide) rfl ?_
    refine s_icmp_ge (q := 14) (tgt := 29) dX6_lives_11 rfl rfl (fun hb1 => ?_) (fun hb1 => ?_)
    · rw [if_pos hb1] at h
      obtain rfl := Option.some.inj h
      exact t_sub [1] rfl K
    · rw [if_neg hb1] at h
      refine s_iload_n (q := 15) dX6_lives_14 rfl rfl 1 rfl ?_
      refine s_aload_n (q := 16) dX6_lives_15 rfl rfl 0 rfl ?_
      refine s_iload_n (q := 17) dX6_lives_16 rfl rfl 2 rfl ?_
      refine s_iconst (q := 18) (v := 2) dX6_lives_17 rfl rfl ?_
      obtain ⟨q2, hc2, h⟩ := bnd h
      try dsimp only at h
      refine t_callV (q := 21) (N := mX6_get) (a := eB E + 51) [.int x2, .int 2] dX6_lives_18 rfl nkX6_get vkX6_get lX6_58 ⟨Nat.le_of_ble_eq_true rfl, Nat.le_of_ble_eq_true rfl⟩ (rc_obj (k := 51) rfl rfl) rfl rfl (Nat.le_of_ble_eq_true rfl) (Nat.le_of_ble_eq_true rfl) (T_X6_get_51 E _ _ hc2) ?_
      refine s_iadd (q := 22) dX6_lives_21 rfl ?_
      refine s_istore_n (q := 23) (lv' := [(1, .int (x1 + q2.1)), (0, .ref (eB E + 51)), (2, .int x2)]) dX6_lives_22 rfl rfl (Nat.le_of_ble_eq_true rfl) rfl ?_
      refine s_iinc (q := 26) (j := 2) (v := (x2 + 1)) (lv' := [(2, .int (x2 + 1)), (1, .int (x1 + q2.1)), (0, .ref (eB E + 51))]) dX6_lives_23 rfl rfl rfl (Nat.le_of_ble_eq_true rfl) rfl ?_
      refine s_goto (tgt := 4) dX6_lives_26 rfl ?_
      exact t_sub [2, 1, 0] rfl (ih _ _ _ _ h K)
def G_X6_lives_51  (S : ST) : Option (Int32 × ST) := (G_X6_lives_51_4 3000 0 0 S).bind fun q3 => some (q3.1, q3.2)
set_option maxHeartbeats 4000000 in
set_option maxRecDepth 100000 in
theorem T_X6_lives_51 (E : EV)  {S : ST} {w : (Int32 × ST)} (h : G_X6_lives_51  S = some w) : SD E mX6_lives 0 [(0, .ref (eB E + 51))] [] S (some (.int w.1)) w.2 := by
  unfold G_X6_lives_51 at h
  refine s_iconst (q := 1) (v := 0) dX6_lives_0 rfl rfl ?_
  refine s_istore_n (q := 2) (lv' := [(1, .int 0), (0, .ref (eB E + 51))]) dX6_lives_1 rfl rfl (Nat.le_of_ble_eq_true rfl) rfl ?_
  refine s_iconst (q := 3) (v := 0) dX6_lives_2 rfl rfl ?_
  refine s_istore_n (q := 4) (lv' := [(2, .int 0), (1, .int 0), (0, .ref (eB E + 51))]) dX6_lives_3 rfl rfl (Nat.le_of_ble_eq_true rfl) rfl ?_
  obtain ⟨q3, hc3, h⟩ := bnd h
  try dsimp only at h
  refine t_sub [2, 1, 0] rfl (T_X6_lives_51_4 E _ _ _ _ _ hc3 ?_)
  refine s_iload_n (q := 30) dX6_lives_29 rfl rfl 0 rfl ?_
  obtain rfl := Option.some.inj h
  exact t_iret dX6_lives_30 rfl rfl
-- X6_isIn
def G_X6_isIn (x0 : Int32) (x1 : Int32) (S : ST) : Option (Int32 × ST) := (if ((x0 >>> (x1 &&& 31)) &&& 1) = 1 then some (1, S) else some (0, S))
set_option maxHeartbeats 4000000 in
set_option maxRecDepth 100000 in
theorem T_X6_isIn (E : EV) (x0 : Int32) (x1 : Int32) {S : ST} {w : (Int32 × ST)} (h : G_X6_isIn x0 x1 S = some w) : SD E mX6_isIn 0 [(0, .int x0), (1, .int x1)] [] S (some (.int w.1)) w.2 := by
  unfold G_X6_isIn at h
  refine s_iload_n (q := 1) dX6_isIn_0 rfl rfl 0 rfl ?_
  refine s_iload_n (q := 2) dX6_isIn_1 rfl rfl 1 rfl ?_
  refine s_ishr (q := 3) dX6_isIn_2 rfl ?_
  refine s_iconst (q := 4) (v := 1) dX6_isIn_3 rfl rfl ?_
  refine s_iand (q := 5) dX6_isIn_4 rfl ?_
  refine s_iconst (q := 6) (v := 1) dX6_isIn_5 rfl rfl ?_
  refine s_icmp_ne (q := 9) (tgt := 13) dX6_isIn_6 rfl rfl (fun hb1 => ?_) (fun hb1 => ?_)
  · rw [if_neg hb1] at h
    refine s_iconst (q := 14) (v := 0) dX6_isIn_13 rfl rfl ?_
    obtain rfl := Option.some.inj h
    exact t_zret dX6_isIn_14 rfl rfl rfl
  · rw [if_pos hb1] at h
    refine s_iconst (q := 10) (v := 1) dX6_isIn_9 rfl rfl ?_
    refine s_goto (tgt := 14) dX6_isIn_10 rfl ?_
    obtain rfl := Option.some.inj h
    exact t_zret dX6_isIn_14 rfl rfl rfl
-- X6_worthOf
def G_X6_worthOf_51_4 : Nat → Int32 → Int32 → Int32 → ST → Option (Int32 × ST)
  | 0, _, _, _, _ => none
  | n + 1, x1, x2, x3, S => (if (S.1 52 1) ≤ x3 then some (x2, S) else ((G_X6_isIn x1 x3 S).bind fun q2 => (if q2.1 = 0 then G_X6_worthOf_51_4 n x1 (x2 + 0) (x3 + 1) q2.2 else ((G_X6_get_51 x3 3 q2.2).bind fun q4 => G_X6_worthOf_51_4 n x1 (x2 + q4.1) (x3 + 1) q4.2))))
set_option maxHeartbeats 4000000 in
set_option maxRecDepth 100000 in
theorem T_X6_worthOf_51_4 (E : EV) : ∀ (n : Nat) (x1 : Int32) (x2 : Int32) (x3 : Int32) (S : ST), ∀ (w : (Int32 × ST)), G_X6_worthOf_51_4 n x1 x2 x3 S = some w → ∀ {Q : Option Value → ST → Prop}, SS E mX6_worthOf 41 [(2, .int w.1)] [] w.2 Q → SS E mX6_worthOf 4 [(0, .ref (eB E + 51)), (1, .int x1), (2, .int x2), (3, .int x3)] [] S Q := by
  intro n
  induction n with
  | zero =>
    intro x1 x2 x3 S w h
    cases h
  | succ n ih =>
    intro x1 x2 x3 S w h Q K
    unfold G_X6_worthOf_51_4 at h
    refine s_iload_n (q := 5) dX6_worthOf_4 rfl rfl 3 rfl ?_
    refine s_aload_n (q := 6) dX6_worthOf_5 rfl rfl 0 rfl ?_
    refine t_getR (q := 9) (k := 51) (f := 0) (t := 52) dX6_worthOf_6 rfl rfl rfl rfl inX6 (Nat.le_of_ble_eq_true rfl) fX6_9 ?_
    refine s_iconst (q := 10) (v := 1) dX6_worthOf_9 rfl rfl ?_
    refine u_iald (q := 11) (k := 52) (j := 1) (v := (S.1 52 1)) dX6_worthOf_10 rfl rfl (inB_in (by decide)) (by decide) rfl ?_
    refine s_icmp_ge (q := 14) (tgt := 41) dX6_worthOf_11 rfl rfl (fun hb1 => ?_) (fun hb1 => ?_)
    · rw [if_pos hb1] at h
      obtain rfl := Option.some.inj h
      exact t_sub [2] rfl K
    · rw [if_neg hb1] at h
      refine s_iload_n (q := 15) dX6_worthOf_14 rfl rfl 2 rfl ?_
      refine s_iload_n (q := 16) dX6_worthOf_15 rfl rfl 1 rfl ?_
      refine s_iload_n (q := 17) dX6_worthOf_16 rfl rfl 3 rfl ?_
      obtain ⟨q2, hc2, h⟩ := bnd h
      try dsimp only at h
      refine t_callS (q := 20) (N := mX6_isIn) [.int x1, .int x3] dX6_worthOf_17 rfl nkX6_isIn sX6_isIn lX6_70 ⟨Nat.le_of_ble_eq_true rfl, Nat.le_of_ble_eq_true rfl⟩ rfl rfl (Nat.le_of_ble_eq_true rfl) (Nat.le_of_ble_eq_true rfl) (T_X6_isIn E _ _ hc2) ?_
      refine s_if_eq (q := 23) (tgt := 32) dX6_worthOf_20 rfl rfl (fun hb3 => ?_) (fun hb3 => ?_)
      · rw [if_pos hb3] at h
        refine s_iconst (q := 33) (v := 0) dX6_worthOf_32 rfl rfl ?_
        refine s_iadd (q := 34) dX6_worthOf_33 rfl ?_
        refine s_istore_n (q := 35) (lv' := [(2, .int (x2 + 0)), (0, .ref (eB E + 51)), (1, .int x1), (3, .int x3)]) dX6_worthOf_34 rfl rfl (Nat.le_of_ble_eq_true rfl) rfl ?_
        refine s_iinc (q := 38) (j := 3) (v := (x3 + 1)) (lv' := [(3, .int (x3 + 1)), (2, .int (x2 + 0)), (0, .ref (eB E + 51)), (1, .int x1)]) dX6_worthOf_35 rfl rfl rfl (Nat.le_of_ble_eq_true rfl) rfl ?_
        refine s_goto (tgt := 4) dX6_worthOf_38 rfl ?_
        exact t_sub [2, 3, 1, 0] rfl (ih _ _ _ _ _ h K)
      · rw [if_neg hb3] at h
        refine s_aload_n (q := 24) dX6_worthOf_23 rfl rfl 0 rfl ?_
        refine s_iload_n (q := 25) dX6_worthOf_24 rfl rfl 3 rfl ?_
        refine s_iconst (q := 26) (v := 3) dX6_worthOf_25 rfl rfl ?_
        obtain ⟨q4, hc4, h⟩ := bnd h
        try dsimp only at h
        refine t_callV (q := 29) (N := mX6_get) (a := eB E + 51) [.int x3, .int 3] dX6_worthOf_26 rfl nkX6_get vkX6_get lX6_58 ⟨Nat.le_of_ble_eq_true rfl, Nat.le_of_ble_eq_true rfl⟩ (rc_obj (k := 51) rfl rfl) rfl rfl (Nat.le_of_ble_eq_true rfl) (Nat.le_of_ble_eq_true rfl) (T_X6_get_51 E _ _ hc4) ?_
        refine s_goto (tgt := 33) dX6_worthOf_29 rfl ?_
        refine s_iadd (q := 34) dX6_worthOf_33 rfl ?_
        refine s_istore_n (q := 35) (lv' := [(2, .int (x2 + q4.1)), (0, .ref (eB E + 51)), (1, .int x1), (3, .int x3)]) dX6_worthOf_34 rfl rfl (Nat.le_of_ble_eq_true rfl) rfl ?_
        refine s_iinc (q := 38) (j := 3) (v := (x3 + 1)) (lv' := [(3, .int (x3 + 1)), (2, .int (x2 + q4.1)), (0, .ref (eB E + 51)), (1, .int x1)]) dX6_worthOf_35 rfl rfl rfl (Nat.le_of_ble_eq_true rfl) rfl ?_
        refine s_goto (tgt := 4) dX6_worthOf_38 rfl ?_
        exact t_sub [2, 3, 1, 0] rfl (ih _ _ _ _ _ h K)
def G_X6_worthOf_51 (x1 : Int32) (S : ST) : Option (Int32 × ST) := (G_X6_worthOf_51_4 3000 x1 0 0 S).bind fun q5 => some (q5.1, q5.2)
set_option maxHeartbeats 4000000 in
set_option maxRecDepth 100000 in
theorem T_X6_worthOf_51 (E : EV) (x1 : Int32) {S : ST} {w : (Int32 × ST)} (h : G_X6_worthOf_51 x1 S = some w) : SD E mX6_worthOf 0 [(0, .ref (eB E + 51)), (1, .int x1)] [] S (some (.int w.1)) w.2 := by
  unfold G_X6_worthOf_51 at h
  refine s_iconst (q := 1) (v := 0) dX6_worthOf_0 rfl rfl ?_
  refine s_istore_n (q := 2) (lv' := [(2, .int 0), (0, .ref (eB E + 51)), (1, .int x1)]) dX6_worthOf_1 rfl rfl (Nat.le_of_ble_eq_true rfl) rfl ?_
  refine s_iconst (q := 3) (v := 0) dX6_worthOf_2 rfl rfl ?_
  refine s_istore_n (q := 4) (lv' := [(3, .int 0), (2, .int 0), (0, .ref (eB E + 51)), (1, .int x1)]) dX6_worthOf_3 rfl rfl (Nat.le_of_ble_eq_true rfl) rfl ?_
  obtain ⟨q5, hc5, h⟩ := bnd h
  try dsimp only at h
  refine t_sub [2, 3, 1, 0] rfl (T_X6_worthOf_51_4 E _ _ _ _ _ _ hc5 ?_)
  refine s_iload_n (q := 42) dX6_worthOf_41 rfl rfl 0 rfl ?_
  obtain rfl := Option.some.inj h
  exact t_iret dX6_worthOf_42 rfl rfl
-- X6_now
def G_X6_now_51 (x1 : Int32) (S : ST) : Option (Int32 × ST) := (if x1 = 0 then some ((S.1 52 0), S) else (if x1 = 1 then ((G_X6_shining_51  S).bind fun q3 => some (q3.1, q3.2)) else (if x1 = 2 then ((G_X6_lives_51  S).bind fun q4 => some (q4.1, q4.2)) else (if x1 = 3 then ((G_X6_shining_51  S).bind fun q5 => ((G_X6_worthOf_51 q5.1 q5.2).bind fun q6 => some (q6.1, q6.2))) else (if x1 = 4 then some ((S.1 52 7), S) else (if x1 = 5 then some ((S.1 52 4), S) else (if x1 = 6 then some ((S.1 52 5), S) else ((G_X6_no_51 0 S).bind fun q1 => some (q1.1, q1.2)))))))))
set_option maxHeartbeats 4000000 in
set_option maxRecDepth 100000 in
theorem T_X6_now_51 (E : EV) (x1 : Int32) {S : ST} {w : (Int32 × ST)} (h : G_X6_now_51 x1 S = some w) : SD E mX6_now 0 [(0, .ref (eB E + 51)), (1, .int x1)] [] S (some (.int w.1)) w.2 := by
  unfold G_X6_now_51 at h
  refine s_iload_n (q := 1) dX6_now_0 rfl rfl 1 rfl ?_
  by_cases hs2_0 : x1 = 0
  · rw [if_pos hs2_0] at h
    refine s_tableIn (off := 43) (tgt := 44) dX6_now_1 (by rw [hs2_0]; decide) (by rw [hs2_0]; decide) (by rw [hs2_0]; rfl) rfl ?_
    refine s_aload_n (q := 45) dX6_now_44 rfl rfl 0 rfl ?_
    refine t_getR (q := 48) (k := 51) (f := 0) (t := 52) dX6_now_45 rfl rfl rfl rfl inX6 (Nat.le_of_ble_eq_true rfl) fX6_9 ?_
    refine s_iconst (q := 49) (v := 0) dX6_now_48 rfl rfl ?_
    refine u_iald (q := 50) (k := 52) (j := 0) (v := (S.1 52 0)) dX6_now_49 rfl rfl (inB_in (by decide)) (by decide) rfl ?_
    obtain rfl := Option.some.inj h
    exact t_iret dX6_now_50 rfl rfl
  rw [if_neg hs2_0] at h
  by_cases hs2_1 : x1 = 1
  · rw [if_pos hs2_1] at h
    refine s_tableIn (off := 50) (tgt := 51) dX6_now_1 (by rw [hs2_1]; decide) (by rw [hs2_1]; decide) (by rw [hs2_1]; rfl) rfl ?_
    refine s_aload_n (q := 52) dX6_now_51 rfl rfl 0 rfl ?_
    obtain ⟨q3, hc3, h⟩ := bnd h
    try dsimp only at h
    refine t_callV (q := 55) (N := mX6_shining) (a := eB E + 51) [] dX6_now_52 rfl nkX6_shining vkX6_shining lX6_117 ⟨Nat.le_of_ble_eq_true rfl, Nat.le_of_ble_eq_true rfl⟩ (rc_obj (k := 51) rfl rfl) rfl rfl (Nat.le_of_ble_eq_true rfl) (Nat.le_of_ble_eq_true rfl) (T_X6_shining_51 E  hc3) ?_
    obtain rfl := Option.some.inj h
    exact t_iret dX6_now_55 rfl rfl
  rw [if_neg hs2_1] at h
  by_cases hs2_2 : x1 = 2
  · rw [if_pos hs2_2] at h
    refine s_tableIn (off := 55) (tgt := 56) dX6_now_1 (by rw [hs2_2]; decide) (by rw [hs2_2]; decide) (by rw [hs2_2]; rfl) rfl ?_
    refine s_aload_n (q := 57) dX6_now_56 rfl rfl 0 rfl ?_
    obtain ⟨q4, hc4, h⟩ := bnd h
    try dsimp only at h
    refine t_callV (q := 60) (N := mX6_lives) (a := eB E + 51) [] dX6_now_57 rfl nkX6_lives vkX6_lives lX6_124 ⟨Nat.le_of_ble_eq_true rfl, Nat.le_of_ble_eq_true rfl⟩ (rc_obj (k := 51) rfl rfl) rfl rfl (Nat.le_of_ble_eq_true rfl) (Nat.le_of_ble_eq_true rfl) (T_X6_lives_51 E  hc4) ?_
    obtain rfl := Option.some.inj h
    exact t_iret dX6_now_60 rfl rfl
  rw [if_neg hs2_2] at h
  by_cases hs2_3 : x1 = 3
  · rw [if_pos hs2_3] at h
    refine s_tableIn (off := 60) (tgt := 61) dX6_now_1 (by rw [hs2_3]; decide) (by rw [hs2_3]; decide) (by rw [hs2_3]; rfl) rfl ?_
    refine s_aload_n (q := 62) dX6_now_61 rfl rfl 0 rfl ?_
    refine s_aload_n (q := 63) dX6_now_62 rfl rfl 0 rfl ?_
    obtain ⟨q5, hc5, h⟩ := bnd h
    try dsimp only at h
    refine t_callV (q := 66) (N := mX6_shining) (a := eB E + 51) [] dX6_now_63 rfl nkX6_shining vkX6_shining lX6_117 ⟨Nat.le_of_ble_eq_true rfl, Nat.le_of_ble_eq_true rfl⟩ (rc_obj (k := 51) rfl rfl) rfl rfl (Nat.le_of_ble_eq_true rfl) (Nat.le_of_ble_eq_true rfl) (T_X6_shining_51 E  hc5) ?_
    obtain ⟨q6, hc6, h⟩ := bnd h
    try dsimp only at h
    refine t_callV (q := 69) (N := mX6_worthOf) (a := eB E + 51) [.int q5.1] dX6_now_66 rfl nkX6_worthOf vkX6_worthOf lX6_127 ⟨Nat.le_of_ble_eq_true rfl, Nat.le_of_ble_eq_true rfl⟩ (rc_obj (k := 51) rfl rfl) rfl rfl (Nat.le_of_ble_eq_true rfl) (Nat.le_of_ble_eq_true rfl) (T_X6_worthOf_51 E _ hc6) ?_
    obtain rfl := Option.some.inj h
    exact t_iret dX6_now_69 rfl rfl
  rw [if_neg hs2_3] at h
  by_cases hs2_4 : x1 = 4
  · rw [if_pos hs2_4] at h
    refine s_tableIn (off := 69) (tgt := 70) dX6_now_1 (by rw [hs2_4]; decide) (by rw [hs2_4]; decide) (by rw [hs2_4]; rfl) rfl ?_
    refine s_aload_n (q := 71) dX6_now_70 rfl rfl 0 rfl ?_
    refine t_getR (q := 74) (k := 51) (f := 0) (t := 52) dX6_now_71 rfl rfl rfl rfl inX6 (Nat.le_of_ble_eq_true rfl) fX6_9 ?_
    refine s_bipush (q := 76) (v := 7) dX6_now_74 rfl rfl ?_
    refine u_iald (q := 77) (k := 52) (j := 7) (v := (S.1 52 7)) dX6_now_76 rfl rfl (inB_in (by decide)) (by decide) rfl ?_
    obtain rfl := Option.some.inj h
    exact t_iret dX6_now_77 rfl rfl
  rw [if_neg hs2_4] at h
  by_cases hs2_5 : x1 = 5
  · rw [if_pos hs2_5] at h
    refine s_tableIn (off := 77) (tgt := 78) dX6_now_1 (by rw [hs2_5]; decide) (by rw [hs2_5]; decide) (by rw [hs2_5]; rfl) rfl ?_
    refine s_aload_n (q := 79) dX6_now_78 rfl rfl 0 rfl ?_
    refine t_getR (q := 82) (k := 51) (f := 0) (t := 52) dX6_now_79 rfl rfl rfl rfl inX6 (Nat.le_of_ble_eq_true rfl) fX6_9 ?_
    refine s_iconst (q := 83) (v := 4) dX6_now_82 rfl rfl ?_
    refine u_iald (q := 84) (k := 52) (j := 4) (v := (S.1 52 4)) dX6_now_83 rfl rfl (inB_in (by decide)) (by decide) rfl ?_
    obtain rfl := Option.some.inj h
    exact t_iret dX6_now_84 rfl rfl
  rw [if_neg hs2_5] at h
  by_cases hs2_6 : x1 = 6
  · rw [if_pos hs2_6] at h
    refine s_tableIn (off := 84) (tgt := 85) dX6_now_1 (by rw [hs2_6]; decide) (by rw [hs2_6]; decide) (by rw [hs2_6]; rfl) rfl ?_
    refine s_aload_n (q := 86) dX6_now_85 rfl rfl 0 rfl ?_
    refine t_getR (q := 89) (k := 51) (f := 0) (t := 52) dX6_now_86 rfl rfl rfl rfl inX6 (Nat.le_of_ble_eq_true rfl) fX6_9 ?_
    refine s_iconst (q := 90) (v := 5) dX6_now_89 rfl rfl ?_
    refine u_iald (q := 91) (k := 52) (j := 5) (v := (S.1 52 5)) dX6_now_90 rfl rfl (inB_in (by decide)) (by decide) rfl ?_
    obtain rfl := Option.some.inj h
    exact t_iret dX6_now_91 rfl rfl
  rw [if_neg hs2_6] at h
  refine s_tableOut (tgt := 92) dX6_now_1 (by have e0 := lv_neT (a := 0) hs2_0 (by decide); have e1 := lv_neT (a := 1) hs2_1 (by decide); have e2 := lv_neT (a := 2) hs2_2 (by decide); have e3 := lv_neT (a := 3) hs2_3 (by decide); have e4 := lv_neT (a := 4) hs2_4 (by decide); have e5 := lv_neT (a := 5) hs2_5 (by decide); have e6 := lv_neT (a := 6) hs2_6 (by decide); omega) rfl ?_
  refine s_aload_n (q := 93) dX6_now_92 rfl rfl 0 rfl ?_
  refine s_iconst (q := 94) (v := 0) dX6_now_93 rfl rfl ?_
  obtain ⟨q1, hc1, h⟩ := bnd h
  try dsimp only at h
  refine t_callV (q := 97) (N := mX6_no) (a := eB E + 51) [.int 0] dX6_now_94 rfl nkX6_no vkX6_no lX6_94 ⟨Nat.le_of_ble_eq_true rfl, Nat.le_of_ble_eq_true rfl⟩ (rc_obj (k := 51) rfl rfl) rfl rfl (Nat.le_of_ble_eq_true rfl) (Nat.le_of_ble_eq_true rfl) (T_X6_no_51 E _ hc1) ?_
  obtain rfl := Option.some.inj h
  exact t_iret dX6_now_97 rfl rfl
-- X5_replaced
def G_X5_replaced_6 (x1 : Int32) (x2 : Int32) (S : ST) : Option (Int32 × ST) := (if inB x1 4 = true then (if inB x1 4 = true then some ((S.1 6 x1.toNatClampNeg), (wr S 6 x1.toNatClampNeg x2)) else none) else none)
set_option maxHeartbeats 4000000 in
set_option maxRecDepth 100000 in
theorem T_X5_replaced_6 (E : EV) (x1 : Int32) (x2 : Int32) {S : ST} {w : (Int32 × ST)} (h : G_X5_replaced_6 x1 x2 S = some w) : SD E mX5_replaced 0 [(0, .ref (eB E + 6)), (1, .int x1), (2, .int x2)] [] S (some (.int w.1)) w.2 := by
  unfold G_X5_replaced_6 at h
  refine s_aload_n (q := 1) dX5_replaced_0 rfl rfl 0 rfl ?_
  refine s_iload_n (q := 2) dX5_replaced_1 rfl rfl 1 rfl ?_
  obtain ⟨hg1, h⟩ := chk_some h
  refine u_iald (q := 3) (k := 6) (v := (S.1 6 x1.toNatClampNeg)) dX5_replaced_2 rfl rfl (inB_in hg1) rfl rfl ?_
  refine s_istore_n (q := 4) (lv' := [(3, .int (S.1 6 x1.toNatClampNeg)), (0, .ref (eB E + 6)), (1, .int x1), (2, .int x2)]) dX5_replaced_3 rfl rfl (Nat.le_of_ble_eq_true rfl) rfl ?_
  refine s_aload_n (q := 5) dX5_replaced_4 rfl rfl 1 rfl ?_
  refine s_iload_n (q := 6) dX5_replaced_5 rfl rfl 2 rfl ?_
  refine s_iload_n (q := 7) dX5_replaced_6 rfl rfl 3 rfl ?_
  obtain ⟨hg2, h⟩ := chk_some h
  refine u_iast (q := 8) (k := 6) dX5_replaced_7 rfl rfl (inB_in hg2) rfl ?_
  refine s_iload_n (q := 9) dX5_replaced_8 rfl rfl 0 rfl ?_
  obtain rfl := Option.some.inj h
  exact t_iret dX5_replaced_9 rfl rfl
-- X5_mends
def G_X5_mends_0 (x1 : Int32) (x2 : Int32) (S : ST) : Option (Int32 × ST) := ((G_X5_isBelow x1 4 S).bind fun q1 => (if q1.1 = 0 then ((G_X5_finding_0 0 q1.2).bind fun q3 => some (q3.1, q3.2)) else ((G_X5_isBelow x2 (q1.2.1 1 0) q1.2).bind fun q4 => (if q4.1 = 0 then ((G_X5_finding_0 0 q4.2).bind fun q13 => some (q13.1, q13.2)) else (if (1 : Int32) ≤ (q4.2.1 8 3) then (if inB x2 10 = true then (if inB x2 10 = true then ((G_X5_replaced_6 x1 (q4.2.1 3 x2.toNatClampNeg) (wr (wr q4.2 8 3 ((q4.2.1 8 3) - 1)) 4 x2.toNatClampNeg 99)).bind fun q9 => (if inB x2 10 = true then ((G_X5_stepsBetween q9.1 (q9.2.1 3 x2.toNatClampNeg) q9.2).bind fun q11 => some (q11.1, q11.2)) else none)) else none) else none) else ((G_X5_finding_0 4 q4.2).bind fun q12 => some (q12.1, q12.2)))))))
set_option maxHeartbeats 4000000 in
set_option maxRecDepth 100000 in
theorem T_X5_mends_0 (E : EV) (x1 : Int32) (x2 : Int32) {S : ST} {w : (Int32 × ST)} (h : G_X5_mends_0 x1 x2 S = some w) : SD E mX5_mends 0 [(0, .ref (eB E + 0)), (1, .int x1), (2, .int x2)] [] S (some (.int w.1)) w.2 := by
  unfold G_X5_mends_0 at h
  refine s_iload_n (q := 1) dX5_mends_0 rfl rfl 1 rfl ?_
  refine s_iconst (q := 2) (v := 4) dX5_mends_1 rfl rfl ?_
  obtain ⟨q1, hc1, h⟩ := bnd h
  try dsimp only at h
  refine t_callS (q := 5) (N := mX5_isBelow) [.int x1, .int 4] dX5_mends_2 rfl nkX5_isBelow sX5_isBelow lX5_57 ⟨Nat.le_of_ble_eq_true rfl, Nat.le_of_ble_eq_true rfl⟩ rfl rfl (Nat.le_of_ble_eq_true rfl) (Nat.le_of_ble_eq_true rfl) (T_X5_isBelow E _ _ hc1) ?_
  refine s_if_eq (q := 8) (tgt := 22) dX5_mends_5 rfl rfl (fun hb2 => ?_) (fun hb2 => ?_)
  · rw [if_pos hb2] at h
    refine s_aload_n (q := 23) dX5_mends_22 rfl rfl 0 rfl ?_
    refine s_iconst (q := 24) (v := 0) dX5_mends_23 rfl rfl ?_
    obtain ⟨q3, hc3, h⟩ := bnd h
    try dsimp only at h
    refine t_callV (q := 27) (N := mX5_finding) (a := eB E + 0) [.int 0] dX5_mends_24 rfl nkX5_finding vkX5_finding lX5_61 ⟨Nat.le_of_ble_eq_true rfl, Nat.le_of_ble_eq_true rfl⟩ (rc_obj (k := 0) rfl rfl) rfl rfl (Nat.le_of_ble_eq_true rfl) (Nat.le_of_ble_eq_true rfl) (T_X5_finding_0 E _ hc3) ?_
    obtain rfl := Option.some.inj h
    exact t_iret dX5_mends_27 rfl rfl
  · rw [if_neg hb2] at h
    refine s_iload_n (q := 9) dX5_mends_8 rfl rfl 2 rfl ?_
    refine s_aload_n (q := 10) dX5_mends_9 rfl rfl 0 rfl ?_
    refine t_getR (q := 13) (k := 0) (f := 0) (t := 1) dX5_mends_10 rfl rfl rfl rfl inX5 (Nat.le_of_ble_eq_true rfl) fX5_10 ?_
    refine t_getI (q := 16) (k := 1) (f := 0) (v := (q1.2.1 1 0)) dX5_mends_13 rfl rfl rfl rfl inX1 (Nat.le_of_ble_eq_true rfl) fX5_65 rfl ?_
    obtain ⟨q4, hc4, h⟩ := bnd h
    try dsimp only at h
    refine t_callS (q := 19) (N := mX5_isBelow) [.int x2, .int (q1.2.1 1 0)] dX5_mends_16 rfl nkX5_isBelow sX5_isBelow lX5_57 ⟨Nat.le_of_ble_eq_true rfl, Nat.le_of_ble_eq_true rfl⟩ rfl rfl (Nat.le_of_ble_eq_true rfl) (Nat.le_of_ble_eq_true rfl) (T_X5_isBelow E _ _ hc4) ?_
    refine s_if_ne (q := 22) (tgt := 28) dX5_mends_19 rfl rfl (fun hb5 => ?_) (fun hb5 => ?_)
    · rw [if_neg hb5] at h
      refine s_aload_n (q := 29) dX5_mends_28 rfl rfl 0 rfl ?_
      refine t_getR (q := 32) (k := 0) (f := 0) (t := 1) dX5_mends_29 rfl rfl rfl rfl inX5 (Nat.le_of_ble_eq_true rfl) fX5_10 ?_
      refine t_getR (q := 35) (k := 1) (f := 7) (t := 8) dX5_mends_32 rfl rfl rfl rfl inX1 (Nat.le_of_ble_eq_true rfl) fX5_83 ?_
      refine s_iconst (q := 36) (v := 3) dX5_mends_35 rfl rfl ?_
      refine u_iald (q := 37) (k := 8) (j := 3) (v := (q4.2.1 8 3)) dX5_mends_36 rfl rfl (inB_in (by decide)) (by decide) rfl ?_
      refine s_iconst (q := 38) (v := 1) dX5_mends_37 rfl rfl ?_
      refine s_icmp_ge (q := 41) (tgt := 47) dX5_mends_38 rfl rfl (fun hb6 => ?_) (fun hb6 => ?_)
      · rw [if_pos hb6] at h
        refine s_aload_n (q := 48) dX5_mends_47 rfl rfl 0 rfl ?_
        refine t_getR (q := 51) (k := 0) (f := 0) (t := 1) dX5_mends_48 rfl rfl rfl rfl inX5 (Nat.le_of_ble_eq_true rfl) fX5_10 ?_
        refine t_getR (q := 54) (k := 1) (f := 7) (t := 8) dX5_mends_51 rfl rfl rfl rfl inX1 (Nat.le_of_ble_eq_true rfl) fX5_83 ?_
        refine s_iconst (q := 55) (v := 3) dX5_mends_54 rfl rfl ?_
        refine s_dup2 (q := 56) dX5_mends_55 rfl rfl rfl ?_
        refine u_iald (q := 57) (k := 8) (j := 3) (v := (q4.2.1 8 3)) dX5_mends_56 rfl rfl (inB_in (by decide)) (by decide) rfl ?_
        refine s_iconst (q := 58) (v := 1) dX5_mends_57 rfl rfl ?_
        refine s_isub (q := 59) dX5_mends_58 rfl ?_
        refine u_iast (q := 60) (k := 8) (j := 3) dX5_mends_59 rfl rfl (inB_in (by decide)) (by decide) ?_
        refine s_aload_n (q := 61) dX5_mends_60 rfl rfl 0 rfl ?_
        refine t_getR (q := 64) (k := 0) (f := 0) (t := 1) dX5_mends_61 rfl rfl rfl rfl inX5 (Nat.le_of_ble_eq_true rfl) fX5_10 ?_
        refine t_getR (q := 67) (k := 1) (f := 3) (t := 4) dX5_mends_64 rfl rfl rfl rfl inX1 (Nat.le_of_ble_eq_true rfl) fX5_80 ?_
        refine s_iload_n (q := 68) dX5_mends_67 rfl rfl 2 rfl ?_
        refine s_bipush (q := 70) (v := 99) dX5_mends_68 rfl rfl ?_
        obtain ⟨hg7, h⟩ := chk_some h
        refine u_iast (q := 71) (k := 4) dX5_mends_70 rfl rfl (inB_in hg7) rfl ?_
        refine s_aload_n (q := 72) dX5_mends_71 rfl rfl 0 rfl ?_
        refine t_getR (q := 75) (k := 0) (f := 0) (t := 1) dX5_mends_72 rfl rfl rfl rfl inX5 (Nat.le_of_ble_eq_true rfl) fX5_10 ?_
        refine t_getR (q := 78) (k := 1) (f := 5) (t := 6) dX5_mends_75 rfl rfl rfl rfl inX1 (Nat.le_of_ble_eq_true rfl) fX5_142 ?_
        refine s_iload_n (q := 79) dX5_mends_78 rfl rfl 1 rfl ?_
        refine s_aload_n (q := 80) dX5_mends_79 rfl rfl 0 rfl ?_
        refine t_getR (q := 83) (k := 0) (f := 0) (t := 1) dX5_mends_80 rfl rfl rfl rfl inX5 (Nat.le_of_ble_eq_true rfl) fX5_10 ?_
        refine t_getR (q := 86) (k := 1) (f := 2) (t := 3) dX5_mends_83 rfl rfl rfl rfl inX1 (Nat.le_of_ble_eq_true rfl) fX5_145 ?_
        refine s_iload_n (q := 87) dX5_mends_86 rfl rfl 2 rfl ?_
        obtain ⟨hg8, h⟩ := chk_some h
        refine u_iald (q := 88) (k := 3) (v := (q4.2.1 3 x2.toNatClampNeg)) dX5_mends_87 rfl rfl (inB_in hg8) rfl rfl ?_
        obtain ⟨q9, hc9, h⟩ := bnd h
        try dsimp only at h
        refine t_callS (q := 91) (N := mX5_replaced) [.ref (eB E + 6), .int x1, .int (q4.2.1 3 x2.toNatClampNeg)] dX5_mends_88 rfl nkX5_replaced sX5_replaced lX5_102 ⟨Nat.le_of_ble_eq_true rfl, Nat.le_of_ble_eq_true rfl⟩ rfl rfl (Nat.le_of_ble_eq_true rfl) (Nat.le_of_ble_eq_true rfl) (T_X5_replaced_6 E _ _ hc9) ?_
        refine s_istore_n (q := 92) (lv' := [(3, .int q9.1), (0, .ref (eB E + 0)), (1, .int x1), (2, .int x2)]) dX5_mends_91 rfl rfl (Nat.le_of_ble_eq_true rfl) rfl ?_
        refine s_iload_n (q := 93) dX5_mends_92 rfl rfl 0 rfl ?_
        refine s_aload_n (q := 94) dX5_mends_93 rfl rfl 1 rfl ?_
        refine t_getR (q := 97) (k := 0) (f := 0) (t := 1) dX5_mends_94 rfl rfl rfl rfl inX5 (Nat.le_of_ble_eq_true rfl) fX5_10 ?_
        refine t_getR (q := 100) (k := 1) (f := 2) (t := 3) dX5_mends_97 rfl rfl rfl rfl inX1 (Nat.le_of_ble_eq_true rfl) fX5_145 ?_
        refine s_iload_n (q := 101) dX5_mends_100 rfl rfl 3 rfl ?_
        obtain ⟨hg10, h⟩ := chk_some h
        refine u_iald (q := 102) (k := 3) (v := (q9.2.1 3 x2.toNatClampNeg)) dX5_mends_101 rfl rfl (inB_in hg10) rfl rfl ?_
        obtain ⟨q11, hc11, h⟩ := bnd h
        try dsimp only at h
        refine t_callS (q := 105) (N := mX5_stepsBetween) [.int q9.1, .int (q9.2.1 3 x2.toNatClampNeg)] dX5_mends_102 rfl nkX5_stepsBetween sX5_stepsBetween lX5_115 ⟨Nat.le_of_ble_eq_true rfl, Nat.le_of_ble_eq_true rfl⟩ rfl rfl (Nat.le_of_ble_eq_true rfl) (Nat.le_of_ble_eq_true rfl) (T_X5_stepsBetween E _ _ hc11) ?_
        obtain rfl := Option.some.inj h
        exact t_iret dX5_mends_105 rfl rfl
      · rw [if_neg hb6] at h
        refine s_aload_n (q := 42) dX5_mends_41 rfl rfl 0 rfl ?_
        refine s_iconst (q := 43) (v := 4) dX5_mends_42 rfl rfl ?_
        obtain ⟨q12, hc12, h⟩ := bnd h
        try dsimp only at h
        refine t_callV (q := 46) (N := mX5_finding) (a := eB E + 0) [.int 4] dX5_mends_43 rfl nkX5_finding vkX5_finding lX5_61 ⟨Nat.le_of_ble_eq_true rfl, Nat.le_of_ble_eq_true rfl⟩ (rc_obj (k := 0) rfl rfl) rfl rfl (Nat.le_of_ble_eq_true rfl) (Nat.le_of_ble_eq_true rfl) (T_X5_finding_0 E _ hc12) ?_
        obtain rfl := Option.some.inj h
        exact t_iret dX5_mends_46 rfl rfl
    · rw [if_pos hb5] at h
      refine s_aload_n (q := 23) dX5_mends_22 rfl rfl 0 rfl ?_
      refine s_iconst (q := 24) (v := 0) dX5_mends_23 rfl rfl ?_
      obtain ⟨q13, hc13, h⟩ := bnd h
      try dsimp only at h
      refine t_callV (q := 27) (N := mX5_finding) (a := eB E + 0) [.int 0] dX5_mends_24 rfl nkX5_finding vkX5_finding lX5_61 ⟨Nat.le_of_ble_eq_true rfl, Nat.le_of_ble_eq_true rfl⟩ (rc_obj (k := 0) rfl rfl) rfl rfl (Nat.le_of_ble_eq_true rfl) (Nat.le_of_ble_eq_true rfl) (T_X5_finding_0 E _ hc13) ?_
      obtain rfl := Option.some.inj h
      exact t_iret dX5_mends_27 rfl rfl
-- X6_at
def G_X6_at_51 (x1 : Int32) (S : ST) : Option (Int32 × ST) := (if inB (8 + (2 * x1)) 72 = true then some ((S.1 52 ((8 + (2 * x1)).toNatClampNeg)), S) else none)
set_option maxHeartbeats 4000000 in
set_option maxRecDepth 100000 in
theorem T_X6_at_51 (E : EV) (x1 : Int32) {S : ST} {w : (Int32 × ST)} (h : G_X6_at_51 x1 S = some w) : SD E mX6_at 0 [(0, .ref (eB E + 51)), (1, .int x1)] [] S (some (.int w.1)) w.2 := by
  unfold G_X6_at_51 at h
  refine s_aload_n (q := 1) dX6_at_0 rfl rfl 0 rfl ?_
  refine t_getR (q := 4) (k := 51) (f := 0) (t := 52) dX6_at_1 rfl rfl rfl rfl inX6 (Nat.le_of_ble_eq_true rfl) fX6_9 ?_
  refine s_bipush (q := 6) (v := 8) dX6_at_4 rfl rfl ?_
  refine s_iconst (q := 7) (v := 2) dX6_at_6 rfl rfl ?_
  refine s_iload_n (q := 8) dX6_at_7 rfl rfl 1 rfl ?_
  refine s_imul (q := 9) dX6_at_8 rfl ?_
  refine s_iadd (q := 10) dX6_at_9 rfl ?_
  obtain ⟨hg1, h⟩ := chk_some h
  refine u_iald (q := 11) (k := 52) (v := (S.1 52 ((8 + (2 * x1)).toNatClampNeg))) dX6_at_10 rfl rfl (inB_in hg1) rfl rfl ?_
  obtain rfl := Option.some.inj h
  exact t_iret dX6_at_11 rfl rfl
-- X6_mends
def G_X6_mends_51 (x1 : Int32) (x2 : Int32) (S : ST) : Option (Int32 × ST) := ((G_X6_isCrew x1 S).bind fun q1 => (if q1.1 = 0 then ((G_X6_no_51 0 q1.2).bind fun q3 => some (q3.1, q3.2)) else ((G_X6_isStar_51 x2 q1.2).bind fun q4 => (if q4.1 = 0 then ((G_X6_no_51 0 q4.2).bind fun q14 => some (q14.1, q14.2)) else (if (q4.2.1 52 7) = 0 then ((G_X6_no_51 4 q4.2).bind fun q13 => some (q13.1, q13.2)) else ((G_X6_at_51 x1 q4.2).bind fun q7 => ((G_X6_get_51 x2 1 q7.2).bind fun q8 => ((G_X6_apartOf q7.1 q8.1 q8.2).bind fun q9 => ((G_X6_puts_51 x2 2 99 q9.2).bind fun q10 => ((G_X6_get_51 x2 1 (wr q10.2 52 7 ((q10.2.1 52 7) - 1))).bind fun q11 => (if inB (8 + (2 * x1)) 72 = true then some (q9.1, (wr q11.2 52 ((8 + (2 * x1)).toNatClampNeg) q11.1)) else none)))))))))))
set_option maxHeartbeats 4000000 in
set_option maxRecDepth 100000 in
theorem T_X6_mends_51 (E : EV) (x1 : Int32) (x2 : Int32) {S : ST} {w : (Int32 × ST)} (h : G_X6_mends_51 x1 x2 S = some w) : SD E mX6_mends 0 [(0, .ref (eB E + 51)), (1, .int x1), (2, .int x2)] [] S (some (.int w.1)) w.2 := by
  unfold G_X6_mends_51 at h
  refine s_iload_n (q := 1) dX6_mends_0 rfl rfl 1 rfl ?_
  obtain ⟨q1, hc1, h⟩ := bnd h
  try dsimp only at h
  refine t_callS (q := 4) (N := mX6_isCrew) [.int x1] dX6_mends_1 rfl nkX6_isCrew sX6_isCrew lX6_104 ⟨Nat.le_of_ble_eq_true rfl, Nat.le_of_ble_eq_true rfl⟩ rfl rfl (Nat.le_of_ble_eq_true rfl) (Nat.le_of_ble_eq_true rfl) (T_X6_isCrew E _ hc1) ?_
  refine s_if_eq (q := 7) (tgt := 15) dX6_mends_4 rfl rfl (fun hb2 => ?_) (fun hb2 => ?_)
  · rw [if_pos hb2] at h
    refine s_aload_n (q := 16) dX6_mends_15 rfl rfl 0 rfl ?_
    refine s_iconst (q := 17) (v := 0) dX6_mends_16 rfl rfl ?_
    obtain ⟨q3, hc3, h⟩ := bnd h
    try dsimp only at h
    refine t_callV (q := 20) (N := mX6_no) (a := eB E + 51) [.int 0] dX6_mends_17 rfl nkX6_no vkX6_no lX6_94 ⟨Nat.le_of_ble_eq_true rfl, Nat.le_of_ble_eq_true rfl⟩ (rc_obj (k := 51) rfl rfl) rfl rfl (Nat.le_of_ble_eq_true rfl) (Nat.le_of_ble_eq_true rfl) (T_X6_no_51 E _ hc3) ?_
    obtain rfl := Option.some.inj h
    exact t_iret dX6_mends_20 rfl rfl
  · rw [if_neg hb2] at h
    refine s_aload_n (q := 8) dX6_mends_7 rfl rfl 0 rfl ?_
    refine s_iload_n (q := 9) dX6_mends_8 rfl rfl 2 rfl ?_
    obtain ⟨q4, hc4, h⟩ := bnd h
    try dsimp only at h
    refine t_callV (q := 12) (N := mX6_isStar) (a := eB E + 51) [.int x2] dX6_mends_9 rfl nkX6_isStar vkX6_isStar lX6_101 ⟨Nat.le_of_ble_eq_true rfl, Nat.le_of_ble_eq_true rfl⟩ (rc_obj (k := 51) rfl rfl) rfl rfl (Nat.le_of_ble_eq_true rfl) (Nat.le_of_ble_eq_true rfl) (T_X6_isStar_51 E _ hc4) ?_
    refine s_if_ne (q := 15) (tgt := 21) dX6_mends_12 rfl rfl (fun hb5 => ?_) (fun hb5 => ?_)
    · rw [if_neg hb5] at h
      refine s_aload_n (q := 22) dX6_mends_21 rfl rfl 0 rfl ?_
      refine t_getR (q := 25) (k := 51) (f := 0) (t := 52) dX6_mends_22 rfl rfl rfl rfl inX6 (Nat.le_of_ble_eq_true rfl) fX6_9 ?_
      refine s_bipush (q := 27) (v := 7) dX6_mends_25 rfl rfl ?_
      refine u_iald (q := 28) (k := 52) (j := 7) (v := (q4.2.1 52 7)) dX6_mends_27 rfl rfl (inB_in (by decide)) (by decide) rfl ?_
      refine s_if_ne (q := 31) (tgt := 37) dX6_mends_28 rfl rfl (fun hb6 => ?_) (fun hb6 => ?_)
      · rw [if_neg hb6] at h
        refine s_aload_n (q := 38) dX6_mends_37 rfl rfl 0 rfl ?_
        refine s_iload_n (q := 39) dX6_mends_38 rfl rfl 1 rfl ?_
        obtain ⟨q7, hc7, h⟩ := bnd h
        try dsimp only at h
        refine t_callV (q := 42) (N := mX6_at) (a := eB E + 51) [.int x1] dX6_mends_39 rfl nkX6_at vkX6_at lX6_130 ⟨Nat.le_of_ble_eq_true rfl, Nat.le_of_ble_eq_true rfl⟩ (rc_obj (k := 51) rfl rfl) rfl rfl (Nat.le_of_ble_eq_true rfl) (Nat.le_of_ble_eq_true rfl) (T_X6_at_51 E _ hc7) ?_
        refine s_aload_n (q := 43) dX6_mends_42 rfl rfl 0 rfl ?_
        refine s_iload_n (q := 44) dX6_mends_43 rfl rfl 2 rfl ?_
        refine s_iconst (q := 45) (v := 1) dX6_mends_44 rfl rfl ?_
        obtain ⟨q8, hc8, h⟩ := bnd h
        try dsimp only at h
        refine t_callV (q := 48) (N := mX6_get) (a := eB E + 51) [.int x2, .int 1] dX6_mends_45 rfl nkX6_get vkX6_get lX6_58 ⟨Nat.le_of_ble_eq_true rfl, Nat.le_of_ble_eq_true rfl⟩ (rc_obj (k := 51) rfl rfl) rfl rfl (Nat.le_of_ble_eq_true rfl) (Nat.le_of_ble_eq_true rfl) (T_X6_get_51 E _ _ hc8) ?_
        obtain ⟨q9, hc9, h⟩ := bnd h
        try dsimp only at h
        refine t_callS (q := 51) (N := mX6_apartOf) [.int q7.1, .int q8.1] dX6_mends_48 rfl nkX6_apartOf sX6_apartOf lX6_110 ⟨Nat.le_of_ble_eq_true rfl, Nat.le_of_ble_eq_true rfl⟩ rfl rfl (Nat.le_of_ble_eq_true rfl) (Nat.le_of_ble_eq_true rfl) (T_X6_apartOf E _ _ hc9) ?_
        refine s_istore_n (q := 52) (lv' := [(3, .int q9.1), (0, .ref (eB E + 51)), (1, .int x1), (2, .int x2)]) dX6_mends_51 rfl rfl (Nat.le_of_ble_eq_true rfl) rfl ?_
        refine s_aload_n (q := 53) dX6_mends_52 rfl rfl 1 rfl ?_
        refine s_iload_n (q := 54) dX6_mends_53 rfl rfl 3 rfl ?_
        refine s_iconst (q := 55) (v := 2) dX6_mends_54 rfl rfl ?_
        refine s_bipush (q := 57) (v := 99) dX6_mends_55 rfl rfl ?_
        obtain ⟨q10, hc10, h⟩ := bnd h
        try dsimp only at h
        refine t_callV (q := 60) (N := mX6_puts) (a := eB E + 51) [.int x2, .int 2, .int 99] dX6_mends_57 rfl nkX6_puts vkX6_puts lX6_80 ⟨Nat.le_of_ble_eq_true rfl, Nat.le_of_ble_eq_true rfl⟩ (rc_obj (k := 51) rfl rfl) rfl rfl (Nat.le_of_ble_eq_true rfl) (Nat.le_of_ble_eq_true rfl) (T_X6_puts_51 E _ _ _ hc10) ?_
        refine s_aload_n (q := 61) dX6_mends_60 rfl rfl 1 rfl ?_
        refine t_getR (q := 64) (k := 51) (f := 0) (t := 52) dX6_mends_61 rfl rfl rfl rfl inX6 (Nat.le_of_ble_eq_true rfl) fX6_9 ?_
        refine s_bipush (q := 66) (v := 7) dX6_mends_64 rfl rfl ?_
        refine s_dup2 (q := 67) dX6_mends_66 rfl rfl rfl ?_
        refine u_iald (q := 68) (k := 52) (j := 7) (v := (q10.2.1 52 7)) dX6_mends_67 rfl rfl (inB_in (by decide)) (by decide) rfl ?_
        refine s_iconst (q := 69) (v := 1) dX6_mends_68 rfl rfl ?_
        refine s_isub (q := 70) dX6_mends_69 rfl ?_
        refine u_iast (q := 71) (k := 52) (j := 7) dX6_mends_70 rfl rfl (inB_in (by decide)) (by decide) ?_
        refine s_aload_n (q := 72) dX6_mends_71 rfl rfl 1 rfl ?_
        refine t_getR (q := 75) (k := 51) (f := 0) (t := 52) dX6_mends_72 rfl rfl rfl rfl inX6 (Nat.le_of_ble_eq_true rfl) fX6_9 ?_
        refine s_bipush (q := 77) (v := 8) dX6_mends_75 rfl rfl ?_
        refine s_iconst (q := 78) (v := 2) dX6_mends_77 rfl rfl ?_
        refine s_iload_n (q := 79) dX6_mends_78 rfl rfl 2 rfl ?_
        refine s_imul (q := 80) dX6_mends_79 rfl ?_
        refine s_iadd (q := 81) dX6_mends_80 rfl ?_
        refine s_aload_n (q := 82) dX6_mends_81 rfl rfl 1 rfl ?_
        refine s_iload_n (q := 83) dX6_mends_82 rfl rfl 3 rfl ?_
        refine s_iconst (q := 84) (v := 1) dX6_mends_83 rfl rfl ?_
        obtain ⟨q11, hc11, h⟩ := bnd h
        try dsimp only at h
        refine t_callV (q := 87) (N := mX6_get) (a := eB E + 51) [.int x2, .int 1] dX6_mends_84 rfl nkX6_get vkX6_get lX6_58 ⟨Nat.le_of_ble_eq_true rfl, Nat.le_of_ble_eq_true rfl⟩ (rc_obj (k := 51) rfl rfl) rfl rfl (Nat.le_of_ble_eq_true rfl) (Nat.le_of_ble_eq_true rfl) (T_X6_get_51 E _ _ hc11) ?_
        obtain ⟨hg12, h⟩ := chk_some h
        refine u_iast (q := 88) (k := 52) dX6_mends_87 rfl rfl (inB_in hg12) rfl ?_
        refine s_iload_n (q := 89) dX6_mends_88 rfl rfl 0 rfl ?_
        obtain rfl := Option.some.inj h
        exact t_iret dX6_mends_89 rfl rfl
      · rw [if_pos hb6] at h
        refine s_aload_n (q := 32) dX6_mends_31 rfl rfl 0 rfl ?_
        refine s_iconst (q := 33) (v := 4) dX6_mends_32 rfl rfl ?_
        obtain ⟨q13, hc13, h⟩ := bnd h
        try dsimp only at h
        refine t_callV (q := 36) (N := mX6_no) (a := eB E + 51) [.int 4] dX6_mends_33 rfl nkX6_no vkX6_no lX6_94 ⟨Nat.le_of_ble_eq_true rfl, Nat.le_of_ble_eq_true rfl⟩ (rc_obj (k := 51) rfl rfl) rfl rfl (Nat.le_of_ble_eq_true rfl) (Nat.le_of_ble_eq_true rfl) (T_X6_no_51 E _ hc13) ?_
        obtain rfl := Option.some.inj h
        exact t_iret dX6_mends_36 rfl rfl
    · rw [if_pos hb5] at h
      refine s_aload_n (q := 16) dX6_mends_15 rfl rfl 0 rfl ?_
      refine s_iconst (q := 17) (v := 0) dX6_mends_16 rfl rfl ?_
      obtain ⟨q14, hc14, h⟩ := bnd h
      try dsimp only at h
      refine t_callV (q := 20) (N := mX6_no) (a := eB E + 51) [.int 0] dX6_mends_17 rfl nkX6_no vkX6_no lX6_94 ⟨Nat.le_of_ble_eq_true rfl, Nat.le_of_ble_eq_true rfl⟩ (rc_obj (k := 51) rfl rfl) rfl rfl (Nat.le_of_ble_eq_true rfl) (Nat.le_of_ble_eq_true rfl) (T_X6_no_51 E _ hc14) ?_
      obtain rfl := Option.some.inj h
      exact t_iret dX6_mends_20 rfl rfl
-- X1_lifeBehind
def G_X1_lifeBehind_1_11 : Nat → Int32 → Int32 → Int32 → Int32 → Int32 → ST → Option (Int32 × ST)
  | 0, _, _, _, _, _, _ => none
  | n + 1, x1, x2, x3, x4, x5, S => (if x3 ≤ x5 then some (x4, S) else (if inB x1 10 = true then ((G_X1_lifeNext_1 (S.1 2 x1.toNatClampNeg) x4 x2 S).bind fun q4 => G_X1_lifeBehind_1_11 n x1 x2 x3 q4.1 (x5 + 1) q4.2) else none))
set_option maxHeartbeats 4000000 in
set_option maxRecDepth 100000 in
theorem T_X1_lifeBehind_1_11 (E : EV) : ∀ (n : Nat) (x1 : Int32) (x2 : Int32) (x3 : Int32) (x4 : Int32) (x5 : Int32) (S : ST), ∀ (w : (Int32 × ST)), G_X1_lifeBehind_1_11 n x1 x2 x3 x4 x5 S = some w → ∀ {Q : Option Value → ST → Prop}, SS E mX1_lifeBehind 38 [(4, .int w.1)] [] w.2 Q → SS E mX1_lifeBehind 11 [(0, .ref (eB E + 1)), (1, .int x1), (2, .int x2), (3, .int x3), (4, .int x4), (5, .int x5)] [] S Q := by
  intro n
  induction n with
  | zero =>
    intro x1 x2 x3 x4 x5 S w h
    cases h
  | succ n ih =>
    intro x1 x2 x3 x4 x5 S w h Q K
    unfold G_X1_lifeBehind_1_11 at h
    refine s_iload (q := 13) dX1_lifeBehind_11 rfl 5 rfl ?_
    refine s_iload_n (q := 14) dX1_lifeBehind_13 rfl rfl 3 rfl ?_
    refine s_icmp_ge (q := 17) (tgt := 38) dX1_lifeBehind_14 rfl rfl (fun hb2 => ?_) (fun hb2 => ?_)
    · rw [if_pos hb2] at h
      obtain rfl := Option.some.inj h
      exact t_sub [4] rfl K
    · rw [if_neg hb2] at h
      refine s_aload_n (q := 18) dX1_lifeBehind_17 rfl rfl 0 rfl ?_
      refine s_aload_n (q := 19) dX1_lifeBehind_18 rfl rfl 0 rfl ?_
      refine t_getR (q := 22) (k := 1) (f := 1) (t := 2) dX1_lifeBehind_19 rfl rfl rfl rfl inX1 (Nat.le_of_ble_eq_true rfl) fX1_15 ?_
      refine s_iload_n (q := 23) dX1_lifeBehind_22 rfl rfl 1 rfl ?_
      obtain ⟨hg3, h⟩ := chk_some h
      refine u_iald (q := 24) (k := 2) (v := (S.1 2 x1.toNatClampNeg)) dX1_lifeBehind_23 rfl rfl (inB_in hg3) rfl rfl ?_
      refine s_iload (q := 26) dX1_lifeBehind_24 rfl 4 rfl ?_
      refine s_iload_n (q := 27) dX1_lifeBehind_26 rfl rfl 2 rfl ?_
      obtain ⟨q4, hc4, h⟩ := bnd h
      try dsimp only at h
      refine t_callV (q := 30) (N := mX1_lifeNext) (a := eB E + 1) [.int (S.1 2 x1.toNatClampNeg), .int x4, .int x2] dX1_lifeBehind_27 rfl nkX1_lifeNext vkX1_lifeNext lX1_78 ⟨Nat.le_of_ble_eq_true rfl, Nat.le_of_ble_eq_true rfl⟩ (rc_obj (k := 1) rfl rfl) rfl rfl (Nat.le_of_ble_eq_true rfl) (Nat.le_of_ble_eq_true rfl) (T_X1_lifeNext_1 E _ _ _ hc4) ?_
      refine s_istore (q := 32) (lv' := [(4, .int q4.1), (0, .ref (eB E + 1)), (1, .int x1), (2, .int x2), (3, .int x3), (5, .int x5)]) dX1_lifeBehind_30 rfl (Nat.le_of_ble_eq_true rfl) rfl ?_
      refine s_iinc (q := 35) (j := 5) (v := (x5 + 1)) (lv' := [(5, .int (x5 + 1)), (4, .int q4.1), (0, .ref (eB E + 1)), (1, .int x1), (2, .int x2), (3, .int x3)]) dX1_lifeBehind_32 rfl rfl rfl (Nat.le_of_ble_eq_true rfl) rfl ?_
      refine s_goto (tgt := 11) dX1_lifeBehind_35 rfl ?_
      exact t_sub [2, 3, 4, 5, 1, 0] rfl (ih _ _ _ _ _ _ _ h K)
def G_X1_lifeBehind_1 (x1 : Int32) (x2 : Int32) (x3 : Int32) (S : ST) : Option (Int32 × ST) := (if inB x1 10 = true then (G_X1_lifeBehind_1_11 3000 x1 x2 x3 (S.1 4 x1.toNatClampNeg) 0 S).bind fun q5 => some (q5.1, q5.2) else none)
set_option maxHeartbeats 4000000 in
set_option maxRecDepth 100000 in
theorem T_X1_lifeBehind_1 (E : EV) (x1 : Int32) (x2 : Int32) (x3 : Int32) {S : ST} {w : (Int32 × ST)} (h : G_X1_lifeBehind_1 x1 x2 x3 S = some w) : SD E mX1_lifeBehind 0 [(0, .ref (eB E + 1)), (1, .int x1), (2, .int x2), (3, .int x3)] [] S (some (.int w.1)) w.2 := by
  unfold G_X1_lifeBehind_1 at h
  refine s_aload_n (q := 1) dX1_lifeBehind_0 rfl rfl 0 rfl ?_
  refine t_getR (q := 4) (k := 1) (f := 3) (t := 4) dX1_lifeBehind_1 rfl rfl rfl rfl inX1 (Nat.le_of_ble_eq_true rfl) fX1_22 ?_
  refine s_iload_n (q := 5) dX1_lifeBehind_4 rfl rfl 1 rfl ?_
  obtain ⟨hg1, h⟩ := chk_some h
  refine u_iald (q := 6) (k := 4) (v := (S.1 4 x1.toNatClampNeg)) dX1_lifeBehind_5 rfl rfl (inB_in hg1) rfl rfl ?_
  refine s_istore (q := 8) (lv' := [(4, .int (S.1 4 x1.toNatClampNeg)), (0, .ref (eB E + 1)), (1, .int x1), (2, .int x2), (3, .int x3)]) dX1_lifeBehind_6 rfl (Nat.le_of_ble_eq_true rfl) rfl ?_
  refine s_iconst (q := 9) (v := 0) dX1_lifeBehind_8 rfl rfl ?_
  refine s_istore (q := 11) (lv' := [(5, .int 0), (4, .int (S.1 4 x1.toNatClampNeg)), (0, .ref (eB E + 1)), (1, .int x1), (2, .int x2), (3, .int x3)]) dX1_lifeBehind_9 rfl (Nat.le_of_ble_eq_true rfl) rfl ?_
  obtain ⟨q5, hc5, h⟩ := bnd h
  try dsimp only at h
  refine t_sub [2, 3, 4, 5, 1, 0] rfl (T_X1_lifeBehind_1_11 E _ _ _ _ _ _ _ _ hc5 ?_)
  refine s_iload (q := 40) dX1_lifeBehind_38 rfl 0 rfl ?_
  obtain rfl := Option.some.inj h
  exact t_iret dX1_lifeBehind_40 rfl rfl
-- X5_ahead
def G_X5_ahead_0 (x1 : Int32) (x2 : Int32) (S : ST) : Option (Int32 × ST) := ((G_X5_isBelow x1 (S.1 1 0) S).bind fun q1 => (if q1.1 = 0 then ((G_X5_finding_0 0 q1.2).bind fun q3 => some (q3.1, q3.2)) else ((G_X5_isWithin x2 200 q1.2).bind fun q4 => (if q4.1 = 0 then ((G_X5_finding_0 0 q4.2).bind fun q7 => some (q7.1, q7.2)) else ((G_X1_lifeBehind_1 x1 (q4.2.1 8 0) x2 q4.2).bind fun q6 => some (q6.1, q6.2))))))
set_option maxHeartbeats 4000000 in
set_option maxRecDepth 100000 in
theorem T_X5_ahead_0 (E : EV) (x1 : Int32) (x2 : Int32) {S : ST} {w : (Int32 × ST)} (h : G_X5_ahead_0 x1 x2 S = some w) : SD E mX5_ahead 0 [(0, .ref (eB E + 0)), (1, .int x1), (2, .int x2)] [] S (some (.int w.1)) w.2 := by
  unfold G_X5_ahead_0 at h
  refine s_iload_n (q := 1) dX5_ahead_0 rfl rfl 1 rfl ?_
  refine s_aload_n (q := 2) dX5_ahead_1 rfl rfl 0 rfl ?_
  refine t_getR (q := 5) (k := 0) (f := 0) (t := 1) dX5_ahead_2 rfl rfl rfl rfl inX5 (Nat.le_of_ble_eq_true rfl) fX5_10 ?_
  refine t_getI (q := 8) (k := 1) (f := 0) (v := (S.1 1 0)) dX5_ahead_5 rfl rfl rfl rfl inX1 (Nat.le_of_ble_eq_true rfl) fX5_65 rfl ?_
  obtain ⟨q1, hc1, h⟩ := bnd h
  try dsimp only at h
  refine t_callS (q := 11) (N := mX5_isBelow) [.int x1, .int (S.1 1 0)] dX5_ahead_8 rfl nkX5_isBelow sX5_isBelow lX5_57 ⟨Nat.le_of_ble_eq_true rfl, Nat.le_of_ble_eq_true rfl⟩ rfl rfl (Nat.le_of_ble_eq_true rfl) (Nat.le_of_ble_eq_true rfl) (T_X5_isBelow E _ _ hc1) ?_
  refine s_if_eq (q := 14) (tgt := 24) dX5_ahead_11 rfl rfl (fun hb2 => ?_) (fun hb2 => ?_)
  · rw [if_pos hb2] at h
    refine s_aload_n (q := 25) dX5_ahead_24 rfl rfl 0 rfl ?_
    refine s_iconst (q := 26) (v := 0) dX5_ahead_25 rfl rfl ?_
    obtain ⟨q3, hc3, h⟩ := bnd h
    try dsimp only at h
    refine t_callV (q := 29) (N := mX5_finding) (a := eB E + 0) [.int 0] dX5_ahead_26 rfl nkX5_finding vkX5_finding lX5_61 ⟨Nat.le_of_ble_eq_true rfl, Nat.le_of_ble_eq_true rfl⟩ (rc_obj (k := 0) rfl rfl) rfl rfl (Nat.le_of_ble_eq_true rfl) (Nat.le_of_ble_eq_true rfl) (T_X5_finding_0 E _ hc3) ?_
    obtain rfl := Option.some.inj h
    exact t_iret dX5_ahead_29 rfl rfl
  · rw [if_neg hb2] at h
    refine s_iload_n (q := 15) dX5_ahead_14 rfl rfl 2 rfl ?_
    refine s_sipush (q := 18) (v := 200) dX5_ahead_15 rfl rfl ?_
    obtain ⟨q4, hc4, h⟩ := bnd h
    try dsimp only at h
    refine t_callS (q := 21) (N := mX5_isWithin) [.int x2, .int 200] dX5_ahead_18 rfl nkX5_isWithin sX5_isWithin lX5_99 ⟨Nat.le_of_ble_eq_true rfl, Nat.le_of_ble_eq_true rfl⟩ rfl rfl (Nat.le_of_ble_eq_true rfl) (Nat.le_of_ble_eq_true rfl) (T_X5_isWithin E _ _ hc4) ?_
    refine s_if_ne (q := 24) (tgt := 30) dX5_ahead_21 rfl rfl (fun hb5 => ?_) (fun hb5 => ?_)
    · rw [if_neg hb5] at h
      refine s_aload_n (q := 31) dX5_ahead_30 rfl rfl 0 rfl ?_
      refine t_getR (q := 34) (k := 0) (f := 0) (t := 1) dX5_ahead_31 rfl rfl rfl rfl inX5 (Nat.le_of_ble_eq_true rfl) fX5_10 ?_
      refine s_iload_n (q := 35) dX5_ahead_34 rfl rfl 1 rfl ?_
      refine s_aload_n (q := 36) dX5_ahead_35 rfl rfl 0 rfl ?_
      refine t_getR (q := 39) (k := 0) (f := 0) (t := 1) dX5_ahead_36 rfl rfl rfl rfl inX5 (Nat.le_of_ble_eq_true rfl) fX5_10 ?_
      refine t_getR (q := 42) (k := 1) (f := 7) (t := 8) dX5_ahead_39 rfl rfl rfl rfl inX1 (Nat.le_of_ble_eq_true rfl) fX5_83 ?_
      refine s_iconst (q := 43) (v := 0) dX5_ahead_42 rfl rfl ?_
      refine u_iald (q := 44) (k := 8) (j := 0) (v := (q4.2.1 8 0)) dX5_ahead_43 rfl rfl (inB_in (by decide)) (by decide) rfl ?_
      refine s_iload_n (q := 45) dX5_ahead_44 rfl rfl 2 rfl ?_
      obtain ⟨q6, hc6, h⟩ := bnd h
      try dsimp only at h
      refine t_callV (q := 48) (N := mX1_lifeBehind) (a := eB E + 1) [.int x1, .int (q4.2.1 8 0), .int x2] dX5_ahead_45 rfl nkX1_lifeBehind vkX1_lifeBehind lX5_148 ⟨Nat.le_of_ble_eq_true rfl, Nat.le_of_ble_eq_true rfl⟩ (rc_obj (k := 1) rfl rfl) rfl rfl (Nat.le_of_ble_eq_true rfl) (Nat.le_of_ble_eq_true rfl) (T_X1_lifeBehind_1 E _ _ _ hc6) ?_
      obtain rfl := Option.some.inj h
      exact t_iret dX5_ahead_48 rfl rfl
    · rw [if_pos hb5] at h
      refine s_aload_n (q := 25) dX5_ahead_24 rfl rfl 0 rfl ?_
      refine s_iconst (q := 26) (v := 0) dX5_ahead_25 rfl rfl ?_
      obtain ⟨q7, hc7, h⟩ := bnd h
      try dsimp only at h
      refine t_callV (q := 29) (N := mX5_finding) (a := eB E + 0) [.int 0] dX5_ahead_26 rfl nkX5_finding vkX5_finding lX5_61 ⟨Nat.le_of_ble_eq_true rfl, Nat.le_of_ble_eq_true rfl⟩ (rc_obj (k := 0) rfl rfl) rfl rfl (Nat.le_of_ble_eq_true rfl) (Nat.le_of_ble_eq_true rfl) (T_X5_finding_0 E _ hc7) ?_
      obtain rfl := Option.some.inj h
      exact t_iret dX5_ahead_29 rfl rfl
-- X6_setsAside
def G_X6_setsAside_51_2 : Nat → Int32 → ST → Option (ST)
  | 0, _, _ => none
  | n + 1, x1, S => (if (72 : Int32) ≤ x1 then some (S) else (if inB x1 72 = true then (if inB x1 72 = true then G_X6_setsAside_51_2 n (x1 + 1) (wr S 54 x1.toNatClampNeg (S.1 52 x1.toNatClampNeg)) else none) else none))
set_option maxHeartbeats 4000000 in
set_option maxRecDepth 100000 in
theorem T_X6_setsAside_51_2 (E : EV) : ∀ (n : Nat) (x1 : Int32) (S : ST), ∀ (w : (ST)), G_X6_setsAside_51_2 n x1 S = some w → ∀ {Q : Option Value → ST → Prop}, SS E mX6_setsAside 26 [] [] w Q → SS E mX6_setsAside 2 [(0, .ref (eB E + 51)), (1, .int x1)] [] S Q := by
  intro n
  induction n with
  | zero =>
    intro x1 S w h
    cases h
  | succ n ih =>
    intro x1 S w h Q K
    unfold G_X6_setsAside_51_2 at h
    refine s_iload_n (q := 3) dX6_setsAside_2 rfl rfl 1 rfl ?_
    refine s_bipush (q := 5) (v := 72) dX6_setsAside_3 rfl rfl ?_
    refine s_icmp_ge (q := 8) (tgt := 26) dX6_setsAside_5 rfl rfl (fun hb1 => ?_) (fun hb1 => ?_)
    · rw [if_pos hb1] at h
      obtain rfl := Option.some.inj h
      exact t_sub [] rfl K
    · rw [if_neg hb1] at h
      refine s_aload_n (q := 9) dX6_setsAside_8 rfl rfl 0 rfl ?_
      refine t_getR (q := 12) (k := 51) (f := 2) (t := 54) dX6_setsAside_9 rfl rfl rfl rfl inX6 (Nat.le_of_ble_eq_true rfl) fX6_16 ?_
      refine s_iload_n (q := 13) dX6_setsAside_12 rfl rfl 1 rfl ?_
      refine s_aload_n (q := 14) dX6_setsAside_13 rfl rfl 0 rfl ?_
      refine t_getR (q := 17) (k := 51) (f := 0) (t := 52) dX6_setsAside_14 rfl rfl rfl rfl inX6 (Nat.le_of_ble_eq_true rfl) fX6_9 ?_
      refine s_iload_n (q := 18) dX6_setsAside_17 rfl rfl 1 rfl ?_
      obtain ⟨hg2, h⟩ := chk_some h
      refine u_iald (q := 19) (k := 52) (v := (S.1 52 x1.toNatClampNeg)) dX6_setsAside_18 rfl rfl (inB_in hg2) rfl rfl ?_
      obtain ⟨hg3, h⟩ := chk_some h
      refine u_iast (q := 20) (k := 54) dX6_setsAside_19 rfl rfl (inB_in hg3) rfl ?_
      refine s_iinc (q := 23) (j := 1) (v := (x1 + 1)) (lv' := [(1, .int (x1 + 1)), (0, .ref (eB E + 51))]) dX6_setsAside_20 rfl rfl rfl (Nat.le_of_ble_eq_true rfl) rfl ?_
      refine s_goto (tgt := 2) dX6_setsAside_23 rfl ?_
      exact t_sub [1, 0] rfl (ih _ _ _ h K)
def G_X6_setsAside_51  (S : ST) : Option (Unit × ST) := (G_X6_setsAside_51_2 3000 0 S).bind fun q4 => some ((), q4)
set_option maxHeartbeats 4000000 in
set_option maxRecDepth 100000 in
theorem T_X6_setsAside_51 (E : EV)  {S : ST} {w : (Unit × ST)} (h : G_X6_setsAside_51  S = some w) : SD E mX6_setsAside 0 [(0, .ref (eB E + 51))] [] S none w.2 := by
  unfold G_X6_setsAside_51 at h
  refine s_iconst (q := 1) (v := 0) dX6_setsAside_0 rfl rfl ?_
  refine s_istore_n (q := 2) (lv' := [(1, .int 0), (0, .ref (eB E + 51))]) dX6_setsAside_1 rfl rfl (Nat.le_of_ble_eq_true rfl) rfl ?_
  obtain ⟨q4, hc4, h⟩ := bnd h
  try dsimp only at h
  refine t_sub [1, 0] rfl (T_X6_setsAside_51_2 E _ _ _ _ hc4 ?_)
  obtain rfl := Option.some.inj h
  exact t_vret dX6_setsAside_26 rfl rfl
-- X6_laysBack
def G_X6_laysBack_51_2 : Nat → Int32 → ST → Option (ST)
  | 0, _, _ => none
  | n + 1, x1, S => (if (72 : Int32) ≤ x1 then some (S) else (if inB x1 72 = true then (if inB x1 72 = true then G_X6_laysBack_51_2 n (x1 + 1) (wr S 52 x1.toNatClampNeg (S.1 54 x1.toNatClampNeg)) else none) else none))
set_option maxHeartbeats 4000000 in
set_option maxRecDepth 100000 in
theorem T_X6_laysBack_51_2 (E : EV) : ∀ (n : Nat) (x1 : Int32) (S : ST), ∀ (w : (ST)), G_X6_laysBack_51_2 n x1 S = some w → ∀ {Q : Option Value → ST → Prop}, SS E mX6_laysBack 26 [] [] w Q → SS E mX6_laysBack 2 [(0, .ref (eB E + 51)), (1, .int x1)] [] S Q := by
  intro n
  induction n with
  | zero =>
    intro x1 S w h
    cases h
  | succ n ih =>
    intro x1 S w h Q K
    unfold G_X6_laysBack_51_2 at h
    refine s_iload_n (q := 3) dX6_laysBack_2 rfl rfl 1 rfl ?_
    refine s_bipush (q := 5) (v := 72) dX6_laysBack_3 rfl rfl ?_
    refine s_icmp_ge (q := 8) (tgt := 26) dX6_laysBack_5 rfl rfl (fun hb1 => ?_) (fun hb1 => ?_)
    · rw [if_pos hb1] at h
      obtain rfl := Option.some.inj h
      exact t_sub [] rfl K
    · rw [if_neg hb1] at h
      refine s_aload_n (q := 9) dX6_laysBack_8 rfl rfl 0 rfl ?_
      refine t_getR (q := 12) (k := 51) (f := 0) (t := 52) dX6_laysBack_9 rfl rfl rfl rfl inX6 (Nat.le_of_ble_eq_true rfl) fX6_9 ?_
      refine s_iload_n (q := 13) dX6_laysBack_12 rfl rfl 1 rfl ?_
      refine s_aload_n (q := 14) dX6_laysBack_13 rfl rfl 0 rfl ?_
      refine t_getR (q := 17) (k := 51) (f := 2) (t := 54) dX6_laysBack_14 rfl rfl rfl rfl inX6 (Nat.le_of_ble_eq_true rfl) fX6_16 ?_
      refine s_iload_n (q := 18) dX6_laysBack_17 rfl rfl 1 rfl ?_
      obtain ⟨hg2, h⟩ := chk_some h
      refine u_iald (q := 19) (k := 54) (v := (S.1 54 x1.toNatClampNeg)) dX6_laysBack_18 rfl rfl (inB_in hg2) rfl rfl ?_
      obtain ⟨hg3, h⟩ := chk_some h
      refine u_iast (q := 20) (k := 52) dX6_laysBack_19 rfl rfl (inB_in hg3) rfl ?_
      refine s_iinc (q := 23) (j := 1) (v := (x1 + 1)) (lv' := [(1, .int (x1 + 1)), (0, .ref (eB E + 51))]) dX6_laysBack_20 rfl rfl rfl (Nat.le_of_ble_eq_true rfl) rfl ?_
      refine s_goto (tgt := 2) dX6_laysBack_23 rfl ?_
      exact t_sub [1, 0] rfl (ih _ _ _ h K)
def G_X6_laysBack_51  (S : ST) : Option (Unit × ST) := (G_X6_laysBack_51_2 3000 0 S).bind fun q4 => some ((), q4)
set_option maxHeartbeats 4000000 in
set_option maxRecDepth 100000 in
theorem T_X6_laysBack_51 (E : EV)  {S : ST} {w : (Unit × ST)} (h : G_X6_laysBack_51  S = some w) : SD E mX6_laysBack 0 [(0, .ref (eB E + 51))] [] S none w.2 := by
  unfold G_X6_laysBack_51 at h
  refine s_iconst (q := 1) (v := 0) dX6_laysBack_0 rfl rfl ?_
  refine s_istore_n (q := 2) (lv' := [(1, .int 0), (0, .ref (eB E + 51))]) dX6_laysBack_1 rfl rfl (Nat.le_of_ble_eq_true rfl) rfl ?_
  obtain ⟨q4, hc4, h⟩ := bnd h
  try dsimp only at h
  refine t_sub [1, 0] rfl (T_X6_laysBack_51_2 E _ _ _ _ hc4 ?_)
  obtain rfl := Option.some.inj h
  exact t_vret dX6_laysBack_26 rfl rfl
-- X6_ahead
def G_X6_ahead_51 (x1 : Int32) (x2 : Int32) (S : ST) : Option (Int32 × ST) := ((G_X6_isStar_51 x1 S).bind fun q1 => (if q1.1 = 0 then ((G_X6_no_51 0 q1.2).bind fun q3 => some (q3.1, q3.2)) else ((G_X6_in1 x2 0 200 q1.2).bind fun q4 => (if q4.1 = 0 then ((G_X6_no_51 0 q4.2).bind fun q10 => some (q10.1, q10.2)) else ((G_X6_setsAside_51  q4.2).bind fun q6 => ((G_X6_nights_51 x2 q6.2).bind fun q7 => ((G_X6_get_51 x1 2 q7.2).bind fun q8 => ((G_X6_laysBack_51  q8.2).bind fun q9 => some (q8.1, q9.2)))))))))
set_option maxHeartbeats 4000000 in
set_option maxRecDepth 100000 in
theorem T_X6_ahead_51 (E : EV) (x1 : Int32) (x2 : Int32) {S : ST} {w : (Int32 × ST)} (h : G_X6_ahead_51 x1 x2 S = some w) : SD E mX6_ahead 0 [(0, .ref (eB E + 51)), (1, .int x1), (2, .int x2)] [] S (some (.int w.1)) w.2 := by
  unfold G_X6_ahead_51 at h
  refine s_aload_n (q := 1) dX6_ahead_0 rfl rfl 0 rfl ?_
  refine s_iload_n (q := 2) dX6_ahead_1 rfl rfl 1 rfl ?_
  obtain ⟨q1, hc1, h⟩ := bnd h
  try dsimp only at h
  refine t_callV (q := 5) (N := mX6_isStar) (a := eB E + 51) [.int x1] dX6_ahead_2 rfl nkX6_isStar vkX6_isStar lX6_101 ⟨Nat.le_of_ble_eq_true rfl, Nat.le_of_ble_eq_true rfl⟩ (rc_obj (k := 51) rfl rfl) rfl rfl (Nat.le_of_ble_eq_true rfl) (Nat.le_of_ble_eq_true rfl) (T_X6_isStar_51 E _ hc1) ?_
  refine s_if_eq (q := 8) (tgt := 19) dX6_ahead_5 rfl rfl (fun hb2 => ?_) (fun hb2 => ?_)
  · rw [if_pos hb2] at h
    refine s_aload_n (q := 20) dX6_ahead_19 rfl rfl 0 rfl ?_
    refine s_iconst (q := 21) (v := 0) dX6_ahead_20 rfl rfl ?_
    obtain ⟨q3, hc3, h⟩ := bnd h
    try dsimp only at h
    refine t_callV (q := 24) (N := mX6_no) (a := eB E + 51) [.int 0] dX6_ahead_21 rfl nkX6_no vkX6_no lX6_94 ⟨Nat.le_of_ble_eq_true rfl, Nat.le_of_ble_eq_true rfl⟩ (rc_obj (k := 51) rfl rfl) rfl rfl (Nat.le_of_ble_eq_true rfl) (Nat.le_of_ble_eq_true rfl) (T_X6_no_51 E _ hc3) ?_
    obtain rfl := Option.some.inj h
    exact t_iret dX6_ahead_24 rfl rfl
  · rw [if_neg hb2] at h
    refine s_iload_n (q := 9) dX6_ahead_8 rfl rfl 2 rfl ?_
    refine s_iconst (q := 10) (v := 0) dX6_ahead_9 rfl rfl ?_
    refine s_sipush (q := 13) (v := 200) dX6_ahead_10 rfl rfl ?_
    obtain ⟨q4, hc4, h⟩ := bnd h
    try dsimp only at h
    refine t_callS (q := 16) (N := mX6_in1) [.int x2, .int 0, .int 200] dX6_ahead_13 rfl nkX6_in1 sX6_in1 lX6_54 ⟨Nat.le_of_ble_eq_true rfl, Nat.le_of_ble_eq_true rfl⟩ rfl rfl (Nat.le_of_ble_eq_true rfl) (Nat.le_of_ble_eq_true rfl) (T_X6_in1 E _ _ _ hc4) ?_
    refine s_if_ne (q := 19) (tgt := 25) dX6_ahead_16 rfl rfl (fun hb5 => ?_) (fun hb5 => ?_)
    · rw [if_neg hb5] at h
      refine s_aload_n (q := 26) dX6_ahead_25 rfl rfl 0 rfl ?_
      obtain ⟨q6, hc6, h⟩ := bnd h
      try dsimp only at h
      refine t_callV (q := 29) (N := mX6_setsAside) (a := eB E + 51) [] dX6_ahead_26 rfl nkX6_setsAside vkX6_setsAside lX6_133 ⟨Nat.le_of_ble_eq_true rfl, Nat.le_of_ble_eq_true rfl⟩ (rc_obj (k := 51) rfl rfl) rfl rfl (Nat.le_of_ble_eq_true rfl) (Nat.le_of_ble_eq_true rfl) (T_X6_setsAside_51 E  hc6) ?_
      refine s_aload_n (q := 30) dX6_ahead_29 rfl rfl 0 rfl ?_
      refine s_iload_n (q := 31) dX6_ahead_30 rfl rfl 2 rfl ?_
      obtain ⟨q7, hc7, h⟩ := bnd h
      try dsimp only at h
      refine t_callV (q := 34) (N := mX6_nights) (a := eB E + 51) [.int x2] dX6_ahead_31 rfl nkX6_nights vkX6_nights lX6_113 ⟨Nat.le_of_ble_eq_true rfl, Nat.le_of_ble_eq_true rfl⟩ (rc_obj (k := 51) rfl rfl) rfl rfl (Nat.le_of_ble_eq_true rfl) (Nat.le_of_ble_eq_true rfl) (T_X6_nights_51 E _ hc7) ?_
      refine s_aload_n (q := 35) dX6_ahead_34 rfl rfl 0 rfl ?_
      refine s_iload_n (q := 36) dX6_ahead_35 rfl rfl 1 rfl ?_
      refine s_iconst (q := 37) (v := 2) dX6_ahead_36 rfl rfl ?_
      obtain ⟨q8, hc8, h⟩ := bnd h
      try dsimp only at h
      refine t_callV (q := 40) (N := mX6_get) (a := eB E + 51) [.int x1, .int 2] dX6_ahead_37 rfl nkX6_get vkX6_get lX6_58 ⟨Nat.le_of_ble_eq_true rfl, Nat.le_of_ble_eq_true rfl⟩ (rc_obj (k := 51) rfl rfl) rfl rfl (Nat.le_of_ble_eq_true rfl) (Nat.le_of_ble_eq_true rfl) (T_X6_get_51 E _ _ hc8) ?_
      refine s_istore_n (q := 41) (lv' := [(3, .int q8.1), (0, .ref (eB E + 51)), (1, .int x1), (2, .int x2)]) dX6_ahead_40 rfl rfl (Nat.le_of_ble_eq_true rfl) rfl ?_
      refine s_aload_n (q := 42) dX6_ahead_41 rfl rfl 1 rfl ?_
      obtain ⟨q9, hc9, h⟩ := bnd h
      try dsimp only at h
      refine t_callV (q := 45) (N := mX6_laysBack) (a := eB E + 51) [] dX6_ahead_42 rfl nkX6_laysBack vkX6_laysBack lX6_136 ⟨Nat.le_of_ble_eq_true rfl, Nat.le_of_ble_eq_true rfl⟩ (rc_obj (k := 51) rfl rfl) rfl rfl (Nat.le_of_ble_eq_true rfl) (Nat.le_of_ble_eq_true rfl) (T_X6_laysBack_51 E  hc9) ?_
      refine s_iload_n (q := 46) dX6_ahead_45 rfl rfl 0 rfl ?_
      obtain rfl := Option.some.inj h
      exact t_iret dX6_ahead_46 rfl rfl
    · rw [if_pos hb5] at h
      refine s_aload_n (q := 20) dX6_ahead_19 rfl rfl 0 rfl ?_
      refine s_iconst (q := 21) (v := 0) dX6_ahead_20 rfl rfl ?_
      obtain ⟨q10, hc10, h⟩ := bnd h
      try dsimp only at h
      refine t_callV (q := 24) (N := mX6_no) (a := eB E + 51) [.int 0] dX6_ahead_21 rfl nkX6_no vkX6_no lX6_94 ⟨Nat.le_of_ble_eq_true rfl, Nat.le_of_ble_eq_true rfl⟩ (rc_obj (k := 51) rfl rfl) rfl rfl (Nat.le_of_ble_eq_true rfl) (Nat.le_of_ble_eq_true rfl) (T_X6_no_51 E _ hc10) ?_
      obtain rfl := Option.some.inj h
      exact t_iret dX6_ahead_24 rfl rfl
