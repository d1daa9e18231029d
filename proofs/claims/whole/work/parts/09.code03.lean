-- X1_nightsBright
def G_X1_nightsBright_1_10 : Nat → Int32 → Int32 → Int32 → ST → Option (Int32 × ST)
  | 0, _, _, _, _ => none
  | n + 1, x2, x3, x4, S => (if (200 : Int32) < x4 then some (x4, S) else ((G_X1_isBright_1 x2 x3 S).bind fun q3 => (if q3.1 = 0 then some (x4, q3.2) else ((G_X1_lifeNext_1 x2 x3 (q3.2.1 8 0) q3.2).bind fun q5 => G_X1_nightsBright_1_10 n x2 q5.1 (x4 + 1) q5.2))))
set_option maxHeartbeats 4000000 in
set_option maxRecDepth 100000 in
theorem T_X1_nightsBright_1_10 (E : EV) : ∀ (n : Nat) (x2 : Int32) (x3 : Int32) (x4 : Int32) (S : ST), ∀ (w : (Int32 × ST)), G_X1_nightsBright_1_10 n x2 x3 x4 S = some w → ∀ {Q : Option Value → ST → Prop}, SS E mX1_nightsBright 46 [(4, .int w.1)] [] w.2 Q → SS E mX1_nightsBright 10 [(0, .ref (eB E + 1)), (2, .int x2), (3, .int x3), (4, .int x4)] [] S Q := by
  intro n
  induction n with
  | zero =>
    intro x2 x3 x4 S w h
    cases h
  | succ n ih =>
    intro x2 x3 x4 S w h Q K
    unfold G_X1_nightsBright_1_10 at h
    refine s_iload (q := 12) dX1_nightsBright_10 rfl 3 rfl ?_
    refine s_sipush (q := 15) (v := 200) dX1_nightsBright_12 rfl rfl ?_
    refine s_icmp_gt (q := 18) (tgt := 46) dX1_nightsBright_15 rfl rfl (fun hb2 => ?_) (fun hb2 => ?_)
    · rw [if_pos hb2] at h
      obtain rfl := Option.some.inj h
      exact t_sub [3] rfl K
    · rw [if_neg hb2] at h
      refine s_aload_n (q := 19) dX1_nightsBright_18 rfl rfl 0 rfl ?_
      refine s_iload_n (q := 20) dX1_nightsBright_19 rfl rfl 1 rfl ?_
      refine s_iload_n (q := 21) dX1_nightsBright_20 rfl rfl 2 rfl ?_
      obtain ⟨q3, hc3, h⟩ := bnd h
      try dsimp only at h
      refine t_callV (q := 24) (N := mX1_isBright) (a := eB E + 1) [.int x2, .int x3] dX1_nightsBright_21 rfl nkX1_isBright vkX1_isBright lX1_81 ⟨Nat.le_of_ble_eq_true rfl, Nat.le_of_ble_eq_true rfl⟩ (rc_obj (k := 1) rfl rfl) rfl rfl (Nat.le_of_ble_eq_true rfl) (Nat.le_of_ble_eq_true rfl) (T_X1_isBright_1 E _ _ hc3) ?_
      refine s_if_eq (q := 27) (tgt := 46) dX1_nightsBright_24 rfl rfl (fun hb4 => ?_) (fun hb4 => ?_)
      · rw [if_pos hb4] at h
        obtain rfl := Option.some.inj h
        exact t_sub [3] rfl K
      · rw [if_neg hb4] at h
        refine s_aload_n (q := 28) dX1_nightsBright_27 rfl rfl 0 rfl ?_
        refine s_iload_n (q := 29) dX1_nightsBright_28 rfl rfl 1 rfl ?_
        refine s_iload_n (q := 30) dX1_nightsBright_29 rfl rfl 2 rfl ?_
        refine s_aload_n (q := 31) dX1_nightsBright_30 rfl rfl 0 rfl ?_
        refine t_getR (q := 34) (k := 1) (f := 7) (t := 8) dX1_nightsBright_31 rfl rfl rfl rfl inX1 (Nat.le_of_ble_eq_true rfl) fX1_34 ?_
        refine s_iconst (q := 35) (v := 0) dX1_nightsBright_34 rfl rfl ?_
        refine u_iald (q := 36) (k := 8) (j := 0) (v := (q3.2.1 8 0)) dX1_nightsBright_35 rfl rfl (inB_in (by decide)) (by decide) rfl ?_
        obtain ⟨q5, hc5, h⟩ := bnd h
        try dsimp only at h
        refine t_callV (q := 39) (N := mX1_lifeNext) (a := eB E + 1) [.int x2, .int x3, .int (q3.2.1 8 0)] dX1_nightsBright_36 rfl nkX1_lifeNext vkX1_lifeNext lX1_78 ⟨Nat.le_of_ble_eq_true rfl, Nat.le_of_ble_eq_true rfl⟩ (rc_obj (k := 1) rfl rfl) rfl rfl (Nat.le_of_ble_eq_true rfl) (Nat.le_of_ble_eq_true rfl) (T_X1_lifeNext_1 E _ _ _ hc5) ?_
        refine s_istore_n (q := 40) (lv' := [(3, .int q5.1), (0, .ref (eB E + 1)), (2, .int x2), (4, .int x4)]) dX1_nightsBright_39 rfl rfl (Nat.le_of_ble_eq_true rfl) rfl ?_
        refine s_iinc (q := 43) (j := 3) (v := (x4 + 1)) (lv' := [(4, .int (x4 + 1)), (3, .int q5.1), (0, .ref (eB E + 1)), (2, .int x2)]) dX1_nightsBright_40 rfl rfl rfl (Nat.le_of_ble_eq_true rfl) rfl ?_
        refine s_goto (tgt := 10) dX1_nightsBright_43 rfl ?_
        exact t_sub [2, 3, 1, 0] rfl (ih _ _ _ _ _ h K)
def G_X1_nightsBright_1 (x1 : Int32) (x2 : Int32) (S : ST) : Option (Int32 × ST) := (if inB x1 10 = true then (G_X1_nightsBright_1_10 3000 x2 (S.1 4 x1.toNatClampNeg) 0 S).bind fun q6 => some (q6.1, q6.2) else none)
set_option maxHeartbeats 4000000 in
set_option maxRecDepth 100000 in
theorem T_X1_nightsBright_1 (E : EV) (x1 : Int32) (x2 : Int32) {S : ST} {w : (Int32 × ST)} (h : G_X1_nightsBright_1 x1 x2 S = some w) : SD E mX1_nightsBright 0 [(0, .ref (eB E + 1)), (1, .int x1), (2, .int x2)] [] S (some (.int w.1)) w.2 := by
  unfold G_X1_nightsBright_1 at h
  refine s_aload_n (q := 1) dX1_nightsBright_0 rfl rfl 0 rfl ?_
  refine t_getR (q := 4) (k := 1) (f := 3) (t := 4) dX1_nightsBright_1 rfl rfl rfl rfl inX1 (Nat.le_of_ble_eq_true rfl) fX1_22 ?_
  refine s_iload_n (q := 5) dX1_nightsBright_4 rfl rfl 1 rfl ?_
  obtain ⟨hg1, h⟩ := chk_some h
  refine u_iald (q := 6) (k := 4) (v := (S.1 4 x1.toNatClampNeg)) dX1_nightsBright_5 rfl rfl (inB_in hg1) rfl rfl ?_
  refine s_istore_n (q := 7) (lv' := [(3, .int (S.1 4 x1.toNatClampNeg)), (0, .ref (eB E + 1)), (1, .int x1), (2, .int x2)]) dX1_nightsBright_6 rfl rfl (Nat.le_of_ble_eq_true rfl) rfl ?_
  refine s_iconst (q := 8) (v := 0) dX1_nightsBright_7 rfl rfl ?_
  refine s_istore (q := 10) (lv' := [(4, .int 0), (3, .int (S.1 4 x1.toNatClampNeg)), (0, .ref (eB E + 1)), (1, .int x1), (2, .int x2)]) dX1_nightsBright_8 rfl (Nat.le_of_ble_eq_true rfl) rfl ?_
  obtain ⟨q6, hc6, h⟩ := bnd h
  try dsimp only at h
  refine t_sub [2, 4, 1, 0] rfl (T_X1_nightsBright_1_10 E _ _ _ _ _ _ hc6 ?_)
  refine s_iload (q := 48) dX1_nightsBright_46 rfl 0 rfl ?_
  obtain rfl := Option.some.inj h
  exact t_iret dX1_nightsBright_48 rfl rfl
-- X5_lasts
def G_X5_lasts_0 (x1 : Int32) (S : ST) : Option (Int32 × ST) := ((G_X5_isBelow x1 (S.1 1 0) S).bind fun q1 => (if q1.1 = 0 then ((G_X5_finding_0 0 q1.2).bind fun q7 => some (q7.1, q7.2)) else (if inB x1 10 = true then ((G_X1_nightsBright_1 x1 (q1.2.1 2 x1.toNatClampNeg) q1.2).bind fun q4 => (if q4.1 ≤ 200 then some (q4.1, q4.2) else ((G_X5_finding_0 3 q4.2).bind fun q6 => some (q6.1, q6.2)))) else none)))
set_option maxHeartbeats 4000000 in
set_option maxRecDepth 100000 in
theorem T_X5_lasts_0 (E : EV) (x1 : Int32) {S : ST} {w : (Int32 × ST)} (h : G_X5_lasts_0 x1 S = some w) : SD E mX5_lasts 0 [(0, .ref (eB E + 0)), (1, .int x1)] [] S (some (.int w.1)) w.2 := by
  unfold G_X5_lasts_0 at h
  refine s_iload_n (q := 1) dX5_lasts_0 rfl rfl 1 rfl ?_
  refine s_aload_n (q := 2) dX5_lasts_1 rfl rfl 0 rfl ?_
  refine t_getR (q := 5) (k := 0) (f := 0) (t := 1) dX5_lasts_2 rfl rfl rfl rfl inX5 (Nat.le_of_ble_eq_true rfl) fX5_10 ?_
  refine t_getI (q := 8) (k := 1) (f := 0) (v := (S.1 1 0)) dX5_lasts_5 rfl rfl rfl rfl inX1 (Nat.le_of_ble_eq_true rfl) fX5_65 rfl ?_
  obtain ⟨q1, hc1, h⟩ := bnd h
  try dsimp only at h
  refine t_callS (q := 11) (N := mX5_isBelow) [.int x1, .int (S.1 1 0)] dX5_lasts_8 rfl nkX5_isBelow sX5_isBelow lX5_57 ⟨Nat.le_of_ble_eq_true rfl, Nat.le_of_ble_eq_true rfl⟩ rfl rfl (Nat.le_of_ble_eq_true rfl) (Nat.le_of_ble_eq_true rfl) (T_X5_isBelow E _ _ hc1) ?_
  refine s_if_ne (q := 14) (tgt := 20) dX5_lasts_11 rfl rfl (fun hb2 => ?_) (fun hb2 => ?_)
  · rw [if_neg hb2] at h
    refine s_aload_n (q := 21) dX5_lasts_20 rfl rfl 0 rfl ?_
    refine t_getR (q := 24) (k := 0) (f := 0) (t := 1) dX5_lasts_21 rfl rfl rfl rfl inX5 (Nat.le_of_ble_eq_true rfl) fX5_10 ?_
    refine s_iload_n (q := 25) dX5_lasts_24 rfl rfl 1 rfl ?_
    refine s_aload_n (q := 26) dX5_lasts_25 rfl rfl 0 rfl ?_
    refine t_getR (q := 29) (k := 0) (f := 0) (t := 1) dX5_lasts_26 rfl rfl rfl rfl inX5 (Nat.le_of_ble_eq_true rfl) fX5_10 ?_
    refine t_getR (q := 32) (k := 1) (f := 1) (t := 2) dX5_lasts_29 rfl rfl rfl rfl inX1 (Nat.le_of_ble_eq_true rfl) fX5_77 ?_
    refine s_iload_n (q := 33) dX5_lasts_32 rfl rfl 1 rfl ?_
    obtain ⟨hg3, h⟩ := chk_some h
    refine u_iald (q := 34) (k := 2) (v := (q1.2.1 2 x1.toNatClampNeg)) dX5_lasts_33 rfl rfl (inB_in hg3) rfl rfl ?_
    obtain ⟨q4, hc4, h⟩ := bnd h
    try dsimp only at h
    refine t_callV (q := 37) (N := mX1_nightsBright) (a := eB E + 1) [.int x1, .int (q1.2.1 2 x1.toNatClampNeg)] dX5_lasts_34 rfl nkX1_nightsBright vkX1_nightsBright lX5_151 ⟨Nat.le_of_ble_eq_true rfl, Nat.le_of_ble_eq_true rfl⟩ (rc_obj (k := 1) rfl rfl) rfl rfl (Nat.le_of_ble_eq_true rfl) (Nat.le_of_ble_eq_true rfl) (T_X1_nightsBright_1 E _ _ hc4) ?_
    refine s_istore_n (q := 38) (lv' := [(2, .int q4.1), (0, .ref (eB E + 0)), (1, .int x1)]) dX5_lasts_37 rfl rfl (Nat.le_of_ble_eq_true rfl) rfl ?_
    refine s_iload_n (q := 39) dX5_lasts_38 rfl rfl 0 rfl ?_
    refine s_sipush (q := 42) (v := 200) dX5_lasts_39 rfl rfl ?_
    refine s_icmp_le (q := 45) (tgt := 53) dX5_lasts_42 rfl rfl (fun hb5 => ?_) (fun hb5 => ?_)
    · rw [if_pos hb5] at h
      refine s_iload_n (q := 54) dX5_lasts_53 rfl rfl 0 rfl ?_
      obtain rfl := Option.some.inj h
      exact t_iret dX5_lasts_54 rfl rfl
    · rw [if_neg hb5] at h
      refine s_aload_n (q := 46) dX5_lasts_45 rfl rfl 1 rfl ?_
      refine s_iconst (q := 47) (v := 3) dX5_lasts_46 rfl rfl ?_
      obtain ⟨q6, hc6, h⟩ := bnd h
      try dsimp only at h
      refine t_callV (q := 50) (N := mX5_finding) (a := eB E + 0) [.int 3] dX5_lasts_47 rfl nkX5_finding vkX5_finding lX5_61 ⟨Nat.le_of_ble_eq_true rfl, Nat.le_of_ble_eq_true rfl⟩ (rc_obj (k := 0) rfl rfl) rfl rfl (Nat.le_of_ble_eq_true rfl) (Nat.le_of_ble_eq_true rfl) (T_X5_finding_0 E _ hc6) ?_
      refine s_goto (tgt := 54) dX5_lasts_50 rfl ?_
      obtain rfl := Option.some.inj h
      exact t_iret dX5_lasts_54 rfl rfl
  · rw [if_pos hb2] at h
    refine s_aload_n (q := 15) dX5_lasts_14 rfl rfl 0 rfl ?_
    refine s_iconst (q := 16) (v := 0) dX5_lasts_15 rfl rfl ?_
    obtain ⟨q7, hc7, h⟩ := bnd h
    try dsimp only at h
    refine t_callV (q := 19) (N := mX5_finding) (a := eB E + 0) [.int 0] dX5_lasts_16 rfl nkX5_finding vkX5_finding lX5_61 ⟨Nat.le_of_ble_eq_true rfl, Nat.le_of_ble_eq_true rfl⟩ (rc_obj (k := 0) rfl rfl) rfl rfl (Nat.le_of_ble_eq_true rfl) (Nat.le_of_ble_eq_true rfl) (T_X5_finding_0 E _ hc7) ?_
    obtain rfl := Option.some.inj h
    exact t_iret dX5_lasts_19 rfl rfl
-- X6_lastsNow
def G_X6_lastsNow_51_6 : Nat → Int32 → Int32 → ST → Option (Int32 × ST)
  | 0, _, _, _ => none
  | n + 1, x1, x2, S => (if (200 : Int32) < x2 then some (x2, S) else ((G_X6_shines_51 x1 S).bind fun q3 => (if q3.1 = 0 then some (x2, q3.2) else ((G_X6_night_51  q3.2).bind fun q5 => G_X6_lastsNow_51_6 n x1 (x2 + 1) q5.2))))
set_option maxHeartbeats 4000000 in
set_option maxRecDepth 100000 in
theorem T_X6_lastsNow_51_6 (E : EV) : ∀ (n : Nat) (x1 : Int32) (x2 : Int32) (S : ST), ∀ (w : (Int32 × ST)), G_X6_lastsNow_51_6 n x1 x2 S = some w → ∀ {Q : Option Value → ST → Prop}, SS E mX6_lastsNow 31 [(0, .ref (eB E + 51)), (2, .int w.1)] [] w.2 Q → SS E mX6_lastsNow 6 [(0, .ref (eB E + 51)), (1, .int x1), (2, .int x2)] [] S Q := by
  intro n
  induction n with
  | zero =>
    intro x1 x2 S w h
    cases h
  | succ n ih =>
    intro x1 x2 S w h Q K
    unfold G_X6_lastsNow_51_6 at h
    refine s_iload_n (q := 7) dX6_lastsNow_6 rfl rfl 2 rfl ?_
    refine s_sipush (q := 10) (v := 200) dX6_lastsNow_7 rfl rfl ?_
    refine s_icmp_gt (q := 13) (tgt := 31) dX6_lastsNow_10 rfl rfl (fun hb2 => ?_) (fun hb2 => ?_)
    · rw [if_pos hb2] at h
      obtain rfl := Option.some.inj h
      exact t_sub [0, 2] rfl K
    · rw [if_neg hb2] at h
      refine s_aload_n (q := 14) dX6_lastsNow_13 rfl rfl 0 rfl ?_
      refine s_iload_n (q := 15) dX6_lastsNow_14 rfl rfl 1 rfl ?_
      obtain ⟨q3, hc3, h⟩ := bnd h
      try dsimp only at h
      refine t_callV (q := 18) (N := mX6_shines) (a := eB E + 51) [.int x1] dX6_lastsNow_15 rfl nkX6_shines vkX6_shines lX6_66 ⟨Nat.le_of_ble_eq_true rfl, Nat.le_of_ble_eq_true rfl⟩ (rc_obj (k := 51) rfl rfl) rfl rfl (Nat.le_of_ble_eq_true rfl) (Nat.le_of_ble_eq_true rfl) (T_X6_shines_51 E _ hc3) ?_
      refine s_if_eq (q := 21) (tgt := 31) dX6_lastsNow_18 rfl rfl (fun hb4 => ?_) (fun hb4 => ?_)
      · rw [if_pos hb4] at h
        obtain rfl := Option.some.inj h
        exact t_sub [0, 2] rfl K
      · rw [if_neg hb4] at h
        refine s_aload_n (q := 22) dX6_lastsNow_21 rfl rfl 0 rfl ?_
        obtain ⟨q5, hc5, h⟩ := bnd h
        try dsimp only at h
        refine t_callV (q := 25) (N := mX6_night) (a := eB E + 51) [] dX6_lastsNow_22 rfl nkX6_night vkX6_night lX6_88 ⟨Nat.le_of_ble_eq_true rfl, Nat.le_of_ble_eq_true rfl⟩ (rc_obj (k := 51) rfl rfl) rfl rfl (Nat.le_of_ble_eq_true rfl) (Nat.le_of_ble_eq_true rfl) (T_X6_night_51 E  hc5) ?_
        refine s_iinc (q := 28) (j := 2) (v := (x2 + 1)) (lv' := [(2, .int (x2 + 1)), (0, .ref (eB E + 51)), (1, .int x1)]) dX6_lastsNow_25 rfl rfl rfl (Nat.le_of_ble_eq_true rfl) rfl ?_
        refine s_goto (tgt := 6) dX6_lastsNow_28 rfl ?_
        exact t_sub [1, 2, 0] rfl (ih _ _ _ _ h K)
def G_X6_lastsNow_51 (x1 : Int32) (S : ST) : Option (Int32 × ST) := ((G_X6_setsAside_51  S).bind fun q1 => (G_X6_lastsNow_51_6 3000 x1 0 q1.2).bind fun q6 => ((G_X6_laysBack_51  q6.2).bind fun q7 => some (q6.1, q7.2)))
set_option maxHeartbeats 4000000 in
set_option maxRecDepth 100000 in
theorem T_X6_lastsNow_51 (E : EV) (x1 : Int32) {S : ST} {w : (Int32 × ST)} (h : G_X6_lastsNow_51 x1 S = some w) : SD E mX6_lastsNow 0 [(0, .ref (eB E + 51)), (1, .int x1)] [] S (some (.int w.1)) w.2 := by
  unfold G_X6_lastsNow_51 at h
  refine s_aload_n (q := 1) dX6_lastsNow_0 rfl rfl 0 rfl ?_
  obtain ⟨q1, hc1, h⟩ := bnd h
  try dsimp only at h
  refine t_callV (q := 4) (N := mX6_setsAside) (a := eB E + 51) [] dX6_lastsNow_1 rfl nkX6_setsAside vkX6_setsAside lX6_133 ⟨Nat.le_of_ble_eq_true rfl, Nat.le_of_ble_eq_true rfl⟩ (rc_obj (k := 51) rfl rfl) rfl rfl (Nat.le_of_ble_eq_true rfl) (Nat.le_of_ble_eq_true rfl) (T_X6_setsAside_51 E  hc1) ?_
  refine s_iconst (q := 5) (v := 0) dX6_lastsNow_4 rfl rfl ?_
  refine s_istore_n (q := 6) (lv' := [(2, .int 0), (0, .ref (eB E + 51)), (1, .int x1)]) dX6_lastsNow_5 rfl rfl (Nat.le_of_ble_eq_true rfl) rfl ?_
  obtain ⟨q6, hc6, h⟩ := bnd h
  try dsimp only at h
  refine t_sub [1, 2, 0] rfl (T_X6_lastsNow_51_6 E _ _ _ _ _ hc6 ?_)
  refine s_aload_n (q := 32) dX6_lastsNow_31 rfl rfl 0 rfl ?_
  obtain ⟨q7, hc7, h⟩ := bnd h
  try dsimp only at h
  refine t_callV (q := 35) (N := mX6_laysBack) (a := eB E + 51) [] dX6_lastsNow_32 rfl nkX6_laysBack vkX6_laysBack lX6_136 ⟨Nat.le_of_ble_eq_true rfl, Nat.le_of_ble_eq_true rfl⟩ (rc_obj (k := 51) rfl rfl) rfl rfl (Nat.le_of_ble_eq_true rfl) (Nat.le_of_ble_eq_true rfl) (T_X6_laysBack_51 E  hc7) ?_
  refine s_iload_n (q := 36) dX6_lastsNow_35 rfl rfl 1 rfl ?_
  obtain rfl := Option.some.inj h
  exact t_iret dX6_lastsNow_36 rfl rfl
-- X6_lasts
def G_X6_lasts_51 (x1 : Int32) (S : ST) : Option (Int32 × ST) := ((G_X6_isStar_51 x1 S).bind fun q1 => (if q1.1 = 0 then ((G_X6_no_51 0 q1.2).bind fun q6 => some (q6.1, q6.2)) else ((G_X6_lastsNow_51 x1 q1.2).bind fun q3 => (if q3.1 ≤ 200 then some (q3.1, q3.2) else ((G_X6_no_51 3 q3.2).bind fun q5 => some (q5.1, q5.2))))))
set_option maxHeartbeats 4000000 in
set_option maxRecDepth 100000 in
theorem T_X6_lasts_51 (E : EV) (x1 : Int32) {S : ST} {w : (Int32 × ST)} (h : G_X6_lasts_51 x1 S = some w) : SD E mX6_lasts 0 [(0, .ref (eB E + 51)), (1, .int x1)] [] S (some (.int w.1)) w.2 := by
  unfold G_X6_lasts_51 at h
  refine s_aload_n (q := 1) dX6_lasts_0 rfl rfl 0 rfl ?_
  refine s_iload_n (q := 2) dX6_lasts_1 rfl rfl 1 rfl ?_
  obtain ⟨q1, hc1, h⟩ := bnd h
  try dsimp only at h
  refine t_callV (q := 5) (N := mX6_isStar) (a := eB E + 51) [.int x1] dX6_lasts_2 rfl nkX6_isStar vkX6_isStar lX6_101 ⟨Nat.le_of_ble_eq_true rfl, Nat.le_of_ble_eq_true rfl⟩ (rc_obj (k := 51) rfl rfl) rfl rfl (Nat.le_of_ble_eq_true rfl) (Nat.le_of_ble_eq_true rfl) (T_X6_isStar_51 E _ hc1) ?_
  refine s_if_ne (q := 8) (tgt := 14) dX6_lasts_5 rfl rfl (fun hb2 => ?_) (fun hb2 => ?_)
  · rw [if_neg hb2] at h
    refine s_aload_n (q := 15) dX6_lasts_14 rfl rfl 0 rfl ?_
    refine s_iload_n (q := 16) dX6_lasts_15 rfl rfl 1 rfl ?_
    obtain ⟨q3, hc3, h⟩ := bnd h
    try dsimp only at h
    refine t_callV (q := 19) (N := mX6_lastsNow) (a := eB E + 51) [.int x1] dX6_lasts_16 rfl nkX6_lastsNow vkX6_lastsNow lX6_139 ⟨Nat.le_of_ble_eq_true rfl, Nat.le_of_ble_eq_true rfl⟩ (rc_obj (k := 51) rfl rfl) rfl rfl (Nat.le_of_ble_eq_true rfl) (Nat.le_of_ble_eq_true rfl) (T_X6_lastsNow_51 E _ hc3) ?_
    refine s_istore_n (q := 20) (lv' := [(2, .int q3.1), (0, .ref (eB E + 51)), (1, .int x1)]) dX6_lasts_19 rfl rfl (Nat.le_of_ble_eq_true rfl) rfl ?_
    refine s_iload_n (q := 21) dX6_lasts_20 rfl rfl 0 rfl ?_
    refine s_sipush (q := 24) (v := 200) dX6_lasts_21 rfl rfl ?_
    refine s_icmp_le (q := 27) (tgt := 35) dX6_lasts_24 rfl rfl (fun hb4 => ?_) (fun hb4 => ?_)
    · rw [if_pos hb4] at h
      refine s_iload_n (q := 36) dX6_lasts_35 rfl rfl 0 rfl ?_
      obtain rfl := Option.some.inj h
      exact t_iret dX6_lasts_36 rfl rfl
    · rw [if_neg hb4] at h
      refine s_aload_n (q := 28) dX6_lasts_27 rfl rfl 1 rfl ?_
      refine s_iconst (q := 29) (v := 3) dX6_lasts_28 rfl rfl ?_
      obtain ⟨q5, hc5, h⟩ := bnd h
      try dsimp only at h
      refine t_callV (q := 32) (N := mX6_no) (a := eB E + 51) [.int 3] dX6_lasts_29 rfl nkX6_no vkX6_no lX6_94 ⟨Nat.le_of_ble_eq_true rfl, Nat.le_of_ble_eq_true rfl⟩ (rc_obj (k := 51) rfl rfl) rfl rfl (Nat.le_of_ble_eq_true rfl) (Nat.le_of_ble_eq_true rfl) (T_X6_no_51 E _ hc5) ?_
      refine s_goto (tgt := 36) dX6_lasts_32 rfl ?_
      obtain rfl := Option.some.inj h
      exact t_iret dX6_lasts_36 rfl rfl
  · rw [if_pos hb2] at h
    refine s_aload_n (q := 9) dX6_lasts_8 rfl rfl 0 rfl ?_
    refine s_iconst (q := 10) (v := 0) dX6_lasts_9 rfl rfl ?_
    obtain ⟨q6, hc6, h⟩ := bnd h
    try dsimp only at h
    refine t_callV (q := 13) (N := mX6_no) (a := eB E + 51) [.int 0] dX6_lasts_10 rfl nkX6_no vkX6_no lX6_94 ⟨Nat.le_of_ble_eq_true rfl, Nat.le_of_ble_eq_true rfl⟩ (rc_obj (k := 51) rfl rfl) rfl rfl (Nat.le_of_ble_eq_true rfl) (Nat.le_of_ble_eq_true rfl) (T_X6_no_51 E _ hc6) ?_
    obtain rfl := Option.some.inj h
    exact t_iret dX6_lasts_13 rfl rfl
-- X5_copyLives
def G_X5_copyLives_0  (S : ST) : Option (Unit × ST) := some ((), (cpS S 4 41 0 0 10))
set_option maxHeartbeats 4000000 in
set_option maxRecDepth 100000 in
theorem T_X5_copyLives_0 (E : EV)  {S : ST} {w : (Unit × ST)} (h : G_X5_copyLives_0  S = some w) : SD E mX5_copyLives 0 [(0, .ref (eB E + 0))] [] S none w.2 := by
  unfold G_X5_copyLives_0 at h
  refine s_aload_n (q := 1) dX5_copyLives_0 rfl rfl 0 rfl ?_
  refine t_getR (q := 4) (k := 0) (f := 0) (t := 1) dX5_copyLives_1 rfl rfl rfl rfl inX5 (Nat.le_of_ble_eq_true rfl) fX5_10 ?_
  refine t_getR (q := 7) (k := 1) (f := 3) (t := 4) dX5_copyLives_4 rfl rfl rfl rfl inX1 (Nat.le_of_ble_eq_true rfl) fX5_80 ?_
  refine s_iconst (q := 8) (v := 0) dX5_copyLives_7 rfl rfl ?_
  refine s_aload_n (q := 9) dX5_copyLives_8 rfl rfl 0 rfl ?_
  refine t_getR (q := 12) (k := 0) (f := 8) (t := 41) dX5_copyLives_9 rfl rfl rfl rfl inX5 (Nat.le_of_ble_eq_true rfl) fX5_49 ?_
  refine s_iconst (q := 13) (v := 0) dX5_copyLives_12 rfl rfl ?_
  refine s_bipush (q := 15) (v := 10) dX5_copyLives_13 rfl rfl ?_
  refine u_copy (q := 18) (k0 := 4) (k1 := 41) (js := 0) (jd := 0) (jw := 10) dX5_copyLives_15 rfl lX5_269 rfl rfl (by decide) (by decide) (by decide) (by decide) (Nat.le_of_ble_eq_true rfl) (Nat.le_of_ble_eq_true rfl) ?_
  obtain rfl := Option.some.inj h
  exact t_vret dX5_copyLives_18 rfl rfl
-- X1_wearDown
def G_X1_wearDown_1_41_2 : Nat → Int32 → ST → Option (ST)
  | 0, _, _ => none
  | n + 1, x2, S => (if (S.1 1 0) ≤ x2 then some (S) else (if inB x2 10 = true then (if inB x2 10 = true then ((G_X1_lifeNext_1 (S.1 2 x2.toNatClampNeg) (S.1 41 x2.toNatClampNeg) (S.1 8 0) S).bind fun q4 => (if inB x2 10 = true then G_X1_wearDown_1_41_2 n (x2 + 1) (wr q4.2 41 x2.toNatClampNeg q4.1) else none)) else none) else none))
set_option maxHeartbeats 4000000 in
set_option maxRecDepth 100000 in
theorem T_X1_wearDown_1_41_2 (E : EV) : ∀ (n : Nat) (x2 : Int32) (S : ST), ∀ (w : (ST)), G_X1_wearDown_1_41_2 n x2 S = some w → ∀ {Q : Option Value → ST → Prop}, SS E mX1_wearDown 38 [] [] w Q → SS E mX1_wearDown 2 [(0, .ref (eB E + 1)), (1, .ref (eB E + 41)), (2, .int x2)] [] S Q := by
  intro n
  induction n with
  | zero =>
    intro x2 S w h
    cases h
  | succ n ih =>
    intro x2 S w h Q K
    unfold G_X1_wearDown_1_41_2 at h
    refine s_iload_n (q := 3) dX1_wearDown_2 rfl rfl 2 rfl ?_
    refine s_aload_n (q := 4) dX1_wearDown_3 rfl rfl 0 rfl ?_
    refine t_getI (q := 7) (k := 1) (f := 0) (v := (S.1 1 0)) dX1_wearDown_4 rfl rfl rfl rfl inX1 (Nat.le_of_ble_eq_true rfl) fX1_9 rfl ?_
    refine s_icmp_ge (q := 10) (tgt := 38) dX1_wearDown_7 rfl rfl (fun hb1 => ?_) (fun hb1 => ?_)
    · rw [if_pos hb1] at h
      obtain rfl := Option.some.inj h
      exact t_sub [] rfl K
    · rw [if_neg hb1] at h
      refine s_aload_n (q := 11) dX1_wearDown_10 rfl rfl 1 rfl ?_
      refine s_iload_n (q := 12) dX1_wearDown_11 rfl rfl 2 rfl ?_
      refine s_aload_n (q := 13) dX1_wearDown_12 rfl rfl 0 rfl ?_
      refine s_aload_n (q := 14) dX1_wearDown_13 rfl rfl 0 rfl ?_
      refine t_getR (q := 17) (k := 1) (f := 1) (t := 2) dX1_wearDown_14 rfl rfl rfl rfl inX1 (Nat.le_of_ble_eq_true rfl) fX1_15 ?_
      refine s_iload_n (q := 18) dX1_wearDown_17 rfl rfl 2 rfl ?_
      obtain ⟨hg2, h⟩ := chk_some h
      refine u_iald (q := 19) (k := 2) (v := (S.1 2 x2.toNatClampNeg)) dX1_wearDown_18 rfl rfl (inB_in hg2) rfl rfl ?_
      refine s_aload_n (q := 20) dX1_wearDown_19 rfl rfl 1 rfl ?_
      refine s_iload_n (q := 21) dX1_wearDown_20 rfl rfl 2 rfl ?_
      obtain ⟨hg3, h⟩ := chk_some h
      refine u_iald (q := 22) (k := 41) (v := (S.1 41 x2.toNatClampNeg)) dX1_wearDown_21 rfl rfl (inB_in hg3) rfl rfl ?_
      refine s_aload_n (q := 23) dX1_wearDown_22 rfl rfl 0 rfl ?_
      refine t_getR (q := 26) (k := 1) (f := 7) (t := 8) dX1_wearDown_23 rfl rfl rfl rfl inX1 (Nat.le_of_ble_eq_true rfl) fX1_34 ?_
      refine s_iconst (q := 27) (v := 0) dX1_wearDown_26 rfl rfl ?_
      refine u_iald (q := 28) (k := 8) (j := 0) (v := (S.1 8 0)) dX1_wearDown_27 rfl rfl (inB_in (by decide)) (by decide) rfl ?_
      obtain ⟨q4, hc4, h⟩ := bnd h
      try dsimp only at h
      refine t_callV (q := 31) (N := mX1_lifeNext) (a := eB E + 1) [.int (S.1 2 x2.toNatClampNeg), .int (S.1 41 x2.toNatClampNeg), .int (S.1 8 0)] dX1_wearDown_28 rfl nkX1_lifeNext vkX1_lifeNext lX1_78 ⟨Nat.le_of_ble_eq_true rfl, Nat.le_of_ble_eq_true rfl⟩ (rc_obj (k := 1) rfl rfl) rfl rfl (Nat.le_of_ble_eq_true rfl) (Nat.le_of_ble_eq_true rfl) (T_X1_lifeNext_1 E _ _ _ hc4) ?_
      obtain ⟨hg5, h⟩ := chk_some h
      refine u_iast (q := 32) (k := 41) dX1_wearDown_31 rfl rfl (inB_in hg5) rfl ?_
      refine s_iinc (q := 35) (j := 2) (v := (x2 + 1)) (lv' := [(2, .int (x2 + 1)), (0, .ref (eB E + 1)), (1, .ref (eB E + 41))]) dX1_wearDown_32 rfl rfl rfl (Nat.le_of_ble_eq_true rfl) rfl ?_
      refine s_goto (tgt := 2) dX1_wearDown_35 rfl ?_
      exact t_sub [1, 2, 0] rfl (ih _ _ _ h K)
def G_X1_wearDown_1_41  (S : ST) : Option (Unit × ST) := (G_X1_wearDown_1_41_2 3000 0 S).bind fun q6 => some ((), q6)
set_option maxHeartbeats 4000000 in
set_option maxRecDepth 100000 in
theorem T_X1_wearDown_1_41 (E : EV)  {S : ST} {w : (Unit × ST)} (h : G_X1_wearDown_1_41  S = some w) : SD E mX1_wearDown 0 [(0, .ref (eB E + 1)), (1, .ref (eB E + 41))] [] S none w.2 := by
  unfold G_X1_wearDown_1_41 at h
  refine s_iconst (q := 1) (v := 0) dX1_wearDown_0 rfl rfl ?_
  refine s_istore_n (q := 2) (lv' := [(2, .int 0), (0, .ref (eB E + 1)), (1, .ref (eB E + 41))]) dX1_wearDown_1 rfl rfl (Nat.le_of_ble_eq_true rfl) rfl ?_
  obtain ⟨q6, hc6, h⟩ := bnd h
  try dsimp only at h
  refine t_sub [1, 2, 0] rfl (T_X1_wearDown_1_41_2 E _ _ _ _ hc6 ?_)
  obtain rfl := Option.some.inj h
  exact t_vret dX1_wearDown_38 rfl rfl
-- X1_brightSet
def G_X1_brightSet_1_41_4 : Nat → Int32 → Int32 → ST → Option (Int32 × ST)
  | 0, _, _, _ => none
  | n + 1, x2, x3, S => (if (S.1 1 0) ≤ x3 then some (x2, S) else (if inB x3 10 = true then (if inB x3 10 = true then ((G_X1_isBright_1 (S.1 2 x3.toNatClampNeg) (S.1 41 x3.toNatClampNeg) S).bind fun q4 => (if q4.1 = 0 then G_X1_brightSet_1_41_4 n x2 (x3 + 1) q4.2 else G_X1_brightSet_1_41_4 n (x2 ||| (1 <<< (x3 &&& 31))) (x3 + 1) q4.2)) else none) else none))
set_option maxHeartbeats 4000000 in
set_option maxRecDepth 100000 in
theorem T_X1_brightSet_1_41_4 (E : EV) : ∀ (n : Nat) (x2 : Int32) (x3 : Int32) (S : ST), ∀ (w : (Int32 × ST)), G_X1_brightSet_1_41_4 n x2 x3 S = some w → ∀ {Q : Option Value → ST → Prop}, SS E mX1_brightSet 40 [(2, .int w.1)] [] w.2 Q → SS E mX1_brightSet 4 [(0, .ref (eB E + 1)), (1, .ref (eB E + 41)), (2, .int x2), (3, .int x3)] [] S Q := by
  intro n
  induction n with
  | zero =>
    intro x2 x3 S w h
    cases h
  | succ n ih =>
    intro x2 x3 S w h Q K
    unfold G_X1_brightSet_1_41_4 at h
    refine s_iload_n (q := 5) dX1_brightSet_4 rfl rfl 3 rfl ?_
    refine s_aload_n (q := 6) dX1_brightSet_5 rfl rfl 0 rfl ?_
    refine t_getI (q := 9) (k := 1) (f := 0) (v := (S.1 1 0)) dX1_brightSet_6 rfl rfl rfl rfl inX1 (Nat.le_of_ble_eq_true rfl) fX1_9 rfl ?_
    refine s_icmp_ge (q := 12) (tgt := 40) dX1_brightSet_9 rfl rfl (fun hb1 => ?_) (fun hb1 => ?_)
    · rw [if_pos hb1] at h
      obtain rfl := Option.some.inj h
      exact t_sub [2] rfl K
    · rw [if_neg hb1] at h
      refine s_aload_n (q := 13) dX1_brightSet_12 rfl rfl 0 rfl ?_
      refine s_aload_n (q := 14) dX1_brightSet_13 rfl rfl 0 rfl ?_
      refine t_getR (q := 17) (k := 1) (f := 1) (t := 2) dX1_brightSet_14 rfl rfl rfl rfl inX1 (Nat.le_of_ble_eq_true rfl) fX1_15 ?_
      refine s_iload_n (q := 18) dX1_brightSet_17 rfl rfl 3 rfl ?_
      obtain ⟨hg2, h⟩ := chk_some h
      refine u_iald (q := 19) (k := 2) (v := (S.1 2 x3.toNatClampNeg)) dX1_brightSet_18 rfl rfl (inB_in hg2) rfl rfl ?_
      refine s_aload_n (q := 20) dX1_brightSet_19 rfl rfl 1 rfl ?_
      refine s_iload_n (q := 21) dX1_brightSet_20 rfl rfl 3 rfl ?_
      obtain ⟨hg3, h⟩ := chk_some h
      refine u_iald (q := 22) (k := 41) (v := (S.1 41 x3.toNatClampNeg)) dX1_brightSet_21 rfl rfl (inB_in hg3) rfl rfl ?_
      obtain ⟨q4, hc4, h⟩ := bnd h
      try dsimp only at h
      refine t_callV (q := 25) (N := mX1_isBright) (a := eB E + 1) [.int (S.1 2 x3.toNatClampNeg), .int (S.1 41 x3.toNatClampNeg)] dX1_brightSet_22 rfl nkX1_isBright vkX1_isBright lX1_81 ⟨Nat.le_of_ble_eq_true rfl, Nat.le_of_ble_eq_true rfl⟩ (rc_obj (k := 1) rfl rfl) rfl rfl (Nat.le_of_ble_eq_true rfl) (Nat.le_of_ble_eq_true rfl) (T_X1_isBright_1 E _ _ hc4) ?_
      refine s_if_eq (q := 28) (tgt := 34) dX1_brightSet_25 rfl rfl (fun hb5 => ?_) (fun hb5 => ?_)
      · rw [if_pos hb5] at h
        refine s_iinc (q := 37) (j := 3) (v := (x3 + 1)) (lv' := [(3, .int (x3 + 1)), (0, .ref (eB E + 1)), (1, .ref (eB E + 41)), (2, .int x2)]) dX1_brightSet_34 rfl rfl rfl (Nat.le_of_ble_eq_true rfl) rfl ?_
        refine s_goto (tgt := 4) dX1_brightSet_37 rfl ?_
        exact t_sub [1, 2, 3, 0] rfl (ih _ _ _ _ h K)
      · rw [if_neg hb5] at h
        refine s_iload_n (q := 29) dX1_brightSet_28 rfl rfl 2 rfl ?_
        refine s_iconst (q := 30) (v := 1) dX1_brightSet_29 rfl rfl ?_
        refine s_iload_n (q := 31) dX1_brightSet_30 rfl rfl 3 rfl ?_
        refine s_ishl (q := 32) dX1_brightSet_31 rfl ?_
        refine s_ior (q := 33) dX1_brightSet_32 rfl ?_
        refine s_istore_n (q := 34) (lv' := [(2, .int (x2 ||| (1 <<< (x3 &&& 31)))), (0, .ref (eB E + 1)), (1, .ref (eB E + 41)), (3, .int x3)]) dX1_brightSet_33 rfl rfl (Nat.le_of_ble_eq_true rfl) rfl ?_
        refine s_iinc (q := 37) (j := 3) (v := (x3 + 1)) (lv' := [(3, .int (x3 + 1)), (2, .int (x2 ||| (1 <<< (x3 &&& 31)))), (0, .ref (eB E + 1)), (1, .ref (eB E + 41))]) dX1_brightSet_34 rfl rfl rfl (Nat.le_of_ble_eq_true rfl) rfl ?_
        refine s_goto (tgt := 4) dX1_brightSet_37 rfl ?_
        exact t_sub [2, 3, 1, 0] rfl (ih _ _ _ _ h K)
def G_X1_brightSet_1_41  (S : ST) : Option (Int32 × ST) := (G_X1_brightSet_1_41_4 3000 0 0 S).bind fun q6 => some (q6.1, q6.2)
set_option maxHeartbeats 4000000 in
set_option maxRecDepth 100000 in
theorem T_X1_brightSet_1_41 (E : EV)  {S : ST} {w : (Int32 × ST)} (h : G_X1_brightSet_1_41  S = some w) : SD E mX1_brightSet 0 [(0, .ref (eB E + 1)), (1, .ref (eB E + 41))] [] S (some (.int w.1)) w.2 := by
  unfold G_X1_brightSet_1_41 at h
  refine s_iconst (q := 1) (v := 0) dX1_brightSet_0 rfl rfl ?_
  refine s_istore_n (q := 2) (lv' := [(2, .int 0), (0, .ref (eB E + 1)), (1, .ref (eB E + 41))]) dX1_brightSet_1 rfl rfl (Nat.le_of_ble_eq_true rfl) rfl ?_
  refine s_iconst (q := 3) (v := 0) dX1_brightSet_2 rfl rfl ?_
  refine s_istore_n (q := 4) (lv' := [(3, .int 0), (2, .int 0), (0, .ref (eB E + 1)), (1, .ref (eB E + 41))]) dX1_brightSet_3 rfl rfl (Nat.le_of_ble_eq_true rfl) rfl ?_
  obtain ⟨q6, hc6, h⟩ := bnd h
  try dsimp only at h
  refine t_sub [2, 3, 1, 0] rfl (T_X1_brightSet_1_41_4 E _ _ _ _ _ hc6 ?_)
  refine s_iload_n (q := 41) dX1_brightSet_40 rfl rfl 0 rfl ?_
  obtain rfl := Option.some.inj h
  exact t_iret dX1_brightSet_41 rfl rfl
-- X5_shine
def G_X5_shine_0_22 : Nat → Int32 → Int32 → ST → Option (ST)
  | 0, _, _, _ => none
  | n + 1, x1, x2, S => (if x1 ≤ x2 then some (S) else ((G_X1_wearDown_1_41  S).bind fun q5 => G_X5_shine_0_22 n x1 (x2 + 1) q5.2))
set_option maxHeartbeats 4000000 in
set_option maxRecDepth 100000 in
theorem T_X5_shine_0_22 (E : EV) : ∀ (n : Nat) (x1 : Int32) (x2 : Int32) (S : ST), ∀ (w : (ST)), G_X5_shine_0_22 n x1 x2 S = some w → ∀ {Q : Option Value → ST → Prop}, SS E mX5_shine 44 [(0, .ref (eB E + 0))] [] w Q → SS E mX5_shine 22 [(0, .ref (eB E + 0)), (1, .int x1), (2, .int x2)] [] S Q := by
  intro n
  induction n with
  | zero =>
    intro x1 x2 S w h
    cases h
  | succ n ih =>
    intro x1 x2 S w h Q K
    unfold G_X5_shine_0_22 at h
    refine s_iload_n (q := 23) dX5_shine_22 rfl rfl 2 rfl ?_
    refine s_iload_n (q := 24) dX5_shine_23 rfl rfl 1 rfl ?_
    refine s_icmp_ge (q := 27) (tgt := 44) dX5_shine_24 rfl rfl (fun hb4 => ?_) (fun hb4 => ?_)
    · rw [if_pos hb4] at h
      obtain rfl := Option.some.inj h
      exact t_sub [0] rfl K
    · rw [if_neg hb4] at h
      refine s_aload_n (q := 28) dX5_shine_27 rfl rfl 0 rfl ?_
      refine t_getR (q := 31) (k := 0) (f := 0) (t := 1) dX5_shine_28 rfl rfl rfl rfl inX5 (Nat.le_of_ble_eq_true rfl) fX5_10 ?_
      refine s_aload_n (q := 32) dX5_shine_31 rfl rfl 0 rfl ?_
      refine t_getR (q := 35) (k := 0) (f := 8) (t := 41) dX5_shine_32 rfl rfl rfl rfl inX5 (Nat.le_of_ble_eq_true rfl) fX5_49 ?_
      obtain ⟨q5, hc5, h⟩ := bnd h
      try dsimp only at h
      refine t_callV (q := 38) (N := mX1_wearDown) (a := eB E + 1) [.ref (eB E + 41)] dX5_shine_35 rfl nkX1_wearDown vkX1_wearDown lX5_157 ⟨Nat.le_of_ble_eq_true rfl, Nat.le_of_ble_eq_true rfl⟩ (rc_obj (k := 1) rfl rfl) rfl rfl (Nat.le_of_ble_eq_true rfl) (Nat.le_of_ble_eq_true rfl) (T_X1_wearDown_1_41 E  hc5) ?_
      refine s_iinc (q := 41) (j := 2) (v := (x2 + 1)) (lv' := [(2, .int (x2 + 1)), (0, .ref (eB E + 0)), (1, .int x1)]) dX5_shine_38 rfl rfl rfl (Nat.le_of_ble_eq_true rfl) rfl ?_
      refine s_goto (tgt := 22) dX5_shine_41 rfl ?_
      exact t_sub [1, 2, 0] rfl (ih _ _ _ _ h K)
def G_X5_shine_0 (x1 : Int32) (S : ST) : Option (Int32 × ST) := ((G_X5_isWithin x1 200 S).bind fun q1 => (if q1.1 = 0 then ((G_X5_finding_0 0 q1.2).bind fun q8 => some (q8.1, q8.2)) else ((G_X5_copyLives_0  q1.2).bind fun q3 => (G_X5_shine_0_22 3000 x1 0 q3.2).bind fun q6 => ((G_X1_brightSet_1_41  q6).bind fun q7 => some (q7.1, q7.2)))))
set_option maxHeartbeats 4000000 in
set_option maxRecDepth 100000 in
theorem T_X5_shine_0 (E : EV) (x1 : Int32) {S : ST} {w : (Int32 × ST)} (h : G_X5_shine_0 x1 S = some w) : SD E mX5_shine 0 [(0, .ref (eB E + 0)), (1, .int x1)] [] S (some (.int w.1)) w.2 := by
  unfold G_X5_shine_0 at h
  refine s_iload_n (q := 1) dX5_shine_0 rfl rfl 1 rfl ?_
  refine s_sipush (q := 4) (v := 200) dX5_shine_1 rfl rfl ?_
  obtain ⟨q1, hc1, h⟩ := bnd h
  try dsimp only at h
  refine t_callS (q := 7) (N := mX5_isWithin) [.int x1, .int 200] dX5_shine_4 rfl nkX5_isWithin sX5_isWithin lX5_99 ⟨Nat.le_of_ble_eq_true rfl, Nat.le_of_ble_eq_true rfl⟩ rfl rfl (Nat.le_of_ble_eq_true rfl) (Nat.le_of_ble_eq_true rfl) (T_X5_isWithin E _ _ hc1) ?_
  refine s_if_ne (q := 10) (tgt := 16) dX5_shine_7 rfl rfl (fun hb2 => ?_) (fun hb2 => ?_)
  · rw [if_neg hb2] at h
    refine s_aload_n (q := 17) dX5_shine_16 rfl rfl 0 rfl ?_
    obtain ⟨q3, hc3, h⟩ := bnd h
    try dsimp only at h
    refine t_callV (q := 20) (N := mX5_copyLives) (a := eB E + 0) [] dX5_shine_17 rfl nkX5_copyLives vkX5_copyLives lX5_154 ⟨Nat.le_of_ble_eq_true rfl, Nat.le_of_ble_eq_true rfl⟩ (rc_obj (k := 0) rfl rfl) rfl rfl (Nat.le_of_ble_eq_true rfl) (Nat.le_of_ble_eq_true rfl) (T_X5_copyLives_0 E  hc3) ?_
    refine s_iconst (q := 21) (v := 0) dX5_shine_20 rfl rfl ?_
    refine s_istore_n (q := 22) (lv' := [(2, .int 0), (0, .ref (eB E + 0)), (1, .int x1)]) dX5_shine_21 rfl rfl (Nat.le_of_ble_eq_true rfl) rfl ?_
    obtain ⟨q6, hc6, h⟩ := bnd h
    try dsimp only at h
    refine t_sub [1, 2, 0] rfl (T_X5_shine_0_22 E _ _ _ _ _ hc6 ?_)
    refine s_aload_n (q := 45) dX5_shine_44 rfl rfl 0 rfl ?_
    refine t_getR (q := 48) (k := 0) (f := 0) (t := 1) dX5_shine_45 rfl rfl rfl rfl inX5 (Nat.le_of_ble_eq_true rfl) fX5_10 ?_
    refine s_aload_n (q := 49) dX5_shine_48 rfl rfl 0 rfl ?_
    refine t_getR (q := 52) (k := 0) (f := 8) (t := 41) dX5_shine_49 rfl rfl rfl rfl inX5 (Nat.le_of_ble_eq_true rfl) fX5_49 ?_
    obtain ⟨q7, hc7, h⟩ := bnd h
    try dsimp only at h
    refine t_callV (q := 55) (N := mX1_brightSet) (a := eB E + 1) [.ref (eB E + 41)] dX5_shine_52 rfl nkX1_brightSet vkX1_brightSet lX5_126 ⟨Nat.le_of_ble_eq_true rfl, Nat.le_of_ble_eq_true rfl⟩ (rc_obj (k := 1) rfl rfl) rfl rfl (Nat.le_of_ble_eq_true rfl) (Nat.le_of_ble_eq_true rfl) (T_X1_brightSet_1_41 E  hc7) ?_
    obtain rfl := Option.some.inj h
    exact t_iret dX5_shine_55 rfl rfl
  · rw [if_pos hb2] at h
    refine s_aload_n (q := 11) dX5_shine_10 rfl rfl 0 rfl ?_
    refine s_iconst (q := 12) (v := 0) dX5_shine_11 rfl rfl ?_
    obtain ⟨q8, hc8, h⟩ := bnd h
    try dsimp only at h
    refine t_callV (q := 15) (N := mX5_finding) (a := eB E + 0) [.int 0] dX5_shine_12 rfl nkX5_finding vkX5_finding lX5_61 ⟨Nat.le_of_ble_eq_true rfl, Nat.le_of_ble_eq_true rfl⟩ (rc_obj (k := 0) rfl rfl) rfl rfl (Nat.le_of_ble_eq_true rfl) (Nat.le_of_ble_eq_true rfl) (T_X5_finding_0 E _ hc8) ?_
    obtain rfl := Option.some.inj h
    exact t_iret dX5_shine_15 rfl rfl
-- X6_shine
def G_X6_shine_51 (x1 : Int32) (S : ST) : Option (Int32 × ST) := ((G_X6_in1 x1 0 200 S).bind fun q1 => (if q1.1 = 0 then ((G_X6_no_51 0 q1.2).bind fun q7 => some (q7.1, q7.2)) else ((G_X6_setsAside_51  q1.2).bind fun q3 => ((G_X6_nights_51 x1 q3.2).bind fun q4 => ((G_X6_shining_51  q4.2).bind fun q5 => ((G_X6_laysBack_51  q5.2).bind fun q6 => some (q5.1, q6.2)))))))
set_option maxHeartbeats 4000000 in
set_option maxRecDepth 100000 in
theorem T_X6_shine_51 (E : EV) (x1 : Int32) {S : ST} {w : (Int32 × ST)} (h : G_X6_shine_51 x1 S = some w) : SD E mX6_shine 0 [(0, .ref (eB E + 51)), (1, .int x1)] [] S (some (.int w.1)) w.2 := by
  unfold G_X6_shine_51 at h
  refine s_iload_n (q := 1) dX6_shine_0 rfl rfl 1 rfl ?_
  refine s_iconst (q := 2) (v := 0) dX6_shine_1 rfl rfl ?_
  refine s_sipush (q := 5) (v := 200) dX6_shine_2 rfl rfl ?_
  obtain ⟨q1, hc1, h⟩ := bnd h
  try dsimp only at h
  refine t_callS (q := 8) (N := mX6_in1) [.int x1, .int 0, .int 200] dX6_shine_5 rfl nkX6_in1 sX6_in1 lX6_54 ⟨Nat.le_of_ble_eq_true rfl, Nat.le_of_ble_eq_true rfl⟩ rfl rfl (Nat.le_of_ble_eq_true rfl) (Nat.le_of_ble_eq_true rfl) (T_X6_in1 E _ _ _ hc1) ?_
  refine s_if_ne (q := 11) (tgt := 17) dX6_shine_8 rfl rfl (fun hb2 => ?_) (fun hb2 => ?_)
  · rw [if_neg hb2] at h
    refine s_aload_n (q := 18) dX6_shine_17 rfl rfl 0 rfl ?_
    obtain ⟨q3, hc3, h⟩ := bnd h
    try dsimp only at h
    refine t_callV (q := 21) (N := mX6_setsAside) (a := eB E + 51) [] dX6_shine_18 rfl nkX6_setsAside vkX6_setsAside lX6_133 ⟨Nat.le_of_ble_eq_true rfl, Nat.le_of_ble_eq_true rfl⟩ (rc_obj (k := 51) rfl rfl) rfl rfl (Nat.le_of_ble_eq_true rfl) (Nat.le_of_ble_eq_true rfl) (T_X6_setsAside_51 E  hc3) ?_
    refine s_aload_n (q := 22) dX6_shine_21 rfl rfl 0 rfl ?_
    refine s_iload_n (q := 23) dX6_shine_22 rfl rfl 1 rfl ?_
    obtain ⟨q4, hc4, h⟩ := bnd h
    try dsimp only at h
    refine t_callV (q := 26) (N := mX6_nights) (a := eB E + 51) [.int x1] dX6_shine_23 rfl nkX6_nights vkX6_nights lX6_113 ⟨Nat.le_of_ble_eq_true rfl, Nat.le_of_ble_eq_true rfl⟩ (rc_obj (k := 51) rfl rfl) rfl rfl (Nat.le_of_ble_eq_true rfl) (Nat.le_of_ble_eq_true rfl) (T_X6_nights_51 E _ hc4) ?_
    refine s_aload_n (q := 27) dX6_shine_26 rfl rfl 0 rfl ?_
    obtain ⟨q5, hc5, h⟩ := bnd h
    try dsimp only at h
    refine t_callV (q := 30) (N := mX6_shining) (a := eB E + 51) [] dX6_shine_27 rfl nkX6_shining vkX6_shining lX6_117 ⟨Nat.le_of_ble_eq_true rfl, Nat.le_of_ble_eq_true rfl⟩ (rc_obj (k := 51) rfl rfl) rfl rfl (Nat.le_of_ble_eq_true rfl) (Nat.le_of_ble_eq_true rfl) (T_X6_shining_51 E  hc5) ?_
    refine s_istore_n (q := 31) (lv' := [(2, .int q5.1), (0, .ref (eB E + 51)), (1, .int x1)]) dX6_shine_30 rfl rfl (Nat.le_of_ble_eq_true rfl) rfl ?_
    refine s_aload_n (q := 32) dX6_shine_31 rfl rfl 1 rfl ?_
    obtain ⟨q6, hc6, h⟩ := bnd h
    try dsimp only at h
    refine t_callV (q := 35) (N := mX6_laysBack) (a := eB E + 51) [] dX6_shine_32 rfl nkX6_laysBack vkX6_laysBack lX6_136 ⟨Nat.le_of_ble_eq_true rfl, Nat.le_of_ble_eq_true rfl⟩ (rc_obj (k := 51) rfl rfl) rfl rfl (Nat.le_of_ble_eq_true rfl) (Nat.le_of_ble_eq_true rfl) (T_X6_laysBack_51 E  hc6) ?_
    refine s_iload_n (q := 36) dX6_shine_35 rfl rfl 0 rfl ?_
    obtain rfl := Option.some.inj h
    exact t_iret dX6_shine_36 rfl rfl
  · rw [if_pos hb2] at h
    refine s_aload_n (q := 12) dX6_shine_11 rfl rfl 0 rfl ?_
    refine s_iconst (q := 13) (v := 0) dX6_shine_12 rfl rfl ?_
    obtain ⟨q7, hc7, h⟩ := bnd h
    try dsimp only at h
    refine t_callV (q := 16) (N := mX6_no) (a := eB E + 51) [.int 0] dX6_shine_13 rfl nkX6_no vkX6_no lX6_94 ⟨Nat.le_of_ble_eq_true rfl, Nat.le_of_ble_eq_true rfl⟩ (rc_obj (k := 51) rfl rfl) rfl rfl (Nat.le_of_ble_eq_true rfl) (Nat.le_of_ble_eq_true rfl) (T_X6_no_51 E _ hc7) ?_
    obtain rfl := Option.some.inj h
    exact t_iret dX6_shine_16 rfl rfl
-- X5_dark
def G_X5_dark_0_23 : Nat → Int32 → Int32 → ST → Option (Int32 × ST)
  | 0, _, _, _ => none
  | n + 1, x1, x2, S => (if (200 : Int32) < x2 then ((G_X5_finding_0 3 S).bind fun q6 => some (q6.1, q6.2)) else ((G_X1_brightSet_1_41  S).bind fun q7 => ((G_J6_bitCount_0f7a4 q7.1 q7.2).bind fun q8 => (if x1 ≤ q8.1 then ((G_X1_wearDown_1_41  q8.2).bind fun q10 => G_X5_dark_0_23 n x1 (x2 + 1) q10.2) else some (x2, q8.2)))))
set_option maxHeartbeats 4000000 in
set_option maxRecDepth 100000 in
theorem T_X5_dark_0_23 (E : EV) : ∀ (n : Nat) (x1 : Int32) (x2 : Int32) (S : ST) (w : (Int32 × ST)), G_X5_dark_0_23 n x1 x2 S = some w → SD E mX5_dark 23 [(0, .ref (eB E + 0)), (1, .int x1), (2, .int x2)] [] S (some (.int w.1)) w.2 := by
  intro n
  induction n with
  | zero =>
    intro x1 x2 S w h
    cases h
  | succ n ih =>
    intro x1 x2 S w h
    unfold G_X5_dark_0_23 at h
    refine s_iload_n (q := 24) dX5_dark_23 rfl rfl 2 rfl ?_
    refine s_sipush (q := 27) (v := 200) dX5_dark_24 rfl rfl ?_
    refine s_icmp_gt (q := 30) (tgt := 67) dX5_dark_27 rfl rfl (fun hb5 => ?_) (fun hb5 => ?_)
    · rw [if_pos hb5] at h
      refine s_aload_n (q := 68) dX5_dark_67 rfl rfl 0 rfl ?_
      refine s_iconst (q := 69) (v := 3) dX5_dark_68 rfl rfl ?_
      obtain ⟨q6, hc6, h⟩ := bnd h
      try dsimp only at h
      refine t_callV (q := 72) (N := mX5_finding) (a := eB E + 0) [.int 3] dX5_dark_69 rfl nkX5_finding vkX5_finding lX5_61 ⟨Nat.le_of_ble_eq_true rfl, Nat.le_of_ble_eq_true rfl⟩ (rc_obj (k := 0) rfl rfl) rfl rfl (Nat.le_of_ble_eq_true rfl) (Nat.le_of_ble_eq_true rfl) (T_X5_finding_0 E _ hc6) ?_
      obtain rfl := Option.some.inj h
      exact t_iret dX5_dark_72 rfl rfl
    · rw [if_neg hb5] at h
      refine s_aload_n (q := 31) dX5_dark_30 rfl rfl 0 rfl ?_
      refine t_getR (q := 34) (k := 0) (f := 0) (t := 1) dX5_dark_31 rfl rfl rfl rfl inX5 (Nat.le_of_ble_eq_true rfl) fX5_10 ?_
      refine s_aload_n (q := 35) dX5_dark_34 rfl rfl 0 rfl ?_
      refine t_getR (q := 38) (k := 0) (f := 8) (t := 41) dX5_dark_35 rfl rfl rfl rfl inX5 (Nat.le_of_ble_eq_true rfl) fX5_49 ?_
      obtain ⟨q7, hc7, h⟩ := bnd h
      try dsimp only at h
      refine t_callV (q := 41) (N := mX1_brightSet) (a := eB E + 1) [.ref (eB E + 41)] dX5_dark_38 rfl nkX1_brightSet vkX1_brightSet lX5_126 ⟨Nat.le_of_ble_eq_true rfl, Nat.le_of_ble_eq_true rfl⟩ (rc_obj (k := 1) rfl rfl) rfl rfl (Nat.le_of_ble_eq_true rfl) (Nat.le_of_ble_eq_true rfl) (T_X1_brightSet_1_41 E  hc7) ?_
      obtain ⟨q8, hc8, h⟩ := bnd h
      try dsimp only at h
      refine t_callS (q := 44) (N := mJ6_bitCount_0f7a4) [.int q7.1] dX5_dark_41 rfl nkJ6_bitCount_0f7a4 sJ6_bitCount_0f7a4 lX5_130 ⟨Nat.le_of_ble_eq_true rfl, Nat.le_of_ble_eq_true rfl⟩ rfl rfl (Nat.le_of_ble_eq_true rfl) (Nat.le_of_ble_eq_true rfl) (T_J6_bitCount_0f7a4 E _ hc8) ?_
      refine s_iload_n (q := 45) dX5_dark_44 rfl rfl 1 rfl ?_
      refine s_icmp_ge (q := 48) (tgt := 50) dX5_dark_45 rfl rfl (fun hb9 => ?_) (fun hb9 => ?_)
      · rw [if_pos hb9] at h
        refine s_aload_n (q := 51) dX5_dark_50 rfl rfl 0 rfl ?_
        refine t_getR (q := 54) (k := 0) (f := 0) (t := 1) dX5_dark_51 rfl rfl rfl rfl inX5 (Nat.le_of_ble_eq_true rfl) fX5_10 ?_
        refine s_aload_n (q := 55) dX5_dark_54 rfl rfl 0 rfl ?_
        refine t_getR (q := 58) (k := 0) (f := 8) (t := 41) dX5_dark_55 rfl rfl rfl rfl inX5 (Nat.le_of_ble_eq_true rfl) fX5_49 ?_
        obtain ⟨q10, hc10, h⟩ := bnd h
        try dsimp only at h
        refine t_callV (q := 61) (N := mX1_wearDown) (a := eB E + 1) [.ref (eB E + 41)] dX5_dark_58 rfl nkX1_wearDown vkX1_wearDown lX5_157 ⟨Nat.le_of_ble_eq_true rfl, Nat.le_of_ble_eq_true rfl⟩ (rc_obj (k := 1) rfl rfl) rfl rfl (Nat.le_of_ble_eq_true rfl) (Nat.le_of_ble_eq_true rfl) (T_X1_wearDown_1_41 E  hc10) ?_
        refine s_iinc (q := 64) (j := 2) (v := (x2 + 1)) (lv' := [(2, .int (x2 + 1)), (0, .ref (eB E + 0)), (1, .int x1)]) dX5_dark_61 rfl rfl rfl (Nat.le_of_ble_eq_true rfl) rfl ?_
        refine s_goto (tgt := 23) dX5_dark_64 rfl ?_
        exact t_sub [1, 2, 0] rfl (ih _ _ _ _ h)
      · rw [if_neg hb9] at h
        refine s_iload_n (q := 49) dX5_dark_48 rfl rfl 2 rfl ?_
        obtain rfl := Option.some.inj h
        exact t_iret dX5_dark_49 rfl rfl
def G_X5_dark_0 (x1 : Int32) (S : ST) : Option (Int32 × ST) := (if x1 < 1 then ((G_X5_finding_0 0 S).bind fun q2 => some (q2.1, q2.2)) else (if x1 ≤ 10 then ((G_X5_copyLives_0  S).bind fun q4 => G_X5_dark_0_23 3000 x1 0 q4.2) else ((G_X5_finding_0 0 S).bind fun q11 => some (q11.1, q11.2))))
set_option maxHeartbeats 4000000 in
set_option maxRecDepth 100000 in
theorem T_X5_dark_0 (E : EV) (x1 : Int32) {S : ST} {w : (Int32 × ST)} (h : G_X5_dark_0 x1 S = some w) : SD E mX5_dark 0 [(0, .ref (eB E + 0)), (1, .int x1)] [] S (some (.int w.1)) w.2 := by
  unfold G_X5_dark_0 at h
  refine s_iload_n (q := 1) dX5_dark_0 rfl rfl 1 rfl ?_
  refine s_iconst (q := 2) (v := 1) dX5_dark_1 rfl rfl ?_
  refine s_icmp_lt (q := 5) (tgt := 11) dX5_dark_2 rfl rfl (fun hb1 => ?_) (fun hb1 => ?_)
  · rw [if_pos hb1] at h
    refine s_aload_n (q := 12) dX5_dark_11 rfl rfl 0 rfl ?_
    refine s_iconst (q := 13) (v := 0) dX5_dark_12 rfl rfl ?_
    obtain ⟨q2, hc2, h⟩ := bnd h
    try dsimp only at h
    refine t_callV (q := 16) (N := mX5_finding) (a := eB E + 0) [.int 0] dX5_dark_13 rfl nkX5_finding vkX5_finding lX5_61 ⟨Nat.le_of_ble_eq_true rfl, Nat.le_of_ble_eq_true rfl⟩ (rc_obj (k := 0) rfl rfl) rfl rfl (Nat.le_of_ble_eq_true rfl) (Nat.le_of_ble_eq_true rfl) (T_X5_finding_0 E _ hc2) ?_
    obtain rfl := Option.some.inj h
    exact t_iret dX5_dark_16 rfl rfl
  · rw [if_neg hb1] at h
    refine s_iload_n (q := 6) dX5_dark_5 rfl rfl 1 rfl ?_
    refine s_bipush (q := 8) (v := 10) dX5_dark_6 rfl rfl ?_
    refine s_icmp_le (q := 11) (tgt := 17) dX5_dark_8 rfl rfl (fun hb3 => ?_) (fun hb3 => ?_)
    · rw [if_pos hb3] at h
      refine s_aload_n (q := 18) dX5_dark_17 rfl rfl 0 rfl ?_
      obtain ⟨q4, hc4, h⟩ := bnd h
      try dsimp only at h
      refine t_callV (q := 21) (N := mX5_copyLives) (a := eB E + 0) [] dX5_dark_18 rfl nkX5_copyLives vkX5_copyLives lX5_154 ⟨Nat.le_of_ble_eq_true rfl, Nat.le_of_ble_eq_true rfl⟩ (rc_obj (k := 0) rfl rfl) rfl rfl (Nat.le_of_ble_eq_true rfl) (Nat.le_of_ble_eq_true rfl) (T_X5_copyLives_0 E  hc4) ?_
      refine s_iconst (q := 22) (v := 0) dX5_dark_21 rfl rfl ?_
      refine s_istore_n (q := 23) (lv' := [(2, .int 0), (0, .ref (eB E + 0)), (1, .int x1)]) dX5_dark_22 rfl rfl (Nat.le_of_ble_eq_true rfl) rfl ?_
      exact t_sub [1, 2, 0] rfl (T_X5_dark_0_23 E _ _ _ _ _ h)
    · rw [if_neg hb3] at h
      refine s_aload_n (q := 12) dX5_dark_11 rfl rfl 0 rfl ?_
      refine s_iconst (q := 13) (v := 0) dX5_dark_12 rfl rfl ?_
      obtain ⟨q11, hc11, h⟩ := bnd h
      try dsimp only at h
      refine t_callV (q := 16) (N := mX5_finding) (a := eB E + 0) [.int 0] dX5_dark_13 rfl nkX5_finding vkX5_finding lX5_61 ⟨Nat.le_of_ble_eq_true rfl, Nat.le_of_ble_eq_true rfl⟩ (rc_obj (k := 0) rfl rfl) rfl rfl (Nat.le_of_ble_eq_true rfl) (Nat.le_of_ble_eq_true rfl) (T_X5_finding_0 E _ hc11) ?_
      obtain rfl := Option.some.inj h
      exact t_iret dX5_dark_16 rfl rfl
-- X6_dark
def G_X6_dark_51_22 : Nat → Int32 → Int32 → ST → Option (Int32 × ST)
  | 0, _, _, _ => none
  | n + 1, x1, x2, S => (if (200 : Int32) < x2 then some (x2, S) else ((G_X6_shining_51  S).bind fun q5 => ((G_X6_bits q5.1 q5.2).bind fun q6 => (if q6.1 < x1 then some (x2, q6.2) else ((G_X6_night_51  q6.2).bind fun q8 => G_X6_dark_51_22 n x1 (x2 + 1) q8.2)))))
set_option maxHeartbeats 4000000 in
set_option maxRecDepth 100000 in
theorem T_X6_dark_51_22 (E : EV) : ∀ (n : Nat) (x1 : Int32) (x2 : Int32) (S : ST), ∀ (w : (Int32 × ST)), G_X6_dark_51_22 n x1 x2 S = some w → ∀ {Q : Option Value → ST → Prop}, SS E mX6_dark 50 [(0, .ref (eB E + 51)), (2, .int w.1)] [] w.2 Q → SS E mX6_dark 22 [(0, .ref (eB E + 51)), (1, .int x1), (2, .int x2)] [] S Q := by
  intro n
  induction n with
  | zero =>
    intro x1 x2 S w h
    cases h
  | succ n ih =>
    intro x1 x2 S w h Q K
    unfold G_X6_dark_51_22 at h
    refine s_iload_n (q := 23) dX6_dark_22 rfl rfl 2 rfl ?_
    refine s_sipush (q := 26) (v := 200) dX6_dark_23 rfl rfl ?_
    refine s_icmp_gt (q := 29) (tgt := 50) dX6_dark_26 rfl rfl (fun hb4 => ?_) (fun hb4 => ?_)
    · rw [if_pos hb4] at h
      obtain rfl := Option.some.inj h
      exact t_sub [0, 2] rfl K
    · rw [if_neg hb4] at h
      refine s_aload_n (q := 30) dX6_dark_29 rfl rfl 0 rfl ?_
      obtain ⟨q5, hc5, h⟩ := bnd h
      try dsimp only at h
      refine t_callV (q := 33) (N := mX6_shining) (a := eB E + 51) [] dX6_dark_30 rfl nkX6_shining vkX6_shining lX6_117 ⟨Nat.le_of_ble_eq_true rfl, Nat.le_of_ble_eq_true rfl⟩ (rc_obj (k := 51) rfl rfl) rfl rfl (Nat.le_of_ble_eq_true rfl) (Nat.le_of_ble_eq_true rfl) (T_X6_shining_51 E  hc5) ?_
      obtain ⟨q6, hc6, h⟩ := bnd h
      try dsimp only at h
      refine t_callS (q := 36) (N := mX6_bits) [.int q5.1] dX6_dark_33 rfl nkX6_bits sX6_bits lX6_121 ⟨Nat.le_of_ble_eq_true rfl, Nat.le_of_ble_eq_true rfl⟩ rfl rfl (Nat.le_of_ble_eq_true rfl) (Nat.le_of_ble_eq_true rfl) (T_X6_bits E _ hc6) ?_
      refine s_iload_n (q := 37) dX6_dark_36 rfl rfl 1 rfl ?_
      refine s_icmp_lt (q := 40) (tgt := 50) dX6_dark_37 rfl rfl (fun hb7 => ?_) (fun hb7 => ?_)
      · rw [if_pos hb7] at h
        obtain rfl := Option.some.inj h
        exact t_sub [0, 2] rfl K
      · rw [if_neg hb7] at h
        refine s_aload_n (q := 41) dX6_dark_40 rfl rfl 0 rfl ?_
        obtain ⟨q8, hc8, h⟩ := bnd h
        try dsimp only at h
        refine t_callV (q := 44) (N := mX6_night) (a := eB E + 51) [] dX6_dark_41 rfl nkX6_night vkX6_night lX6_88 ⟨Nat.le_of_ble_eq_true rfl, Nat.le_of_ble_eq_true rfl⟩ (rc_obj (k := 51) rfl rfl) rfl rfl (Nat.le_of_ble_eq_true rfl) (Nat.le_of_ble_eq_true rfl) (T_X6_night_51 E  hc8) ?_
        refine s_iinc (q := 47) (j := 2) (v := (x2 + 1)) (lv' := [(2, .int (x2 + 1)), (0, .ref (eB E + 51)), (1, .int x1)]) dX6_dark_44 rfl rfl rfl (Nat.le_of_ble_eq_true rfl) rfl ?_
        refine s_goto (tgt := 22) dX6_dark_47 rfl ?_
        exact t_sub [1, 2, 0] rfl (ih _ _ _ _ h K)
def G_X6_dark_51_50 (x2 : Int32) (S : ST) : Option (Int32 × ST) := ((G_X6_laysBack_51  S).bind fun q10 => (if x2 ≤ 200 then some (x2, q10.2) else ((G_X6_no_51 3 q10.2).bind fun q12 => some (q12.1, q12.2))))
set_option maxHeartbeats 4000000 in
set_option maxRecDepth 100000 in
theorem T_X6_dark_51_50 (E : EV) (x2 : Int32) {S : ST} {w : (Int32 × ST)} (h : G_X6_dark_51_50 x2 S = some w) : SD E mX6_dark 50 [(0, .ref (eB E + 51)), (2, .int x2)] [] S (some (.int w.1)) w.2 := by
  unfold G_X6_dark_51_50 at h
  refine s_aload_n (q := 51) dX6_dark_50 rfl rfl 0 rfl ?_
  obtain ⟨q10, hc10, h⟩ := bnd h
  try dsimp only at h
  refine t_callV (q := 54) (N := mX6_laysBack) (a := eB E + 51) [] dX6_dark_51 rfl nkX6_laysBack vkX6_laysBack lX6_136 ⟨Nat.le_of_ble_eq_true rfl, Nat.le_of_ble_eq_true rfl⟩ (rc_obj (k := 51) rfl rfl) rfl rfl (Nat.le_of_ble_eq_true rfl) (Nat.le_of_ble_eq_true rfl) (T_X6_laysBack_51 E  hc10) ?_
  refine s_iload_n (q := 55) dX6_dark_54 rfl rfl 1 rfl ?_
  refine s_sipush (q := 58) (v := 200) dX6_dark_55 rfl rfl ?_
  refine s_icmp_le (q := 61) (tgt := 69) dX6_dark_58 rfl rfl (fun hb11 => ?_) (fun hb11 => ?_)
  · rw [if_pos hb11] at h
    refine s_iload_n (q := 70) dX6_dark_69 rfl rfl 1 rfl ?_
    obtain rfl := Option.some.inj h
    exact t_iret dX6_dark_70 rfl rfl
  · rw [if_neg hb11] at h
    refine s_aload_n (q := 62) dX6_dark_61 rfl rfl 0 rfl ?_
    refine s_iconst (q := 63) (v := 3) dX6_dark_62 rfl rfl ?_
    obtain ⟨q12, hc12, h⟩ := bnd h
    try dsimp only at h
    refine t_callV (q := 66) (N := mX6_no) (a := eB E + 51) [.int 3] dX6_dark_63 rfl nkX6_no vkX6_no lX6_94 ⟨Nat.le_of_ble_eq_true rfl, Nat.le_of_ble_eq_true rfl⟩ (rc_obj (k := 51) rfl rfl) rfl rfl (Nat.le_of_ble_eq_true rfl) (Nat.le_of_ble_eq_true rfl) (T_X6_no_51 E _ hc12) ?_
    refine s_goto (tgt := 70) dX6_dark_66 rfl ?_
    obtain rfl := Option.some.inj h
    exact t_iret dX6_dark_70 rfl rfl
def G_X6_dark_51 (x1 : Int32) (S : ST) : Option (Int32 × ST) := ((G_X6_in1 x1 1 10 S).bind fun q1 => (if q1.1 = 0 then ((G_X6_no_51 0 q1.2).bind fun q13 => some (q13.1, q13.2)) else ((G_X6_setsAside_51  q1.2).bind fun q3 => (G_X6_dark_51_22 3000 x1 0 q3.2).bind fun q9 => G_X6_dark_51_50 q9.1 q9.2)))
set_option maxHeartbeats 4000000 in
set_option maxRecDepth 100000 in
theorem T_X6_dark_51 (E : EV) (x1 : Int32) {S : ST} {w : (Int32 × ST)} (h : G_X6_dark_51 x1 S = some w) : SD E mX6_dark 0 [(0, .ref (eB E + 51)), (1, .int x1)] [] S (some (.int w.1)) w.2 := by
  unfold G_X6_dark_51 at h
  refine s_iload_n (q := 1) dX6_dark_0 rfl rfl 1 rfl ?_
  refine s_iconst (q := 2) (v := 1) dX6_dark_1 rfl rfl ?_
  refine s_bipush (q := 4) (v := 10) dX6_dark_2 rfl rfl ?_
  obtain ⟨q1, hc1, h⟩ := bnd h
  try dsimp only at h
  refine t_callS (q := 7) (N := mX6_in1) [.int x1, .int 1, .int 10] dX6_dark_4 rfl nkX6_in1 sX6_in1 lX6_54 ⟨Nat.le_of_ble_eq_true rfl, Nat.le_of_ble_eq_true rfl⟩ rfl rfl (Nat.le_of_ble_eq_true rfl) (Nat.le_of_ble_eq_true rfl) (T_X6_in1 E _ _ _ hc1) ?_
  refine s_if_ne (q := 10) (tgt := 16) dX6_dark_7 rfl rfl (fun hb2 => ?_) (fun hb2 => ?_)
  · rw [if_neg hb2] at h
    refine s_aload_n (q := 17) dX6_dark_16 rfl rfl 0 rfl ?_
    obtain ⟨q3, hc3, h⟩ := bnd h
    try dsimp only at h
    refine t_callV (q := 20) (N := mX6_setsAside) (a := eB E + 51) [] dX6_dark_17 rfl nkX6_setsAside vkX6_setsAside lX6_133 ⟨Nat.le_of_ble_eq_true rfl, Nat.le_of_ble_eq_true rfl⟩ (rc_obj (k := 51) rfl rfl) rfl rfl (Nat.le_of_ble_eq_true rfl) (Nat.le_of_ble_eq_true rfl) (T_X6_setsAside_51 E  hc3) ?_
    refine s_iconst (q := 21) (v := 0) dX6_dark_20 rfl rfl ?_
    refine s_istore_n (q := 22) (lv' := [(2, .int 0), (0, .ref (eB E + 51)), (1, .int x1)]) dX6_dark_21 rfl rfl (Nat.le_of_ble_eq_true rfl) rfl ?_
    obtain ⟨q9, hc9, h⟩ := bnd h
    try dsimp only at h
    refine t_sub [1, 2, 0] rfl (T_X6_dark_51_22 E _ _ _ _ _ hc9 ?_)
    exact t_sub [0, 1] rfl (T_X6_dark_51_50 E _ h)
  · rw [if_pos hb2] at h
    refine s_aload_n (q := 11) dX6_dark_10 rfl rfl 0 rfl ?_
    refine s_iconst (q := 12) (v := 0) dX6_dark_11 rfl rfl ?_
    obtain ⟨q13, hc13, h⟩ := bnd h
    try dsimp only at h
    refine t_callV (q := 15) (N := mX6_no) (a := eB E + 51) [.int 0] dX6_dark_12 rfl nkX6_no vkX6_no lX6_94 ⟨Nat.le_of_ble_eq_true rfl, Nat.le_of_ble_eq_true rfl⟩ (rc_obj (k := 51) rfl rfl) rfl rfl (Nat.le_of_ble_eq_true rfl) (Nat.le_of_ble_eq_true rfl) (T_X6_no_51 E _ hc13) ?_
    obtain rfl := Option.some.inj h
    exact t_iret dX6_dark_15 rfl rfl
-- X5_kindFor
def G_X5_kindFor_0_27 : Nat → Int32 → Int32 → Int32 → Int32 → ST → Option (Int32 × ST)
  | 0, _, _, _, _, _ => none
  | n + 1, x1, x2, x3, x4, S => (if (7 : Int32) ≤ x4 then some (x3, S) else ((G_X1_nightsBright_1 x1 x4 S).bind fun q4 => (if (imn 200 q4.1) ≤ x2 then G_X5_kindFor_0_27 n x1 x2 x3 (x4 + 1) q4.2 else G_X5_kindFor_0_27 n x1 (imn 200 q4.1) x4 (x4 + 1) q4.2)))
set_option maxHeartbeats 4000000 in
set_option maxRecDepth 100000 in
theorem T_X5_kindFor_0_27 (E : EV) : ∀ (n : Nat) (x1 : Int32) (x2 : Int32) (x3 : Int32) (x4 : Int32) (S : ST), ∀ (w : (Int32 × ST)), G_X5_kindFor_0_27 n x1 x2 x3 x4 S = some w → ∀ {Q : Option Value → ST → Prop}, SS E mX5_kindFor 70 [(3, .int w.1)] [] w.2 Q → SS E mX5_kindFor 27 [(0, .ref (eB E + 0)), (1, .int x1), (2, .int x2), (3, .int x3), (4, .int x4)] [] S Q := by
  intro n
  induction n with
  | zero =>
    intro x1 x2 x3 x4 S w h
    cases h
  | succ n ih =>
    intro x1 x2 x3 x4 S w h Q K
    unfold G_X5_kindFor_0_27 at h
    refine s_iload (q := 29) dX5_kindFor_27 rfl 4 rfl ?_
    refine s_bipush (q := 31) (v := 7) dX5_kindFor_29 rfl rfl ?_
    refine s_icmp_ge (q := 34) (tgt := 70) dX5_kindFor_31 rfl rfl (fun hb3 => ?_) (fun hb3 => ?_)
    · rw [if_pos hb3] at h
      obtain rfl := Option.some.inj h
      exact t_sub [3] rfl K
    · rw [if_neg hb3] at h
      refine s_sipush (q := 37) (v := 200) dX5_kindFor_34 rfl rfl ?_
      refine s_aload_n (q := 38) dX5_kindFor_37 rfl rfl 0 rfl ?_
      refine t_getR (q := 41) (k := 0) (f := 0) (t := 1) dX5_kindFor_38 rfl rfl rfl rfl inX5 (Nat.le_of_ble_eq_true rfl) fX5_10 ?_
      refine s_iload_n (q := 42) dX5_kindFor_41 rfl rfl 1 rfl ?_
      refine s_iload (q := 44) dX5_kindFor_42 rfl 4 rfl ?_
      obtain ⟨q4, hc4, h⟩ := bnd h
      try dsimp only at h
      refine t_callV (q := 47) (N := mX1_nightsBright) (a := eB E + 1) [.int x1, .int x4] dX5_kindFor_44 rfl nkX1_nightsBright vkX1_nightsBright lX5_151 ⟨Nat.le_of_ble_eq_true rfl, Nat.le_of_ble_eq_true rfl⟩ (rc_obj (k := 1) rfl rfl) rfl rfl (Nat.le_of_ble_eq_true rfl) (Nat.le_of_ble_eq_true rfl) (T_X1_nightsBright_1 E _ _ hc4) ?_
      refine v_min (q := 50) dX5_kindFor_47 rfl lX5_161 (Nat.le_of_ble_eq_true rfl) (Nat.le_of_ble_eq_true rfl) ?_
      refine s_istore (q := 52) (lv' := [(5, .int (imn 200 q4.1)), (0, .ref (eB E + 0)), (1, .int x1), (2, .int x2), (3, .int x3), (4, .int x4)]) dX5_kindFor_50 rfl (Nat.le_of_ble_eq_true rfl) rfl ?_
      refine s_iload (q := 54) dX5_kindFor_52 rfl 0 rfl ?_
      refine s_iload_n (q := 55) dX5_kindFor_54 rfl rfl 3 rfl ?_
      refine s_icmp_le (q := 58) (tgt := 64) dX5_kindFor_55 rfl rfl (fun hb5 => ?_) (fun hb5 => ?_)
      · rw [if_pos hb5] at h
        refine s_iinc (q := 67) (j := 5) (v := (x4 + 1)) (lv' := [(4, .int (x4 + 1)), (5, .int (imn 200 q4.1)), (0, .ref (eB E + 0)), (1, .int x1), (2, .int x2), (3, .int x3)]) dX5_kindFor_64 rfl rfl rfl (Nat.le_of_ble_eq_true rfl) rfl ?_
        refine s_goto (tgt := 27) dX5_kindFor_67 rfl ?_
        exact t_sub [2, 3, 4, 5, 0] rfl (ih _ _ _ _ _ _ h K)
      · rw [if_neg hb5] at h
        refine s_iload (q := 60) dX5_kindFor_58 rfl 0 rfl ?_
        refine s_istore_n (q := 61) (lv' := [(2, .int (imn 200 q4.1)), (5, .int (imn 200 q4.1)), (0, .ref (eB E + 0)), (1, .int x1), (3, .int x3), (4, .int x4)]) dX5_kindFor_60 rfl rfl (Nat.le_of_ble_eq_true rfl) rfl ?_
        refine s_iload (q := 63) dX5_kindFor_61 rfl 5 rfl ?_
        refine s_istore_n (q := 64) (lv' := [(3, .int x4), (2, .int (imn 200 q4.1)), (5, .int (imn 200 q4.1)), (0, .ref (eB E + 0)), (1, .int x1), (4, .int x4)]) dX5_kindFor_63 rfl rfl (Nat.le_of_ble_eq_true rfl) rfl ?_
        refine s_iinc (q := 67) (j := 5) (v := (x4 + 1)) (lv' := [(4, .int (x4 + 1)), (3, .int x4), (2, .int (imn 200 q4.1)), (5, .int (imn 200 q4.1)), (0, .ref (eB E + 0)), (1, .int x1)]) dX5_kindFor_64 rfl rfl rfl (Nat.le_of_ble_eq_true rfl) rfl ?_
        refine s_goto (tgt := 27) dX5_kindFor_67 rfl ?_
        exact t_sub [4, 5, 2, 1, 0] rfl (ih _ _ _ _ _ _ h K)
def G_X5_kindFor_0 (x1 : Int32) (S : ST) : Option (Int32 × ST) := ((G_X5_isBelow x1 (S.1 1 0) S).bind fun q1 => (if q1.1 = 0 then ((G_X5_finding_0 0 q1.2).bind fun q7 => some (q7.1, q7.2)) else (G_X5_kindFor_0_27 3000 x1 (-1) 0 0 q1.2).bind fun q6 => some (q6.1, q6.2)))
set_option maxHeartbeats 4000000 in
set_option maxRecDepth 100000 in
theorem T_X5_kindFor_0 (E : EV) (x1 : Int32) {S : ST} {w : (Int32 × ST)} (h : G_X5_kindFor_0 x1 S = some w) : SD E mX5_kindFor 0 [(0, .ref (eB E + 0)), (1, .int x1)] [] S (some (.int w.1)) w.2 := by
  unfold G_X5_kindFor_0 at h
  refine s_iload_n (q := 1) dX5_kindFor_0 rfl rfl 1 rfl ?_
  refine s_aload_n (q := 2) dX5_kindFor_1 rfl rfl 0 rfl ?_
  refine t_getR (q := 5) (k := 0) (f := 0) (t := 1) dX5_kindFor_2 rfl rfl rfl rfl inX5 (Nat.le_of_ble_eq_true rfl) fX5_10 ?_
  refine t_getI (q := 8) (k := 1) (f := 0) (v := (S.1 1 0)) dX5_kindFor_5 rfl rfl rfl rfl inX1 (Nat.le_of_ble_eq_true rfl) fX5_65 rfl ?_
  obtain ⟨q1, hc1, h⟩ := bnd h
  try dsimp only at h
  refine t_callS (q := 11) (N := mX5_isBelow) [.int x1, .int (S.1 1 0)] dX5_kindFor_8 rfl nkX5_isBelow sX5_isBelow lX5_57 ⟨Nat.le_of_ble_eq_true rfl, Nat.le_of_ble_eq_true rfl⟩ rfl rfl (Nat.le_of_ble_eq_true rfl) (Nat.le_of_ble_eq_true rfl) (T_X5_isBelow E _ _ hc1) ?_
  refine s_if_ne (q := 14) (tgt := 20) dX5_kindFor_11 rfl rfl (fun hb2 => ?_) (fun hb2 => ?_)
  · rw [if_neg hb2] at h
    refine s_iconst (q := 21) (v := (-1)) dX5_kindFor_20 rfl rfl ?_
    refine s_istore_n (q := 22) (lv' := [(2, .int (-1)), (0, .ref (eB E + 0)), (1, .int x1)]) dX5_kindFor_21 rfl rfl (Nat.le_of_ble_eq_true rfl) rfl ?_
    refine s_iconst (q := 23) (v := 0) dX5_kindFor_22 rfl rfl ?_
    refine s_istore_n (q := 24) (lv' := [(3, .int 0), (2, .int (-1)), (0, .ref (eB E + 0)), (1, .int x1)]) dX5_kindFor_23 rfl rfl (Nat.le_of_ble_eq_true rfl) rfl ?_
    refine s_iconst (q := 25) (v := 0) dX5_kindFor_24 rfl rfl ?_
    refine s_istore (q := 27) (lv' := [(4, .int 0), (3, .int 0), (2, .int (-1)), (0, .ref (eB E + 0)), (1, .int x1)]) dX5_kindFor_25 rfl (Nat.le_of_ble_eq_true rfl) rfl ?_
    obtain ⟨q6, hc6, h⟩ := bnd h
    try dsimp only at h
    refine t_sub [3, 4, 2, 1, 0] rfl (T_X5_kindFor_0_27 E _ _ _ _ _ _ _ hc6 ?_)
    refine s_iload_n (q := 71) dX5_kindFor_70 rfl rfl 0 rfl ?_
    obtain rfl := Option.some.inj h
    exact t_iret dX5_kindFor_71 rfl rfl
  · rw [if_pos hb2] at h
    refine s_aload_n (q := 15) dX5_kindFor_14 rfl rfl 0 rfl ?_
    refine s_iconst (q := 16) (v := 0) dX5_kindFor_15 rfl rfl ?_
    obtain ⟨q7, hc7, h⟩ := bnd h
    try dsimp only at h
    refine t_callV (q := 19) (N := mX5_finding) (a := eB E + 0) [.int 0] dX5_kindFor_16 rfl nkX5_finding vkX5_finding lX5_61 ⟨Nat.le_of_ble_eq_true rfl, Nat.le_of_ble_eq_true rfl⟩ (rc_obj (k := 0) rfl rfl) rfl rfl (Nat.le_of_ble_eq_true rfl) (Nat.le_of_ble_eq_true rfl) (T_X5_finding_0 E _ hc7) ?_
    obtain rfl := Option.some.inj h
    exact t_iret dX5_kindFor_19 rfl rfl
-- X6_kindFor
def G_X6_kindFor_51_29 : Nat → Int32 → Int32 → Int32 → Int32 → Int32 → ST → Option (Int32 × Int32 × Int32 × ST)
  | 0, _, _, _, _, _, _ => none
  | n + 1, x1, x2, x3, x4, x5, S => (if (6 : Int32) < x5 then some (x1, x2, x3, S) else ((G_X6_puts_51 x1 0 x5 S).bind fun q5 => ((G_X6_lastsNow_51 x1 q5.2).bind fun q6 => ((G_X6_less 200 q6.1 q6.2).bind fun q7 => (if q7.1 ≤ x4 then ((G_X6_greater x4 q7.1 q7.2).bind fun q9 => G_X6_kindFor_51_29 n x1 x2 x3 q9.1 (x5 + 1) q9.2) else ((G_X6_greater x4 q7.1 q7.2).bind fun q10 => G_X6_kindFor_51_29 n x1 x2 x5 q10.1 (x5 + 1) q10.2))))))
set_option maxHeartbeats 4000000 in
set_option maxRecDepth 100000 in
theorem T_X6_kindFor_51_29 (E : EV) : ∀ (n : Nat) (x1 : Int32) (x2 : Int32) (x3 : Int32) (x4 : Int32) (x5 : Int32) (S : ST), ∀ (w : (Int32 × Int32 × Int32 × ST)), G_X6_kindFor_51_29 n x1 x2 x3 x4 x5 S = some w → ∀ {Q : Option Value → ST → Prop}, SS E mX6_kindFor 86 [(0, .ref (eB E + 51)), (1, .int w.1), (2, .int w.2.1), (3, .int w.2.2.1)] [] w.2.2.2 Q → SS E mX6_kindFor 29 [(0, .ref (eB E + 51)), (1, .int x1), (2, .int x2), (3, .int x3), (4, .int x4), (5, .int x5)] [] S Q := by
  intro n
  induction n with
  | zero =>
    intro x1 x2 x3 x4 x5 S w h
    cases h
  | succ n ih =>
    intro x1 x2 x3 x4 x5 S w h Q K
    unfold G_X6_kindFor_51_29 at h
    refine s_iload (q := 31) dX6_kindFor_29 rfl 5 rfl ?_
    refine s_bipush (q := 33) (v := 6) dX6_kindFor_31 rfl rfl ?_
    refine s_icmp_gt (q := 36) (tgt := 86) dX6_kindFor_33 rfl rfl (fun hb4 => ?_) (fun hb4 => ?_)
    · rw [if_pos hb4] at h
      obtain rfl := Option.some.inj h
      exact t_sub [0, 1, 2, 3] rfl K
    · rw [if_neg hb4] at h
      refine s_aload_n (q := 37) dX6_kindFor_36 rfl rfl 0 rfl ?_
      refine s_iload_n (q := 38) dX6_kindFor_37 rfl rfl 1 rfl ?_
      refine s_iconst (q := 39) (v := 0) dX6_kindFor_38 rfl rfl ?_
      refine s_iload (q := 41) dX6_kindFor_39 rfl 5 rfl ?_
      obtain ⟨q5, hc5, h⟩ := bnd h
      try dsimp only at h
      refine t_callV (q := 44) (N := mX6_puts) (a := eB E + 51) [.int x1, .int 0, .int x5] dX6_kindFor_41 rfl nkX6_puts vkX6_puts lX6_80 ⟨Nat.le_of_ble_eq_true rfl, Nat.le_of_ble_eq_true rfl⟩ (rc_obj (k := 51) rfl rfl) rfl rfl (Nat.le_of_ble_eq_true rfl) (Nat.le_of_ble_eq_true rfl) (T_X6_puts_51 E _ _ _ hc5) ?_
      refine s_sipush (q := 47) (v := 200) dX6_kindFor_44 rfl rfl ?_
      refine s_aload_n (q := 48) dX6_kindFor_47 rfl rfl 0 rfl ?_
      refine s_iload_n (q := 49) dX6_kindFor_48 rfl rfl 1 rfl ?_
      obtain ⟨q6, hc6, h⟩ := bnd h
      try dsimp only at h
      refine t_callV (q := 52) (N := mX6_lastsNow) (a := eB E + 51) [.int x1] dX6_kindFor_49 rfl nkX6_lastsNow vkX6_lastsNow lX6_139 ⟨Nat.le_of_ble_eq_true rfl, Nat.le_of_ble_eq_true rfl⟩ (rc_obj (k := 51) rfl rfl) rfl rfl (Nat.le_of_ble_eq_true rfl) (Nat.le_of_ble_eq_true rfl) (T_X6_lastsNow_51 E _ hc6) ?_
      obtain ⟨q7, hc7, h⟩ := bnd h
      try dsimp only at h
      refine t_callS (q := 55) (N := mX6_less) [.int 200, .int q6.1] dX6_kindFor_52 rfl nkX6_less sX6_less lX6_85 ⟨Nat.le_of_ble_eq_true rfl, Nat.le_of_ble_eq_true rfl⟩ rfl rfl (Nat.le_of_ble_eq_true rfl) (Nat.le_of_ble_eq_true rfl) (T_X6_less E _ _ hc7) ?_
      refine s_istore (q := 57) (lv' := [(6, .int q7.1), (0, .ref (eB E + 51)), (1, .int x1), (2, .int x2), (3, .int x3), (4, .int x4), (5, .int x5)]) dX6_kindFor_55 rfl (Nat.le_of_ble_eq_true rfl) rfl ?_
      refine s_iload (q := 59) dX6_kindFor_57 rfl 0 rfl ?_
      refine s_iload (q := 61) dX6_kindFor_59 rfl 5 rfl ?_
      refine s_icmp_le (q := 64) (tgt := 69) dX6_kindFor_61 rfl rfl (fun hb8 => ?_) (fun hb8 => ?_)
      · rw [if_pos hb8] at h
        refine s_iload_n (q := 70) dX6_kindFor_69 rfl rfl 4 rfl ?_
        refine s_istore_n (q := 71) (lv' := [(3, .int x3), (6, .int q7.1), (0, .ref (eB E + 51)), (1, .int x1), (2, .int x2), (4, .int x4), (5, .int x5)]) dX6_kindFor_70 rfl rfl (Nat.le_of_ble_eq_true rfl) rfl ?_
        refine s_iload (q := 73) dX6_kindFor_71 rfl 5 rfl ?_
        refine s_iload (q := 75) dX6_kindFor_73 rfl 1 rfl ?_
        obtain ⟨q9, hc9, h⟩ := bnd h
        try dsimp only at h
        refine t_callS (q := 78) (N := mX6_greater) [.int x4, .int q7.1] dX6_kindFor_75 rfl nkX6_greater sX6_greater lX6_77 ⟨Nat.le_of_ble_eq_true rfl, Nat.le_of_ble_eq_true rfl⟩ rfl rfl (Nat.le_of_ble_eq_true rfl) (Nat.le_of_ble_eq_true rfl) (T_X6_greater E _ _ hc9) ?_
        refine s_istore (q := 80) (lv' := [(4, .int q9.1), (3, .int x3), (6, .int q7.1), (0, .ref (eB E + 51)), (1, .int x1), (2, .int x2), (5, .int x5)]) dX6_kindFor_78 rfl (Nat.le_of_ble_eq_true rfl) rfl ?_
        refine s_iinc (q := 83) (j := 6) (v := (x5 + 1)) (lv' := [(5, .int (x5 + 1)), (4, .int q9.1), (3, .int x3), (6, .int q7.1), (0, .ref (eB E + 51)), (1, .int x1), (2, .int x2)]) dX6_kindFor_80 rfl rfl rfl (Nat.le_of_ble_eq_true rfl) rfl ?_
        refine s_goto (tgt := 29) dX6_kindFor_83 rfl ?_
        exact t_sub [4, 5, 6, 2, 1, 0] rfl (ih _ _ _ _ _ _ _ h K)
      · rw [if_neg hb8] at h
        refine s_iload (q := 66) dX6_kindFor_64 rfl 6 rfl ?_
        refine s_goto (tgt := 70) dX6_kindFor_66 rfl ?_
        refine s_istore_n (q := 71) (lv' := [(3, .int x5), (6, .int q7.1), (0, .ref (eB E + 51)), (1, .int x1), (2, .int x2), (4, .int x4), (5, .int x5)]) dX6_kindFor_70 rfl rfl (Nat.le_of_ble_eq_true rfl) rfl ?_
        refine s_iload (q := 73) dX6_kindFor_71 rfl 5 rfl ?_
        refine s_iload (q := 75) dX6_kindFor_73 rfl 1 rfl ?_
        obtain ⟨q10, hc10, h⟩ := bnd h
        try dsimp only at h
        refine t_callS (q := 78) (N := mX6_greater) [.int x4, .int q7.1] dX6_kindFor_75 rfl nkX6_greater sX6_greater lX6_77 ⟨Nat.le_of_ble_eq_true rfl, Nat.le_of_ble_eq_true rfl⟩ rfl rfl (Nat.le_of_ble_eq_true rfl) (Nat.le_of_ble_eq_true rfl) (T_X6_greater E _ _ hc10) ?_
        refine s_istore (q := 80) (lv' := [(4, .int q10.1), (3, .int x5), (6, .int q7.1), (0, .ref (eB E + 51)), (1, .int x1), (2, .int x2), (5, .int x5)]) dX6_kindFor_78 rfl (Nat.le_of_ble_eq_true rfl) rfl ?_
        refine s_iinc (q := 83) (j := 6) (v := (x5 + 1)) (lv' := [(5, .int (x5 + 1)), (4, .int q10.1), (3, .int x5), (6, .int q7.1), (0, .ref (eB E + 51)), (1, .int x1), (2, .int x2)]) dX6_kindFor_80 rfl rfl rfl (Nat.le_of_ble_eq_true rfl) rfl ?_
        refine s_goto (tgt := 29) dX6_kindFor_83 rfl ?_
        exact t_sub [4, 5, 6, 2, 1, 0] rfl (ih _ _ _ _ _ _ _ h K)
def G_X6_kindFor_51 (x1 : Int32) (S : ST) : Option (Int32 × ST) := ((G_X6_isStar_51 x1 S).bind fun q1 => (if q1.1 = 0 then ((G_X6_no_51 0 q1.2).bind fun q13 => some (q13.1, q13.2)) else ((G_X6_get_51 x1 0 q1.2).bind fun q3 => (G_X6_kindFor_51_29 3000 x1 q3.1 0 (-1) 0 q3.2).bind fun q11 => ((G_X6_puts_51 q11.1 0 q11.2.1 q11.2.2.2).bind fun q12 => some (q11.2.2.1, q12.2)))))
set_option maxHeartbeats 4000000 in
set_option maxRecDepth 100000 in
theorem T_X6_kindFor_51 (E : EV) (x1 : Int32) {S : ST} {w : (Int32 × ST)} (h : G_X6_kindFor_51 x1 S = some w) : SD E mX6_kindFor 0 [(0, .ref (eB E + 51)), (1, .int x1)] [] S (some (.int w.1)) w.2 := by
  unfold G_X6_kindFor_51 at h
  refine s_aload_n (q := 1) dX6_kindFor_0 rfl rfl 0 rfl ?_
  refine s_iload_n (q := 2) dX6_kindFor_1 rfl rfl 1 rfl ?_
  obtain ⟨q1, hc1, h⟩ := bnd h
  try dsimp only at h
  refine t_callV (q := 5) (N := mX6_isStar) (a := eB E + 51) [.int x1] dX6_kindFor_2 rfl nkX6_isStar vkX6_isStar lX6_101 ⟨Nat.le_of_ble_eq_true rfl, Nat.le_of_ble_eq_true rfl⟩ (rc_obj (k := 51) rfl rfl) rfl rfl (Nat.le_of_ble_eq_true rfl) (Nat.le_of_ble_eq_true rfl) (T_X6_isStar_51 E _ hc1) ?_
  refine s_if_ne (q := 8) (tgt := 14) dX6_kindFor_5 rfl rfl (fun hb2 => ?_) (fun hb2 => ?_)
  · rw [if_neg hb2] at h
    refine s_aload_n (q := 15) dX6_kindFor_14 rfl rfl 0 rfl ?_
    refine s_iload_n (q := 16) dX6_kindFor_15 rfl rfl 1 rfl ?_
    refine s_iconst (q := 17) (v := 0) dX6_kindFor_16 rfl rfl ?_
    obtain ⟨q3, hc3, h⟩ := bnd h
    try dsimp only at h
    refine t_callV (q := 20) (N := mX6_get) (a := eB E + 51) [.int x1, .int 0] dX6_kindFor_17 rfl nkX6_get vkX6_get lX6_58 ⟨Nat.le_of_ble_eq_true rfl, Nat.le_of_ble_eq_true rfl⟩ (rc_obj (k := 51) rfl rfl) rfl rfl (Nat.le_of_ble_eq_true rfl) (Nat.le_of_ble_eq_true rfl) (T_X6_get_51 E _ _ hc3) ?_
    refine s_istore_n (q := 21) (lv' := [(2, .int q3.1), (0, .ref (eB E + 51)), (1, .int x1)]) dX6_kindFor_20 rfl rfl (Nat.le_of_ble_eq_true rfl) rfl ?_
    refine s_iconst (q := 22) (v := 0) dX6_kindFor_21 rfl rfl ?_
    refine s_istore_n (q := 23) (lv' := [(3, .int 0), (2, .int q3.1), (0, .ref (eB E + 51)), (1, .int x1)]) dX6_kindFor_22 rfl rfl (Nat.le_of_ble_eq_true rfl) rfl ?_
    refine s_iconst (q := 24) (v := (-1)) dX6_kindFor_23 rfl rfl ?_
    refine s_istore (q := 26) (lv' := [(4, .int (-1)), (3, .int 0), (2, .int q3.1), (0, .ref (eB E + 51)), (1, .int x1)]) dX6_kindFor_24 rfl (Nat.le_of_ble_eq_true rfl) rfl ?_
    refine s_iconst (q := 27) (v := 0) dX6_kindFor_26 rfl rfl ?_
    refine s_istore (q := 29) (lv' := [(5, .int 0), (4, .int (-1)), (3, .int 0), (2, .int q3.1), (0, .ref (eB E + 51)), (1, .int x1)]) dX6_kindFor_27 rfl (Nat.le_of_ble_eq_true rfl) rfl ?_
    obtain ⟨q11, hc11, h⟩ := bnd h
    try dsimp only at h
    refine t_sub [4, 5, 3, 2, 1, 0] rfl (T_X6_kindFor_51_29 E _ _ _ _ _ _ _ _ hc11 ?_)
    refine s_aload_n (q := 87) dX6_kindFor_86 rfl rfl 0 rfl ?_
    refine s_iload_n (q := 88) dX6_kindFor_87 rfl rfl 1 rfl ?_
    refine s_iconst (q := 89) (v := 0) dX6_kindFor_88 rfl rfl ?_
    refine s_iload_n (q := 90) dX6_kindFor_89 rfl rfl 2 rfl ?_
    obtain ⟨q12, hc12, h⟩ := bnd h
    try dsimp only at h
    refine t_callV (q := 93) (N := mX6_puts) (a := eB E + 51) [.int q11.1, .int 0, .int q11.2.1] dX6_kindFor_90 rfl nkX6_puts vkX6_puts lX6_80 ⟨Nat.le_of_ble_eq_true rfl, Nat.le_of_ble_eq_true rfl⟩ (rc_obj (k := 51) rfl rfl) rfl rfl (Nat.le_of_ble_eq_true rfl) (Nat.le_of_ble_eq_true rfl) (T_X6_puts_51 E _ _ _ hc12) ?_
    refine s_iload_n (q := 94) dX6_kindFor_93 rfl rfl 3 rfl ?_
    obtain rfl := Option.some.inj h
    exact t_iret dX6_kindFor_94 rfl rfl
  · rw [if_pos hb2] at h
    refine s_aload_n (q := 9) dX6_kindFor_8 rfl rfl 0 rfl ?_
    refine s_iconst (q := 10) (v := 0) dX6_kindFor_9 rfl rfl ?_
    obtain ⟨q13, hc13, h⟩ := bnd h
    try dsimp only at h
    refine t_callV (q := 13) (N := mX6_no) (a := eB E + 51) [.int 0] dX6_kindFor_10 rfl nkX6_no vkX6_no lX6_94 ⟨Nat.le_of_ble_eq_true rfl, Nat.le_of_ble_eq_true rfl⟩ (rc_obj (k := 51) rfl rfl) rfl rfl (Nat.le_of_ble_eq_true rfl) (Nat.le_of_ble_eq_true rfl) (T_X6_no_51 E _ hc13) ?_
    obtain rfl := Option.some.inj h
    exact t_iret dX6_kindFor_13 rfl rfl
-- X5_dustFor
def G_X5_dustFor_0_36 : Nat → Int32 → Int32 → Int32 → ST → Option (Int32 × ST)
  | 0, _, _, _, _ => none
  | n + 1, x1, x2, x3, S => (if x3 < 0 then ((G_X5_finding_0 3 S).bind fun q8 => some (q8.1, q8.2)) else (if inB x1 10 = true then ((G_X1_lifeBehind_1 x1 x3 x2 S).bind fun q10 => ((G_X1_isBright_1 (S.1 2 x1.toNatClampNeg) q10.1 q10.2).bind fun q11 => (if q11.1 = 0 then G_X5_dustFor_0_36 n x1 x2 (x3 + (-1)) q11.2 else some (x3, q11.2)))) else none))
set_option maxHeartbeats 4000000 in
set_option maxRecDepth 100000 in
theorem T_X5_dustFor_0_36 (E : EV) : ∀ (n : Nat) (x1 : Int32) (x2 : Int32) (x3 : Int32) (S : ST) (w : (Int32 × ST)), G_X5_dustFor_0_36 n x1 x2 x3 S = some w → SD E mX5_dustFor 36 [(0, .ref (eB E + 0)), (1, .int x1), (2, .int x2), (3, .int x3)] [] S (some (.int w.1)) w.2 := by
  intro n
  induction n with
  | zero =>
    intro x1 x2 x3 S w h
    cases h
  | succ n ih =>
    intro x1 x2 x3 S w h
    unfold G_X5_dustFor_0_36 at h
    refine s_iload_n (q := 37) dX5_dustFor_36 rfl rfl 3 rfl ?_
    refine s_if_lt (q := 40) (tgt := 77) dX5_dustFor_37 rfl rfl (fun hb7 => ?_) (fun hb7 => ?_)
    · rw [if_pos hb7] at h
      refine s_aload_n (q := 78) dX5_dustFor_77 rfl rfl 0 rfl ?_
      refine s_iconst (q := 79) (v := 3) dX5_dustFor_78 rfl rfl ?_
      obtain ⟨q8, hc8, h⟩ := bnd h
      try dsimp only at h
      refine t_callV (q := 82) (N := mX5_finding) (a := eB E + 0) [.int 3] dX5_dustFor_79 rfl nkX5_finding vkX5_finding lX5_61 ⟨Nat.le_of_ble_eq_true rfl, Nat.le_of_ble_eq_true rfl⟩ (rc_obj (k := 0) rfl rfl) rfl rfl (Nat.le_of_ble_eq_true rfl) (Nat.le_of_ble_eq_true rfl) (T_X5_finding_0 E _ hc8) ?_
      obtain rfl := Option.some.inj h
      exact t_iret dX5_dustFor_82 rfl rfl
    · rw [if_neg hb7] at h
      refine s_aload_n (q := 41) dX5_dustFor_40 rfl rfl 0 rfl ?_
      refine t_getR (q := 44) (k := 0) (f := 0) (t := 1) dX5_dustFor_41 rfl rfl rfl rfl inX5 (Nat.le_of_ble_eq_true rfl) fX5_10 ?_
      refine s_aload_n (q := 45) dX5_dustFor_44 rfl rfl 0 rfl ?_
      refine t_getR (q := 48) (k := 0) (f := 0) (t := 1) dX5_dustFor_45 rfl rfl rfl rfl inX5 (Nat.le_of_ble_eq_true rfl) fX5_10 ?_
      refine t_getR (q := 51) (k := 1) (f := 1) (t := 2) dX5_dustFor_48 rfl rfl rfl rfl inX1 (Nat.le_of_ble_eq_true rfl) fX5_77 ?_
      refine s_iload_n (q := 52) dX5_dustFor_51 rfl rfl 1 rfl ?_
      obtain ⟨hg9, h⟩ := chk_some h
      refine u_iald (q := 53) (k := 2) (v := (S.1 2 x1.toNatClampNeg)) dX5_dustFor_52 rfl rfl (inB_in hg9) rfl rfl ?_
      refine s_aload_n (q := 54) dX5_dustFor_53 rfl rfl 0 rfl ?_
      refine t_getR (q := 57) (k := 0) (f := 0) (t := 1) dX5_dustFor_54 rfl rfl rfl rfl inX5 (Nat.le_of_ble_eq_true rfl) fX5_10 ?_
      refine s_iload_n (q := 58) dX5_dustFor_57 rfl rfl 1 rfl ?_
      refine s_iload_n (q := 59) dX5_dustFor_58 rfl rfl 3 rfl ?_
      refine s_iload_n (q := 60) dX5_dustFor_59 rfl rfl 2 rfl ?_
      obtain ⟨q10, hc10, h⟩ := bnd h
      try dsimp only at h
      refine t_callV (q := 63) (N := mX1_lifeBehind) (a := eB E + 1) [.int x1, .int x3, .int x2] dX5_dustFor_60 rfl nkX1_lifeBehind vkX1_lifeBehind lX5_148 ⟨Nat.le_of_ble_eq_true rfl, Nat.le_of_ble_eq_true rfl⟩ (rc_obj (k := 1) rfl rfl) rfl rfl (Nat.le_of_ble_eq_true rfl) (Nat.le_of_ble_eq_true rfl) (T_X1_lifeBehind_1 E _ _ _ hc10) ?_
      obtain ⟨q11, hc11, h⟩ := bnd h
      try dsimp only at h
      refine t_callV (q := 66) (N := mX1_isBright) (a := eB E + 1) [.int (S.1 2 x1.toNatClampNeg), .int q10.1] dX5_dustFor_63 rfl nkX1_isBright vkX1_isBright lX5_93 ⟨Nat.le_of_ble_eq_true rfl, Nat.le_of_ble_eq_true rfl⟩ (rc_obj (k := 1) rfl rfl) rfl rfl (Nat.le_of_ble_eq_true rfl) (Nat.le_of_ble_eq_true rfl) (T_X1_isBright_1 E _ _ hc11) ?_
      refine s_if_eq (q := 69) (tgt := 71) dX5_dustFor_66 rfl rfl (fun hb12 => ?_) (fun hb12 => ?_)
      · rw [if_pos hb12] at h
        refine s_iinc (q := 74) (j := 3) (v := (x3 + (-1))) (lv' := [(3, .int (x3 + (-1))), (0, .ref (eB E + 0)), (1, .int x1), (2, .int x2)]) dX5_dustFor_71 rfl rfl rfl (Nat.le_of_ble_eq_true rfl) rfl ?_
        refine s_goto (tgt := 36) dX5_dustFor_74 rfl ?_
        exact t_sub [1, 2, 3, 0] rfl (ih _ _ _ _ _ h)
      · rw [if_neg hb12] at h
        refine s_iload_n (q := 70) dX5_dustFor_69 rfl rfl 3 rfl ?_
        obtain rfl := Option.some.inj h
        exact t_iret dX5_dustFor_70 rfl rfl
def G_X5_dustFor_0 (x1 : Int32) (x2 : Int32) (S : ST) : Option (Int32 × ST) := ((G_X5_isBelow x1 (S.1 1 0) S).bind fun q1 => (if q1.1 = 0 then ((G_X5_finding_0 0 q1.2).bind fun q3 => some (q3.1, q3.2)) else ((G_X5_isWithin x2 200 q1.2).bind fun q4 => (if q4.1 = 0 then ((G_X5_finding_0 0 q4.2).bind fun q13 => some (q13.1, q13.2)) else G_X5_dustFor_0_36 3000 x1 x2 (tabS 0) q4.2))))
set_option maxHeartbeats 4000000 in
set_option maxRecDepth 100000 in
theorem T_X5_dustFor_0 (E : EV) (x1 : Int32) (x2 : Int32) {S : ST} {w : (Int32 × ST)} (h : G_X5_dustFor_0 x1 x2 S = some w) : SD E mX5_dustFor 0 [(0, .ref (eB E + 0)), (1, .int x1), (2, .int x2)] [] S (some (.int w.1)) w.2 := by
  unfold G_X5_dustFor_0 at h
  refine s_iload_n (q := 1) dX5_dustFor_0 rfl rfl 1 rfl ?_
  refine s_aload_n (q := 2) dX5_dustFor_1 rfl rfl 0 rfl ?_
  refine t_getR (q := 5) (k := 0) (f := 0) (t := 1) dX5_dustFor_2 rfl rfl rfl rfl inX5 (Nat.le_of_ble_eq_true rfl) fX5_10 ?_
  refine t_getI (q := 8) (k := 1) (f := 0) (v := (S.1 1 0)) dX5_dustFor_5 rfl rfl rfl rfl inX1 (Nat.le_of_ble_eq_true rfl) fX5_65 rfl ?_
  obtain ⟨q1, hc1, h⟩ := bnd h
  try dsimp only at h
  refine t_callS (q := 11) (N := mX5_isBelow) [.int x1, .int (S.1 1 0)] dX5_dustFor_8 rfl nkX5_isBelow sX5_isBelow lX5_57 ⟨Nat.le_of_ble_eq_true rfl, Nat.le_of_ble_eq_true rfl⟩ rfl rfl (Nat.le_of_ble_eq_true rfl) (Nat.le_of_ble_eq_true rfl) (T_X5_isBelow E _ _ hc1) ?_
  refine s_if_eq (q := 14) (tgt := 24) dX5_dustFor_11 rfl rfl (fun hb2 => ?_) (fun hb2 => ?_)
  · rw [if_pos hb2] at h
    refine s_aload_n (q := 25) dX5_dustFor_24 rfl rfl 0 rfl ?_
    refine s_iconst (q := 26) (v := 0) dX5_dustFor_25 rfl rfl ?_
    obtain ⟨q3, hc3, h⟩ := bnd h
    try dsimp only at h
    refine t_callV (q := 29) (N := mX5_finding) (a := eB E + 0) [.int 0] dX5_dustFor_26 rfl nkX5_finding vkX5_finding lX5_61 ⟨Nat.le_of_ble_eq_true rfl, Nat.le_of_ble_eq_true rfl⟩ (rc_obj (k := 0) rfl rfl) rfl rfl (Nat.le_of_ble_eq_true rfl) (Nat.le_of_ble_eq_true rfl) (T_X5_finding_0 E _ hc3) ?_
    obtain rfl := Option.some.inj h
    exact t_iret dX5_dustFor_29 rfl rfl
  · rw [if_neg hb2] at h
    refine s_iload_n (q := 15) dX5_dustFor_14 rfl rfl 2 rfl ?_
    refine s_sipush (q := 18) (v := 200) dX5_dustFor_15 rfl rfl ?_
    obtain ⟨q4, hc4, h⟩ := bnd h
    try dsimp only at h
    refine t_callS (q := 21) (N := mX5_isWithin) [.int x2, .int 200] dX5_dustFor_18 rfl nkX5_isWithin sX5_isWithin lX5_99 ⟨Nat.le_of_ble_eq_true rfl, Nat.le_of_ble_eq_true rfl⟩ rfl rfl (Nat.le_of_ble_eq_true rfl) (Nat.le_of_ble_eq_true rfl) (T_X5_isWithin E _ _ hc4) ?_
    refine s_if_ne (q := 24) (tgt := 30) dX5_dustFor_21 rfl rfl (fun hb5 => ?_) (fun hb5 => ?_)
    · rw [if_neg hb5] at h
      refine s_table (q := 33) dX5_dustFor_30 rfl fX5_112 ?_
      refine s_iconst (q := 34) (v := 0) dX5_dustFor_33 rfl rfl ?_
      refine t_tab (q := 35) dX5_dustFor_34 rfl (inB_in (by decide)) ?_
      refine s_istore_n (q := 36) (lv' := [(3, .int (tabS 0)), (0, .ref (eB E + 0)), (1, .int x1), (2, .int x2)]) dX5_dustFor_35 rfl rfl (Nat.le_of_ble_eq_true rfl) rfl ?_
      exact t_sub [1, 2, 3, 0] rfl (T_X5_dustFor_0_36 E _ _ _ _ _ _ h)
    · rw [if_pos hb5] at h
      refine s_aload_n (q := 25) dX5_dustFor_24 rfl rfl 0 rfl ?_
      refine s_iconst (q := 26) (v := 0) dX5_dustFor_25 rfl rfl ?_
      obtain ⟨q13, hc13, h⟩ := bnd h
      try dsimp only at h
      refine t_callV (q := 29) (N := mX5_finding) (a := eB E + 0) [.int 0] dX5_dustFor_26 rfl nkX5_finding vkX5_finding lX5_61 ⟨Nat.le_of_ble_eq_true rfl, Nat.le_of_ble_eq_true rfl⟩ (rc_obj (k := 0) rfl rfl) rfl rfl (Nat.le_of_ble_eq_true rfl) (Nat.le_of_ble_eq_true rfl) (T_X5_finding_0 E _ hc13) ?_
      obtain rfl := Option.some.inj h
      exact t_iret dX5_dustFor_29 rfl rfl
-- X6_dustFor
def G_X6_dustFor_51_34 : Nat → Int32 → Int32 → Int32 → Int32 → ST → Option (Int32 × ST)
  | 0, _, _, _, _, _ => none
  | n + 1, x1, x2, x3, x4, S => (if (9 : Int32) < x4 then some (x3, S) else ((G_X6_nights_51 x2 (wr S 52 4 x4)).bind fun q8 => ((G_X6_shines_51 x1 q8.2).bind fun q9 => (if q9.1 = 0 then ((G_X6_laysBack_51  q9.2).bind fun q11 => G_X6_dustFor_51_34 n x1 x2 x3 (x4 + 1) q11.2) else ((G_X6_laysBack_51  q9.2).bind fun q12 => G_X6_dustFor_51_34 n x1 x2 x4 (x4 + 1) q12.2)))))
set_option maxHeartbeats 4000000 in
set_option maxRecDepth 100000 in
theorem T_X6_dustFor_51_34 (E : EV) : ∀ (n : Nat) (x1 : Int32) (x2 : Int32) (x3 : Int32) (x4 : Int32) (S : ST), ∀ (w : (Int32 × ST)), G_X6_dustFor_51_34 n x1 x2 x3 x4 S = some w → ∀ {Q : Option Value → ST → Prop}, SS E mX6_dustFor 79 [(0, .ref (eB E + 51)), (3, .int w.1)] [] w.2 Q → SS E mX6_dustFor 34 [(0, .ref (eB E + 51)), (1, .int x1), (2, .int x2), (3, .int x3), (4, .int x4)] [] S Q := by
  intro n
  induction n with
  | zero =>
    intro x1 x2 x3 x4 S w h
    cases h
  | succ n ih =>
    intro x1 x2 x3 x4 S w h Q K
    unfold G_X6_dustFor_51_34 at h
    refine s_iload (q := 36) dX6_dustFor_34 rfl 4 rfl ?_
    refine s_bipush (q := 38) (v := 9) dX6_dustFor_36 rfl rfl ?_
    refine s_icmp_gt (q := 41) (tgt := 79) dX6_dustFor_38 rfl rfl (fun hb7 => ?_) (fun hb7 => ?_)
    · rw [if_pos hb7] at h
      obtain rfl := Option.some.inj h
      exact t_sub [0, 3] rfl K
    · rw [if_neg hb7] at h
      refine s_aload_n (q := 42) dX6_dustFor_41 rfl rfl 0 rfl ?_
      refine t_getR (q := 45) (k := 51) (f := 0) (t := 52) dX6_dustFor_42 rfl rfl rfl rfl inX6 (Nat.le_of_ble_eq_true rfl) fX6_9 ?_
      refine s_iconst (q := 46) (v := 4) dX6_dustFor_45 rfl rfl ?_
      refine s_iload (q := 48) dX6_dustFor_46 rfl 4 rfl ?_
      refine u_iast (q := 49) (k := 52) (j := 4) dX6_dustFor_48 rfl rfl (inB_in (by decide)) (by decide) ?_
      refine s_aload_n (q := 50) dX6_dustFor_49 rfl rfl 0 rfl ?_
      refine s_iload_n (q := 51) dX6_dustFor_50 rfl rfl 2 rfl ?_
      obtain ⟨q8, hc8, h⟩ := bnd h
      try dsimp only at h
      refine t_callV (q := 54) (N := mX6_nights) (a := eB E + 51) [.int x2] dX6_dustFor_51 rfl nkX6_nights vkX6_nights lX6_113 ⟨Nat.le_of_ble_eq_true rfl, Nat.le_of_ble_eq_true rfl⟩ (rc_obj (k := 51) rfl rfl) rfl rfl (Nat.le_of_ble_eq_true rfl) (Nat.le_of_ble_eq_true rfl) (T_X6_nights_51 E _ hc8) ?_
      refine s_aload_n (q := 55) dX6_dustFor_54 rfl rfl 0 rfl ?_
      refine s_iload_n (q := 56) dX6_dustFor_55 rfl rfl 1 rfl ?_
      obtain ⟨q9, hc9, h⟩ := bnd h
      try dsimp only at h
      refine t_callV (q := 59) (N := mX6_shines) (a := eB E + 51) [.int x1] dX6_dustFor_56 rfl nkX6_shines vkX6_shines lX6_66 ⟨Nat.le_of_ble_eq_true rfl, Nat.le_of_ble_eq_true rfl⟩ (rc_obj (k := 51) rfl rfl) rfl rfl (Nat.le_of_ble_eq_true rfl) (Nat.le_of_ble_eq_true rfl) (T_X6_shines_51 E _ hc9) ?_
      refine s_if_eq (q := 62) (tgt := 67) dX6_dustFor_59 rfl rfl (fun hb10 => ?_) (fun hb10 => ?_)
      · rw [if_pos hb10] at h
        refine s_iload_n (q := 68) dX6_dustFor_67 rfl rfl 3 rfl ?_
        refine s_istore_n (q := 69) (lv' := [(3, .int x3), (0, .ref (eB E + 51)), (1, .int x1), (2, .int x2), (4, .int x4)]) dX6_dustFor_68 rfl rfl (Nat.le_of_ble_eq_true rfl) rfl ?_
        refine s_aload_n (q := 70) dX6_dustFor_69 rfl rfl 1 rfl ?_
        obtain ⟨q11, hc11, h⟩ := bnd h
        try dsimp only at h
        refine t_callV (q := 73) (N := mX6_laysBack) (a := eB E + 51) [] dX6_dustFor_70 rfl nkX6_laysBack vkX6_laysBack lX6_136 ⟨Nat.le_of_ble_eq_true rfl, Nat.le_of_ble_eq_true rfl⟩ (rc_obj (k := 51) rfl rfl) rfl rfl (Nat.le_of_ble_eq_true rfl) (Nat.le_of_ble_eq_true rfl) (T_X6_laysBack_51 E  hc11) ?_
        refine s_iinc (q := 76) (j := 4) (v := (x4 + 1)) (lv' := [(4, .int (x4 + 1)), (3, .int x3), (0, .ref (eB E + 51)), (1, .int x1), (2, .int x2)]) dX6_dustFor_73 rfl rfl rfl (Nat.le_of_ble_eq_true rfl) rfl ?_
        refine s_goto (tgt := 34) dX6_dustFor_76 rfl ?_
        exact t_sub [2, 3, 4, 1, 0] rfl (ih _ _ _ _ _ _ h K)
      · rw [if_neg hb10] at h
        refine s_iload (q := 64) dX6_dustFor_62 rfl 4 rfl ?_
        refine s_goto (tgt := 68) dX6_dustFor_64 rfl ?_
        refine s_istore_n (q := 69) (lv' := [(3, .int x4), (0, .ref (eB E + 51)), (1, .int x1), (2, .int x2), (4, .int x4)]) dX6_dustFor_68 rfl rfl (Nat.le_of_ble_eq_true rfl) rfl ?_
        refine s_aload_n (q := 70) dX6_dustFor_69 rfl rfl 1 rfl ?_
        obtain ⟨q12, hc12, h⟩ := bnd h
        try dsimp only at h
        refine t_callV (q := 73) (N := mX6_laysBack) (a := eB E + 51) [] dX6_dustFor_70 rfl nkX6_laysBack vkX6_laysBack lX6_136 ⟨Nat.le_of_ble_eq_true rfl, Nat.le_of_ble_eq_true rfl⟩ (rc_obj (k := 51) rfl rfl) rfl rfl (Nat.le_of_ble_eq_true rfl) (Nat.le_of_ble_eq_true rfl) (T_X6_laysBack_51 E  hc12) ?_
        refine s_iinc (q := 76) (j := 4) (v := (x4 + 1)) (lv' := [(4, .int (x4 + 1)), (3, .int x4), (0, .ref (eB E + 51)), (1, .int x1), (2, .int x2)]) dX6_dustFor_73 rfl rfl rfl (Nat.le_of_ble_eq_true rfl) rfl ?_
        refine s_goto (tgt := 34) dX6_dustFor_76 rfl ?_
        exact t_sub [2, 3, 4, 1, 0] rfl (ih _ _ _ _ _ _ h K)
def G_X6_dustFor_51 (x1 : Int32) (x2 : Int32) (S : ST) : Option (Int32 × ST) := ((G_X6_isStar_51 x1 S).bind fun q1 => (if q1.1 = 0 then ((G_X6_no_51 0 q1.2).bind fun q3 => some (q3.1, q3.2)) else ((G_X6_in1 x2 0 200 q1.2).bind fun q4 => (if q4.1 = 0 then ((G_X6_no_51 0 q4.2).bind fun q16 => some (q16.1, q16.2)) else ((G_X6_setsAside_51  q4.2).bind fun q6 => (G_X6_dustFor_51_34 3000 x1 x2 (-1) 0 q6.2).bind fun q13 => (if (0 : Int32) ≤ q13.1 then some (q13.1, q13.2) else ((G_X6_no_51 3 q13.2).bind fun q15 => some (q15.1, q15.2))))))))
set_option maxHeartbeats 4000000 in
set_option maxRecDepth 100000 in
theorem T_X6_dustFor_51 (E : EV) (x1 : Int32) (x2 : Int32) {S : ST} {w : (Int32 × ST)} (h : G_X6_dustFor_51 x1 x2 S = some w) : SD E mX6_dustFor 0 [(0, .ref (eB E + 51)), (1, .int x1), (2, .int x2)] [] S (some (.int w.1)) w.2 := by
  unfold G_X6_dustFor_51 at h
  refine s_aload_n (q := 1) dX6_dustFor_0 rfl rfl 0 rfl ?_
  refine s_iload_n (q := 2) dX6_dustFor_1 rfl rfl 1 rfl ?_
  obtain ⟨q1, hc1, h⟩ := bnd h
  try dsimp only at h
  refine t_callV (q := 5) (N := mX6_isStar) (a := eB E + 51) [.int x1] dX6_dustFor_2 rfl nkX6_isStar vkX6_isStar lX6_101 ⟨Nat.le_of_ble_eq_true rfl, Nat.le_of_ble_eq_true rfl⟩ (rc_obj (k := 51) rfl rfl) rfl rfl (Nat.le_of_ble_eq_true rfl) (Nat.le_of_ble_eq_true rfl) (T_X6_isStar_51 E _ hc1) ?_
  refine s_if_eq (q := 8) (tgt := 19) dX6_dustFor_5 rfl rfl (fun hb2 => ?_) (fun hb2 => ?_)
  · rw [if_pos hb2] at h
    refine s_aload_n (q := 20) dX6_dustFor_19 rfl rfl 0 rfl ?_
    refine s_iconst (q := 21) (v := 0) dX6_dustFor_20 rfl rfl ?_
    obtain ⟨q3, hc3, h⟩ := bnd h
    try dsimp only at h
    refine t_callV (q := 24) (N := mX6_no) (a := eB E + 51) [.int 0] dX6_dustFor_21 rfl nkX6_no vkX6_no lX6_94 ⟨Nat.le_of_ble_eq_true rfl, Nat.le_of_ble_eq_true rfl⟩ (rc_obj (k := 51) rfl rfl) rfl rfl (Nat.le_of_ble_eq_true rfl) (Nat.le_of_ble_eq_true rfl) (T_X6_no_51 E _ hc3) ?_
    obtain rfl := Option.some.inj h
    exact t_iret dX6_dustFor_24 rfl rfl
  · rw [if_neg hb2] at h
    refine s_iload_n (q := 9) dX6_dustFor_8 rfl rfl 2 rfl ?_
    refine s_iconst (q := 10) (v := 0) dX6_dustFor_9 rfl rfl ?_
    refine s_sipush (q := 13) (v := 200) dX6_dustFor_10 rfl rfl ?_
    obtain ⟨q4, hc4, h⟩ := bnd h
    try dsimp only at h
    refine t_callS (q := 16) (N := mX6_in1) [.int x2, .int 0, .int 200] dX6_dustFor_13 rfl nkX6_in1 sX6_in1 lX6_54 ⟨Nat.le_of_ble_eq_true rfl, Nat.le_of_ble_eq_true rfl⟩ rfl rfl (Nat.le_of_ble_eq_true rfl) (Nat.le_of_ble_eq_true rfl) (T_X6_in1 E _ _ _ hc4) ?_
    refine s_if_ne (q := 19) (tgt := 25) dX6_dustFor_16 rfl rfl (fun hb5 => ?_) (fun hb5 => ?_)
    · rw [if_neg hb5] at h
      refine s_aload_n (q := 26) dX6_dustFor_25 rfl rfl 0 rfl ?_
      obtain ⟨q6, hc6, h⟩ := bnd h
      try dsimp only at h
      refine t_callV (q := 29) (N := mX6_setsAside) (a := eB E + 51) [] dX6_dustFor_26 rfl nkX6_setsAside vkX6_setsAside lX6_133 ⟨Nat.le_of_ble_eq_true rfl, Nat.le_of_ble_eq_true rfl⟩ (rc_obj (k := 51) rfl rfl) rfl rfl (Nat.le_of_ble_eq_true rfl) (Nat.le_of_ble_eq_true rfl) (T_X6_setsAside_51 E  hc6) ?_
      refine s_iconst (q := 30) (v := (-1)) dX6_dustFor_29 rfl rfl ?_
      refine s_istore_n (q := 31) (lv' := [(3, .int (-1)), (0, .ref (eB E + 51)), (1, .int x1), (2, .int x2)]) dX6_dustFor_30 rfl rfl (Nat.le_of_ble_eq_true rfl) rfl ?_
      refine s_iconst (q := 32) (v := 0) dX6_dustFor_31 rfl rfl ?_
      refine s_istore (q := 34) (lv' := [(4, .int 0), (3, .int (-1)), (0, .ref (eB E + 51)), (1, .int x1), (2, .int x2)]) dX6_dustFor_32 rfl (Nat.le_of_ble_eq_true rfl) rfl ?_
      obtain ⟨q13, hc13, h⟩ := bnd h
      try dsimp only at h
      refine t_sub [2, 3, 4, 1, 0] rfl (T_X6_dustFor_51_34 E _ _ _ _ _ _ _ hc13 ?_)
      refine s_iload_n (q := 80) dX6_dustFor_79 rfl rfl 1 rfl ?_
      refine s_if_ge (q := 83) (tgt := 91) dX6_dustFor_80 rfl rfl (fun hb14 => ?_) (fun hb14 => ?_)
      · rw [if_pos hb14] at h
        refine s_iload_n (q := 92) dX6_dustFor_91 rfl rfl 1 rfl ?_
        obtain rfl := Option.some.inj h
        exact t_iret dX6_dustFor_92 rfl rfl
      · rw [if_neg hb14] at h
        refine s_aload_n (q := 84) dX6_dustFor_83 rfl rfl 0 rfl ?_
        refine s_iconst (q := 85) (v := 3) dX6_dustFor_84 rfl rfl ?_
        obtain ⟨q15, hc15, h⟩ := bnd h
        try dsimp only at h
        refine t_callV (q := 88) (N := mX6_no) (a := eB E + 51) [.int 3] dX6_dustFor_85 rfl nkX6_no vkX6_no lX6_94 ⟨Nat.le_of_ble_eq_true rfl, Nat.le_of_ble_eq_true rfl⟩ (rc_obj (k := 51) rfl rfl) rfl rfl (Nat.le_of_ble_eq_true rfl) (Nat.le_of_ble_eq_true rfl) (T_X6_no_51 E _ hc15) ?_
        refine s_goto (tgt := 92) dX6_dustFor_88 rfl ?_
        obtain rfl := Option.some.inj h
        exact t_iret dX6_dustFor_92 rfl rfl
    · rw [if_pos hb5] at h
      refine s_aload_n (q := 20) dX6_dustFor_19 rfl rfl 0 rfl ?_
      refine s_iconst (q := 21) (v := 0) dX6_dustFor_20 rfl rfl ?_
      obtain ⟨q16, hc16, h⟩ := bnd h
      try dsimp only at h
      refine t_callV (q := 24) (N := mX6_no) (a := eB E + 51) [.int 0] dX6_dustFor_21 rfl nkX6_no vkX6_no lX6_94 ⟨Nat.le_of_ble_eq_true rfl, Nat.le_of_ble_eq_true rfl⟩ (rc_obj (k := 51) rfl rfl) rfl rfl (Nat.le_of_ble_eq_true rfl) (Nat.le_of_ble_eq_true rfl) (T_X6_no_51 E _ hc16) ?_
      obtain rfl := Option.some.inj h
      exact t_iret dX6_dustFor_24 rfl rfl
-- X1_mendDark
def G_X1_mendDark_1_41_4 : Nat → Int32 → Int32 → ST → Option (Int32 × ST)
  | 0, _, _, _ => none
  | n + 1, x2, x3, S => (if (S.1 1 0) ≤ x3 then some (x2, S) else (if inB x3 10 = true then (if inB x3 10 = true then ((G_X1_isBright_1 (S.1 2 x3.toNatClampNeg) (S.1 41 x3.toNatClampNeg) S).bind fun q4 => (if q4.1 = 0 then (if inB x3 10 = true then G_X1_mendDark_1_41_4 n (x2 + 1) (x3 + 1) (wr q4.2 41 x3.toNatClampNeg 99) else none) else G_X1_mendDark_1_41_4 n x2 (x3 + 1) q4.2)) else none) else none))
set_option maxHeartbeats 4000000 in
set_option maxRecDepth 100000 in
theorem T_X1_mendDark_1_41_4 (E : EV) : ∀ (n : Nat) (x2 : Int32) (x3 : Int32) (S : ST), ∀ (w : (Int32 × ST)), G_X1_mendDark_1_41_4 n x2 x3 S = some w → ∀ {Q : Option Value → ST → Prop}, SS E mX1_mendDark 42 [(2, .int w.1)] [] w.2 Q → SS E mX1_mendDark 4 [(0, .ref (eB E + 1)), (1, .ref (eB E + 41)), (2, .int x2), (3, .int x3)] [] S Q := by
  intro n
  induction n with
  | zero =>
    intro x2 x3 S w h
    cases h
  | succ n ih =>
    intro x2 x3 S w h Q K
    unfold G_X1_mendDark_1_41_4 at h
    refine s_iload_n (q := 5) dX1_mendDark_4 rfl rfl 3 rfl ?_
    refine s_aload_n (q := 6) dX1_mendDark_5 rfl rfl 0 rfl ?_
    refine t_getI (q := 9) (k := 1) (f := 0) (v := (S.1 1 0)) dX1_mendDark_6 rfl rfl rfl rfl inX1 (Nat.le_of_ble_eq_true rfl) fX1_9 rfl ?_
    refine s_icmp_ge (q := 12) (tgt := 42) dX1_mendDark_9 rfl rfl (fun hb1 => ?_) (fun hb1 => ?_)
    · rw [if_pos hb1] at h
      obtain rfl := Option.some.inj h
      exact t_sub [2] rfl K
    · rw [if_neg hb1] at h
      refine s_aload_n (q := 13) dX1_mendDark_12 rfl rfl 0 rfl ?_
      refine s_aload_n (q := 14) dX1_mendDark_13 rfl rfl 0 rfl ?_
      refine t_getR (q := 17) (k := 1) (f := 1) (t := 2) dX1_mendDark_14 rfl rfl rfl rfl inX1 (Nat.le_of_ble_eq_true rfl) fX1_15 ?_
      refine s_iload_n (q := 18) dX1_mendDark_17 rfl rfl 3 rfl ?_
      obtain ⟨hg2, h⟩ := chk_some h
      refine u_iald (q := 19) (k := 2) (v := (S.1 2 x3.toNatClampNeg)) dX1_mendDark_18 rfl rfl (inB_in hg2) rfl rfl ?_
      refine s_aload_n (q := 20) dX1_mendDark_19 rfl rfl 1 rfl ?_
      refine s_iload_n (q := 21) dX1_mendDark_20 rfl rfl 3 rfl ?_
      obtain ⟨hg3, h⟩ := chk_some h
      refine u_iald (q := 22) (k := 41) (v := (S.1 41 x3.toNatClampNeg)) dX1_mendDark_21 rfl rfl (inB_in hg3) rfl rfl ?_
      obtain ⟨q4, hc4, h⟩ := bnd h
      try dsimp only at h
      refine t_callV (q := 25) (N := mX1_isBright) (a := eB E + 1) [.int (S.1 2 x3.toNatClampNeg), .int (S.1 41 x3.toNatClampNeg)] dX1_mendDark_22 rfl nkX1_isBright vkX1_isBright lX1_81 ⟨Nat.le_of_ble_eq_true rfl, Nat.le_of_ble_eq_true rfl⟩ (rc_obj (k := 1) rfl rfl) rfl rfl (Nat.le_of_ble_eq_true rfl) (Nat.le_of_ble_eq_true rfl) (T_X1_isBright_1 E _ _ hc4) ?_
      refine s_if_ne (q := 28) (tgt := 36) dX1_mendDark_25 rfl rfl (fun hb5 => ?_) (fun hb5 => ?_)
      · rw [if_neg hb5] at h
        refine s_iinc (q := 39) (j := 3) (v := (x3 + 1)) (lv' := [(3, .int (x3 + 1)), (0, .ref (eB E + 1)), (1, .ref (eB E + 41)), (2, .int x2)]) dX1_mendDark_36 rfl rfl rfl (Nat.le_of_ble_eq_true rfl) rfl ?_
        refine s_goto (tgt := 4) dX1_mendDark_39 rfl ?_
        exact t_sub [1, 2, 3, 0] rfl (ih _ _ _ _ h K)
      · rw [if_pos hb5] at h
        refine s_aload_n (q := 29) dX1_mendDark_28 rfl rfl 1 rfl ?_
        refine s_iload_n (q := 30) dX1_mendDark_29 rfl rfl 3 rfl ?_
        refine s_bipush (q := 32) (v := 99) dX1_mendDark_30 rfl rfl ?_
        obtain ⟨hg6, h⟩ := chk_some h
        refine u_iast (q := 33) (k := 41) dX1_mendDark_32 rfl rfl (inB_in hg6) rfl ?_
        refine s_iinc (q := 36) (j := 2) (v := (x2 + 1)) (lv' := [(2, .int (x2 + 1)), (0, .ref (eB E + 1)), (1, .ref (eB E + 41)), (3, .int x3)]) dX1_mendDark_33 rfl rfl rfl (Nat.le_of_ble_eq_true rfl) rfl ?_
        refine s_iinc (q := 39) (j := 3) (v := (x3 + 1)) (lv' := [(3, .int (x3 + 1)), (2, .int (x2 + 1)), (0, .ref (eB E + 1)), (1, .ref (eB E + 41))]) dX1_mendDark_36 rfl rfl rfl (Nat.le_of_ble_eq_true rfl) rfl ?_
        refine s_goto (tgt := 4) dX1_mendDark_39 rfl ?_
        exact t_sub [2, 3, 1, 0] rfl (ih _ _ _ _ h K)
def G_X1_mendDark_1_41  (S : ST) : Option (Int32 × ST) := (G_X1_mendDark_1_41_4 3000 0 0 S).bind fun q7 => some (q7.1, q7.2)
set_option maxHeartbeats 4000000 in
set_option maxRecDepth 100000 in
theorem T_X1_mendDark_1_41 (E : EV)  {S : ST} {w : (Int32 × ST)} (h : G_X1_mendDark_1_41  S = some w) : SD E mX1_mendDark 0 [(0, .ref (eB E + 1)), (1, .ref (eB E + 41))] [] S (some (.int w.1)) w.2 := by
  unfold G_X1_mendDark_1_41 at h
  refine s_iconst (q := 1) (v := 0) dX1_mendDark_0 rfl rfl ?_
  refine s_istore_n (q := 2) (lv' := [(2, .int 0), (0, .ref (eB E + 1)), (1, .ref (eB E + 41))]) dX1_mendDark_1 rfl rfl (Nat.le_of_ble_eq_true rfl) rfl ?_
  refine s_iconst (q := 3) (v := 0) dX1_mendDark_2 rfl rfl ?_
  refine s_istore_n (q := 4) (lv' := [(3, .int 0), (2, .int 0), (0, .ref (eB E + 1)), (1, .ref (eB E + 41))]) dX1_mendDark_3 rfl rfl (Nat.le_of_ble_eq_true rfl) rfl ?_
  obtain ⟨q7, hc7, h⟩ := bnd h
  try dsimp only at h
  refine t_sub [2, 3, 1, 0] rfl (T_X1_mendDark_1_41_4 E _ _ _ _ _ hc7 ?_)
  refine s_iload_n (q := 43) dX1_mendDark_42 rfl rfl 0 rfl ?_
  obtain rfl := Option.some.inj h
  exact t_iret dX1_mendDark_43 rfl rfl
-- X5_uses
def G_X5_uses_0_24 : Nat → Int32 → Int32 → Int32 → ST → Option (Int32 × ST)
  | 0, _, _, _, _ => none
  | n + 1, x1, x2, x3, S => (if x1 ≤ x3 then some (x2, S) else ((G_X1_mendDark_1_41  S).bind fun q5 => ((G_X1_wearDown_1_41  q5.2).bind fun q6 => G_X5_uses_0_24 n x1 (x2 + q5.1) (x3 + 1) q6.2)))
set_option maxHeartbeats 4000000 in
set_option maxRecDepth 100000 in
theorem T_X5_uses_0_24 (E : EV) : ∀ (n : Nat) (x1 : Int32) (x2 : Int32) (x3 : Int32) (S : ST), ∀ (w : (Int32 × ST)), G_X5_uses_0_24 n x1 x2 x3 S = some w → ∀ {Q : Option Value → ST → Prop}, SS E mX5_uses 60 [(2, .int w.1)] [] w.2 Q → SS E mX5_uses 24 [(0, .ref (eB E + 0)), (1, .int x1), (2, .int x2), (3, .int x3)] [] S Q := by
  intro n
  induction n with
  | zero =>
    intro x1 x2 x3 S w h
    cases h
  | succ n ih =>
    intro x1 x2 x3 S w h Q K
    unfold G_X5_uses_0_24 at h
    refine s_iload_n (q := 25) dX5_uses_24 rfl rfl 3 rfl ?_
    refine s_iload_n (q := 26) dX5_uses_25 rfl rfl 1 rfl ?_
    refine s_icmp_ge (q := 29) (tgt := 60) dX5_uses_26 rfl rfl (fun hb4 => ?_) (fun hb4 => ?_)
    · rw [if_pos hb4] at h
      obtain rfl := Option.some.inj h
      exact t_sub [2] rfl K
    · rw [if_neg hb4] at h
      refine s_iload_n (q := 30) dX5_uses_29 rfl rfl 2 rfl ?_
      refine s_aload_n (q := 31) dX5_uses_30 rfl rfl 0 rfl ?_
      refine t_getR (q := 34) (k := 0) (f := 0) (t := 1) dX5_uses_31 rfl rfl rfl rfl inX5 (Nat.le_of_ble_eq_true rfl) fX5_10 ?_
      refine s_aload_n (q := 35) dX5_uses_34 rfl rfl 0 rfl ?_
      refine t_getR (q := 38) (k := 0) (f := 8) (t := 41) dX5_uses_35 rfl rfl rfl rfl inX5 (Nat.le_of_ble_eq_true rfl) fX5_49 ?_
      obtain ⟨q5, hc5, h⟩ := bnd h
      try dsimp only at h
      refine t_callV (q := 41) (N := mX1_mendDark) (a := eB E + 1) [.ref (eB E + 41)] dX5_uses_38 rfl nkX1_mendDark vkX1_mendDark lX5_166 ⟨Nat.le_of_ble_eq_true rfl, Nat.le_of_ble_eq_true rfl⟩ (rc_obj (k := 1) rfl rfl) rfl rfl (Nat.le_of_ble_eq_true rfl) (Nat.le_of_ble_eq_true rfl) (T_X1_mendDark_1_41 E  hc5) ?_
      refine s_iadd (q := 42) dX5_uses_41 rfl ?_
      refine s_istore_n (q := 43) (lv' := [(2, .int (x2 + q5.1)), (0, .ref (eB E + 0)), (1, .int x1), (3, .int x3)]) dX5_uses_42 rfl rfl (Nat.le_of_ble_eq_true rfl) rfl ?_
      refine s_aload_n (q := 44) dX5_uses_43 rfl rfl 1 rfl ?_
      refine t_getR (q := 47) (k := 0) (f := 0) (t := 1) dX5_uses_44 rfl rfl rfl rfl inX5 (Nat.le_of_ble_eq_true rfl) fX5_10 ?_
      refine s_aload_n (q := 48) dX5_uses_47 rfl rfl 1 rfl ?_
      refine t_getR (q := 51) (k := 0) (f := 8) (t := 41) dX5_uses_48 rfl rfl rfl rfl inX5 (Nat.le_of_ble_eq_true rfl) fX5_49 ?_
      obtain ⟨q6, hc6, h⟩ := bnd h
      try dsimp only at h
      refine t_callV (q := 54) (N := mX1_wearDown) (a := eB E + 1) [.ref (eB E + 41)] dX5_uses_51 rfl nkX1_wearDown vkX1_wearDown lX5_157 ⟨Nat.le_of_ble_eq_true rfl, Nat.le_of_ble_eq_true rfl⟩ (rc_obj (k := 1) rfl rfl) rfl rfl (Nat.le_of_ble_eq_true rfl) (Nat.le_of_ble_eq_true rfl) (T_X1_wearDown_1_41 E  hc6) ?_
      refine s_iinc (q := 57) (j := 3) (v := (x3 + 1)) (lv' := [(3, .int (x3 + 1)), (2, .int (x2 + q5.1)), (0, .ref (eB E + 0)), (1, .int x1)]) dX5_uses_54 rfl rfl rfl (Nat.le_of_ble_eq_true rfl) rfl ?_
      refine s_goto (tgt := 24) dX5_uses_57 rfl ?_
      exact t_sub [2, 3, 1, 0] rfl (ih _ _ _ _ _ h K)
def G_X5_uses_0 (x1 : Int32) (S : ST) : Option (Int32 × ST) := ((G_X5_isWithin x1 200 S).bind fun q1 => (if q1.1 = 0 then ((G_X5_finding_0 0 q1.2).bind fun q8 => some (q8.1, q8.2)) else ((G_X5_copyLives_0  q1.2).bind fun q3 => (G_X5_uses_0_24 3000 x1 0 0 q3.2).bind fun q7 => some (q7.1, q7.2))))
set_option maxHeartbeats 4000000 in
set_option maxRecDepth 100000 in
theorem T_X5_uses_0 (E : EV) (x1 : Int32) {S : ST} {w : (Int32 × ST)} (h : G_X5_uses_0 x1 S = some w) : SD E mX5_uses 0 [(0, .ref (eB E + 0)), (1, .int x1)] [] S (some (.int w.1)) w.2 := by
  unfold G_X5_uses_0 at h
  refine s_iload_n (q := 1) dX5_uses_0 rfl rfl 1 rfl ?_
  refine s_sipush (q := 4) (v := 200) dX5_uses_1 rfl rfl ?_
  obtain ⟨q1, hc1, h⟩ := bnd h
  try dsimp only at h
  refine t_callS (q := 7) (N := mX5_isWithin) [.int x1, .int 200] dX5_uses_4 rfl nkX5_isWithin sX5_isWithin lX5_99 ⟨Nat.le_of_ble_eq_true rfl, Nat.le_of_ble_eq_true rfl⟩ rfl rfl (Nat.le_of_ble_eq_true rfl) (Nat.le_of_ble_eq_true rfl) (T_X5_isWithin E _ _ hc1) ?_
  refine s_if_ne (q := 10) (tgt := 16) dX5_uses_7 rfl rfl (fun hb2 => ?_) (fun hb2 => ?_)
  · rw [if_neg hb2] at h
    refine s_aload_n (q := 17) dX5_uses_16 rfl rfl 0 rfl ?_
    obtain ⟨q3, hc3, h⟩ := bnd h
    try dsimp only at h
    refine t_callV (q := 20) (N := mX5_copyLives) (a := eB E + 0) [] dX5_uses_17 rfl nkX5_copyLives vkX5_copyLives lX5_154 ⟨Nat.le_of_ble_eq_true rfl, Nat.le_of_ble_eq_true rfl⟩ (rc_obj (k := 0) rfl rfl) rfl rfl (Nat.le_of_ble_eq_true rfl) (Nat.le_of_ble_eq_true rfl) (T_X5_copyLives_0 E  hc3) ?_
    refine s_iconst (q := 21) (v := 0) dX5_uses_20 rfl rfl ?_
    refine s_istore_n (q := 22) (lv' := [(2, .int 0), (0, .ref (eB E + 0)), (1, .int x1)]) dX5_uses_21 rfl rfl (Nat.le_of_ble_eq_true rfl) rfl ?_
    refine s_iconst (q := 23) (v := 0) dX5_uses_22 rfl rfl ?_
    refine s_istore_n (q := 24) (lv' := [(3, .int 0), (2, .int 0), (0, .ref (eB E + 0)), (1, .int x1)]) dX5_uses_23 rfl rfl (Nat.le_of_ble_eq_true rfl) rfl ?_
    obtain ⟨q7, hc7, h⟩ := bnd h
    try dsimp only at h
    refine t_sub [2, 3, 1, 0] rfl (T_X5_uses_0_24 E _ _ _ _ _ _ hc7 ?_)
    refine s_iload_n (q := 61) dX5_uses_60 rfl rfl 0 rfl ?_
    obtain rfl := Option.some.inj h
    exact t_iret dX5_uses_61 rfl rfl
  · rw [if_pos hb2] at h
    refine s_aload_n (q := 11) dX5_uses_10 rfl rfl 0 rfl ?_
    refine s_iconst (q := 12) (v := 0) dX5_uses_11 rfl rfl ?_
    obtain ⟨q8, hc8, h⟩ := bnd h
    try dsimp only at h
    refine t_callV (q := 15) (N := mX5_finding) (a := eB E + 0) [.int 0] dX5_uses_12 rfl nkX5_finding vkX5_finding lX5_61 ⟨Nat.le_of_ble_eq_true rfl, Nat.le_of_ble_eq_true rfl⟩ (rc_obj (k := 0) rfl rfl) rfl rfl (Nat.le_of_ble_eq_true rfl) (Nat.le_of_ble_eq_true rfl) (T_X5_finding_0 E _ hc8) ?_
    obtain rfl := Option.some.inj h
    exact t_iret dX5_uses_15 rfl rfl
-- X6_uses
def G_X6_uses_51_33 : Nat → Int32 → Int32 → Int32 → Int32 → ST → Option (Int32 × Int32 × Int32 × ST)
  | 0, _, _, _, _, _ => none
  | n + 1, x1, x2, x3, x4, S => (if (S.1 52 1) ≤ x4 then some (x1, x2, x3, S) else ((G_X6_shines_51 x4 S).bind fun q6 => (if q6.1 = 0 then ((G_X6_shines_51 x4 q6.2).bind fun q8 => (if q8.1 = 0 then ((G_X6_puts_51 x4 2 99 q8.2).bind fun q10 => G_X6_uses_51_33 n x1 (x2 + 1) x3 (x4 + 1) q10.2) else ((G_X6_get_51 x4 2 q8.2).bind fun q11 => ((G_X6_puts_51 x4 2 q11.1 q11.2).bind fun q12 => G_X6_uses_51_33 n x1 (x2 + 1) x3 (x4 + 1) q12.2)))) else ((G_X6_shines_51 x4 q6.2).bind fun q13 => (if q13.1 = 0 then ((G_X6_puts_51 x4 2 99 q13.2).bind fun q15 => G_X6_uses_51_33 n x1 (x2 + 0) x3 (x4 + 1) q15.2) else ((G_X6_get_51 x4 2 q13.2).bind fun q16 => ((G_X6_puts_51 x4 2 q16.1 q16.2).bind fun q17 => G_X6_uses_51_33 n x1 (x2 + 0) x3 (x4 + 1) q17.2)))))))
set_option maxHeartbeats 4000000 in
set_option maxRecDepth 100000 in
theorem T_X6_uses_51_33 (E : EV) : ∀ (n : Nat) (x1 : Int32) (x2 : Int32) (x3 : Int32) (x4 : Int32) (S : ST), ∀ (w : (Int32 × Int32 × Int32 × ST)), G_X6_uses_51_33 n x1 x2 x3 x4 S = some w → ∀ {Q : Option Value → ST → Prop}, SS E mX6_uses 95 [(0, .ref (eB E + 51)), (1, .int w.1), (2, .int w.2.1), (3, .int w.2.2.1)] [] w.2.2.2 Q → SS E mX6_uses 33 [(0, .ref (eB E + 51)), (1, .int x1), (2, .int x2), (3, .int x3), (4, .int x4)] [] S Q := by
  intro n
  induction n with
  | zero =>
    intro x1 x2 x3 x4 S w h
    cases h
  | succ n ih =>
    intro x1 x2 x3 x4 S w h Q K
    unfold G_X6_uses_51_33 at h
    refine s_iload (q := 35) dX6_uses_33 rfl 4 rfl ?_
    refine s_aload_n (q := 36) dX6_uses_35 rfl rfl 0 rfl ?_
    refine t_getR (q := 39) (k := 51) (f := 0) (t := 52) dX6_uses_36 rfl rfl rfl rfl inX6 (Nat.le_of_ble_eq_true rfl) fX6_9 ?_
    refine s_iconst (q := 40) (v := 1) dX6_uses_39 rfl rfl ?_
    refine u_iald (q := 41) (k := 52) (j := 1) (v := (S.1 52 1)) dX6_uses_40 rfl rfl (inB_in (by decide)) (by decide) rfl ?_
    refine s_icmp_ge (q := 44) (tgt := 95) dX6_uses_41 rfl rfl (fun hb5 => ?_) (fun hb5 => ?_)
    · rw [if_pos hb5] at h
      obtain rfl := Option.some.inj h
      exact t_sub [0, 1, 2, 3] rfl K
    · rw [if_neg hb5] at h
      refine s_iload_n (q := 45) dX6_uses_44 rfl rfl 2 rfl ?_
      refine s_aload_n (q := 46) dX6_uses_45 rfl rfl 0 rfl ?_
      refine s_iload (q := 48) dX6_uses_46 rfl 4 rfl ?_
      obtain ⟨q6, hc6, h⟩ := bnd h
      try dsimp only at h
      refine t_callV (q := 51) (N := mX6_shines) (a := eB E + 51) [.int x4] dX6_uses_48 rfl nkX6_shines vkX6_shines lX6_66 ⟨Nat.le_of_ble_eq_true rfl, Nat.le_of_ble_eq_true rfl⟩ (rc_obj (k := 51) rfl rfl) rfl rfl (Nat.le_of_ble_eq_true rfl) (Nat.le_of_ble_eq_true rfl) (T_X6_shines_51 E _ hc6) ?_
      refine s_if_eq (q := 54) (tgt := 58) dX6_uses_51 rfl rfl (fun hb7 => ?_) (fun hb7 => ?_)
      · rw [if_pos hb7] at h
        refine s_iconst (q := 59) (v := 1) dX6_uses_58 rfl rfl ?_
        refine s_iadd (q := 60) dX6_uses_59 rfl ?_
        refine s_istore_n (q := 61) (lv' := [(2, .int (x2 + 1)), (0, .ref (eB E + 51)), (1, .int x1), (3, .int x3), (4, .int x4)]) dX6_uses_60 rfl rfl (Nat.le_of_ble_eq_true rfl) rfl ?_
        refine s_aload_n (q := 62) dX6_uses_61 rfl rfl 1 rfl ?_
        refine s_iload (q := 64) dX6_uses_62 rfl 4 rfl ?_
        refine s_iconst (q := 65) (v := 2) dX6_uses_64 rfl rfl ?_
        refine s_aload_n (q := 66) dX6_uses_65 rfl rfl 1 rfl ?_
        refine s_iload (q := 68) dX6_uses_66 rfl 4 rfl ?_
        obtain ⟨q8, hc8, h⟩ := bnd h
        try dsimp only at h
        refine t_callV (q := 71) (N := mX6_shines) (a := eB E + 51) [.int x4] dX6_uses_68 rfl nkX6_shines vkX6_shines lX6_66 ⟨Nat.le_of_ble_eq_true rfl, Nat.le_of_ble_eq_true rfl⟩ (rc_obj (k := 51) rfl rfl) rfl rfl (Nat.le_of_ble_eq_true rfl) (Nat.le_of_ble_eq_true rfl) (T_X6_shines_51 E _ hc8) ?_
        refine s_if_eq (q := 74) (tgt := 84) dX6_uses_71 rfl rfl (fun hb9 => ?_) (fun hb9 => ?_)
        · rw [if_pos hb9] at h
          refine s_bipush (q := 86) (v := 99) dX6_uses_84 rfl rfl ?_
          obtain ⟨q10, hc10, h⟩ := bnd h
          try dsimp only at h
          refine t_callV (q := 89) (N := mX6_puts) (a := eB E + 51) [.int x4, .int 2, .int 99] dX6_uses_86 rfl nkX6_puts vkX6_puts lX6_80 ⟨Nat.le_of_ble_eq_true rfl, Nat.le_of_ble_eq_true rfl⟩ (rc_obj (k := 51) rfl rfl) rfl rfl (Nat.le_of_ble_eq_true rfl) (Nat.le_of_ble_eq_true rfl) (T_X6_puts_51 E _ _ _ hc10) ?_
          refine s_iinc (q := 92) (j := 4) (v := (x4 + 1)) (lv' := [(4, .int (x4 + 1)), (2, .int (x2 + 1)), (0, .ref (eB E + 51)), (1, .int x1), (3, .int x3)]) dX6_uses_89 rfl rfl rfl (Nat.le_of_ble_eq_true rfl) rfl ?_
          refine s_goto (tgt := 33) dX6_uses_92 rfl ?_
          exact t_sub [2, 3, 1, 4, 0] rfl (ih _ _ _ _ _ _ h K)
        · rw [if_neg hb9] at h
          refine s_aload_n (q := 75) dX6_uses_74 rfl rfl 1 rfl ?_
          refine s_iload (q := 77) dX6_uses_75 rfl 4 rfl ?_
          refine s_iconst (q := 78) (v := 2) dX6_uses_77 rfl rfl ?_
          obtain ⟨q11, hc11, h⟩ := bnd h
          try dsimp only at h
          refine t_callV (q := 81) (N := mX6_get) (a := eB E + 51) [.int x4, .int 2] dX6_uses_78 rfl nkX6_get vkX6_get lX6_58 ⟨Nat.le_of_ble_eq_true rfl, Nat.le_of_ble_eq_true rfl⟩ (rc_obj (k := 51) rfl rfl) rfl rfl (Nat.le_of_ble_eq_true rfl) (Nat.le_of_ble_eq_true rfl) (T_X6_get_51 E _ _ hc11) ?_
          refine s_goto (tgt := 86) dX6_uses_81 rfl ?_
          obtain ⟨q12, hc12, h⟩ := bnd h
          try dsimp only at h
          refine t_callV (q := 89) (N := mX6_puts) (a := eB E + 51) [.int x4, .int 2, .int q11.1] dX6_uses_86 rfl nkX6_puts vkX6_puts lX6_80 ⟨Nat.le_of_ble_eq_true rfl, Nat.le_of_ble_eq_true rfl⟩ (rc_obj (k := 51) rfl rfl) rfl rfl (Nat.le_of_ble_eq_true rfl) (Nat.le_of_ble_eq_true rfl) (T_X6_puts_51 E _ _ _ hc12) ?_
          refine s_iinc (q := 92) (j := 4) (v := (x4 + 1)) (lv' := [(4, .int (x4 + 1)), (2, .int (x2 + 1)), (0, .ref (eB E + 51)), (1, .int x1), (3, .int x3)]) dX6_uses_89 rfl rfl rfl (Nat.le_of_ble_eq_true rfl) rfl ?_
          refine s_goto (tgt := 33) dX6_uses_92 rfl ?_
          exact t_sub [2, 3, 1, 4, 0] rfl (ih _ _ _ _ _ _ h K)
      · rw [if_neg hb7] at h
        refine s_iconst (q := 55) (v := 0) dX6_uses_54 rfl rfl ?_
        refine s_goto (tgt := 59) dX6_uses_55 rfl ?_
        refine s_iadd (q := 60) dX6_uses_59 rfl ?_
        refine s_istore_n (q := 61) (lv' := [(2, .int (x2 + 0)), (0, .ref (eB E + 51)), (1, .int x1), (3, .int x3), (4, .int x4)]) dX6_uses_60 rfl rfl (Nat.le_of_ble_eq_true rfl) rfl ?_
        refine s_aload_n (q := 62) dX6_uses_61 rfl rfl 1 rfl ?_
        refine s_iload (q := 64) dX6_uses_62 rfl 4 rfl ?_
        refine s_iconst (q := 65) (v := 2) dX6_uses_64 rfl rfl ?_
        refine s_aload_n (q := 66) dX6_uses_65 rfl rfl 1 rfl ?_
        refine s_iload (q := 68) dX6_uses_66 rfl 4 rfl ?_
        obtain ⟨q13, hc13, h⟩ := bnd h
        try dsimp only at h
        refine t_callV (q := 71) (N := mX6_shines) (a := eB E + 51) [.int x4] dX6_uses_68 rfl nkX6_shines vkX6_shines lX6_66 ⟨Nat.le_of_ble_eq_true rfl, Nat.le_of_ble_eq_true rfl⟩ (rc_obj (k := 51) rfl rfl) rfl rfl (Nat.le_of_ble_eq_true rfl) (Nat.le_of_ble_eq_true rfl) (T_X6_shines_51 E _ hc13) ?_
        refine s_if_eq (q := 74) (tgt := 84) dX6_uses_71 rfl rfl (fun hb14 => ?_) (fun hb14 => ?_)
        · rw [if_pos hb14] at h
          refine s_bipush (q := 86) (v := 99) dX6_uses_84 rfl rfl ?_
          obtain ⟨q15, hc15, h⟩ := bnd h
          try dsimp only at h
          refine t_callV (q := 89) (N := mX6_puts) (a := eB E + 51) [.int x4, .int 2, .int 99] dX6_uses_86 rfl nkX6_puts vkX6_puts lX6_80 ⟨Nat.le_of_ble_eq_true rfl, Nat.le_of_ble_eq_true rfl⟩ (rc_obj (k := 51) rfl rfl) rfl rfl (Nat.le_of_ble_eq_true rfl) (Nat.le_of_ble_eq_true rfl) (T_X6_puts_51 E _ _ _ hc15) ?_
          refine s_iinc (q := 92) (j := 4) (v := (x4 + 1)) (lv' := [(4, .int (x4 + 1)), (2, .int (x2 + 0)), (0, .ref (eB E + 51)), (1, .int x1), (3, .int x3)]) dX6_uses_89 rfl rfl rfl (Nat.le_of_ble_eq_true rfl) rfl ?_
          refine s_goto (tgt := 33) dX6_uses_92 rfl ?_
          exact t_sub [2, 3, 1, 4, 0] rfl (ih _ _ _ _ _ _ h K)
        · rw [if_neg hb14] at h
          refine s_aload_n (q := 75) dX6_uses_74 rfl rfl 1 rfl ?_
          refine s_iload (q := 77) dX6_uses_75 rfl 4 rfl ?_
          refine s_iconst (q := 78) (v := 2) dX6_uses_77 rfl rfl ?_
          obtain ⟨q16, hc16, h⟩ := bnd h
          try dsimp only at h
          refine t_callV (q := 81) (N := mX6_get) (a := eB E + 51) [.int x4, .int 2] dX6_uses_78 rfl nkX6_get vkX6_get lX6_58 ⟨Nat.le_of_ble_eq_true rfl, Nat.le_of_ble_eq_true rfl⟩ (rc_obj (k := 51) rfl rfl) rfl rfl (Nat.le_of_ble_eq_true rfl) (Nat.le_of_ble_eq_true rfl) (T_X6_get_51 E _ _ hc16) ?_
          refine s_goto (tgt := 86) dX6_uses_81 rfl ?_
          obtain ⟨q17, hc17, h⟩ := bnd h
          try dsimp only at h
          refine t_callV (q := 89) (N := mX6_puts) (a := eB E + 51) [.int x4, .int 2, .int q16.1] dX6_uses_86 rfl nkX6_puts vkX6_puts lX6_80 ⟨Nat.le_of_ble_eq_true rfl, Nat.le_of_ble_eq_true rfl⟩ (rc_obj (k := 51) rfl rfl) rfl rfl (Nat.le_of_ble_eq_true rfl) (Nat.le_of_ble_eq_true rfl) (T_X6_puts_51 E _ _ _ hc17) ?_
          refine s_iinc (q := 92) (j := 4) (v := (x4 + 1)) (lv' := [(4, .int (x4 + 1)), (2, .int (x2 + 0)), (0, .ref (eB E + 51)), (1, .int x1), (3, .int x3)]) dX6_uses_89 rfl rfl rfl (Nat.le_of_ble_eq_true rfl) rfl ?_
          refine s_goto (tgt := 33) dX6_uses_92 rfl ?_
          exact t_sub [2, 3, 1, 4, 0] rfl (ih _ _ _ _ _ _ h K)
def G_X6_uses_51_25 : Nat → Int32 → Int32 → Int32 → ST → Option (Int32 × ST)
  | 0, _, _, _, _ => none
  | n + 1, x1, x2, x3, S => (if x1 ≤ x3 then some (x2, S) else (G_X6_uses_51_33 3000 x1 x2 x3 0 S).bind fun q18 => ((G_X6_night_51  q18.2.2.2).bind fun q19 => G_X6_uses_51_25 n q18.1 q18.2.1 (q18.2.2.1 + 1) q19.2))
set_option maxHeartbeats 4000000 in
set_option maxRecDepth 100000 in
theorem T_X6_uses_51_25 (E : EV) : ∀ (n : Nat) (x1 : Int32) (x2 : Int32) (x3 : Int32) (S : ST), ∀ (w : (Int32 × ST)), G_X6_uses_51_25 n x1 x2 x3 S = some w → ∀ {Q : Option Value → ST → Prop}, SS E mX6_uses 105 [(0, .ref (eB E + 51)), (2, .int w.1)] [] w.2 Q → SS E mX6_uses 25 [(0, .ref (eB E + 51)), (1, .int x1), (2, .int x2), (3, .int x3)] [] S Q := by
  intro n
  induction n with
  | zero =>
    intro x1 x2 x3 S w h
    cases h
  | succ n ih =>
    intro x1 x2 x3 S w h Q K
    unfold G_X6_uses_51_25 at h
    refine s_iload_n (q := 26) dX6_uses_25 rfl rfl 3 rfl ?_
    refine s_iload_n (q := 27) dX6_uses_26 rfl rfl 1 rfl ?_
    refine s_icmp_ge (q := 30) (tgt := 105) dX6_uses_27 rfl rfl (fun hb4 => ?_) (fun hb4 => ?_)
    · rw [if_pos hb4] at h
      obtain rfl := Option.some.inj h
      exact t_sub [0, 2] rfl K
    · rw [if_neg hb4] at h
      refine s_iconst (q := 31) (v := 0) dX6_uses_30 rfl rfl ?_
      refine s_istore (q := 33) (lv' := [(4, .int 0), (0, .ref (eB E + 51)), (1, .int x1), (2, .int x2), (3, .int x3)]) dX6_uses_31 rfl (Nat.le_of_ble_eq_true rfl) rfl ?_
      obtain ⟨q18, hc18, h⟩ := bnd h
      try dsimp only at h
      refine t_sub [1, 2, 3, 4, 0] rfl (T_X6_uses_51_33 E _ _ _ _ _ _ _ hc18 ?_)
      refine s_aload_n (q := 96) dX6_uses_95 rfl rfl 0 rfl ?_
      obtain ⟨q19, hc19, h⟩ := bnd h
      try dsimp only at h
      refine t_callV (q := 99) (N := mX6_night) (a := eB E + 51) [] dX6_uses_96 rfl nkX6_night vkX6_night lX6_88 ⟨Nat.le_of_ble_eq_true rfl, Nat.le_of_ble_eq_true rfl⟩ (rc_obj (k := 51) rfl rfl) rfl rfl (Nat.le_of_ble_eq_true rfl) (Nat.le_of_ble_eq_true rfl) (T_X6_night_51 E  hc19) ?_
      refine s_iinc (q := 102) (j := 3) (v := (q18.2.2.1 + 1)) (lv' := [(3, .int (q18.2.2.1 + 1)), (0, .ref (eB E + 51)), (1, .int q18.1), (2, .int q18.2.1)]) dX6_uses_99 rfl rfl rfl (Nat.le_of_ble_eq_true rfl) rfl ?_
      refine s_goto (tgt := 25) dX6_uses_102 rfl ?_
      exact t_sub [1, 2, 3, 0] rfl (ih _ _ _ _ _ h K)
def G_X6_uses_51 (x1 : Int32) (S : ST) : Option (Int32 × ST) := ((G_X6_in1 x1 0 200 S).bind fun q1 => (if q1.1 = 0 then ((G_X6_no_51 0 q1.2).bind fun q22 => some (q22.1, q22.2)) else ((G_X6_setsAside_51  q1.2).bind fun q3 => (G_X6_uses_51_25 3000 x1 0 0 q3.2).bind fun q20 => ((G_X6_laysBack_51  q20.2).bind fun q21 => some (q20.1, q21.2)))))
set_option maxHeartbeats 4000000 in
set_option maxRecDepth 100000 in
theorem T_X6_uses_51 (E : EV) (x1 : Int32) {S : ST} {w : (Int32 × ST)} (h : G_X6_uses_51 x1 S = some w) : SD E mX6_uses 0 [(0, .ref (eB E + 51)), (1, .int x1)] [] S (some (.int w.1)) w.2 := by
  unfold G_X6_uses_51 at h
  refine s_iload_n (q := 1) dX6_uses_0 rfl rfl 1 rfl ?_
  refine s_iconst (q := 2) (v := 0) dX6_uses_1 rfl rfl ?_
  refine s_sipush (q := 5) (v := 200) dX6_uses_2 rfl rfl ?_
  obtain ⟨q1, hc1, h⟩ := bnd h
  try dsimp only at h
  refine t_callS (q := 8) (N := mX6_in1) [.int x1, .int 0, .int 200] dX6_uses_5 rfl nkX6_in1 sX6_in1 lX6_54 ⟨Nat.le_of_ble_eq_true rfl, Nat.le_of_ble_eq_true rfl⟩ rfl rfl (Nat.le_of_ble_eq_true rfl) (Nat.le_of_ble_eq_true rfl) (T_X6_in1 E _ _ _ hc1) ?_
  refine s_if_ne (q := 11) (tgt := 17) dX6_uses_8 rfl rfl (fun hb2 => ?_) (fun hb2 => ?_)
  · rw [if_neg hb2] at h
    refine s_aload_n (q := 18) dX6_uses_17 rfl rfl 0 rfl ?_
    obtain ⟨q3, hc3, h⟩ := bnd h
    try dsimp only at h
    refine t_callV (q := 21) (N := mX6_setsAside) (a := eB E + 51) [] dX6_uses_18 rfl nkX6_setsAside vkX6_setsAside lX6_133 ⟨Nat.le_of_ble_eq_true rfl, Nat.le_of_ble_eq_true rfl⟩ (rc_obj (k := 51) rfl rfl) rfl rfl (Nat.le_of_ble_eq_true rfl) (Nat.le_of_ble_eq_true rfl) (T_X6_setsAside_51 E  hc3) ?_
    refine s_iconst (q := 22) (v := 0) dX6_uses_21 rfl rfl ?_
    refine s_istore_n (q := 23) (lv' := [(2, .int 0), (0, .ref (eB E + 51)), (1, .int x1)]) dX6_uses_22 rfl rfl (Nat.le_of_ble_eq_true rfl) rfl ?_
    refine s_iconst (q := 24) (v := 0) dX6_uses_23 rfl rfl ?_
    refine s_istore_n (q := 25) (lv' := [(3, .int 0), (2, .int 0), (0, .ref (eB E + 51)), (1, .int x1)]) dX6_uses_24 rfl rfl (Nat.le_of_ble_eq_true rfl) rfl ?_
    obtain ⟨q20, hc20, h⟩ := bnd h
    try dsimp only at h
    refine t_sub [2, 3, 1, 0] rfl (T_X6_uses_51_25 E _ _ _ _ _ _ hc20 ?_)
    refine s_aload_n (q := 106) dX6_uses_105 rfl rfl 0 rfl ?_
    obtain ⟨q21, hc21, h⟩ := bnd h
    try dsimp only at h
    refine t_callV (q := 109) (N := mX6_laysBack) (a := eB E + 51) [] dX6_uses_106 rfl nkX6_laysBack vkX6_laysBack lX6_136 ⟨Nat.le_of_ble_eq_true rfl, Nat.le_of_ble_eq_true rfl⟩ (rc_obj (k := 51) rfl rfl) rfl rfl (Nat.le_of_ble_eq_true rfl) (Nat.le_of_ble_eq_true rfl) (T_X6_laysBack_51 E  hc21) ?_
    refine s_iload_n (q := 110) dX6_uses_109 rfl rfl 1 rfl ?_
    obtain rfl := Option.some.inj h
    exact t_iret dX6_uses_110 rfl rfl
  · rw [if_pos hb2] at h
    refine s_aload_n (q := 12) dX6_uses_11 rfl rfl 0 rfl ?_
    refine s_iconst (q := 13) (v := 0) dX6_uses_12 rfl rfl ?_
    obtain ⟨q22, hc22, h⟩ := bnd h
    try dsimp only at h
    refine t_callV (q := 16) (N := mX6_no) (a := eB E + 51) [.int 0] dX6_uses_13 rfl nkX6_no vkX6_no lX6_94 ⟨Nat.le_of_ble_eq_true rfl, Nat.le_of_ble_eq_true rfl⟩ (rc_obj (k := 51) rfl rfl) rfl rfl (Nat.le_of_ble_eq_true rfl) (Nat.le_of_ble_eq_true rfl) (T_X6_no_51 E _ hc22) ?_
    obtain rfl := Option.some.inj h
    exact t_iret dX6_uses_16 rfl rfl
-- X5_isSetOfStars
def G_X5_isSetOfStars_0 (x1 : Int32) (S : ST) : Option (Int32 × ST) := ((G_X5_isBelow x1 (1 <<< ((S.1 1 0) &&& 31)) S).bind fun q1 => (if bitB q1.1 = true then some (q1.1, q1.2) else none))
set_option maxHeartbeats 4000000 in
set_option maxRecDepth 100000 in
theorem T_X5_isSetOfStars_0 (E : EV) (x1 : Int32) {S : ST} {w : (Int32 × ST)} (h : G_X5_isSetOfStars_0 x1 S = some w) : SD E mX5_isSetOfStars 0 [(0, .ref (eB E + 0)), (1, .int x1)] [] S (some (.int w.1)) w.2 := by
  unfold G_X5_isSetOfStars_0 at h
  refine s_iload_n (q := 1) dX5_isSetOfStars_0 rfl rfl 1 rfl ?_
  refine s_iconst (q := 2) (v := 1) dX5_isSetOfStars_1 rfl rfl ?_
  refine s_aload_n (q := 3) dX5_isSetOfStars_2 rfl rfl 0 rfl ?_
  refine t_getR (q := 6) (k := 0) (f := 0) (t := 1) dX5_isSetOfStars_3 rfl rfl rfl rfl inX5 (Nat.le_of_ble_eq_true rfl) fX5_10 ?_
  refine t_getI (q := 9) (k := 1) (f := 0) (v := (S.1 1 0)) dX5_isSetOfStars_6 rfl rfl rfl rfl inX1 (Nat.le_of_ble_eq_true rfl) fX5_65 rfl ?_
  refine s_ishl (q := 10) dX5_isSetOfStars_9 rfl ?_
  obtain ⟨q1, hc1, h⟩ := bnd h
  try dsimp only at h
  refine t_callS (q := 13) (N := mX5_isBelow) [.int x1, .int (1 <<< ((S.1 1 0) &&& 31))] dX5_isSetOfStars_10 rfl nkX5_isBelow sX5_isBelow lX5_57 ⟨Nat.le_of_ble_eq_true rfl, Nat.le_of_ble_eq_true rfl⟩ rfl rfl (Nat.le_of_ble_eq_true rfl) (Nat.le_of_ble_eq_true rfl) (T_X5_isBelow E _ _ hc1) ?_
  obtain ⟨hg2, h⟩ := chk_some h
  obtain rfl := Option.some.inj h
  exact t_zret dX5_isSetOfStars_13 rfl (bitB_z hg2) rfl
-- X4_insert
def G_X4_insert_35_3 : Nat → Int32 → Int32 → Int32 → ST → Option (Int32 × Int32 × Int32 × ST)
  | 0, _, _, _, _ => none
  | n + 1, x1, x2, x4, S => (if x4 ≤ 0 then some (x1, x2, x4, S) else (if inB (x4 - 1) 10 = true then (if (S.1 37 ((x4 - 1).toNatClampNeg)) ≤ x2 then some (x1, x2, x4, S) else (if inB (x4 - 1) 10 = true then (if inB x4 10 = true then (if inB (x4 - 1) 10 = true then (if inB x4 10 = true then G_X4_insert_35_3 n x1 x2 (x4 + (-1)) (wr (wr S 36 x4.toNatClampNeg (S.1 36 ((x4 - 1).toNatClampNeg))) 37 x4.toNatClampNeg (S.1 37 ((x4 - 1).toNatClampNeg))) else none) else none) else none) else none)) else none))
set_option maxHeartbeats 4000000 in
set_option maxRecDepth 100000 in
theorem T_X4_insert_35_3 (E : EV) : ∀ (n : Nat) (x1 : Int32) (x2 : Int32) (x4 : Int32) (S : ST), ∀ (w : (Int32 × Int32 × Int32 × ST)), G_X4_insert_35_3 n x1 x2 x4 S = some w → ∀ {Q : Option Value → ST → Prop}, SS E mX4_insert 59 [(0, .ref (eB E + 35)), (1, .int w.1), (2, .int w.2.1), (4, .int w.2.2.1)] [] w.2.2.2 Q → SS E mX4_insert 3 [(0, .ref (eB E + 35)), (1, .int x1), (2, .int x2), (4, .int x4)] [] S Q := by
  intro n
  induction n with
  | zero =>
    intro x1 x2 x4 S w h
    cases h
  | succ n ih =>
    intro x1 x2 x4 S w h Q K
    unfold G_X4_insert_35_3 at h
    refine s_iload (q := 5) dX4_insert_3 rfl 3 rfl ?_
    refine s_if_le (q := 8) (tgt := 59) dX4_insert_5 rfl rfl (fun hb1 => ?_) (fun hb1 => ?_)
    · rw [if_pos hb1] at h
      obtain rfl := Option.some.inj h
      exact t_sub [0, 1, 2, 3] rfl K
    · rw [if_neg hb1] at h
      refine s_aload_n (q := 9) dX4_insert_8 rfl rfl 0 rfl ?_
      refine t_getR (q := 12) (k := 35) (f := 1) (t := 37) dX4_insert_9 rfl rfl rfl rfl inX4 (Nat.le_of_ble_eq_true rfl) fX4_15 ?_
      refine s_iload (q := 14) dX4_insert_12 rfl 3 rfl ?_
      refine s_iconst (q := 15) (v := 1) dX4_insert_14 rfl rfl ?_
      refine s_isub (q := 16) dX4_insert_15 rfl ?_
      obtain ⟨hg2, h⟩ := chk_some h
      refine u_iald (q := 17) (k := 37) (v := (S.1 37 ((x4 - 1).toNatClampNeg))) dX4_insert_16 rfl rfl (inB_in hg2) rfl rfl ?_
      refine s_iload_n (q := 18) dX4_insert_17 rfl rfl 2 rfl ?_
      refine s_icmp_le (q := 21) (tgt := 59) dX4_insert_18 rfl rfl (fun hb3 => ?_) (fun hb3 => ?_)
      · rw [if_pos hb3] at h
        obtain rfl := Option.some.inj h
        exact t_sub [0, 1, 2, 3] rfl K
      · rw [if_neg hb3] at h
        refine s_aload_n (q := 22) dX4_insert_21 rfl rfl 0 rfl ?_
        refine t_getR (q := 25) (k := 35) (f := 0) (t := 36) dX4_insert_22 rfl rfl rfl rfl inX4 (Nat.le_of_ble_eq_true rfl) fX4_9 ?_
        refine s_iload (q := 27) dX4_insert_25 rfl 3 rfl ?_
        refine s_aload_n (q := 28) dX4_insert_27 rfl rfl 0 rfl ?_
        refine t_getR (q := 31) (k := 35) (f := 0) (t := 36) dX4_insert_28 rfl rfl rfl rfl inX4 (Nat.le_of_ble_eq_true rfl) fX4_9 ?_
        refine s_iload (q := 33) dX4_insert_31 rfl 3 rfl ?_
        refine s_iconst (q := 34) (v := 1) dX4_insert_33 rfl rfl ?_
        refine s_isub (q := 35) dX4_insert_34 rfl ?_
        obtain ⟨hg4, h⟩ := chk_some h
        refine u_iald (q := 36) (k := 36) (v := (S.1 36 ((x4 - 1).toNatClampNeg))) dX4_insert_35 rfl rfl (inB_in hg4) rfl rfl ?_
        obtain ⟨hg5, h⟩ := chk_some h
        refine u_iast (q := 37) (k := 36) dX4_insert_36 rfl rfl (inB_in hg5) rfl ?_
        refine s_aload_n (q := 38) dX4_insert_37 rfl rfl 0 rfl ?_
        refine t_getR (q := 41) (k := 35) (f := 1) (t := 37) dX4_insert_38 rfl rfl rfl rfl inX4 (Nat.le_of_ble_eq_true rfl) fX4_15 ?_
        refine s_iload (q := 43) dX4_insert_41 rfl 3 rfl ?_
        refine s_aload_n (q := 44) dX4_insert_43 rfl rfl 0 rfl ?_
        refine t_getR (q := 47) (k := 35) (f := 1) (t := 37) dX4_insert_44 rfl rfl rfl rfl inX4 (Nat.le_of_ble_eq_true rfl) fX4_15 ?_
        refine s_iload (q := 49) dX4_insert_47 rfl 3 rfl ?_
        refine s_iconst (q := 50) (v := 1) dX4_insert_49 rfl rfl ?_
        refine s_isub (q := 51) dX4_insert_50 rfl ?_
        obtain ⟨hg6, h⟩ := chk_some h
        refine u_iald (q := 52) (k := 37) (v := (S.1 37 ((x4 - 1).toNatClampNeg))) dX4_insert_51 rfl rfl (inB_in hg6) rfl rfl ?_
        obtain ⟨hg7, h⟩ := chk_some h
        refine u_iast (q := 53) (k := 37) dX4_insert_52 rfl rfl (inB_in hg7) rfl ?_
        refine s_iinc (q := 56) (j := 3) (v := (x4 + (-1))) (lv' := [(4, .int (x4 + (-1))), (0, .ref (eB E + 35)), (1, .int x1), (2, .int x2)]) dX4_insert_53 rfl rfl rfl (Nat.le_of_ble_eq_true rfl) rfl ?_
        refine s_goto (tgt := 3) dX4_insert_56 rfl ?_
        exact t_sub [1, 2, 3, 0] rfl (ih _ _ _ _ _ h K)
def G_X4_insert_35_59 (x1 : Int32) (x2 : Int32) (x4 : Int32) (S : ST) : Option (Unit × ST) := (if inB x4 10 = true then (if inB x4 10 = true then some ((), (wr (wr S 36 x4.toNatClampNeg x1) 37 x4.toNatClampNeg x2)) else none) else none)
set_option maxHeartbeats 4000000 in
set_option maxRecDepth 100000 in
theorem T_X4_insert_35_59 (E : EV) (x1 : Int32) (x2 : Int32) (x4 : Int32) {S : ST} {w : (Unit × ST)} (h : G_X4_insert_35_59 x1 x2 x4 S = some w) : SD E mX4_insert 59 [(0, .ref (eB E + 35)), (1, .int x1), (2, .int x2), (4, .int x4)] [] S none w.2 := by
  unfold G_X4_insert_35_59 at h
  refine s_aload_n (q := 60) dX4_insert_59 rfl rfl 0 rfl ?_
  refine t_getR (q := 63) (k := 35) (f := 0) (t := 36) dX4_insert_60 rfl rfl rfl rfl inX4 (Nat.le_of_ble_eq_true rfl) fX4_9 ?_
  refine s_iload (q := 65) dX4_insert_63 rfl 3 rfl ?_
  refine s_iload_n (q := 66) dX4_insert_65 rfl rfl 1 rfl ?_
  obtain ⟨hg9, h⟩ := chk_some h
  refine u_iast (q := 67) (k := 36) dX4_insert_66 rfl rfl (inB_in hg9) rfl ?_
  refine s_aload_n (q := 68) dX4_insert_67 rfl rfl 0 rfl ?_
  refine t_getR (q := 71) (k := 35) (f := 1) (t := 37) dX4_insert_68 rfl rfl rfl rfl inX4 (Nat.le_of_ble_eq_true rfl) fX4_15 ?_
  refine s_iload (q := 73) dX4_insert_71 rfl 3 rfl ?_
  refine s_iload_n (q := 74) dX4_insert_73 rfl rfl 2 rfl ?_
  obtain ⟨hg10, h⟩ := chk_some h
  refine u_iast (q := 75) (k := 37) dX4_insert_74 rfl rfl (inB_in hg10) rfl ?_
  obtain rfl := Option.some.inj h
  exact t_vret dX4_insert_75 rfl rfl
def G_X4_insert_35 (x1 : Int32) (x2 : Int32) (x3 : Int32) (S : ST) : Option (Unit × ST) := (G_X4_insert_35_3 3000 x1 x2 x3 S).bind fun q8 => G_X4_insert_35_59 q8.1 q8.2.1 q8.2.2.1 q8.2.2.2
set_option maxHeartbeats 4000000 in
set_option maxRecDepth 100000 in
theorem T_X4_insert_35 (E : EV) (x1 : Int32) (x2 : Int32) (x3 : Int32) {S : ST} {w : (Unit × ST)} (h : G_X4_insert_35 x1 x2 x3 S = some w) : SD E mX4_insert 0 [(0, .ref (eB E + 35)), (1, .int x1), (2, .int x2), (3, .int x3)] [] S none w.2 := by
  unfold G_X4_insert_35 at h
  refine s_iload_n (q := 1) dX4_insert_0 rfl rfl 3 rfl ?_
  refine s_istore (q := 3) (lv' := [(4, .int x3), (0, .ref (eB E + 35)), (1, .int x1), (2, .int x2), (3, .int x3)]) dX4_insert_1 rfl (Nat.le_of_ble_eq_true rfl) rfl ?_
  obtain ⟨q8, hc8, h⟩ := bnd h
  try dsimp only at h
  refine t_sub [1, 2, 3, 0] rfl (T_X4_insert_35_3 E _ _ _ _ _ _ hc8 ?_)
  exact t_sub [0, 1, 2, 3] rfl (T_X4_insert_35_59 E _ _ _ h)
-- X4_standAt
def G_X4_standAt_35_1_20 : Nat → Int32 → Int32 → ST → Option (ST)
  | 0, _, _, _ => none
  | n + 1, x2, x3, S => (if (S.1 35 2) ≤ x3 then some (S) else (if inB x3 10 = true then ((G_X4_insert_35 x3 (irm (((S.1 3 x3.toNatClampNeg) - x2) + 100) 100) x3 S).bind fun q3 => G_X4_standAt_35_1_20 n x2 (x3 + 1) q3.2) else none))
set_option maxHeartbeats 4000000 in
set_option maxRecDepth 100000 in
theorem T_X4_standAt_35_1_20 (E : EV) : ∀ (n : Nat) (x2 : Int32) (x3 : Int32) (S : ST), ∀ (w : (ST)), G_X4_standAt_35_1_20 n x2 x3 S = some w → ∀ {Q : Option Value → ST → Prop}, SS E mX4_standAt 54 [] [] w Q → SS E mX4_standAt 20 [(0, .ref (eB E + 35)), (1, .ref (eB E + 1)), (2, .int x2), (3, .int x3)] [] S Q := by
  intro n
  induction n with
  | zero =>
    intro x2 x3 S w h
    cases h
  | succ n ih =>
    intro x2 x3 S w h Q K
    unfold G_X4_standAt_35_1_20 at h
    refine s_iload_n (q := 21) dX4_standAt_20 rfl rfl 3 rfl ?_
    refine s_aload_n (q := 22) dX4_standAt_21 rfl rfl 0 rfl ?_
    refine t_getI (q := 25) (k := 35) (f := 2) (v := (S.1 35 2)) dX4_standAt_22 rfl rfl rfl rfl inX4 (Nat.le_of_ble_eq_true rfl) fX4_18 rfl ?_
    refine s_icmp_ge (q := 28) (tgt := 54) dX4_standAt_25 rfl rfl (fun hb1 => ?_) (fun hb1 => ?_)
    · rw [if_pos hb1] at h
      obtain rfl := Option.some.inj h
      exact t_sub [] rfl K
    · rw [if_neg hb1] at h
      refine s_aload_n (q := 29) dX4_standAt_28 rfl rfl 0 rfl ?_
      refine s_iload_n (q := 30) dX4_standAt_29 rfl rfl 3 rfl ?_
      refine s_aload_n (q := 31) dX4_standAt_30 rfl rfl 1 rfl ?_
      refine t_getR (q := 34) (k := 1) (f := 2) (t := 3) dX4_standAt_31 rfl rfl rfl rfl inX1 (Nat.le_of_ble_eq_true rfl) fX4_31 ?_
      refine s_iload_n (q := 35) dX4_standAt_34 rfl rfl 3 rfl ?_
      obtain ⟨hg2, h⟩ := chk_some h
      refine u_iald (q := 36) (k := 3) (v := (S.1 3 x3.toNatClampNeg)) dX4_standAt_35 rfl rfl (inB_in hg2) rfl rfl ?_
      refine s_iload_n (q := 37) dX4_standAt_36 rfl rfl 2 rfl ?_
      refine s_isub (q := 38) dX4_standAt_37 rfl ?_
      refine s_bipush (q := 40) (v := 100) dX4_standAt_38 rfl rfl ?_
      refine s_iadd (q := 41) dX4_standAt_40 rfl ?_
      refine s_bipush (q := 43) (v := 100) dX4_standAt_41 rfl rfl ?_
      refine v_irem (q := 44) dX4_standAt_43 rfl (by decide) ?_
      refine s_iload_n (q := 45) dX4_standAt_44 rfl rfl 3 rfl ?_
      obtain ⟨q3, hc3, h⟩ := bnd h
      try dsimp only at h
      refine t_callV (q := 48) (N := mX4_insert) (a := eB E + 35) [.int x3, .int (irm (((S.1 3 x3.toNatClampNeg) - x2) + 100) 100), .int x3] dX4_standAt_45 rfl nkX4_insert vkX4_insert lX4_34 ⟨Nat.le_of_ble_eq_true rfl, Nat.le_of_ble_eq_true rfl⟩ (rc_obj (k := 35) rfl rfl) rfl rfl (Nat.le_of_ble_eq_true rfl) (Nat.le_of_ble_eq_true rfl) (T_X4_insert_35 E _ _ _ hc3) ?_
      refine s_iinc (q := 51) (j := 3) (v := (x3 + 1)) (lv' := [(3, .int (x3 + 1)), (0, .ref (eB E + 35)), (1, .ref (eB E + 1)), (2, .int x2)]) dX4_standAt_48 rfl rfl rfl (Nat.le_of_ble_eq_true rfl) rfl ?_
      refine s_goto (tgt := 20) dX4_standAt_51 rfl ?_
      exact t_sub [1, 2, 3, 0] rfl (ih _ _ _ _ h K)
def G_X4_standAt_35_1 (x2 : Int32) (S : ST) : Option (Unit × ST) := (G_X4_standAt_35_1_20 3000 x2 0 (wr (wr S 35 2 (S.1 1 0)) 35 3 (S.1 8 2))).bind fun q4 => some ((), q4)
set_option maxHeartbeats 4000000 in
set_option maxRecDepth 100000 in
theorem T_X4_standAt_35_1 (E : EV) (x2 : Int32) {S : ST} {w : (Unit × ST)} (h : G_X4_standAt_35_1 x2 S = some w) : SD E mX4_standAt 0 [(0, .ref (eB E + 35)), (1, .ref (eB E + 1)), (2, .int x2)] [] S none w.2 := by
  unfold G_X4_standAt_35_1 at h
  refine s_aload_n (q := 1) dX4_standAt_0 rfl rfl 0 rfl ?_
  refine s_aload_n (q := 2) dX4_standAt_1 rfl rfl 1 rfl ?_
  refine t_getI (q := 5) (k := 1) (f := 0) (v := (S.1 1 0)) dX4_standAt_2 rfl rfl rfl rfl inX1 (Nat.le_of_ble_eq_true rfl) fX4_25 rfl ?_
  refine t_putI (q := 8) (k := 35) (f := 2) dX4_standAt_5 rfl rfl rfl rfl inX4 tyX4_ok nmX4 (Nat.le_of_ble_eq_true rfl) fX4_18 rfl rfl rfl ?_
  refine s_aload_n (q := 9) dX4_standAt_8 rfl rfl 0 rfl ?_
  refine s_aload_n (q := 10) dX4_standAt_9 rfl rfl 1 rfl ?_
  refine t_getR (q := 13) (k := 1) (f := 7) (t := 8) dX4_standAt_10 rfl rfl rfl rfl inX1 (Nat.le_of_ble_eq_true rfl) fX4_28 ?_
  refine s_iconst (q := 14) (v := 2) dX4_standAt_13 rfl rfl ?_
  refine u_iald (q := 15) (k := 8) (j := 2) (v := (S.1 8 2)) dX4_standAt_14 rfl rfl (inB_in (by decide)) (by decide) rfl ?_
  refine t_putI (q := 18) (k := 35) (f := 3) dX4_standAt_15 rfl rfl rfl rfl inX4 tyX4_ok nmX4 (Nat.le_of_ble_eq_true rfl) fX4_22 rfl rfl rfl ?_
  refine s_iconst (q := 19) (v := 0) dX4_standAt_18 rfl rfl ?_
  refine s_istore_n (q := 20) (lv' := [(3, .int 0), (0, .ref (eB E + 35)), (1, .ref (eB E + 1)), (2, .int x2)]) dX4_standAt_19 rfl rfl (Nat.le_of_ble_eq_true rfl) rfl ?_
  obtain ⟨q4, hc4, h⟩ := bnd h
  try dsimp only at h
  refine t_sub [1, 2, 3, 0] rfl (T_X4_standAt_35_1_20 E _ _ _ _ _ hc4 ?_)
  obtain rfl := Option.some.inj h
  exact t_vret dX4_standAt_54 rfl rfl
-- X4_stepsBy
def G_X4_stepsBy_35_8 : Nat → Int32 → Int32 → Int32 → Int32 → ST → Option (Int32 × Int32 × Int32 × ST)
  | 0, _, _, _, _, _ => none
  | n + 1, x1, x2, x3, x4, S => (if (S.1 35 2) ≤ x4 then some (x1, x2, x3, S) else (if inB x4 10 = true then (if ((x1 >>> ((S.1 36 x4.toNatClampNeg) &&& 31)) &&& 1) = 1 then (if inB x4 10 = true then (if inB x4 10 = true then G_X4_stepsBy_35_8 n x1 (imn x2 ((x3 + (100 - (S.1 37 x4.toNatClampNeg))) + (imn x3 (100 - (S.1 37 x4.toNatClampNeg))))) (S.1 37 x4.toNatClampNeg) (x4 + 1) S else none) else none) else G_X4_stepsBy_35_8 n x1 x2 x3 (x4 + 1) S) else none))
set_option maxHeartbeats 4000000 in
set_option maxRecDepth 100000 in
theorem T_X4_stepsBy_35_8 (E : EV) : ∀ (n : Nat) (x1 : Int32) (x2 : Int32) (x3 : Int32) (x4 : Int32) (S : ST), ∀ (w : (Int32 × Int32 × Int32 × ST)), G_X4_stepsBy_35_8 n x1 x2 x3 x4 S = some w → ∀ {Q : Option Value → ST → Prop}, SS E mX4_stepsBy 74 [(0, .ref (eB E + 35)), (1, .int w.1), (2, .int w.2.1), (3, .int w.2.2.1)] [] w.2.2.2 Q → SS E mX4_stepsBy 8 [(0, .ref (eB E + 35)), (1, .int x1), (2, .int x2), (3, .int x3), (4, .int x4)] [] S Q := by
  intro n
  induction n with
  | zero =>
    intro x1 x2 x3 x4 S w h
    cases h
  | succ n ih =>
    intro x1 x2 x3 x4 S w h Q K
    unfold G_X4_stepsBy_35_8 at h
    refine s_iload (q := 10) dX4_stepsBy_8 rfl 4 rfl ?_
    refine s_aload_n (q := 11) dX4_stepsBy_10 rfl rfl 0 rfl ?_
    refine t_getI (q := 14) (k := 35) (f := 2) (v := (S.1 35 2)) dX4_stepsBy_11 rfl rfl rfl rfl inX4 (Nat.le_of_ble_eq_true rfl) fX4_18 rfl ?_
    refine s_icmp_ge (q := 17) (tgt := 74) dX4_stepsBy_14 rfl rfl (fun hb1 => ?_) (fun hb1 => ?_)
    · rw [if_pos hb1] at h
      obtain rfl := Option.some.inj h
      exact t_sub [0, 1, 2, 3] rfl K
    · rw [if_neg hb1] at h
      refine s_iload_n (q := 18) dX4_stepsBy_17 rfl rfl 1 rfl ?_
      refine s_aload_n (q := 19) dX4_stepsBy_18 rfl rfl 0 rfl ?_
      refine t_getR (q := 22) (k := 35) (f := 0) (t := 36) dX4_stepsBy_19 rfl rfl rfl rfl inX4 (Nat.le_of_ble_eq_true rfl) fX4_9 ?_
      refine s_iload (q := 24) dX4_stepsBy_22 rfl 4 rfl ?_
      obtain ⟨hg2, h⟩ := chk_some h
      refine u_iald (q := 25) (k := 36) (v := (S.1 36 x4.toNatClampNeg)) dX4_stepsBy_24 rfl rfl (inB_in hg2) rfl rfl ?_
      refine s_ishr (q := 26) dX4_stepsBy_25 rfl ?_
      refine s_iconst (q := 27) (v := 1) dX4_stepsBy_26 rfl rfl ?_
      refine s_iand (q := 28) dX4_stepsBy_27 rfl ?_
      refine s_iconst (q := 29) (v := 1) dX4_stepsBy_28 rfl rfl ?_
      refine s_icmp_ne (q := 32) (tgt := 68) dX4_stepsBy_29 rfl rfl (fun hb3 => ?_) (fun hb3 => ?_)
      · rw [if_neg hb3] at h
        refine s_iinc (q := 71) (j := 4) (v := (x4 + 1)) (lv' := [(4, .int (x4 + 1)), (0, .ref (eB E + 35)), (1, .int x1), (2, .int x2), (3, .int x3)]) dX4_stepsBy_68 rfl rfl rfl (Nat.le_of_ble_eq_true rfl) rfl ?_
        refine s_goto (tgt := 8) dX4_stepsBy_71 rfl ?_
        exact t_sub [1, 2, 3, 4, 0] rfl (ih _ _ _ _ _ _ h K)
      · rw [if_pos hb3] at h
        refine s_bipush (q := 34) (v := 100) dX4_stepsBy_32 rfl rfl ?_
        refine s_aload_n (q := 35) dX4_stepsBy_34 rfl rfl 0 rfl ?_
        refine t_getR (q := 38) (k := 35) (f := 1) (t := 37) dX4_stepsBy_35 rfl rfl rfl rfl inX4 (Nat.le_of_ble_eq_true rfl) fX4_15 ?_
        refine s_iload (q := 40) dX4_stepsBy_38 rfl 4 rfl ?_
        obtain ⟨hg4, h⟩ := chk_some h
        refine u_iald (q := 41) (k := 37) (v := (S.1 37 x4.toNatClampNeg)) dX4_stepsBy_40 rfl rfl (inB_in hg4) rfl rfl ?_
        refine s_isub (q := 42) dX4_stepsBy_41 rfl ?_
        refine s_istore (q := 44) (lv' := [(5, .int (100 - (S.1 37 x4.toNatClampNeg))), (0, .ref (eB E + 35)), (1, .int x1), (2, .int x2), (3, .int x3), (4, .int x4)]) dX4_stepsBy_42 rfl (Nat.le_of_ble_eq_true rfl) rfl ?_
        refine s_iload_n (q := 45) dX4_stepsBy_44 rfl rfl 3 rfl ?_
        refine s_iload_n (q := 46) dX4_stepsBy_45 rfl rfl 4 rfl ?_
        refine s_iload (q := 48) dX4_stepsBy_46 rfl 0 rfl ?_
        refine s_iadd (q := 49) dX4_stepsBy_48 rfl ?_
        refine s_iload_n (q := 50) dX4_stepsBy_49 rfl rfl 4 rfl ?_
        refine s_iload (q := 52) dX4_stepsBy_50 rfl 0 rfl ?_
        refine v_min (q := 55) dX4_stepsBy_52 rfl lX4_39 (Nat.le_of_ble_eq_true rfl) (Nat.le_of_ble_eq_true rfl) ?_
        refine s_iadd (q := 56) dX4_stepsBy_55 rfl ?_
        refine v_min (q := 59) dX4_stepsBy_56 rfl lX4_39 (Nat.le_of_ble_eq_true rfl) (Nat.le_of_ble_eq_true rfl) ?_
        refine s_istore_n (q := 60) (lv' := [(2, .int (imn x2 ((x3 + (100 - (S.1 37 x4.toNatClampNeg))) + (imn x3 (100 - (S.1 37 x4.toNatClampNeg)))))), (5, .int (100 - (S.1 37 x4.toNatClampNeg))), (0, .ref (eB E + 35)), (1, .int x1), (3, .int x3), (4, .int x4)]) dX4_stepsBy_59 rfl rfl (Nat.le_of_ble_eq_true rfl) rfl ?_
        refine s_aload_n (q := 61) dX4_stepsBy_60 rfl rfl 2 rfl ?_
        refine t_getR (q := 64) (k := 35) (f := 1) (t := 37) dX4_stepsBy_61 rfl rfl rfl rfl inX4 (Nat.le_of_ble_eq_true rfl) fX4_15 ?_
        refine s_iload (q := 66) dX4_stepsBy_64 rfl 5 rfl ?_
        obtain ⟨hg5, h⟩ := chk_some h
        refine u_iald (q := 67) (k := 37) (v := (S.1 37 x4.toNatClampNeg)) dX4_stepsBy_66 rfl rfl (inB_in hg5) rfl rfl ?_
        refine s_istore_n (q := 68) (lv' := [(3, .int (S.1 37 x4.toNatClampNeg)), (2, .int (imn x2 ((x3 + (100 - (S.1 37 x4.toNatClampNeg))) + (imn x3 (100 - (S.1 37 x4.toNatClampNeg)))))), (5, .int (100 - (S.1 37 x4.toNatClampNeg))), (0, .ref (eB E + 35)), (1, .int x1), (4, .int x4)]) dX4_stepsBy_67 rfl rfl (Nat.le_of_ble_eq_true rfl) rfl ?_
        refine s_iinc (q := 71) (j := 5) (v := (x4 + 1)) (lv' := [(4, .int (x4 + 1)), (3, .int (S.1 37 x4.toNatClampNeg)), (2, .int (imn x2 ((x3 + (100 - (S.1 37 x4.toNatClampNeg))) + (imn x3 (100 - (S.1 37 x4.toNatClampNeg)))))), (5, .int (100 - (S.1 37 x4.toNatClampNeg))), (0, .ref (eB E + 35)), (1, .int x1)]) dX4_stepsBy_68 rfl rfl rfl (Nat.le_of_ble_eq_true rfl) rfl ?_
        refine s_goto (tgt := 8) dX4_stepsBy_71 rfl ?_
        exact t_sub [4, 5, 2, 1, 0] rfl (ih _ _ _ _ _ _ h K)
def G_X4_stepsBy_35 (x1 : Int32) (S : ST) : Option (Int32 × ST) := (G_X4_stepsBy_35_8 3000 x1 1000000 0 0 S).bind fun q6 => ((G_J6_bitCount_0f7a4 q6.1 q6.2.2.2).bind fun q7 => some (((imn q6.2.1 q6.2.2.1) + ((q6.2.2.2.1 35 3) * q7.1)), q7.2))
set_option maxHeartbeats 4000000 in
set_option maxRecDepth 100000 in
theorem T_X4_stepsBy_35 (E : EV) (x1 : Int32) {S : ST} {w : (Int32 × ST)} (h : G_X4_stepsBy_35 x1 S = some w) : SD E mX4_stepsBy 0 [(0, .ref (eB E + 35)), (1, .int x1)] [] S (some (.int w.1)) w.2 := by
  unfold G_X4_stepsBy_35 at h
  refine s_ldc (q := 2) (v := 1000000) dX4_stepsBy_0 rfl kX4_38 ?_
  refine s_istore_n (q := 3) (lv' := [(2, .int 1000000), (0, .ref (eB E + 35)), (1, .int x1)]) dX4_stepsBy_2 rfl rfl (Nat.le_of_ble_eq_true rfl) rfl ?_
  refine s_iconst (q := 4) (v := 0) dX4_stepsBy_3 rfl rfl ?_
  refine s_istore_n (q := 5) (lv' := [(3, .int 0), (2, .int 1000000), (0, .ref (eB E + 35)), (1, .int x1)]) dX4_stepsBy_4 rfl rfl (Nat.le_of_ble_eq_true rfl) rfl ?_
  refine s_iconst (q := 6) (v := 0) dX4_stepsBy_5 rfl rfl ?_
  refine s_istore (q := 8) (lv' := [(4, .int 0), (3, .int 0), (2, .int 1000000), (0, .ref (eB E + 35)), (1, .int x1)]) dX4_stepsBy_6 rfl (Nat.le_of_ble_eq_true rfl) rfl ?_
  obtain ⟨q6, hc6, h⟩ := bnd h
  try dsimp only at h
  refine t_sub [3, 4, 2, 1, 0] rfl (T_X4_stepsBy_35_8 E _ _ _ _ _ _ _ hc6 ?_)
  refine s_iload_n (q := 75) dX4_stepsBy_74 rfl rfl 2 rfl ?_
  refine s_iload_n (q := 76) dX4_stepsBy_75 rfl rfl 3 rfl ?_
  refine v_min (q := 79) dX4_stepsBy_76 rfl lX4_39 (Nat.le_of_ble_eq_true rfl) (Nat.le_of_ble_eq_true rfl) ?_
  refine s_aload_n (q := 80) dX4_stepsBy_79 rfl rfl 0 rfl ?_
  refine t_getI (q := 83) (k := 35) (f := 3) (v := (q6.2.2.2.1 35 3)) dX4_stepsBy_80 rfl rfl rfl rfl inX4 (Nat.le_of_ble_eq_true rfl) fX4_22 rfl ?_
  refine s_iload_n (q := 84) dX4_stepsBy_83 rfl rfl 1 rfl ?_
  obtain ⟨q7, hc7, h⟩ := bnd h
  try dsimp only at h
  refine t_callS (q := 87) (N := mJ6_bitCount_0f7a4) [.int q6.1] dX4_stepsBy_84 rfl nkJ6_bitCount_0f7a4 sJ6_bitCount_0f7a4 lX4_45 ⟨Nat.le_of_ble_eq_true rfl, Nat.le_of_ble_eq_true rfl⟩ rfl rfl (Nat.le_of_ble_eq_true rfl) (Nat.le_of_ble_eq_true rfl) (T_J6_bitCount_0f7a4 E _ hc7) ?_
  refine s_imul (q := 88) dX4_stepsBy_87 rfl ?_
  refine s_iadd (q := 89) dX4_stepsBy_88 rfl ?_
  obtain rfl := Option.some.inj h
  exact t_iret dX4_stepsBy_89 rfl rfl
