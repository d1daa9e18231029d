-- X5_isUnder
def G_X5_isUnder_4 : Nat → Int32 → Int32 → Int32 → ST → Option (Int32 × ST)
  | 0, _, _, _, _ => none
  | n + 1, x1, x2, x3, S => (if (7 : Int32) ≤ x3 then some (0, S) else (if x2 < 0 then some (0, S) else (if x2 = x1 then some (1, S) else ((G_X5_kindOver x2 S).bind fun q4 => G_X5_isUnder_4 n x1 q4.1 (x3 + 1) q4.2))))
set_option maxHeartbeats 4000000 in
set_option maxRecDepth 100000 in
theorem T_X5_isUnder_4 (E : EV) : ∀ (n : Nat) (x1 : Int32) (x2 : Int32) (x3 : Int32) (S : ST) (w : (Int32 × ST)), G_X5_isUnder_4 n x1 x2 x3 S = some w → SD E mX5_isUnder 4 [(1, .int x1), (2, .int x2), (3, .int x3)] [] S (some (.int w.1)) w.2 := by
  intro n
  induction n with
  | zero =>
    intro x1 x2 x3 S w h
    cases h
  | succ n ih =>
    intro x1 x2 x3 S w h
    unfold G_X5_isUnder_4 at h
    refine s_iload_n (q := 5) dX5_isUnder_4 rfl rfl 2 rfl ?_
    refine s_bipush (q := 7) (v := 7) dX5_isUnder_5 rfl rfl ?_
    refine s_icmp_ge (q := 10) (tgt := 32) dX5_isUnder_7 rfl rfl (fun hb1 => ?_) (fun hb1 => ?_)
    · rw [if_pos hb1] at h
      refine s_iconst (q := 33) (v := 0) dX5_isUnder_32 rfl rfl ?_
      obtain rfl := Option.some.inj h
      exact t_zret dX5_isUnder_33 rfl rfl rfl
    · rw [if_neg hb1] at h
      refine s_iload_n (q := 11) dX5_isUnder_10 rfl rfl 1 rfl ?_
      refine s_if_lt (q := 14) (tgt := 32) dX5_isUnder_11 rfl rfl (fun hb2 => ?_) (fun hb2 => ?_)
      · rw [if_pos hb2] at h
        refine s_iconst (q := 33) (v := 0) dX5_isUnder_32 rfl rfl ?_
        obtain rfl := Option.some.inj h
        exact t_zret dX5_isUnder_33 rfl rfl rfl
      · rw [if_neg hb2] at h
        refine s_iload_n (q := 15) dX5_isUnder_14 rfl rfl 1 rfl ?_
        refine s_iload_n (q := 16) dX5_isUnder_15 rfl rfl 0 rfl ?_
        refine s_icmp_ne (q := 19) (tgt := 21) dX5_isUnder_16 rfl rfl (fun hb3 => ?_) (fun hb3 => ?_)
        · rw [if_neg hb3] at h
          refine s_iload_n (q := 22) dX5_isUnder_21 rfl rfl 1 rfl ?_
          obtain ⟨q4, hc4, h⟩ := bnd h
          try dsimp only at h
          refine t_callS (q := 25) (N := mX5_kindOver) [.int x2] dX5_isUnder_22 rfl nkX5_kindOver sX5_kindOver lX5_285 ⟨Nat.le_of_ble_eq_true rfl, Nat.le_of_ble_eq_true rfl⟩ rfl rfl (Nat.le_of_ble_eq_true rfl) (Nat.le_of_ble_eq_true rfl) (T_X5_kindOver E _ hc4) ?_
          refine s_istore_n (q := 26) (lv' := [(2, .int q4.1), (1, .int x1), (3, .int x3)]) dX5_isUnder_25 rfl rfl (Nat.le_of_ble_eq_true rfl) rfl ?_
          refine s_iinc (q := 29) (j := 2) (v := (x3 + 1)) (lv' := [(3, .int (x3 + 1)), (2, .int q4.1), (1, .int x1)]) dX5_isUnder_26 rfl rfl rfl (Nat.le_of_ble_eq_true rfl) rfl ?_
          refine s_goto (tgt := 4) dX5_isUnder_29 rfl ?_
          exact t_sub [2, 1, 0] rfl (ih _ _ _ _ _ h)
        · rw [if_pos hb3] at h
          refine s_iconst (q := 20) (v := 1) dX5_isUnder_19 rfl rfl ?_
          obtain rfl := Option.some.inj h
          exact t_zret dX5_isUnder_20 rfl rfl rfl
def G_X5_isUnder (x0 : Int32) (x1 : Int32) (S : ST) : Option (Int32 × ST) := G_X5_isUnder_4 3000 x1 x0 0 S
set_option maxHeartbeats 4000000 in
set_option maxRecDepth 100000 in
theorem T_X5_isUnder (E : EV) (x0 : Int32) (x1 : Int32) {S : ST} {w : (Int32 × ST)} (h : G_X5_isUnder x0 x1 S = some w) : SD E mX5_isUnder 0 [(0, .int x0), (1, .int x1)] [] S (some (.int w.1)) w.2 := by
  unfold G_X5_isUnder at h
  refine s_iload_n (q := 1) dX5_isUnder_0 rfl rfl 0 rfl ?_
  refine s_istore_n (q := 2) (lv' := [(2, .int x0), (0, .int x0), (1, .int x1)]) dX5_isUnder_1 rfl rfl (Nat.le_of_ble_eq_true rfl) rfl ?_
  refine s_iconst (q := 3) (v := 0) dX5_isUnder_2 rfl rfl ?_
  refine s_istore_n (q := 4) (lv' := [(3, .int 0), (2, .int x0), (0, .int x0), (1, .int x1)]) dX5_isUnder_3 rfl rfl (Nat.le_of_ble_eq_true rfl) rfl ?_
  exact t_sub [3, 1, 0] rfl (T_X5_isUnder_4 E _ _ _ _ _ _ h)
-- X5_as
def G_X5_as_0 (x1 : Int32) (x2 : Int32) (S : ST) : Option (Int32 × ST) := ((G_X5_isBelow x1 10 S).bind fun q1 => (if q1.1 = 0 then ((G_X5_finding_0 0 q1.2).bind fun q3 => some (q3.1, q3.2)) else ((G_X5_isBelow x2 7 q1.2).bind fun q4 => (if q4.1 = 0 then ((G_X5_finding_0 0 q4.2).bind fun q14 => some (q14.1, q14.2)) else (if inB x1 10 = true then ((G_X5_isBelow (q4.2.1 10 x1.toNatClampNeg) (q4.2.1 1 0) q4.2).bind fun q7 => (if q7.1 = 0 then ((G_X5_finding_0 5 q7.2).bind fun q13 => some (q13.1, q13.2)) else (if inB (q4.2.1 10 x1.toNatClampNeg) 10 = true then ((G_X5_isUnder (q7.2.1 2 ((q4.2.1 10 x1.toNatClampNeg).toNatClampNeg)) x2 q7.2).bind fun q10 => (if q10.1 = 0 then ((G_X5_finding_0 2 q10.2).bind fun q12 => some (q12.1, q12.2)) else some ((q4.2.1 10 x1.toNatClampNeg), q10.2))) else none))) else none)))))
set_option maxHeartbeats 4000000 in
set_option maxRecDepth 100000 in
theorem T_X5_as_0 (E : EV) (x1 : Int32) (x2 : Int32) {S : ST} {w : (Int32 × ST)} (h : G_X5_as_0 x1 x2 S = some w) : SD E mX5_as 0 [(0, .ref (eB E + 0)), (1, .int x1), (2, .int x2)] [] S (some (.int w.1)) w.2 := by
  unfold G_X5_as_0 at h
  refine s_iload_n (q := 1) dX5_as_0 rfl rfl 1 rfl ?_
  refine s_bipush (q := 3) (v := 10) dX5_as_1 rfl rfl ?_
  obtain ⟨q1, hc1, h⟩ := bnd h
  try dsimp only at h
  refine t_callS (q := 6) (N := mX5_isBelow) [.int x1, .int 10] dX5_as_3 rfl nkX5_isBelow sX5_isBelow lX5_57 ⟨Nat.le_of_ble_eq_true rfl, Nat.le_of_ble_eq_true rfl⟩ rfl rfl (Nat.le_of_ble_eq_true rfl) (Nat.le_of_ble_eq_true rfl) (T_X5_isBelow E _ _ hc1) ?_
  refine s_if_eq (q := 9) (tgt := 18) dX5_as_6 rfl rfl (fun hb2 => ?_) (fun hb2 => ?_)
  · rw [if_pos hb2] at h
    refine s_aload_n (q := 19) dX5_as_18 rfl rfl 0 rfl ?_
    refine s_iconst (q := 20) (v := 0) dX5_as_19 rfl rfl ?_
    obtain ⟨q3, hc3, h⟩ := bnd h
    try dsimp only at h
    refine t_callV (q := 23) (N := mX5_finding) (a := eB E + 0) [.int 0] dX5_as_20 rfl nkX5_finding vkX5_finding lX5_61 ⟨Nat.le_of_ble_eq_true rfl, Nat.le_of_ble_eq_true rfl⟩ (rc_obj (k := 0) rfl rfl) rfl rfl (Nat.le_of_ble_eq_true rfl) (Nat.le_of_ble_eq_true rfl) (T_X5_finding_0 E _ hc3) ?_
    obtain rfl := Option.some.inj h
    exact t_iret dX5_as_23 rfl rfl
  · rw [if_neg hb2] at h
    refine s_iload_n (q := 10) dX5_as_9 rfl rfl 2 rfl ?_
    refine s_bipush (q := 12) (v := 7) dX5_as_10 rfl rfl ?_
    obtain ⟨q4, hc4, h⟩ := bnd h
    try dsimp only at h
    refine t_callS (q := 15) (N := mX5_isBelow) [.int x2, .int 7] dX5_as_12 rfl nkX5_isBelow sX5_isBelow lX5_57 ⟨Nat.le_of_ble_eq_true rfl, Nat.le_of_ble_eq_true rfl⟩ rfl rfl (Nat.le_of_ble_eq_true rfl) (Nat.le_of_ble_eq_true rfl) (T_X5_isBelow E _ _ hc4) ?_
    refine s_if_ne (q := 18) (tgt := 24) dX5_as_15 rfl rfl (fun hb5 => ?_) (fun hb5 => ?_)
    · rw [if_neg hb5] at h
      refine s_aload_n (q := 25) dX5_as_24 rfl rfl 0 rfl ?_
      refine t_getR (q := 28) (k := 0) (f := 0) (t := 1) dX5_as_25 rfl rfl rfl rfl inX5 (Nat.le_of_ble_eq_true rfl) fX5_10 ?_
      refine t_getR (q := 31) (k := 1) (f := 11) (t := 10) dX5_as_28 rfl rfl rfl rfl inX1 (Nat.le_of_ble_eq_true rfl) fX5_247 ?_
      refine s_iload_n (q := 32) dX5_as_31 rfl rfl 1 rfl ?_
      obtain ⟨hg6, h⟩ := chk_some h
      refine u_iald (q := 33) (k := 10) (v := (q4.2.1 10 x1.toNatClampNeg)) dX5_as_32 rfl rfl (inB_in hg6) rfl rfl ?_
      refine s_istore_n (q := 34) (lv' := [(3, .int (q4.2.1 10 x1.toNatClampNeg)), (0, .ref (eB E + 0)), (1, .int x1), (2, .int x2)]) dX5_as_33 rfl rfl (Nat.le_of_ble_eq_true rfl) rfl ?_
      refine s_iload_n (q := 35) dX5_as_34 rfl rfl 0 rfl ?_
      refine s_aload_n (q := 36) dX5_as_35 rfl rfl 1 rfl ?_
      refine t_getR (q := 39) (k := 0) (f := 0) (t := 1) dX5_as_36 rfl rfl rfl rfl inX5 (Nat.le_of_ble_eq_true rfl) fX5_10 ?_
      refine t_getI (q := 42) (k := 1) (f := 0) (v := (q4.2.1 1 0)) dX5_as_39 rfl rfl rfl rfl inX1 (Nat.le_of_ble_eq_true rfl) fX5_65 rfl ?_
      obtain ⟨q7, hc7, h⟩ := bnd h
      try dsimp only at h
      refine t_callS (q := 45) (N := mX5_isBelow) [.int (q4.2.1 10 x1.toNatClampNeg), .int (q4.2.1 1 0)] dX5_as_42 rfl nkX5_isBelow sX5_isBelow lX5_57 ⟨Nat.le_of_ble_eq_true rfl, Nat.le_of_ble_eq_true rfl⟩ rfl rfl (Nat.le_of_ble_eq_true rfl) (Nat.le_of_ble_eq_true rfl) (T_X5_isBelow E _ _ hc7) ?_
      refine s_if_ne (q := 48) (tgt := 54) dX5_as_45 rfl rfl (fun hb8 => ?_) (fun hb8 => ?_)
      · rw [if_neg hb8] at h
        refine s_aload_n (q := 55) dX5_as_54 rfl rfl 1 rfl ?_
        refine t_getR (q := 58) (k := 0) (f := 0) (t := 1) dX5_as_55 rfl rfl rfl rfl inX5 (Nat.le_of_ble_eq_true rfl) fX5_10 ?_
        refine t_getR (q := 61) (k := 1) (f := 1) (t := 2) dX5_as_58 rfl rfl rfl rfl inX1 (Nat.le_of_ble_eq_true rfl) fX5_77 ?_
        refine s_iload_n (q := 62) dX5_as_61 rfl rfl 0 rfl ?_
        obtain ⟨hg9, h⟩ := chk_some h
        refine u_iald (q := 63) (k := 2) (v := (q7.2.1 2 ((q4.2.1 10 x1.toNatClampNeg).toNatClampNeg))) dX5_as_62 rfl rfl (inB_in hg9) rfl rfl ?_
        refine s_iload_n (q := 64) dX5_as_63 rfl rfl 3 rfl ?_
        obtain ⟨q10, hc10, h⟩ := bnd h
        try dsimp only at h
        refine t_callS (q := 67) (N := mX5_isUnder) [.int (q7.2.1 2 ((q4.2.1 10 x1.toNatClampNeg).toNatClampNeg)), .int x2] dX5_as_64 rfl nkX5_isUnder sX5_isUnder lX5_250 ⟨Nat.le_of_ble_eq_true rfl, Nat.le_of_ble_eq_true rfl⟩ rfl rfl (Nat.le_of_ble_eq_true rfl) (Nat.le_of_ble_eq_true rfl) (T_X5_isUnder E _ _ hc10) ?_
        refine s_if_eq (q := 70) (tgt := 74) dX5_as_67 rfl rfl (fun hb11 => ?_) (fun hb11 => ?_)
        · rw [if_pos hb11] at h
          refine s_aload_n (q := 75) dX5_as_74 rfl rfl 1 rfl ?_
          refine s_iconst (q := 76) (v := 2) dX5_as_75 rfl rfl ?_
          obtain ⟨q12, hc12, h⟩ := bnd h
          try dsimp only at h
          refine t_callV (q := 79) (N := mX5_finding) (a := eB E + 0) [.int 2] dX5_as_76 rfl nkX5_finding vkX5_finding lX5_61 ⟨Nat.le_of_ble_eq_true rfl, Nat.le_of_ble_eq_true rfl⟩ (rc_obj (k := 0) rfl rfl) rfl rfl (Nat.le_of_ble_eq_true rfl) (Nat.le_of_ble_eq_true rfl) (T_X5_finding_0 E _ hc12) ?_
          obtain rfl := Option.some.inj h
          exact t_iret dX5_as_79 rfl rfl
        · rw [if_neg hb11] at h
          refine s_iload_n (q := 71) dX5_as_70 rfl rfl 0 rfl ?_
          refine s_goto (tgt := 79) dX5_as_71 rfl ?_
          obtain rfl := Option.some.inj h
          exact t_iret dX5_as_79 rfl rfl
      · rw [if_pos hb8] at h
        refine s_aload_n (q := 49) dX5_as_48 rfl rfl 1 rfl ?_
        refine s_iconst (q := 50) (v := 5) dX5_as_49 rfl rfl ?_
        obtain ⟨q13, hc13, h⟩ := bnd h
        try dsimp only at h
        refine t_callV (q := 53) (N := mX5_finding) (a := eB E + 0) [.int 5] dX5_as_50 rfl nkX5_finding vkX5_finding lX5_61 ⟨Nat.le_of_ble_eq_true rfl, Nat.le_of_ble_eq_true rfl⟩ (rc_obj (k := 0) rfl rfl) rfl rfl (Nat.le_of_ble_eq_true rfl) (Nat.le_of_ble_eq_true rfl) (T_X5_finding_0 E _ hc13) ?_
        obtain rfl := Option.some.inj h
        exact t_iret dX5_as_53 rfl rfl
    · rw [if_pos hb5] at h
      refine s_aload_n (q := 19) dX5_as_18 rfl rfl 0 rfl ?_
      refine s_iconst (q := 20) (v := 0) dX5_as_19 rfl rfl ?_
      obtain ⟨q14, hc14, h⟩ := bnd h
      try dsimp only at h
      refine t_callV (q := 23) (N := mX5_finding) (a := eB E + 0) [.int 0] dX5_as_20 rfl nkX5_finding vkX5_finding lX5_61 ⟨Nat.le_of_ble_eq_true rfl, Nat.le_of_ble_eq_true rfl⟩ (rc_obj (k := 0) rfl rfl) rfl rfl (Nat.le_of_ble_eq_true rfl) (Nat.le_of_ble_eq_true rfl) (T_X5_finding_0 E _ hc14) ?_
      obtain rfl := Option.some.inj h
      exact t_iret dX5_as_23 rfl rfl
-- X6_above
def G_X6_above (x0 : Int32) (S : ST) : Option (Int32 × ST) := (if x0 = 3 then some (2, S) else (if x0 = 4 then some (3, S) else (if x0 = 6 then some (1, S) else some (0, S))))
set_option maxHeartbeats 4000000 in
set_option maxRecDepth 100000 in
theorem T_X6_above (E : EV) (x0 : Int32) {S : ST} {w : (Int32 × ST)} (h : G_X6_above x0 S = some w) : SD E mX6_above 0 [(0, .int x0)] [] S (some (.int w.1)) w.2 := by
  unfold G_X6_above at h
  refine s_iload_n (q := 1) dX6_above_0 rfl rfl 0 rfl ?_
  refine s_iconst (q := 2) (v := 3) dX6_above_1 rfl rfl ?_
  refine s_icmp_ne (q := 5) (tgt := 9) dX6_above_2 rfl rfl (fun hb1 => ?_) (fun hb1 => ?_)
  · rw [if_neg hb1] at h
    refine s_iload_n (q := 10) dX6_above_9 rfl rfl 0 rfl ?_
    refine s_iconst (q := 11) (v := 4) dX6_above_10 rfl rfl ?_
    refine s_icmp_ne (q := 14) (tgt := 18) dX6_above_11 rfl rfl (fun hb2 => ?_) (fun hb2 => ?_)
    · rw [if_neg hb2] at h
      refine s_iload_n (q := 19) dX6_above_18 rfl rfl 0 rfl ?_
      refine s_bipush (q := 21) (v := 6) dX6_above_19 rfl rfl ?_
      refine s_icmp_ne (q := 24) (tgt := 28) dX6_above_21 rfl rfl (fun hb3 => ?_) (fun hb3 => ?_)
      · rw [if_neg hb3] at h
        refine s_iconst (q := 29) (v := 0) dX6_above_28 rfl rfl ?_
        obtain rfl := Option.some.inj h
        exact t_iret dX6_above_29 rfl rfl
      · rw [if_pos hb3] at h
        refine s_iconst (q := 25) (v := 1) dX6_above_24 rfl rfl ?_
        refine s_goto (tgt := 29) dX6_above_25 rfl ?_
        obtain rfl := Option.some.inj h
        exact t_iret dX6_above_29 rfl rfl
    · rw [if_pos hb2] at h
      refine s_iconst (q := 15) (v := 3) dX6_above_14 rfl rfl ?_
      refine s_goto (tgt := 29) dX6_above_15 rfl ?_
      obtain rfl := Option.some.inj h
      exact t_iret dX6_above_29 rfl rfl
  · rw [if_pos hb1] at h
    refine s_iconst (q := 6) (v := 2) dX6_above_5 rfl rfl ?_
    refine s_goto (tgt := 29) dX6_above_6 rfl ?_
    obtain rfl := Option.some.inj h
    exact t_iret dX6_above_29 rfl rfl
-- X6_as
def G_X6_as_51_51 : Nat → Int32 → Int32 → Int32 → ST → Option (Int32 × Int32 × Int32 × ST)
  | 0, _, _, _, _ => none
  | n + 1, x2, x3, x4, S => (if x4 = x2 then some (x2, x3, x4, S) else (if x4 = 0 then some (x2, x3, x4, S) else ((G_X6_above x4 S).bind fun q11 => G_X6_as_51_51 n x2 x3 q11.1 q11.2)))
set_option maxHeartbeats 4000000 in
set_option maxRecDepth 100000 in
theorem T_X6_as_51_51 (E : EV) : ∀ (n : Nat) (x2 : Int32) (x3 : Int32) (x4 : Int32) (S : ST), ∀ (w : (Int32 × Int32 × Int32 × ST)), G_X6_as_51_51 n x2 x3 x4 S = some w → ∀ {Q : Option Value → ST → Prop}, SS E mX6_as 72 [(0, .ref (eB E + 51)), (2, .int w.1), (3, .int w.2.1), (4, .int w.2.2.1)] [] w.2.2.2 Q → SS E mX6_as 51 [(0, .ref (eB E + 51)), (2, .int x2), (3, .int x3), (4, .int x4)] [] S Q := by
  intro n
  induction n with
  | zero =>
    intro x2 x3 x4 S w h
    cases h
  | succ n ih =>
    intro x2 x3 x4 S w h Q K
    unfold G_X6_as_51_51 at h
    refine s_iload (q := 53) dX6_as_51 rfl 3 rfl ?_
    refine s_iload_n (q := 54) dX6_as_53 rfl rfl 1 rfl ?_
    refine s_icmp_eq (q := 57) (tgt := 72) dX6_as_54 rfl rfl (fun hb9 => ?_) (fun hb9 => ?_)
    · rw [if_pos hb9] at h
      obtain rfl := Option.some.inj h
      exact t_sub [0, 1, 2, 3] rfl K
    · rw [if_neg hb9] at h
      refine s_iload (q := 59) dX6_as_57 rfl 3 rfl ?_
      refine s_if_eq (q := 62) (tgt := 72) dX6_as_59 rfl rfl (fun hb10 => ?_) (fun hb10 => ?_)
      · rw [if_pos hb10] at h
        obtain rfl := Option.some.inj h
        exact t_sub [0, 1, 2, 3] rfl K
      · rw [if_neg hb10] at h
        refine s_iload (q := 64) dX6_as_62 rfl 3 rfl ?_
        obtain ⟨q11, hc11, h⟩ := bnd h
        try dsimp only at h
        refine t_callS (q := 67) (N := mX6_above) [.int x4] dX6_as_64 rfl nkX6_above sX6_above lX6_256 ⟨Nat.le_of_ble_eq_true rfl, Nat.le_of_ble_eq_true rfl⟩ rfl rfl (Nat.le_of_ble_eq_true rfl) (Nat.le_of_ble_eq_true rfl) (T_X6_above E _ hc11) ?_
        refine s_istore (q := 69) (lv' := [(4, .int q11.1), (0, .ref (eB E + 51)), (2, .int x2), (3, .int x3)]) dX6_as_67 rfl (Nat.le_of_ble_eq_true rfl) rfl ?_
        refine s_goto (tgt := 51) dX6_as_69 rfl ?_
        exact t_sub [1, 2, 3, 0] rfl (ih _ _ _ _ _ h K)
def G_X6_as_51_72 (x2 : Int32) (x3 : Int32) (x4 : Int32) (S : ST) : Option (Int32 × ST) := (if x4 = x2 then some (x3, S) else ((G_X6_no_51 2 S).bind fun q14 => some (q14.1, q14.2)))
set_option maxHeartbeats 4000000 in
set_option maxRecDepth 100000 in
theorem T_X6_as_51_72 (E : EV) (x2 : Int32) (x3 : Int32) (x4 : Int32) {S : ST} {w : (Int32 × ST)} (h : G_X6_as_51_72 x2 x3 x4 S = some w) : SD E mX6_as 72 [(0, .ref (eB E + 51)), (2, .int x2), (3, .int x3), (4, .int x4)] [] S (some (.int w.1)) w.2 := by
  unfold G_X6_as_51_72 at h
  refine s_iload (q := 74) dX6_as_72 rfl 3 rfl ?_
  refine s_iload_n (q := 75) dX6_as_74 rfl rfl 1 rfl ?_
  refine s_icmp_ne (q := 78) (tgt := 82) dX6_as_75 rfl rfl (fun hb13 => ?_) (fun hb13 => ?_)
  · rw [if_neg hb13] at h
    refine s_aload_n (q := 83) dX6_as_82 rfl rfl 0 rfl ?_
    refine s_iconst (q := 84) (v := 2) dX6_as_83 rfl rfl ?_
    obtain ⟨q14, hc14, h⟩ := bnd h
    try dsimp only at h
    refine t_callV (q := 87) (N := mX6_no) (a := eB E + 51) [.int 2] dX6_as_84 rfl nkX6_no vkX6_no lX6_94 ⟨Nat.le_of_ble_eq_true rfl, Nat.le_of_ble_eq_true rfl⟩ (rc_obj (k := 51) rfl rfl) rfl rfl (Nat.le_of_ble_eq_true rfl) (Nat.le_of_ble_eq_true rfl) (T_X6_no_51 E _ hc14) ?_
    obtain rfl := Option.some.inj h
    exact t_iret dX6_as_87 rfl rfl
  · rw [if_pos hb13] at h
    refine s_iload_n (q := 79) dX6_as_78 rfl rfl 2 rfl ?_
    refine s_goto (tgt := 87) dX6_as_79 rfl ?_
    obtain rfl := Option.some.inj h
    exact t_iret dX6_as_87 rfl rfl
def G_X6_as_51 (x1 : Int32) (x2 : Int32) (S : ST) : Option (Int32 × ST) := ((G_X6_isSpot x1 S).bind fun q1 => (if q1.1 = 0 then ((G_X6_no_51 0 q1.2).bind fun q3 => some (q3.1, q3.2)) else ((G_X6_in1 x2 0 6 q1.2).bind fun q4 => (if q4.1 = 0 then ((G_X6_no_51 0 q4.2).bind fun q16 => some (q16.1, q16.2)) else (if inB (62 + x1) 72 = true then (if (0 : Int32) ≤ (q4.2.1 52 ((62 + x1).toNatClampNeg)) then ((G_X6_get_51 (q4.2.1 52 ((62 + x1).toNatClampNeg)) 0 q4.2).bind fun q8 => (G_X6_as_51_51 3000 x2 (q4.2.1 52 ((62 + x1).toNatClampNeg)) q8.1 q8.2).bind fun q12 => G_X6_as_51_72 q12.1 q12.2.1 q12.2.2.1 q12.2.2.2) else ((G_X6_no_51 5 q4.2).bind fun q15 => some (q15.1, q15.2))) else none)))))
set_option maxHeartbeats 4000000 in
set_option maxRecDepth 100000 in
theorem T_X6_as_51 (E : EV) (x1 : Int32) (x2 : Int32) {S : ST} {w : (Int32 × ST)} (h : G_X6_as_51 x1 x2 S = some w) : SD E mX6_as 0 [(0, .ref (eB E + 51)), (1, .int x1), (2, .int x2)] [] S (some (.int w.1)) w.2 := by
  unfold G_X6_as_51 at h
  refine s_iload_n (q := 1) dX6_as_0 rfl rfl 1 rfl ?_
  obtain ⟨q1, hc1, h⟩ := bnd h
  try dsimp only at h
  refine t_callS (q := 4) (N := mX6_isSpot) [.int x1] dX6_as_1 rfl nkX6_isSpot sX6_isSpot lX6_253 ⟨Nat.le_of_ble_eq_true rfl, Nat.le_of_ble_eq_true rfl⟩ rfl rfl (Nat.le_of_ble_eq_true rfl) (Nat.le_of_ble_eq_true rfl) (T_X6_isSpot E _ hc1) ?_
  refine s_if_eq (q := 7) (tgt := 17) dX6_as_4 rfl rfl (fun hb2 => ?_) (fun hb2 => ?_)
  · rw [if_pos hb2] at h
    refine s_aload_n (q := 18) dX6_as_17 rfl rfl 0 rfl ?_
    refine s_iconst (q := 19) (v := 0) dX6_as_18 rfl rfl ?_
    obtain ⟨q3, hc3, h⟩ := bnd h
    try dsimp only at h
    refine t_callV (q := 22) (N := mX6_no) (a := eB E + 51) [.int 0] dX6_as_19 rfl nkX6_no vkX6_no lX6_94 ⟨Nat.le_of_ble_eq_true rfl, Nat.le_of_ble_eq_true rfl⟩ (rc_obj (k := 51) rfl rfl) rfl rfl (Nat.le_of_ble_eq_true rfl) (Nat.le_of_ble_eq_true rfl) (T_X6_no_51 E _ hc3) ?_
    obtain rfl := Option.some.inj h
    exact t_iret dX6_as_22 rfl rfl
  · rw [if_neg hb2] at h
    refine s_iload_n (q := 8) dX6_as_7 rfl rfl 2 rfl ?_
    refine s_iconst (q := 9) (v := 0) dX6_as_8 rfl rfl ?_
    refine s_bipush (q := 11) (v := 6) dX6_as_9 rfl rfl ?_
    obtain ⟨q4, hc4, h⟩ := bnd h
    try dsimp only at h
    refine t_callS (q := 14) (N := mX6_in1) [.int x2, .int 0, .int 6] dX6_as_11 rfl nkX6_in1 sX6_in1 lX6_54 ⟨Nat.le_of_ble_eq_true rfl, Nat.le_of_ble_eq_true rfl⟩ rfl rfl (Nat.le_of_ble_eq_true rfl) (Nat.le_of_ble_eq_true rfl) (T_X6_in1 E _ _ _ hc4) ?_
    refine s_if_ne (q := 17) (tgt := 23) dX6_as_14 rfl rfl (fun hb5 => ?_) (fun hb5 => ?_)
    · rw [if_neg hb5] at h
      refine s_aload_n (q := 24) dX6_as_23 rfl rfl 0 rfl ?_
      refine t_getR (q := 27) (k := 51) (f := 0) (t := 52) dX6_as_24 rfl rfl rfl rfl inX6 (Nat.le_of_ble_eq_true rfl) fX6_9 ?_
      refine s_bipush (q := 29) (v := 62) dX6_as_27 rfl rfl ?_
      refine s_iload_n (q := 30) dX6_as_29 rfl rfl 1 rfl ?_
      refine s_iadd (q := 31) dX6_as_30 rfl ?_
      obtain ⟨hg6, h⟩ := chk_some h
      refine u_iald (q := 32) (k := 52) (v := (q4.2.1 52 ((62 + x1).toNatClampNeg))) dX6_as_31 rfl rfl (inB_in hg6) rfl rfl ?_
      refine s_istore_n (q := 33) (lv' := [(3, .int (q4.2.1 52 ((62 + x1).toNatClampNeg))), (0, .ref (eB E + 51)), (1, .int x1), (2, .int x2)]) dX6_as_32 rfl rfl (Nat.le_of_ble_eq_true rfl) rfl ?_
      refine s_iload_n (q := 34) dX6_as_33 rfl rfl 0 rfl ?_
      refine s_if_ge (q := 37) (tgt := 43) dX6_as_34 rfl rfl (fun hb7 => ?_) (fun hb7 => ?_)
      · rw [if_pos hb7] at h
        refine s_aload_n (q := 44) dX6_as_43 rfl rfl 1 rfl ?_
        refine s_iload_n (q := 45) dX6_as_44 rfl rfl 0 rfl ?_
        refine s_iconst (q := 46) (v := 0) dX6_as_45 rfl rfl ?_
        obtain ⟨q8, hc8, h⟩ := bnd h
        try dsimp only at h
        refine t_callV (q := 49) (N := mX6_get) (a := eB E + 51) [.int (q4.2.1 52 ((62 + x1).toNatClampNeg)), .int 0] dX6_as_46 rfl nkX6_get vkX6_get lX6_58 ⟨Nat.le_of_ble_eq_true rfl, Nat.le_of_ble_eq_true rfl⟩ (rc_obj (k := 51) rfl rfl) rfl rfl (Nat.le_of_ble_eq_true rfl) (Nat.le_of_ble_eq_true rfl) (T_X6_get_51 E _ _ hc8) ?_
        refine s_istore (q := 51) (lv' := [(4, .int q8.1), (3, .int (q4.2.1 52 ((62 + x1).toNatClampNeg))), (0, .ref (eB E + 51)), (1, .int x1), (2, .int x2)]) dX6_as_49 rfl (Nat.le_of_ble_eq_true rfl) rfl ?_
        obtain ⟨q12, hc12, h⟩ := bnd h
        try dsimp only at h
        refine t_sub [2, 4, 1, 0] rfl (T_X6_as_51_51 E _ _ _ _ _ _ hc12 ?_)
        exact t_sub [0, 1, 2, 3] rfl (T_X6_as_51_72 E _ _ _ h)
      · rw [if_neg hb7] at h
        refine s_aload_n (q := 38) dX6_as_37 rfl rfl 1 rfl ?_
        refine s_iconst (q := 39) (v := 5) dX6_as_38 rfl rfl ?_
        obtain ⟨q15, hc15, h⟩ := bnd h
        try dsimp only at h
        refine t_callV (q := 42) (N := mX6_no) (a := eB E + 51) [.int 5] dX6_as_39 rfl nkX6_no vkX6_no lX6_94 ⟨Nat.le_of_ble_eq_true rfl, Nat.le_of_ble_eq_true rfl⟩ (rc_obj (k := 51) rfl rfl) rfl rfl (Nat.le_of_ble_eq_true rfl) (Nat.le_of_ble_eq_true rfl) (T_X6_no_51 E _ hc15) ?_
        obtain rfl := Option.some.inj h
        exact t_iret dX6_as_42 rfl rfl
    · rw [if_pos hb5] at h
      refine s_aload_n (q := 18) dX6_as_17 rfl rfl 0 rfl ?_
      refine s_iconst (q := 19) (v := 0) dX6_as_18 rfl rfl ?_
      obtain ⟨q16, hc16, h⟩ := bnd h
      try dsimp only at h
      refine t_callV (q := 22) (N := mX6_no) (a := eB E + 51) [.int 0] dX6_as_19 rfl nkX6_no vkX6_no lX6_94 ⟨Nat.le_of_ble_eq_true rfl, Nat.le_of_ble_eq_true rfl⟩ (rc_obj (k := 51) rfl rfl) rfl rfl (Nat.le_of_ble_eq_true rfl) (Nat.le_of_ble_eq_true rfl) (T_X6_no_51 E _ hc16) ?_
      obtain rfl := Option.some.inj h
      exact t_iret dX6_as_22 rfl rfl
-- J7_fill_53178
def G_J7_fill_53178_d_5 : Nat → Nat → Int32 → Int32 → Int32 → ST → Option (ST)
  | 0, _, _, _, _, _ => none
  | n + 1, x0, x1, x2, x3, S => (if x3 ≤ x2 then some (S) else ((lenI x0).bind fun n3 => (if inB x2 n3 = true then G_J7_fill_53178_d_5 n x0 x1 (x2 + 1) x3 (wr S x0 x2.toNatClampNeg x1) else none)))
set_option maxHeartbeats 4000000 in
set_option maxRecDepth 100000 in
theorem T_J7_fill_53178_d_5 (E : EV) : ∀ (n : Nat) (x0 : Nat) (x1 : Int32) (x2 : Int32) (x3 : Int32) (S : ST), ∀ (w : (ST)), G_J7_fill_53178_d_5 n x0 x1 x2 x3 S = some w → ∀ {Q : Option Value → ST → Prop}, SS E mJ7_fill_53178 20 [] [] w Q → SS E mJ7_fill_53178 5 [(0, .ref (eB E + x0)), (1, .int x1), (2, .int x2), (3, .int x3)] [] S Q := by
  intro n
  induction n with
  | zero =>
    intro x0 x1 x2 x3 S w h
    cases h
  | succ n ih =>
    intro x0 x1 x2 x3 S w h Q K
    unfold G_J7_fill_53178_d_5 at h
    refine s_iload_n (q := 6) dJ7_fill_53178_5 rfl rfl 2 rfl ?_
    refine s_iload_n (q := 7) dJ7_fill_53178_6 rfl rfl 3 rfl ?_
    refine s_icmp_ge (q := 10) (tgt := 20) dJ7_fill_53178_7 rfl rfl (fun hb2 => ?_) (fun hb2 => ?_)
    · rw [if_pos hb2] at h
      obtain rfl := Option.some.inj h
      exact t_sub [] rfl K
    · rw [if_neg hb2] at h
      refine s_aload_n (q := 11) dJ7_fill_53178_10 rfl rfl 0 rfl ?_
      refine s_iload_n (q := 12) dJ7_fill_53178_11 rfl rfl 2 rfl ?_
      refine s_iload_n (q := 13) dJ7_fill_53178_12 rfl rfl 1 rfl ?_
      obtain ⟨n3, hn3, h⟩ := bnd h
      try dsimp only at h
      obtain ⟨hg4, h⟩ := chk_some h
      refine u_iast (q := 14) (k := x0) dJ7_fill_53178_13 rfl (lenI_sh hn3) (inB_in hg4) rfl ?_
      refine s_iinc (q := 17) (j := 2) (v := (x2 + 1)) (lv' := [(2, .int (x2 + 1)), (0, .ref (eB E + x0)), (1, .int x1), (3, .int x3)]) dJ7_fill_53178_14 rfl rfl rfl (Nat.le_of_ble_eq_true rfl) rfl ?_
      refine s_goto (tgt := 5) dJ7_fill_53178_17 rfl ?_
      exact t_sub [1, 2, 0, 3] rfl (ih _ _ _ _ _ _ h K)
def G_J7_fill_53178_d (x0 : Nat) (x1 : Int32) (S : ST) : Option (Unit × ST) := ((lenI x0).bind fun n1 => (G_J7_fill_53178_d_5 3000 x0 x1 0 (Int32.ofNat n1) S).bind fun q5 => some ((), q5))
set_option maxHeartbeats 4000000 in
set_option maxRecDepth 100000 in
theorem T_J7_fill_53178_d (E : EV) (x0 : Nat) (x1 : Int32) {S : ST} {w : (Unit × ST)} (h : G_J7_fill_53178_d x0 x1 S = some w) : SD E mJ7_fill_53178 0 [(0, .ref (eB E + x0)), (1, .int x1)] [] S none w.2 := by
  unfold G_J7_fill_53178_d at h
  refine s_iconst (q := 1) (v := 0) dJ7_fill_53178_0 rfl rfl ?_
  refine s_istore_n (q := 2) (lv' := [(2, .int 0), (0, .ref (eB E + x0)), (1, .int x1)]) dJ7_fill_53178_1 rfl rfl (Nat.le_of_ble_eq_true rfl) rfl ?_
  refine s_aload_n (q := 3) dJ7_fill_53178_2 rfl rfl 1 rfl ?_
  obtain ⟨n1, hn1, h⟩ := bnd h
  try dsimp only at h
  refine t_alen (q := 4) (k := x0) dJ7_fill_53178_3 rfl (lenI_sh hn1) (by decide) rfl ?_
  refine s_istore_n (q := 5) (lv' := [(3, .int (Int32.ofNat n1)), (2, .int 0), (0, .ref (eB E + x0)), (1, .int x1)]) dJ7_fill_53178_4 rfl rfl (Nat.le_of_ble_eq_true rfl) rfl ?_
  obtain ⟨q5, hc5, h⟩ := bnd h
  try dsimp only at h
  refine t_sub [2, 3, 1, 0] rfl (T_J7_fill_53178_d_5 E _ _ _ _ _ _ _ hc5 ?_)
  obtain rfl := Option.some.inj h
  exact t_vret dJ7_fill_53178_20 rfl rfl
-- X0_renew
def G_X0_renew_d_15 (x0 : Nat) (y0 : Int32) (y1 : Nat) (S : ST) : Option (Unit × ST) := if isSh x0 = true then if isSh y1 = true then ((G_J7_fill_53178_d (x0 + 1) 0 (wr S y1 1 y0)).bind fun q2 => some ((), q2.2)) else none else none
set_option maxHeartbeats 4000000 in
set_option maxRecDepth 100000 in
theorem T_X0_renew_d_15 (E : EV) (x0 : Nat) (y0 : Int32) (y1 : Nat) {S : ST} {w : (Unit × ST)} (h : G_X0_renew_d_15 x0 y0 y1 S = some w) : SD E mX0_renew 15 [(0, .ref (eB E + x0))] [.int y0, .ref (eB E + y1)] S none w.2 := by
  unfold G_X0_renew_d_15 at h
  obtain ⟨hx0, h⟩ := chk_some h
  obtain ⟨hy1, h⟩ := chk_some h
  refine t_putI (q := 18) (k := y1) (f := 1) dX0_renew_15 rfl (sh_obj hy1) rfl rfl inX0 tyX0_ok nmX0 (Nat.le_of_ble_eq_true rfl) fX0_15 rfl rfl rfl ?_
  refine s_aload_n (q := 19) dX0_renew_18 rfl rfl 0 rfl ?_
  refine t_getR (q := 22) (k := x0) (f := 2) (t := x0 + 1) dX0_renew_19 rfl (sh_obj hx0) rfl rfl inX0 (Nat.le_of_ble_eq_true rfl) fX0_18 ?_
  refine s_iconst (q := 23) (v := 0) dX0_renew_22 rfl rfl ?_
  obtain ⟨q2, hc2, h⟩ := bnd h
  try dsimp only at h
  refine t_callS (q := 26) (N := mJ7_fill_53178) [.ref (eB E + (x0 + 1)), .int 0] dX0_renew_23 rfl nkJ7_fill_53178 sJ7_fill_53178 lX0_22 ⟨Nat.le_of_ble_eq_true rfl, Nat.le_of_ble_eq_true rfl⟩ rfl rfl (Nat.le_of_ble_eq_true rfl) (Nat.le_of_ble_eq_true rfl) (T_J7_fill_53178_d E _ _ hc2) ?_
  obtain rfl := Option.some.inj h
  exact t_vret dX0_renew_26 rfl rfl
def G_X0_renew_d (x0 : Nat) (x1 : Int32) (x2 : Int32) (S : ST) : Option (Unit × ST) := if isSh x0 = true then (if x1 = 0 then G_X0_renew_d_15 x0 0 x0 (wr S x0 0 x1) else G_X0_renew_d_15 x0 x2 x0 (wr S x0 0 x1)) else none
set_option maxHeartbeats 4000000 in
set_option maxRecDepth 100000 in
theorem T_X0_renew_d (E : EV) (x0 : Nat) (x1 : Int32) (x2 : Int32) {S : ST} {w : (Unit × ST)} (h : G_X0_renew_d x0 x1 x2 S = some w) : SD E mX0_renew 0 [(0, .ref (eB E + x0)), (1, .int x1), (2, .int x2)] [] S none w.2 := by
  unfold G_X0_renew_d at h
  obtain ⟨hx0, h⟩ := chk_some h
  refine s_aload_n (q := 1) dX0_renew_0 rfl rfl 0 rfl ?_
  refine s_iload_n (q := 2) dX0_renew_1 rfl rfl 1 rfl ?_
  refine t_putI (q := 5) (k := x0) (f := 0) dX0_renew_2 rfl (sh_obj hx0) rfl rfl inX0 tyX0_ok nmX0 (Nat.le_of_ble_eq_true rfl) fX0_9 rfl rfl rfl ?_
  refine s_aload_n (q := 6) dX0_renew_5 rfl rfl 0 rfl ?_
  refine s_iload_n (q := 7) dX0_renew_6 rfl rfl 1 rfl ?_
  refine s_if_ne (q := 10) (tgt := 14) dX0_renew_7 rfl rfl (fun hb1 => ?_) (fun hb1 => ?_)
  · rw [if_neg hb1] at h
    refine s_iload_n (q := 15) dX0_renew_14 rfl rfl 2 rfl ?_
    exact t_sub [0] rfl (T_X0_renew_d_15 E _ _ _ h)
  · rw [if_pos hb1] at h
    refine s_iconst (q := 11) (v := 0) dX0_renew_10 rfl rfl ?_
    refine s_goto (tgt := 15) dX0_renew_11 rfl ?_
    exact t_sub [0] rfl (T_X0_renew_d_15 E _ _ _ h)
-- X5_sheet
def G_X5_sheet_0_36 (x1 : Int32) (x2 : Int32) (x3 : Int32) (S : ST) : Option (Int32 × ST) := (if (0 : Int32) ≤ x3 then (if x3 ≤ 40 then (if inB x1 4 = true then ((G_X0_renew_d (shO x1) x2 x3 S).bind fun q8 => (if inB x1 4 = true then some ((q8.2.1 (shO x1) 1), q8.2) else none)) else none) else ((G_X5_finding_0 0 S).bind fun q10 => some (q10.1, q10.2))) else ((G_X5_finding_0 6 S).bind fun q11 => some (q11.1, q11.2)))
set_option maxHeartbeats 4000000 in
set_option maxRecDepth 100000 in
theorem T_X5_sheet_0_36 (E : EV) (x1 : Int32) (x2 : Int32) (x3 : Int32) {S : ST} {w : (Int32 × ST)} (h : G_X5_sheet_0_36 x1 x2 x3 S = some w) : SD E mX5_sheet 36 [(0, .ref (eB E + 0)), (1, .int x1), (2, .int x2), (3, .int x3)] [] S (some (.int w.1)) w.2 := by
  unfold G_X5_sheet_0_36 at h
  refine s_iload_n (q := 37) dX5_sheet_36 rfl rfl 3 rfl ?_
  refine s_if_ge (q := 40) (tgt := 47) dX5_sheet_37 rfl rfl (fun hb5 => ?_) (fun hb5 => ?_)
  · rw [if_pos hb5] at h
    refine s_iload_n (q := 48) dX5_sheet_47 rfl rfl 3 rfl ?_
    refine s_bipush (q := 50) (v := 40) dX5_sheet_48 rfl rfl ?_
    refine s_icmp_le (q := 53) (tgt := 59) dX5_sheet_50 rfl rfl (fun hb6 => ?_) (fun hb6 => ?_)
    · rw [if_pos hb6] at h
      refine s_aload_n (q := 60) dX5_sheet_59 rfl rfl 0 rfl ?_
      refine t_getR (q := 63) (k := 0) (f := 5) (t := 34) dX5_sheet_60 rfl rfl rfl rfl inX5 (Nat.le_of_ble_eq_true rfl) fX5_35 ?_
      refine s_iload_n (q := 64) dX5_sheet_63 rfl rfl 1 rfl ?_
      obtain ⟨hg7, h⟩ := chk_some h
      refine t_aald (q := 65) dX5_sheet_64 rfl (inB_in hg7) ?_
      refine s_iload_n (q := 66) dX5_sheet_65 rfl rfl 2 rfl ?_
      refine s_iload_n (q := 67) dX5_sheet_66 rfl rfl 3 rfl ?_
      obtain ⟨q8, hc8, h⟩ := bnd h
      try dsimp only at h
      refine t_callV (q := 70) (N := mX0_renew) (a := eB E + (shO x1)) [.int x2, .int x3] dX5_sheet_67 rfl nkX0_renew vkX0_renew lX5_253 ⟨Nat.le_of_ble_eq_true rfl, Nat.le_of_ble_eq_true rfl⟩ (rc_obj (sh_obj (sh_of (inB_in hg7))) rfl) rfl rfl (Nat.le_of_ble_eq_true rfl) (Nat.le_of_ble_eq_true rfl) (T_X0_renew_d E _ _ _ hc8) ?_
      refine s_aload_n (q := 71) dX5_sheet_70 rfl rfl 0 rfl ?_
      refine t_getR (q := 74) (k := 0) (f := 5) (t := 34) dX5_sheet_71 rfl rfl rfl rfl inX5 (Nat.le_of_ble_eq_true rfl) fX5_35 ?_
      refine s_iload_n (q := 75) dX5_sheet_74 rfl rfl 1 rfl ?_
      obtain ⟨hg9, h⟩ := chk_some h
      refine t_aald (q := 76) dX5_sheet_75 rfl (inB_in hg9) ?_
      refine t_getI (q := 79) (k := (shO x1)) (f := 1) (v := (q8.2.1 (shO x1) 1)) dX5_sheet_76 rfl (sh_obj (sh_of (inB_in hg9))) rfl rfl inX0 (Nat.le_of_ble_eq_true rfl) fX5_256 rfl ?_
      obtain rfl := Option.some.inj h
      exact t_iret dX5_sheet_79 rfl rfl
    · rw [if_neg hb6] at h
      refine s_aload_n (q := 54) dX5_sheet_53 rfl rfl 0 rfl ?_
      refine s_iconst (q := 55) (v := 0) dX5_sheet_54 rfl rfl ?_
      obtain ⟨q10, hc10, h⟩ := bnd h
      try dsimp only at h
      refine t_callV (q := 58) (N := mX5_finding) (a := eB E + 0) [.int 0] dX5_sheet_55 rfl nkX5_finding vkX5_finding lX5_61 ⟨Nat.le_of_ble_eq_true rfl, Nat.le_of_ble_eq_true rfl⟩ (rc_obj (k := 0) rfl rfl) rfl rfl (Nat.le_of_ble_eq_true rfl) (Nat.le_of_ble_eq_true rfl) (T_X5_finding_0 E _ hc10) ?_
      obtain rfl := Option.some.inj h
      exact t_iret dX5_sheet_58 rfl rfl
  · rw [if_neg hb5] at h
    refine s_aload_n (q := 41) dX5_sheet_40 rfl rfl 0 rfl ?_
    refine s_bipush (q := 43) (v := 6) dX5_sheet_41 rfl rfl ?_
    obtain ⟨q11, hc11, h⟩ := bnd h
    try dsimp only at h
    refine t_callV (q := 46) (N := mX5_finding) (a := eB E + 0) [.int 6] dX5_sheet_43 rfl nkX5_finding vkX5_finding lX5_61 ⟨Nat.le_of_ble_eq_true rfl, Nat.le_of_ble_eq_true rfl⟩ (rc_obj (k := 0) rfl rfl) rfl rfl (Nat.le_of_ble_eq_true rfl) (Nat.le_of_ble_eq_true rfl) (T_X5_finding_0 E _ hc11) ?_
    obtain rfl := Option.some.inj h
    exact t_iret dX5_sheet_46 rfl rfl
def G_X5_sheet_0 (x1 : Int32) (x2 : Int32) (x3 : Int32) (S : ST) : Option (Int32 × ST) := ((G_X5_isBelow x1 4 S).bind fun q1 => (if q1.1 = 0 then ((G_X5_finding_0 0 q1.2).bind fun q3 => some (q3.1, q3.2)) else (if x2 = 0 then G_X5_sheet_0_36 x1 x2 x3 q1.2 else (if x2 = 8 then G_X5_sheet_0_36 x1 x2 x3 q1.2 else (if x2 = 16 then G_X5_sheet_0_36 x1 x2 x3 q1.2 else (if x2 = 32 then G_X5_sheet_0_36 x1 x2 x3 q1.2 else ((G_X5_finding_0 0 q1.2).bind fun q15 => some (q15.1, q15.2))))))))
set_option maxHeartbeats 4000000 in
set_option maxRecDepth 100000 in
theorem T_X5_sheet_0 (E : EV) (x1 : Int32) (x2 : Int32) (x3 : Int32) {S : ST} {w : (Int32 × ST)} (h : G_X5_sheet_0 x1 x2 x3 S = some w) : SD E mX5_sheet 0 [(0, .ref (eB E + 0)), (1, .int x1), (2, .int x2), (3, .int x3)] [] S (some (.int w.1)) w.2 := by
  unfold G_X5_sheet_0 at h
  refine s_iload_n (q := 1) dX5_sheet_0 rfl rfl 1 rfl ?_
  refine s_iconst (q := 2) (v := 4) dX5_sheet_1 rfl rfl ?_
  obtain ⟨q1, hc1, h⟩ := bnd h
  try dsimp only at h
  refine t_callS (q := 5) (N := mX5_isBelow) [.int x1, .int 4] dX5_sheet_2 rfl nkX5_isBelow sX5_isBelow lX5_57 ⟨Nat.le_of_ble_eq_true rfl, Nat.le_of_ble_eq_true rfl⟩ rfl rfl (Nat.le_of_ble_eq_true rfl) (Nat.le_of_ble_eq_true rfl) (T_X5_isBelow E _ _ hc1) ?_
  refine s_if_eq (q := 8) (tgt := 30) dX5_sheet_5 rfl rfl (fun hb2 => ?_) (fun hb2 => ?_)
  · rw [if_pos hb2] at h
    refine s_aload_n (q := 31) dX5_sheet_30 rfl rfl 0 rfl ?_
    refine s_iconst (q := 32) (v := 0) dX5_sheet_31 rfl rfl ?_
    obtain ⟨q3, hc3, h⟩ := bnd h
    try dsimp only at h
    refine t_callV (q := 35) (N := mX5_finding) (a := eB E + 0) [.int 0] dX5_sheet_32 rfl nkX5_finding vkX5_finding lX5_61 ⟨Nat.le_of_ble_eq_true rfl, Nat.le_of_ble_eq_true rfl⟩ (rc_obj (k := 0) rfl rfl) rfl rfl (Nat.le_of_ble_eq_true rfl) (Nat.le_of_ble_eq_true rfl) (T_X5_finding_0 E _ hc3) ?_
    obtain rfl := Option.some.inj h
    exact t_iret dX5_sheet_35 rfl rfl
  · rw [if_neg hb2] at h
    refine s_iload_n (q := 9) dX5_sheet_8 rfl rfl 2 rfl ?_
    refine s_if_eq (q := 12) (tgt := 36) dX5_sheet_9 rfl rfl (fun hb4 => ?_) (fun hb4 => ?_)
    · rw [if_pos hb4] at h
      exact t_sub [0, 1, 2, 3] rfl (T_X5_sheet_0_36 E _ _ _ h)
    · rw [if_neg hb4] at h
      refine s_iload_n (q := 13) dX5_sheet_12 rfl rfl 2 rfl ?_
      refine s_bipush (q := 15) (v := 8) dX5_sheet_13 rfl rfl ?_
      refine s_icmp_eq (q := 18) (tgt := 36) dX5_sheet_15 rfl rfl (fun hb12 => ?_) (fun hb12 => ?_)
      · rw [if_pos hb12] at h
        exact t_sub [0, 1, 2, 3] rfl (T_X5_sheet_0_36 E _ _ _ h)
      · rw [if_neg hb12] at h
        refine s_iload_n (q := 19) dX5_sheet_18 rfl rfl 2 rfl ?_
        refine s_bipush (q := 21) (v := 16) dX5_sheet_19 rfl rfl ?_
        refine s_icmp_eq (q := 24) (tgt := 36) dX5_sheet_21 rfl rfl (fun hb13 => ?_) (fun hb13 => ?_)
        · rw [if_pos hb13] at h
          exact t_sub [0, 1, 2, 3] rfl (T_X5_sheet_0_36 E _ _ _ h)
        · rw [if_neg hb13] at h
          refine s_iload_n (q := 25) dX5_sheet_24 rfl rfl 2 rfl ?_
          refine s_bipush (q := 27) (v := 32) dX5_sheet_25 rfl rfl ?_
          refine s_icmp_eq (q := 30) (tgt := 36) dX5_sheet_27 rfl rfl (fun hb14 => ?_) (fun hb14 => ?_)
          · rw [if_pos hb14] at h
            exact t_sub [0, 1, 2, 3] rfl (T_X5_sheet_0_36 E _ _ _ h)
          · rw [if_neg hb14] at h
            refine s_aload_n (q := 31) dX5_sheet_30 rfl rfl 0 rfl ?_
            refine s_iconst (q := 32) (v := 0) dX5_sheet_31 rfl rfl ?_
            obtain ⟨q15, hc15, h⟩ := bnd h
            try dsimp only at h
            refine t_callV (q := 35) (N := mX5_finding) (a := eB E + 0) [.int 0] dX5_sheet_32 rfl nkX5_finding vkX5_finding lX5_61 ⟨Nat.le_of_ble_eq_true rfl, Nat.le_of_ble_eq_true rfl⟩ (rc_obj (k := 0) rfl rfl) rfl rfl (Nat.le_of_ble_eq_true rfl) (Nat.le_of_ble_eq_true rfl) (T_X5_finding_0 E _ hc15) ?_
            obtain rfl := Option.some.inj h
            exact t_iret dX5_sheet_35 rfl rfl
-- X6_sheet
def G_X6_sheet_51_83 : Nat → Int32 → Int32 → ST → Option (Int32 × ST)
  | 0, _, _, _ => none
  | n + 1, x1, x4, S => (if (40 : Int32) ≤ x4 then some (x1, S) else (if inB ((40 * x1) + x4) 160 = true then G_X6_sheet_51_83 n x1 (x4 + 1) (wr S 64 (((40 * x1) + x4).toNatClampNeg) 0) else none))
set_option maxHeartbeats 4000000 in
set_option maxRecDepth 100000 in
theorem T_X6_sheet_51_83 (E : EV) : ∀ (n : Nat) (x1 : Int32) (x4 : Int32) (S : ST), ∀ (w : (Int32 × ST)), G_X6_sheet_51_83 n x1 x4 S = some w → ∀ {Q : Option Value → ST → Prop}, SS E mX6_sheet 109 [(0, .ref (eB E + 51)), (1, .int w.1)] [] w.2 Q → SS E mX6_sheet 83 [(0, .ref (eB E + 51)), (1, .int x1), (4, .int x4)] [] S Q := by
  intro n
  induction n with
  | zero =>
    intro x1 x4 S w h
    cases h
  | succ n ih =>
    intro x1 x4 S w h Q K
    unfold G_X6_sheet_51_83 at h
    refine s_iload (q := 85) dX6_sheet_83 rfl 2 rfl ?_
    refine s_bipush (q := 87) (v := 40) dX6_sheet_85 rfl rfl ?_
    refine s_icmp_ge (q := 90) (tgt := 109) dX6_sheet_87 rfl rfl (fun hb10 => ?_) (fun hb10 => ?_)
    · rw [if_pos hb10] at h
      obtain rfl := Option.some.inj h
      exact t_sub [0, 1] rfl K
    · rw [if_neg hb10] at h
      refine s_aload_n (q := 91) dX6_sheet_90 rfl rfl 0 rfl ?_
      refine t_getR (q := 94) (k := 51) (f := 18) (t := 64) dX6_sheet_91 rfl rfl rfl rfl inX6 (Nat.le_of_ble_eq_true rfl) fX6_47 ?_
      refine s_bipush (q := 96) (v := 40) dX6_sheet_94 rfl rfl ?_
      refine s_iload_n (q := 97) dX6_sheet_96 rfl rfl 1 rfl ?_
      refine s_imul (q := 98) dX6_sheet_97 rfl ?_
      refine s_iload (q := 100) dX6_sheet_98 rfl 2 rfl ?_
      refine s_iadd (q := 101) dX6_sheet_100 rfl ?_
      refine s_iconst (q := 102) (v := 0) dX6_sheet_101 rfl rfl ?_
      obtain ⟨hg11, h⟩ := chk_some h
      refine u_iast (q := 103) (k := 64) dX6_sheet_102 rfl rfl (inB_in hg11) rfl ?_
      refine s_iinc (q := 106) (j := 2) (v := (x4 + 1)) (lv' := [(4, .int (x4 + 1)), (0, .ref (eB E + 51)), (1, .int x1)]) dX6_sheet_103 rfl rfl rfl (Nat.le_of_ble_eq_true rfl) rfl ?_
      refine s_goto (tgt := 83) dX6_sheet_106 rfl ?_
      exact t_sub [1, 2, 0] rfl (ih _ _ _ _ h K)
def G_X6_sheet_51_79 (x1 : Int32) (y0 : Int32) (y1 : Int32) (S : ST) : Option (Int32 × ST) := (if inB y1 4 = true then (G_X6_sheet_51_83 3000 x1 0 (wr S 63 y1.toNatClampNeg y0)).bind fun q12 => (if inB q12.1 4 = true then some ((q12.2.1 63 q12.1.toNatClampNeg), q12.2) else none) else none)
set_option maxHeartbeats 4000000 in
set_option maxRecDepth 100000 in
theorem T_X6_sheet_51_79 (E : EV) (x1 : Int32) (y0 : Int32) (y1 : Int32) {S : ST} {w : (Int32 × ST)} (h : G_X6_sheet_51_79 x1 y0 y1 S = some w) : SD E mX6_sheet 79 [(0, .ref (eB E + 51)), (1, .int x1)] [.int y0, .int y1, .ref (eB E + 63)] S (some (.int w.1)) w.2 := by
  unfold G_X6_sheet_51_79 at h
  obtain ⟨hg9, h⟩ := chk_some h
  refine u_iast (q := 80) (k := 63) dX6_sheet_79 rfl rfl (inB_in hg9) rfl ?_
  refine s_iconst (q := 81) (v := 0) dX6_sheet_80 rfl rfl ?_
  refine s_istore (q := 83) (lv' := [(4, .int 0), (0, .ref (eB E + 51)), (1, .int x1)]) dX6_sheet_81 rfl (Nat.le_of_ble_eq_true rfl) rfl ?_
  obtain ⟨q12, hc12, h⟩ := bnd h
  try dsimp only at h
  refine t_sub [1, 2, 0] rfl (T_X6_sheet_51_83 E _ _ _ _ _ hc12 ?_)
  refine s_aload_n (q := 110) dX6_sheet_109 rfl rfl 0 rfl ?_
  refine t_getR (q := 113) (k := 51) (f := 17) (t := 63) dX6_sheet_110 rfl rfl rfl rfl inX6 (Nat.le_of_ble_eq_true rfl) fX6_44 ?_
  refine s_iload_n (q := 114) dX6_sheet_113 rfl rfl 1 rfl ?_
  obtain ⟨hg13, h⟩ := chk_some h
  refine u_iald (q := 115) (k := 63) (v := (q12.2.1 63 q12.1.toNatClampNeg)) dX6_sheet_114 rfl rfl (inB_in hg13) rfl rfl ?_
  obtain rfl := Option.some.inj h
  exact t_iret dX6_sheet_115 rfl rfl
def G_X6_sheet_51_35 (x1 : Int32) (x2 : Int32) (x3 : Int32) (S : ST) : Option (Int32 × ST) := (if (0 : Int32) ≤ x3 then (if x3 ≤ 40 then (if inB x1 4 = true then (if x2 = 0 then G_X6_sheet_51_79 x1 0 x1 (wr S 62 x1.toNatClampNeg x2) else G_X6_sheet_51_79 x1 x3 x1 (wr S 62 x1.toNatClampNeg x2)) else none) else ((G_X6_no_51 0 S).bind fun q14 => some (q14.1, q14.2))) else ((G_X6_no_51 6 S).bind fun q15 => some (q15.1, q15.2)))
set_option maxHeartbeats 4000000 in
set_option maxRecDepth 100000 in
theorem T_X6_sheet_51_35 (E : EV) (x1 : Int32) (x2 : Int32) (x3 : Int32) {S : ST} {w : (Int32 × ST)} (h : G_X6_sheet_51_35 x1 x2 x3 S = some w) : SD E mX6_sheet 35 [(0, .ref (eB E + 51)), (1, .int x1), (2, .int x2), (3, .int x3)] [] S (some (.int w.1)) w.2 := by
  unfold G_X6_sheet_51_35 at h
  refine s_iload_n (q := 36) dX6_sheet_35 rfl rfl 3 rfl ?_
  refine s_if_ge (q := 39) (tgt := 46) dX6_sheet_36 rfl rfl (fun hb5 => ?_) (fun hb5 => ?_)
  · rw [if_pos hb5] at h
    refine s_iload_n (q := 47) dX6_sheet_46 rfl rfl 3 rfl ?_
    refine s_bipush (q := 49) (v := 40) dX6_sheet_47 rfl rfl ?_
    refine s_icmp_le (q := 52) (tgt := 58) dX6_sheet_49 rfl rfl (fun hb6 => ?_) (fun hb6 => ?_)
    · rw [if_pos hb6] at h
      refine s_aload_n (q := 59) dX6_sheet_58 rfl rfl 0 rfl ?_
      refine t_getR (q := 62) (k := 51) (f := 16) (t := 62) dX6_sheet_59 rfl rfl rfl rfl inX6 (Nat.le_of_ble_eq_true rfl) fX6_41 ?_
      refine s_iload_n (q := 63) dX6_sheet_62 rfl rfl 1 rfl ?_
      refine s_iload_n (q := 64) dX6_sheet_63 rfl rfl 2 rfl ?_
      obtain ⟨hg7, h⟩ := chk_some h
      refine u_iast (q := 65) (k := 62) dX6_sheet_64 rfl rfl (inB_in hg7) rfl ?_
      refine s_aload_n (q := 66) dX6_sheet_65 rfl rfl 0 rfl ?_
      refine t_getR (q := 69) (k := 51) (f := 17) (t := 63) dX6_sheet_66 rfl rfl rfl rfl inX6 (Nat.le_of_ble_eq_true rfl) fX6_44 ?_
      refine s_iload_n (q := 70) dX6_sheet_69 rfl rfl 1 rfl ?_
      refine s_iload_n (q := 71) dX6_sheet_70 rfl rfl 2 rfl ?_
      refine s_if_ne (q := 74) (tgt := 78) dX6_sheet_71 rfl rfl (fun hb8 => ?_) (fun hb8 => ?_)
      · rw [if_neg hb8] at h
        refine s_iload_n (q := 79) dX6_sheet_78 rfl rfl 3 rfl ?_
        exact t_sub [0, 1] rfl (T_X6_sheet_51_79 E _ _ _ h)
      · rw [if_pos hb8] at h
        refine s_iconst (q := 75) (v := 0) dX6_sheet_74 rfl rfl ?_
        refine s_goto (tgt := 79) dX6_sheet_75 rfl ?_
        exact t_sub [0, 1] rfl (T_X6_sheet_51_79 E _ _ _ h)
    · rw [if_neg hb6] at h
      refine s_aload_n (q := 53) dX6_sheet_52 rfl rfl 0 rfl ?_
      refine s_iconst (q := 54) (v := 0) dX6_sheet_53 rfl rfl ?_
      obtain ⟨q14, hc14, h⟩ := bnd h
      try dsimp only at h
      refine t_callV (q := 57) (N := mX6_no) (a := eB E + 51) [.int 0] dX6_sheet_54 rfl nkX6_no vkX6_no lX6_94 ⟨Nat.le_of_ble_eq_true rfl, Nat.le_of_ble_eq_true rfl⟩ (rc_obj (k := 51) rfl rfl) rfl rfl (Nat.le_of_ble_eq_true rfl) (Nat.le_of_ble_eq_true rfl) (T_X6_no_51 E _ hc14) ?_
      obtain rfl := Option.some.inj h
      exact t_iret dX6_sheet_57 rfl rfl
  · rw [if_neg hb5] at h
    refine s_aload_n (q := 40) dX6_sheet_39 rfl rfl 0 rfl ?_
    refine s_bipush (q := 42) (v := 6) dX6_sheet_40 rfl rfl ?_
    obtain ⟨q15, hc15, h⟩ := bnd h
    try dsimp only at h
    refine t_callV (q := 45) (N := mX6_no) (a := eB E + 51) [.int 6] dX6_sheet_42 rfl nkX6_no vkX6_no lX6_94 ⟨Nat.le_of_ble_eq_true rfl, Nat.le_of_ble_eq_true rfl⟩ (rc_obj (k := 51) rfl rfl) rfl rfl (Nat.le_of_ble_eq_true rfl) (Nat.le_of_ble_eq_true rfl) (T_X6_no_51 E _ hc15) ?_
    obtain rfl := Option.some.inj h
    exact t_iret dX6_sheet_45 rfl rfl
def G_X6_sheet_51 (x1 : Int32) (x2 : Int32) (x3 : Int32) (S : ST) : Option (Int32 × ST) := ((G_X6_isSheet x1 S).bind fun q1 => (if q1.1 = 0 then ((G_X6_no_51 0 q1.2).bind fun q3 => some (q3.1, q3.2)) else (if x2 = 0 then G_X6_sheet_51_35 x1 x2 x3 q1.2 else (if x2 = 8 then G_X6_sheet_51_35 x1 x2 x3 q1.2 else (if x2 = 16 then G_X6_sheet_51_35 x1 x2 x3 q1.2 else (if x2 = 32 then G_X6_sheet_51_35 x1 x2 x3 q1.2 else ((G_X6_no_51 0 q1.2).bind fun q19 => some (q19.1, q19.2))))))))
set_option maxHeartbeats 4000000 in
set_option maxRecDepth 100000 in
theorem T_X6_sheet_51 (E : EV) (x1 : Int32) (x2 : Int32) (x3 : Int32) {S : ST} {w : (Int32 × ST)} (h : G_X6_sheet_51 x1 x2 x3 S = some w) : SD E mX6_sheet 0 [(0, .ref (eB E + 51)), (1, .int x1), (2, .int x2), (3, .int x3)] [] S (some (.int w.1)) w.2 := by
  unfold G_X6_sheet_51 at h
  refine s_iload_n (q := 1) dX6_sheet_0 rfl rfl 1 rfl ?_
  obtain ⟨q1, hc1, h⟩ := bnd h
  try dsimp only at h
  refine t_callS (q := 4) (N := mX6_isSheet) [.int x1] dX6_sheet_1 rfl nkX6_isSheet sX6_isSheet lX6_180 ⟨Nat.le_of_ble_eq_true rfl, Nat.le_of_ble_eq_true rfl⟩ rfl rfl (Nat.le_of_ble_eq_true rfl) (Nat.le_of_ble_eq_true rfl) (T_X6_isSheet E _ hc1) ?_
  refine s_if_eq (q := 7) (tgt := 29) dX6_sheet_4 rfl rfl (fun hb2 => ?_) (fun hb2 => ?_)
  · rw [if_pos hb2] at h
    refine s_aload_n (q := 30) dX6_sheet_29 rfl rfl 0 rfl ?_
    refine s_iconst (q := 31) (v := 0) dX6_sheet_30 rfl rfl ?_
    obtain ⟨q3, hc3, h⟩ := bnd h
    try dsimp only at h
    refine t_callV (q := 34) (N := mX6_no) (a := eB E + 51) [.int 0] dX6_sheet_31 rfl nkX6_no vkX6_no lX6_94 ⟨Nat.le_of_ble_eq_true rfl, Nat.le_of_ble_eq_true rfl⟩ (rc_obj (k := 51) rfl rfl) rfl rfl (Nat.le_of_ble_eq_true rfl) (Nat.le_of_ble_eq_true rfl) (T_X6_no_51 E _ hc3) ?_
    obtain rfl := Option.some.inj h
    exact t_iret dX6_sheet_34 rfl rfl
  · rw [if_neg hb2] at h
    refine s_iload_n (q := 8) dX6_sheet_7 rfl rfl 2 rfl ?_
    refine s_if_eq (q := 11) (tgt := 35) dX6_sheet_8 rfl rfl (fun hb4 => ?_) (fun hb4 => ?_)
    · rw [if_pos hb4] at h
      exact t_sub [0, 1, 2, 3] rfl (T_X6_sheet_51_35 E _ _ _ h)
    · rw [if_neg hb4] at h
      refine s_iload_n (q := 12) dX6_sheet_11 rfl rfl 2 rfl ?_
      refine s_bipush (q := 14) (v := 8) dX6_sheet_12 rfl rfl ?_
      refine s_icmp_eq (q := 17) (tgt := 35) dX6_sheet_14 rfl rfl (fun hb16 => ?_) (fun hb16 => ?_)
      · rw [if_pos hb16] at h
        exact t_sub [0, 1, 2, 3] rfl (T_X6_sheet_51_35 E _ _ _ h)
      · rw [if_neg hb16] at h
        refine s_iload_n (q := 18) dX6_sheet_17 rfl rfl 2 rfl ?_
        refine s_bipush (q := 20) (v := 16) dX6_sheet_18 rfl rfl ?_
        refine s_icmp_eq (q := 23) (tgt := 35) dX6_sheet_20 rfl rfl (fun hb17 => ?_) (fun hb17 => ?_)
        · rw [if_pos hb17] at h
          exact t_sub [0, 1, 2, 3] rfl (T_X6_sheet_51_35 E _ _ _ h)
        · rw [if_neg hb17] at h
          refine s_iload_n (q := 24) dX6_sheet_23 rfl rfl 2 rfl ?_
          refine s_bipush (q := 26) (v := 32) dX6_sheet_24 rfl rfl ?_
          refine s_icmp_eq (q := 29) (tgt := 35) dX6_sheet_26 rfl rfl (fun hb18 => ?_) (fun hb18 => ?_)
          · rw [if_pos hb18] at h
            exact t_sub [0, 1, 2, 3] rfl (T_X6_sheet_51_35 E _ _ _ h)
          · rw [if_neg hb18] at h
            refine s_aload_n (q := 30) dX6_sheet_29 rfl rfl 0 rfl ?_
            refine s_iconst (q := 31) (v := 0) dX6_sheet_30 rfl rfl ?_
            obtain ⟨q19, hc19, h⟩ := bnd h
            try dsimp only at h
            refine t_callV (q := 34) (N := mX6_no) (a := eB E + 51) [.int 0] dX6_sheet_31 rfl nkX6_no vkX6_no lX6_94 ⟨Nat.le_of_ble_eq_true rfl, Nat.le_of_ble_eq_true rfl⟩ (rc_obj (k := 51) rfl rfl) rfl rfl (Nat.le_of_ble_eq_true rfl) (Nat.le_of_ble_eq_true rfl) (T_X6_no_51 E _ hc19) ?_
            obtain rfl := Option.some.inj h
            exact t_iret dX6_sheet_34 rfl rfl
-- X0_put
def G_X0_put_d (x0 : Nat) (x1 : Int32) (x2 : Int32) (S : ST) : Option (Unit × ST) := if isSh x0 = true then (if (S.1 x0 0) = 8 then (if inB x1 40 = true then some ((), (wr S (x0 + 1) x1.toNatClampNeg (x2.toInt8.toInt32))) else none) else (if (S.1 x0 0) = 16 then (if inB x1 40 = true then some ((), (wr S (x0 + 1) x1.toNatClampNeg (x2.toInt16.toInt32))) else none) else (if inB x1 40 = true then some ((), (wr S (x0 + 1) x1.toNatClampNeg x2)) else none))) else none
set_option maxHeartbeats 4000000 in
set_option maxRecDepth 100000 in
theorem T_X0_put_d (E : EV) (x0 : Nat) (x1 : Int32) (x2 : Int32) {S : ST} {w : (Unit × ST)} (h : G_X0_put_d x0 x1 x2 S = some w) : SD E mX0_put 0 [(0, .ref (eB E + x0)), (1, .int x1), (2, .int x2)] [] S none w.2 := by
  unfold G_X0_put_d at h
  obtain ⟨hx0, h⟩ := chk_some h
  refine s_aload_n (q := 1) dX0_put_0 rfl rfl 0 rfl ?_
  refine t_getI (q := 4) (k := x0) (f := 0) (v := (S.1 x0 0)) dX0_put_1 rfl (sh_obj hx0) rfl rfl inX0 (Nat.le_of_ble_eq_true rfl) fX0_9 rfl ?_
  refine s_bipush (q := 6) (v := 8) dX0_put_4 rfl rfl ?_
  refine s_icmp_ne (q := 9) (tgt := 20) dX0_put_6 rfl rfl (fun hb1 => ?_) (fun hb1 => ?_)
  · rw [if_neg hb1] at h
    refine s_aload_n (q := 21) dX0_put_20 rfl rfl 0 rfl ?_
    refine t_getI (q := 24) (k := x0) (f := 0) (v := (S.1 x0 0)) dX0_put_21 rfl (sh_obj hx0) rfl rfl inX0 (Nat.le_of_ble_eq_true rfl) fX0_9 rfl ?_
    refine s_bipush (q := 26) (v := 16) dX0_put_24 rfl rfl ?_
    refine s_icmp_ne (q := 29) (tgt := 40) dX0_put_26 rfl rfl (fun hb2 => ?_) (fun hb2 => ?_)
    · rw [if_neg hb2] at h
      refine s_aload_n (q := 41) dX0_put_40 rfl rfl 0 rfl ?_
      refine t_getR (q := 44) (k := x0) (f := 2) (t := x0 + 1) dX0_put_41 rfl (sh_obj hx0) rfl rfl inX0 (Nat.le_of_ble_eq_true rfl) fX0_18 ?_
      refine s_iload_n (q := 45) dX0_put_44 rfl rfl 1 rfl ?_
      refine s_iload_n (q := 46) dX0_put_45 rfl rfl 2 rfl ?_
      obtain ⟨hg3, h⟩ := chk_some h
      refine u_iast (q := 47) (k := (x0 + 1)) dX0_put_46 rfl (sh_num hx0) (inB_in hg3) rfl ?_
      obtain rfl := Option.some.inj h
      exact t_vret dX0_put_47 rfl rfl
    · rw [if_pos hb2] at h
      refine s_aload_n (q := 30) dX0_put_29 rfl rfl 0 rfl ?_
      refine t_getR (q := 33) (k := x0) (f := 2) (t := x0 + 1) dX0_put_30 rfl (sh_obj hx0) rfl rfl inX0 (Nat.le_of_ble_eq_true rfl) fX0_18 ?_
      refine s_iload_n (q := 34) dX0_put_33 rfl rfl 1 rfl ?_
      refine s_iload_n (q := 35) dX0_put_34 rfl rfl 2 rfl ?_
      refine s_i2s (q := 36) dX0_put_35 rfl ?_
      obtain ⟨hg4, h⟩ := chk_some h
      refine u_iast (q := 37) (k := (x0 + 1)) dX0_put_36 rfl (sh_num hx0) (inB_in hg4) rfl ?_
      refine s_goto (tgt := 47) dX0_put_37 rfl ?_
      obtain rfl := Option.some.inj h
      exact t_vret dX0_put_47 rfl rfl
  · rw [if_pos hb1] at h
    refine s_aload_n (q := 10) dX0_put_9 rfl rfl 0 rfl ?_
    refine t_getR (q := 13) (k := x0) (f := 2) (t := x0 + 1) dX0_put_10 rfl (sh_obj hx0) rfl rfl inX0 (Nat.le_of_ble_eq_true rfl) fX0_18 ?_
    refine s_iload_n (q := 14) dX0_put_13 rfl rfl 1 rfl ?_
    refine s_iload_n (q := 15) dX0_put_14 rfl rfl 2 rfl ?_
    refine s_i2b (q := 16) dX0_put_15 rfl ?_
    obtain ⟨hg5, h⟩ := chk_some h
    refine u_iast (q := 17) (k := (x0 + 1)) dX0_put_16 rfl (sh_num hx0) (inB_in hg5) rfl ?_
    refine s_goto (tgt := 47) dX0_put_17 rfl ?_
    obtain rfl := Option.some.inj h
    exact t_vret dX0_put_47 rfl rfl
-- X5_write
def G_X5_write_0 (x1 : Int32) (x2 : Int32) (x3 : Int32) (S : ST) : Option (Int32 × ST) := ((G_X5_lackOfSheet_0 x1 S).bind fun q1 => (if q1.1 = 0 then (if inB x1 4 = true then ((G_X5_isBelow x2 (q1.2.1 (shO x1) 1) q1.2).bind fun q4 => (if q4.1 = 0 then ((G_X5_finding_0 0 q4.2).bind fun q8 => some (q8.1, q8.2)) else (if inB x1 4 = true then ((G_X0_put_d (shO x1) x2 x3 q4.2).bind fun q7 => some (1, q7.2)) else none))) else none) else some (q1.1, q1.2)))
set_option maxHeartbeats 4000000 in
set_option maxRecDepth 100000 in
theorem T_X5_write_0 (E : EV) (x1 : Int32) (x2 : Int32) (x3 : Int32) {S : ST} {w : (Int32 × ST)} (h : G_X5_write_0 x1 x2 x3 S = some w) : SD E mX5_write 0 [(0, .ref (eB E + 0)), (1, .int x1), (2, .int x2), (3, .int x3)] [] S (some (.int w.1)) w.2 := by
  unfold G_X5_write_0 at h
  refine s_aload_n (q := 1) dX5_write_0 rfl rfl 0 rfl ?_
  refine s_iload_n (q := 2) dX5_write_1 rfl rfl 1 rfl ?_
  obtain ⟨q1, hc1, h⟩ := bnd h
  try dsimp only at h
  refine t_callV (q := 5) (N := mX5_lackOfSheet) (a := eB E + 0) [.int x1] dX5_write_2 rfl nkX5_lackOfSheet vkX5_lackOfSheet lX5_209 ⟨Nat.le_of_ble_eq_true rfl, Nat.le_of_ble_eq_true rfl⟩ (rc_obj (k := 0) rfl rfl) rfl rfl (Nat.le_of_ble_eq_true rfl) (Nat.le_of_ble_eq_true rfl) (T_X5_lackOfSheet_0 E _ hc1) ?_
  refine s_istore (q := 7) (lv' := [(4, .int q1.1), (0, .ref (eB E + 0)), (1, .int x1), (2, .int x2), (3, .int x3)]) dX5_write_5 rfl (Nat.le_of_ble_eq_true rfl) rfl ?_
  refine s_iload (q := 9) dX5_write_7 rfl 0 rfl ?_
  refine s_if_eq (q := 12) (tgt := 15) dX5_write_9 rfl rfl (fun hb2 => ?_) (fun hb2 => ?_)
  · rw [if_pos hb2] at h
    refine s_iload_n (q := 16) dX5_write_15 rfl rfl 3 rfl ?_
    refine s_aload_n (q := 17) dX5_write_16 rfl rfl 1 rfl ?_
    refine t_getR (q := 20) (k := 0) (f := 5) (t := 34) dX5_write_17 rfl rfl rfl rfl inX5 (Nat.le_of_ble_eq_true rfl) fX5_35 ?_
    refine s_iload_n (q := 21) dX5_write_20 rfl rfl 2 rfl ?_
    obtain ⟨hg3, h⟩ := chk_some h
    refine t_aald (q := 22) dX5_write_21 rfl (inB_in hg3) ?_
    refine t_getI (q := 25) (k := (shO x1)) (f := 1) (v := (q1.2.1 (shO x1) 1)) dX5_write_22 rfl (sh_obj (sh_of (inB_in hg3))) rfl rfl inX0 (Nat.le_of_ble_eq_true rfl) fX5_256 rfl ?_
    obtain ⟨q4, hc4, h⟩ := bnd h
    try dsimp only at h
    refine t_callS (q := 28) (N := mX5_isBelow) [.int x2, .int (q1.2.1 (shO x1) 1)] dX5_write_25 rfl nkX5_isBelow sX5_isBelow lX5_57 ⟨Nat.le_of_ble_eq_true rfl, Nat.le_of_ble_eq_true rfl⟩ rfl rfl (Nat.le_of_ble_eq_true rfl) (Nat.le_of_ble_eq_true rfl) (T_X5_isBelow E _ _ hc4) ?_
    refine s_if_ne (q := 31) (tgt := 37) dX5_write_28 rfl rfl (fun hb5 => ?_) (fun hb5 => ?_)
    · rw [if_neg hb5] at h
      refine s_aload_n (q := 38) dX5_write_37 rfl rfl 1 rfl ?_
      refine t_getR (q := 41) (k := 0) (f := 5) (t := 34) dX5_write_38 rfl rfl rfl rfl inX5 (Nat.le_of_ble_eq_true rfl) fX5_35 ?_
      refine s_iload_n (q := 42) dX5_write_41 rfl rfl 2 rfl ?_
      obtain ⟨hg6, h⟩ := chk_some h
      refine t_aald (q := 43) dX5_write_42 rfl (inB_in hg6) ?_
      refine s_iload_n (q := 44) dX5_write_43 rfl rfl 3 rfl ?_
      refine s_iload_n (q := 45) dX5_write_44 rfl rfl 4 rfl ?_
      obtain ⟨q7, hc7, h⟩ := bnd h
      try dsimp only at h
      refine t_callV (q := 48) (N := mX0_put) (a := eB E + (shO x1)) [.int x2, .int x3] dX5_write_45 rfl nkX0_put vkX0_put lX5_257 ⟨Nat.le_of_ble_eq_true rfl, Nat.le_of_ble_eq_true rfl⟩ (rc_obj (sh_obj (sh_of (inB_in hg6))) rfl) rfl rfl (Nat.le_of_ble_eq_true rfl) (Nat.le_of_ble_eq_true rfl) (T_X0_put_d E _ _ _ hc7) ?_
      refine s_iconst (q := 49) (v := 1) dX5_write_48 rfl rfl ?_
      obtain rfl := Option.some.inj h
      exact t_iret dX5_write_49 rfl rfl
    · rw [if_pos hb5] at h
      refine s_aload_n (q := 32) dX5_write_31 rfl rfl 1 rfl ?_
      refine s_iconst (q := 33) (v := 0) dX5_write_32 rfl rfl ?_
      obtain ⟨q8, hc8, h⟩ := bnd h
      try dsimp only at h
      refine t_callV (q := 36) (N := mX5_finding) (a := eB E + 0) [.int 0] dX5_write_33 rfl nkX5_finding vkX5_finding lX5_61 ⟨Nat.le_of_ble_eq_true rfl, Nat.le_of_ble_eq_true rfl⟩ (rc_obj (k := 0) rfl rfl) rfl rfl (Nat.le_of_ble_eq_true rfl) (Nat.le_of_ble_eq_true rfl) (T_X5_finding_0 E _ hc8) ?_
      obtain rfl := Option.some.inj h
      exact t_iret dX5_write_36 rfl rfl
  · rw [if_neg hb2] at h
    refine s_iload (q := 14) dX5_write_12 rfl 0 rfl ?_
    obtain rfl := Option.some.inj h
    exact t_iret dX5_write_14 rfl rfl
-- X6_write
def G_X6_write_51_31 (x1 : Int32) (x2 : Int32) (x3 : Int32) (x4 : Int32) (S : ST) : Option (Int32 × ST) := (if x4 < 0 then (if inB x1 4 = true then (if (S.1 62 x1.toNatClampNeg) = 8 then (if inB ((40 * x1) + x2) 160 = true then some (1, (wr S 64 (((40 * x1) + x2).toNatClampNeg) (x3.toInt8.toInt32))) else none) else (if inB x1 4 = true then (if (S.1 62 x1.toNatClampNeg) = 16 then (if inB ((40 * x1) + x2) 160 = true then some (1, (wr S 64 (((40 * x1) + x2).toNatClampNeg) (x3.toInt16.toInt32))) else none) else (if inB ((40 * x1) + x2) 160 = true then some (1, (wr S 64 (((40 * x1) + x2).toNatClampNeg) x3)) else none)) else none)) else none) else ((G_X6_no_51 x4 S).bind fun q11 => some (q11.1, q11.2)))
set_option maxHeartbeats 4000000 in
set_option maxRecDepth 100000 in
theorem T_X6_write_51_31 (E : EV) (x1 : Int32) (x2 : Int32) (x3 : Int32) (x4 : Int32) {S : ST} {w : (Int32 × ST)} (h : G_X6_write_51_31 x1 x2 x3 x4 S = some w) : SD E mX6_write 31 [(0, .ref (eB E + 51)), (1, .int x1), (2, .int x2), (3, .int x3), (4, .int x4)] [] S (some (.int w.1)) w.2 := by
  unfold G_X6_write_51_31 at h
  refine s_iload (q := 33) dX6_write_31 rfl 4 rfl ?_
  refine s_if_lt (q := 36) (tgt := 43) dX6_write_33 rfl rfl (fun hb3 => ?_) (fun hb3 => ?_)
  · rw [if_pos hb3] at h
    refine s_aload_n (q := 44) dX6_write_43 rfl rfl 0 rfl ?_
    refine t_getR (q := 47) (k := 51) (f := 18) (t := 64) dX6_write_44 rfl rfl rfl rfl inX6 (Nat.le_of_ble_eq_true rfl) fX6_47 ?_
    refine s_bipush (q := 49) (v := 40) dX6_write_47 rfl rfl ?_
    refine s_iload_n (q := 50) dX6_write_49 rfl rfl 1 rfl ?_
    refine s_imul (q := 51) dX6_write_50 rfl ?_
    refine s_iload_n (q := 52) dX6_write_51 rfl rfl 2 rfl ?_
    refine s_iadd (q := 53) dX6_write_52 rfl ?_
    refine s_aload_n (q := 54) dX6_write_53 rfl rfl 0 rfl ?_
    refine t_getR (q := 57) (k := 51) (f := 16) (t := 62) dX6_write_54 rfl rfl rfl rfl inX6 (Nat.le_of_ble_eq_true rfl) fX6_41 ?_
    refine s_iload_n (q := 58) dX6_write_57 rfl rfl 1 rfl ?_
    obtain ⟨hg4, h⟩ := chk_some h
    refine u_iald (q := 59) (k := 62) (v := (S.1 62 x1.toNatClampNeg)) dX6_write_58 rfl rfl (inB_in hg4) rfl rfl ?_
    refine s_bipush (q := 61) (v := 8) dX6_write_59 rfl rfl ?_
    refine s_icmp_ne (q := 64) (tgt := 69) dX6_write_61 rfl rfl (fun hb5 => ?_) (fun hb5 => ?_)
    · rw [if_neg hb5] at h
      refine s_aload_n (q := 70) dX6_write_69 rfl rfl 0 rfl ?_
      refine t_getR (q := 73) (k := 51) (f := 16) (t := 62) dX6_write_70 rfl rfl rfl rfl inX6 (Nat.le_of_ble_eq_true rfl) fX6_41 ?_
      refine s_iload_n (q := 74) dX6_write_73 rfl rfl 1 rfl ?_
      obtain ⟨hg6, h⟩ := chk_some h
      refine u_iald (q := 75) (k := 62) (v := (S.1 62 x1.toNatClampNeg)) dX6_write_74 rfl rfl (inB_in hg6) rfl rfl ?_
      refine s_bipush (q := 77) (v := 16) dX6_write_75 rfl rfl ?_
      refine s_icmp_ne (q := 80) (tgt := 85) dX6_write_77 rfl rfl (fun hb7 => ?_) (fun hb7 => ?_)
      · rw [if_neg hb7] at h
        refine s_iload_n (q := 86) dX6_write_85 rfl rfl 3 rfl ?_
        obtain ⟨hg8, h⟩ := chk_some h
        refine u_iast (q := 87) (k := 64) dX6_write_86 rfl rfl (inB_in hg8) rfl ?_
        refine s_iconst (q := 88) (v := 1) dX6_write_87 rfl rfl ?_
        obtain rfl := Option.some.inj h
        exact t_iret dX6_write_88 rfl rfl
      · rw [if_pos hb7] at h
        refine s_iload_n (q := 81) dX6_write_80 rfl rfl 3 rfl ?_
        refine s_i2s (q := 82) dX6_write_81 rfl ?_
        refine s_goto (tgt := 86) dX6_write_82 rfl ?_
        obtain ⟨hg9, h⟩ := chk_some h
        refine u_iast (q := 87) (k := 64) dX6_write_86 rfl rfl (inB_in hg9) rfl ?_
        refine s_iconst (q := 88) (v := 1) dX6_write_87 rfl rfl ?_
        obtain rfl := Option.some.inj h
        exact t_iret dX6_write_88 rfl rfl
    · rw [if_pos hb5] at h
      refine s_iload_n (q := 65) dX6_write_64 rfl rfl 3 rfl ?_
      refine s_i2b (q := 66) dX6_write_65 rfl ?_
      refine s_goto (tgt := 86) dX6_write_66 rfl ?_
      obtain ⟨hg10, h⟩ := chk_some h
      refine u_iast (q := 87) (k := 64) dX6_write_86 rfl rfl (inB_in hg10) rfl ?_
      refine s_iconst (q := 88) (v := 1) dX6_write_87 rfl rfl ?_
      obtain rfl := Option.some.inj h
      exact t_iret dX6_write_88 rfl rfl
  · rw [if_neg hb3] at h
    refine s_aload_n (q := 37) dX6_write_36 rfl rfl 0 rfl ?_
    refine s_iload (q := 39) dX6_write_37 rfl 4 rfl ?_
    obtain ⟨q11, hc11, h⟩ := bnd h
    try dsimp only at h
    refine t_callV (q := 42) (N := mX6_no) (a := eB E + 51) [.int x4] dX6_write_39 rfl nkX6_no vkX6_no lX6_94 ⟨Nat.le_of_ble_eq_true rfl, Nat.le_of_ble_eq_true rfl⟩ (rc_obj (k := 51) rfl rfl) rfl rfl (Nat.le_of_ble_eq_true rfl) (Nat.le_of_ble_eq_true rfl) (T_X6_no_51 E _ hc11) ?_
    obtain rfl := Option.some.inj h
    exact t_iret dX6_write_42 rfl rfl
def G_X6_write_51 (x1 : Int32) (x2 : Int32) (x3 : Int32) (S : ST) : Option (Int32 × ST) := ((G_X6_wrongSheet_51 x1 S).bind fun q1 => (if (0 : Int32) ≤ q1.1 then G_X6_write_51_31 x1 x2 x3 q1.1 q1.2 else (if inB x1 4 = true then ((G_X6_in1 x2 0 ((q1.2.1 63 x1.toNatClampNeg) - 1) q1.2).bind fun q13 => (if q13.1 = 0 then G_X6_write_51_31 x1 x2 x3 0 q13.2 else G_X6_write_51_31 x1 x2 x3 q1.1 q13.2)) else none)))
set_option maxHeartbeats 4000000 in
set_option maxRecDepth 100000 in
theorem T_X6_write_51 (E : EV) (x1 : Int32) (x2 : Int32) (x3 : Int32) {S : ST} {w : (Int32 × ST)} (h : G_X6_write_51 x1 x2 x3 S = some w) : SD E mX6_write 0 [(0, .ref (eB E + 51)), (1, .int x1), (2, .int x2), (3, .int x3)] [] S (some (.int w.1)) w.2 := by
  unfold G_X6_write_51 at h
  refine s_aload_n (q := 1) dX6_write_0 rfl rfl 0 rfl ?_
  refine s_iload_n (q := 2) dX6_write_1 rfl rfl 1 rfl ?_
  obtain ⟨q1, hc1, h⟩ := bnd h
  try dsimp only at h
  refine t_callV (q := 5) (N := mX6_wrongSheet) (a := eB E + 51) [.int x1] dX6_write_2 rfl nkX6_wrongSheet vkX6_wrongSheet lX6_186 ⟨Nat.le_of_ble_eq_true rfl, Nat.le_of_ble_eq_true rfl⟩ (rc_obj (k := 51) rfl rfl) rfl rfl (Nat.le_of_ble_eq_true rfl) (Nat.le_of_ble_eq_true rfl) (T_X6_wrongSheet_51 E _ hc1) ?_
  refine s_istore (q := 7) (lv' := [(4, .int q1.1), (0, .ref (eB E + 51)), (1, .int x1), (2, .int x2), (3, .int x3)]) dX6_write_5 rfl (Nat.le_of_ble_eq_true rfl) rfl ?_
  refine s_iload (q := 9) dX6_write_7 rfl 0 rfl ?_
  refine s_if_ge (q := 12) (tgt := 31) dX6_write_9 rfl rfl (fun hb2 => ?_) (fun hb2 => ?_)
  · rw [if_pos hb2] at h
    exact t_sub [1, 2, 3, 4, 0] rfl (T_X6_write_51_31 E _ _ _ _ h)
  · rw [if_neg hb2] at h
    refine s_iload_n (q := 13) dX6_write_12 rfl rfl 3 rfl ?_
    refine s_iconst (q := 14) (v := 0) dX6_write_13 rfl rfl ?_
    refine s_aload_n (q := 15) dX6_write_14 rfl rfl 1 rfl ?_
    refine t_getR (q := 18) (k := 51) (f := 17) (t := 63) dX6_write_15 rfl rfl rfl rfl inX6 (Nat.le_of_ble_eq_true rfl) fX6_44 ?_
    refine s_iload_n (q := 19) dX6_write_18 rfl rfl 2 rfl ?_
    obtain ⟨hg12, h⟩ := chk_some h
    refine u_iald (q := 20) (k := 63) (v := (q1.2.1 63 x1.toNatClampNeg)) dX6_write_19 rfl rfl (inB_in hg12) rfl rfl ?_
    refine s_iconst (q := 21) (v := 1) dX6_write_20 rfl rfl ?_
    refine s_isub (q := 22) dX6_write_21 rfl ?_
    obtain ⟨q13, hc13, h⟩ := bnd h
    try dsimp only at h
    refine t_callS (q := 25) (N := mX6_in1) [.int x2, .int 0, .int ((q1.2.1 63 x1.toNatClampNeg) - 1)] dX6_write_22 rfl nkX6_in1 sX6_in1 lX6_54 ⟨Nat.le_of_ble_eq_true rfl, Nat.le_of_ble_eq_true rfl⟩ rfl rfl (Nat.le_of_ble_eq_true rfl) (Nat.le_of_ble_eq_true rfl) (T_X6_in1 E _ _ _ hc13) ?_
    refine s_if_ne (q := 28) (tgt := 31) dX6_write_25 rfl rfl (fun hb14 => ?_) (fun hb14 => ?_)
    · rw [if_neg hb14] at h
      exact t_sub [1, 2, 3, 4, 0] rfl (T_X6_write_51_31 E _ _ _ _ h)
    · rw [if_pos hb14] at h
      refine s_iconst (q := 29) (v := 0) dX6_write_28 rfl rfl ?_
      refine s_istore (q := 31) (lv' := [(4, .int 0), (0, .ref (eB E + 51)), (1, .int x1), (2, .int x2), (3, .int x3)]) dX6_write_29 rfl (Nat.le_of_ble_eq_true rfl) rfl ?_
      exact t_sub [1, 2, 3, 4, 0] rfl (T_X6_write_51_31 E _ _ _ _ h)
-- X0_hasRange
def G_X0_hasRange_d (x0 : Nat) (x1 : Int32) (x2 : Int32) (S : ST) : Option (Int32 × ST) := if isSh x0 = true then (if x1 < 0 then some (0, S) else (if x2 < 0 then some (0, S) else (if ((S.1 x0 1) - x2) < x1 then some (0, S) else some (1, S)))) else none
set_option maxHeartbeats 4000000 in
set_option maxRecDepth 100000 in
theorem T_X0_hasRange_d (E : EV) (x0 : Nat) (x1 : Int32) (x2 : Int32) {S : ST} {w : (Int32 × ST)} (h : G_X0_hasRange_d x0 x1 x2 S = some w) : SD E mX0_hasRange 0 [(0, .ref (eB E + x0)), (1, .int x1), (2, .int x2)] [] S (some (.int w.1)) w.2 := by
  unfold G_X0_hasRange_d at h
  obtain ⟨hx0, h⟩ := chk_some h
  refine s_iload_n (q := 1) dX0_hasRange_0 rfl rfl 1 rfl ?_
  refine s_if_lt (q := 4) (tgt := 22) dX0_hasRange_1 rfl rfl (fun hb1 => ?_) (fun hb1 => ?_)
  · rw [if_pos hb1] at h
    refine s_iconst (q := 23) (v := 0) dX0_hasRange_22 rfl rfl ?_
    obtain rfl := Option.some.inj h
    exact t_zret dX0_hasRange_23 rfl rfl rfl
  · rw [if_neg hb1] at h
    refine s_iload_n (q := 5) dX0_hasRange_4 rfl rfl 2 rfl ?_
    refine s_if_lt (q := 8) (tgt := 22) dX0_hasRange_5 rfl rfl (fun hb2 => ?_) (fun hb2 => ?_)
    · rw [if_pos hb2] at h
      refine s_iconst (q := 23) (v := 0) dX0_hasRange_22 rfl rfl ?_
      obtain rfl := Option.some.inj h
      exact t_zret dX0_hasRange_23 rfl rfl rfl
    · rw [if_neg hb2] at h
      refine s_iload_n (q := 9) dX0_hasRange_8 rfl rfl 1 rfl ?_
      refine s_aload_n (q := 10) dX0_hasRange_9 rfl rfl 0 rfl ?_
      refine t_getI (q := 13) (k := x0) (f := 1) (v := (S.1 x0 1)) dX0_hasRange_10 rfl (sh_obj hx0) rfl rfl inX0 (Nat.le_of_ble_eq_true rfl) fX0_15 rfl ?_
      refine s_iload_n (q := 14) dX0_hasRange_13 rfl rfl 2 rfl ?_
      refine s_isub (q := 15) dX0_hasRange_14 rfl ?_
      refine s_icmp_gt (q := 18) (tgt := 22) dX0_hasRange_15 rfl rfl (fun hb3 => ?_) (fun hb3 => ?_)
      · rw [if_pos hb3] at h
        refine s_iconst (q := 23) (v := 0) dX0_hasRange_22 rfl rfl ?_
        obtain rfl := Option.some.inj h
        exact t_zret dX0_hasRange_23 rfl rfl rfl
      · rw [if_neg hb3] at h
        refine s_iconst (q := 19) (v := 1) dX0_hasRange_18 rfl rfl ?_
        refine s_goto (tgt := 23) dX0_hasRange_19 rfl ?_
        obtain rfl := Option.some.inj h
        exact t_zret dX0_hasRange_23 rfl rfl rfl
-- X5_copy
def G_X5_copy_0 (x1 : Int32) (x2 : Int32) (x3 : Int32) (x4 : Int32) (x5 : Int32) (S : ST) : Option (Int32 × ST) := ((G_X5_isBelow x1 4 S).bind fun q1 => (if q1.1 = 0 then ((G_X5_finding_0 0 q1.2).bind fun q3 => some (q3.1, q3.2)) else ((G_X5_isBelow x3 4 q1.2).bind fun q4 => (if q4.1 = 0 then ((G_X5_finding_0 0 q4.2).bind fun q21 => some (q21.1, q21.2)) else (if inB x1 4 = true then (if inB x3 4 = true then (if (q4.2.1 (shO x1) 0) = 0 then ((G_X5_finding_0 5 q4.2).bind fun q9 => some (q9.1, q9.2)) else (if (q4.2.1 (shO x3) 0) = 0 then ((G_X5_finding_0 5 q4.2).bind fun q20 => some (q20.1, q20.2)) else (if (q4.2.1 (shO x1) 0) = (q4.2.1 (shO x3) 0) then ((G_X0_hasRange_d (shO x1) x2 x5 q4.2).bind fun q12 => (if q12.1 = 0 then ((G_X5_finding_0 0 q12.2).bind fun q14 => some (q14.1, q14.2)) else ((G_X0_hasRange_d (shO x3) x4 x5 q12.2).bind fun q15 => (if q15.1 = 0 then ((G_X5_finding_0 0 q15.2).bind fun q18 => some (q18.1, q18.2)) else (if cpB x2 x4 x5 40 40 = true then some (x5, (cpS q15.2 ((shO x1) + 1) ((shO x3) + 1) ((x2).toNatClampNeg) ((x4).toNatClampNeg) ((x5).toNatClampNeg))) else none))))) else ((G_X5_finding_0 2 q4.2).bind fun q19 => some (q19.1, q19.2))))) else none) else none)))))
set_option maxHeartbeats 4000000 in
set_option maxRecDepth 100000 in
theorem T_X5_copy_0 (E : EV) (x1 : Int32) (x2 : Int32) (x3 : Int32) (x4 : Int32) (x5 : Int32) {S : ST} {w : (Int32 × ST)} (h : G_X5_copy_0 x1 x2 x3 x4 x5 S = some w) : SD E mX5_copy 0 [(0, .ref (eB E + 0)), (1, .int x1), (2, .int x2), (3, .int x3), (4, .int x4), (5, .int x5)] [] S (some (.int w.1)) w.2 := by
  unfold G_X5_copy_0 at h
  refine s_iload_n (q := 1) dX5_copy_0 rfl rfl 1 rfl ?_
  refine s_iconst (q := 2) (v := 4) dX5_copy_1 rfl rfl ?_
  obtain ⟨q1, hc1, h⟩ := bnd h
  try dsimp only at h
  refine t_callS (q := 5) (N := mX5_isBelow) [.int x1, .int 4] dX5_copy_2 rfl nkX5_isBelow sX5_isBelow lX5_57 ⟨Nat.le_of_ble_eq_true rfl, Nat.le_of_ble_eq_true rfl⟩ rfl rfl (Nat.le_of_ble_eq_true rfl) (Nat.le_of_ble_eq_true rfl) (T_X5_isBelow E _ _ hc1) ?_
  refine s_if_eq (q := 8) (tgt := 16) dX5_copy_5 rfl rfl (fun hb2 => ?_) (fun hb2 => ?_)
  · rw [if_pos hb2] at h
    refine s_aload_n (q := 17) dX5_copy_16 rfl rfl 0 rfl ?_
    refine s_iconst (q := 18) (v := 0) dX5_copy_17 rfl rfl ?_
    obtain ⟨q3, hc3, h⟩ := bnd h
    try dsimp only at h
    refine t_callV (q := 21) (N := mX5_finding) (a := eB E + 0) [.int 0] dX5_copy_18 rfl nkX5_finding vkX5_finding lX5_61 ⟨Nat.le_of_ble_eq_true rfl, Nat.le_of_ble_eq_true rfl⟩ (rc_obj (k := 0) rfl rfl) rfl rfl (Nat.le_of_ble_eq_true rfl) (Nat.le_of_ble_eq_true rfl) (T_X5_finding_0 E _ hc3) ?_
    obtain rfl := Option.some.inj h
    exact t_iret dX5_copy_21 rfl rfl
  · rw [if_neg hb2] at h
    refine s_iload_n (q := 9) dX5_copy_8 rfl rfl 3 rfl ?_
    refine s_iconst (q := 10) (v := 4) dX5_copy_9 rfl rfl ?_
    obtain ⟨q4, hc4, h⟩ := bnd h
    try dsimp only at h
    refine t_callS (q := 13) (N := mX5_isBelow) [.int x3, .int 4] dX5_copy_10 rfl nkX5_isBelow sX5_isBelow lX5_57 ⟨Nat.le_of_ble_eq_true rfl, Nat.le_of_ble_eq_true rfl⟩ rfl rfl (Nat.le_of_ble_eq_true rfl) (Nat.le_of_ble_eq_true rfl) (T_X5_isBelow E _ _ hc4) ?_
    refine s_if_ne (q := 16) (tgt := 22) dX5_copy_13 rfl rfl (fun hb5 => ?_) (fun hb5 => ?_)
    · rw [if_neg hb5] at h
      refine s_aload_n (q := 23) dX5_copy_22 rfl rfl 0 rfl ?_
      refine t_getR (q := 26) (k := 0) (f := 5) (t := 34) dX5_copy_23 rfl rfl rfl rfl inX5 (Nat.le_of_ble_eq_true rfl) fX5_35 ?_
      refine s_iload_n (q := 27) dX5_copy_26 rfl rfl 1 rfl ?_
      obtain ⟨hg6, h⟩ := chk_some h
      refine t_aald (q := 28) dX5_copy_27 rfl (inB_in hg6) ?_
      refine s_astore (q := 30) (lv' := [(6, .ref (eB E + (shO x1))), (0, .ref (eB E + 0)), (1, .int x1), (2, .int x2), (3, .int x3), (4, .int x4), (5, .int x5)]) dX5_copy_28 rfl (Nat.le_of_ble_eq_true rfl) rfl ?_
      refine s_aload_n (q := 31) dX5_copy_30 rfl rfl 1 rfl ?_
      refine t_getR (q := 34) (k := 0) (f := 5) (t := 34) dX5_copy_31 rfl rfl rfl rfl inX5 (Nat.le_of_ble_eq_true rfl) fX5_35 ?_
      refine s_iload_n (q := 35) dX5_copy_34 rfl rfl 4 rfl ?_
      obtain ⟨hg7, h⟩ := chk_some h
      refine t_aald (q := 36) dX5_copy_35 rfl (inB_in hg7) ?_
      refine s_astore (q := 38) (lv' := [(7, .ref (eB E + (shO x3))), (6, .ref (eB E + (shO x1))), (0, .ref (eB E + 0)), (1, .int x1), (2, .int x2), (3, .int x3), (4, .int x4), (5, .int x5)]) dX5_copy_36 rfl (Nat.le_of_ble_eq_true rfl) rfl ?_
      refine s_aload (q := 40) dX5_copy_38 rfl 1 rfl ?_
      refine t_getI (q := 43) (k := (shO x1)) (f := 0) (v := (q4.2.1 (shO x1) 0)) dX5_copy_40 rfl (sh_obj (sh_of (inB_in hg6))) rfl rfl inX0 (Nat.le_of_ble_eq_true rfl) fX5_260 rfl ?_
      refine s_if_eq (q := 46) (tgt := 54) dX5_copy_43 rfl rfl (fun hb8 => ?_) (fun hb8 => ?_)
      · rw [if_pos hb8] at h
        refine s_aload_n (q := 55) dX5_copy_54 rfl rfl 2 rfl ?_
        refine s_iconst (q := 56) (v := 5) dX5_copy_55 rfl rfl ?_
        obtain ⟨q9, hc9, h⟩ := bnd h
        try dsimp only at h
        refine t_callV (q := 59) (N := mX5_finding) (a := eB E + 0) [.int 5] dX5_copy_56 rfl nkX5_finding vkX5_finding lX5_61 ⟨Nat.le_of_ble_eq_true rfl, Nat.le_of_ble_eq_true rfl⟩ (rc_obj (k := 0) rfl rfl) rfl rfl (Nat.le_of_ble_eq_true rfl) (Nat.le_of_ble_eq_true rfl) (T_X5_finding_0 E _ hc9) ?_
        obtain rfl := Option.some.inj h
        exact t_iret dX5_copy_59 rfl rfl
      · rw [if_neg hb8] at h
        refine s_aload (q := 48) dX5_copy_46 rfl 0 rfl ?_
        refine t_getI (q := 51) (k := (shO x3)) (f := 0) (v := (q4.2.1 (shO x3) 0)) dX5_copy_48 rfl (sh_obj (sh_of (inB_in hg7))) rfl rfl inX0 (Nat.le_of_ble_eq_true rfl) fX5_260 rfl ?_
        refine s_if_ne (q := 54) (tgt := 60) dX5_copy_51 rfl rfl (fun hb10 => ?_) (fun hb10 => ?_)
        · rw [if_neg hb10] at h
          refine s_aload (q := 62) dX5_copy_60 rfl 1 rfl ?_
          refine t_getI (q := 65) (k := (shO x1)) (f := 0) (v := (q4.2.1 (shO x1) 0)) dX5_copy_62 rfl (sh_obj (sh_of (inB_in hg6))) rfl rfl inX0 (Nat.le_of_ble_eq_true rfl) fX5_260 rfl ?_
          refine s_aload (q := 67) dX5_copy_65 rfl 0 rfl ?_
          refine t_getI (q := 70) (k := (shO x3)) (f := 0) (v := (q4.2.1 (shO x3) 0)) dX5_copy_67 rfl (sh_obj (sh_of (inB_in hg7))) rfl rfl inX0 (Nat.le_of_ble_eq_true rfl) fX5_260 rfl ?_
          refine s_icmp_eq (q := 73) (tgt := 79) dX5_copy_70 rfl rfl (fun hb11 => ?_) (fun hb11 => ?_)
          · rw [if_pos hb11] at h
            refine s_aload (q := 81) dX5_copy_79 rfl 1 rfl ?_
            refine s_iload_n (q := 82) dX5_copy_81 rfl rfl 4 rfl ?_
            refine s_iload (q := 84) dX5_copy_82 rfl 7 rfl ?_
            obtain ⟨q12, hc12, h⟩ := bnd h
            try dsimp only at h
            refine t_callV (q := 87) (N := mX0_hasRange) (a := eB E + (shO x1)) [.int x2, .int x5] dX5_copy_84 rfl nkX0_hasRange vkX0_hasRange lX5_263 ⟨Nat.le_of_ble_eq_true rfl, Nat.le_of_ble_eq_true rfl⟩ (rc_obj (sh_obj (sh_of (inB_in hg6))) rfl) rfl rfl (Nat.le_of_ble_eq_true rfl) (Nat.le_of_ble_eq_true rfl) (T_X0_hasRange_d E _ _ _ hc12) ?_
            refine s_if_eq (q := 90) (tgt := 102) dX5_copy_87 rfl rfl (fun hb13 => ?_) (fun hb13 => ?_)
            · rw [if_pos hb13] at h
              refine s_aload_n (q := 103) dX5_copy_102 rfl rfl 2 rfl ?_
              refine s_iconst (q := 104) (v := 0) dX5_copy_103 rfl rfl ?_
              obtain ⟨q14, hc14, h⟩ := bnd h
              try dsimp only at h
              refine t_callV (q := 107) (N := mX5_finding) (a := eB E + 0) [.int 0] dX5_copy_104 rfl nkX5_finding vkX5_finding lX5_61 ⟨Nat.le_of_ble_eq_true rfl, Nat.le_of_ble_eq_true rfl⟩ (rc_obj (k := 0) rfl rfl) rfl rfl (Nat.le_of_ble_eq_true rfl) (Nat.le_of_ble_eq_true rfl) (T_X5_finding_0 E _ hc14) ?_
              obtain rfl := Option.some.inj h
              exact t_iret dX5_copy_107 rfl rfl
            · rw [if_neg hb13] at h
              refine s_aload (q := 92) dX5_copy_90 rfl 0 rfl ?_
              refine s_iload (q := 94) dX5_copy_92 rfl 6 rfl ?_
              refine s_iload (q := 96) dX5_copy_94 rfl 7 rfl ?_
              obtain ⟨q15, hc15, h⟩ := bnd h
              try dsimp only at h
              refine t_callV (q := 99) (N := mX0_hasRange) (a := eB E + (shO x3)) [.int x4, .int x5] dX5_copy_96 rfl nkX0_hasRange vkX0_hasRange lX5_263 ⟨Nat.le_of_ble_eq_true rfl, Nat.le_of_ble_eq_true rfl⟩ (rc_obj (sh_obj (sh_of (inB_in hg7))) rfl) rfl rfl (Nat.le_of_ble_eq_true rfl) (Nat.le_of_ble_eq_true rfl) (T_X0_hasRange_d E _ _ _ hc15) ?_
              refine s_if_ne (q := 102) (tgt := 108) dX5_copy_99 rfl rfl (fun hb16 => ?_) (fun hb16 => ?_)
              · rw [if_neg hb16] at h
                refine s_aload (q := 110) dX5_copy_108 rfl 1 rfl ?_
                refine t_getR (q := 113) (k := (shO x1)) (f := 2) (t := (shO x1) + 1) dX5_copy_110 rfl (sh_obj (sh_of (inB_in hg6))) rfl rfl inX0 (Nat.le_of_ble_eq_true rfl) fX5_266 ?_
                refine s_iload_n (q := 114) dX5_copy_113 rfl rfl 4 rfl ?_
                refine s_aload (q := 116) dX5_copy_114 rfl 0 rfl ?_
                refine t_getR (q := 119) (k := (shO x3)) (f := 2) (t := (shO x3) + 1) dX5_copy_116 rfl (sh_obj (sh_of (inB_in hg7))) rfl rfl inX0 (Nat.le_of_ble_eq_true rfl) fX5_266 ?_
                refine s_iload (q := 121) dX5_copy_119 rfl 6 rfl ?_
                refine s_iload (q := 123) dX5_copy_121 rfl 7 rfl ?_
                obtain ⟨hg17, h⟩ := chk_some h
                refine u_copy (q := 126) (k0 := ((shO x1) + 1)) (k1 := ((shO x3) + 1)) dX5_copy_123 rfl lX5_269 (sh_num (sh_of (inB_in hg6))) (sh_num (sh_of (inB_in hg7))) hg17 rfl rfl rfl (Nat.le_of_ble_eq_true rfl) (Nat.le_of_ble_eq_true rfl) ?_
                refine s_iload (q := 128) dX5_copy_126 rfl 7 rfl ?_
                obtain rfl := Option.some.inj h
                exact t_iret dX5_copy_128 rfl rfl
              · rw [if_pos hb16] at h
                refine s_aload_n (q := 103) dX5_copy_102 rfl rfl 2 rfl ?_
                refine s_iconst (q := 104) (v := 0) dX5_copy_103 rfl rfl ?_
                obtain ⟨q18, hc18, h⟩ := bnd h
                try dsimp only at h
                refine t_callV (q := 107) (N := mX5_finding) (a := eB E + 0) [.int 0] dX5_copy_104 rfl nkX5_finding vkX5_finding lX5_61 ⟨Nat.le_of_ble_eq_true rfl, Nat.le_of_ble_eq_true rfl⟩ (rc_obj (k := 0) rfl rfl) rfl rfl (Nat.le_of_ble_eq_true rfl) (Nat.le_of_ble_eq_true rfl) (T_X5_finding_0 E _ hc18) ?_
                obtain rfl := Option.some.inj h
                exact t_iret dX5_copy_107 rfl rfl
          · rw [if_neg hb11] at h
            refine s_aload_n (q := 74) dX5_copy_73 rfl rfl 2 rfl ?_
            refine s_iconst (q := 75) (v := 2) dX5_copy_74 rfl rfl ?_
            obtain ⟨q19, hc19, h⟩ := bnd h
            try dsimp only at h
            refine t_callV (q := 78) (N := mX5_finding) (a := eB E + 0) [.int 2] dX5_copy_75 rfl nkX5_finding vkX5_finding lX5_61 ⟨Nat.le_of_ble_eq_true rfl, Nat.le_of_ble_eq_true rfl⟩ (rc_obj (k := 0) rfl rfl) rfl rfl (Nat.le_of_ble_eq_true rfl) (Nat.le_of_ble_eq_true rfl) (T_X5_finding_0 E _ hc19) ?_
            obtain rfl := Option.some.inj h
            exact t_iret dX5_copy_78 rfl rfl
        · rw [if_pos hb10] at h
          refine s_aload_n (q := 55) dX5_copy_54 rfl rfl 2 rfl ?_
          refine s_iconst (q := 56) (v := 5) dX5_copy_55 rfl rfl ?_
          obtain ⟨q20, hc20, h⟩ := bnd h
          try dsimp only at h
          refine t_callV (q := 59) (N := mX5_finding) (a := eB E + 0) [.int 5] dX5_copy_56 rfl nkX5_finding vkX5_finding lX5_61 ⟨Nat.le_of_ble_eq_true rfl, Nat.le_of_ble_eq_true rfl⟩ (rc_obj (k := 0) rfl rfl) rfl rfl (Nat.le_of_ble_eq_true rfl) (Nat.le_of_ble_eq_true rfl) (T_X5_finding_0 E _ hc20) ?_
          obtain rfl := Option.some.inj h
          exact t_iret dX5_copy_59 rfl rfl
    · rw [if_pos hb5] at h
      refine s_aload_n (q := 17) dX5_copy_16 rfl rfl 0 rfl ?_
      refine s_iconst (q := 18) (v := 0) dX5_copy_17 rfl rfl ?_
      obtain ⟨q21, hc21, h⟩ := bnd h
      try dsimp only at h
      refine t_callV (q := 21) (N := mX5_finding) (a := eB E + 0) [.int 0] dX5_copy_18 rfl nkX5_finding vkX5_finding lX5_61 ⟨Nat.le_of_ble_eq_true rfl, Nat.le_of_ble_eq_true rfl⟩ (rc_obj (k := 0) rfl rfl) rfl rfl (Nat.le_of_ble_eq_true rfl) (Nat.le_of_ble_eq_true rfl) (T_X5_finding_0 E _ hc21) ?_
      obtain rfl := Option.some.inj h
      exact t_iret dX5_copy_21 rfl rfl
-- X6_copy
def G_X6_copy_51_115 : Nat → Int32 → Int32 → Int32 → Int32 → Int32 → Int32 → ST → Option (Int32 × Int32 × Int32 × ST)
  | 0, _, _, _, _, _, _, _ => none
  | n + 1, x1, x2, x3, x4, x5, x6, S => (if x5 ≤ x6 then some (x3, x4, x5, S) else (if inB (((40 * x1) + x2) + x6) 160 = true then (if inB x6 40 = true then G_X6_copy_51_115 n x1 x2 x3 x4 x5 (x6 + 1) (wr S 65 x6.toNatClampNeg (S.1 64 ((((40 * x1) + x2) + x6).toNatClampNeg))) else none) else none))
set_option maxHeartbeats 4000000 in
set_option maxRecDepth 100000 in
theorem T_X6_copy_51_115 (E : EV) : ∀ (n : Nat) (x1 : Int32) (x2 : Int32) (x3 : Int32) (x4 : Int32) (x5 : Int32) (x6 : Int32) (S : ST), ∀ (w : (Int32 × Int32 × Int32 × ST)), G_X6_copy_51_115 n x1 x2 x3 x4 x5 x6 S = some w → ∀ {Q : Option Value → ST → Prop}, SS E mX6_copy 149 [(0, .ref (eB E + 51)), (3, .int w.1), (4, .int w.2.1), (5, .int w.2.2.1)] [] w.2.2.2 Q → SS E mX6_copy 115 [(0, .ref (eB E + 51)), (1, .int x1), (2, .int x2), (3, .int x3), (4, .int x4), (5, .int x5), (6, .int x6)] [] S Q := by
  intro n
  induction n with
  | zero =>
    intro x1 x2 x3 x4 x5 x6 S w h
    cases h
  | succ n ih =>
    intro x1 x2 x3 x4 x5 x6 S w h Q K
    unfold G_X6_copy_51_115 at h
    refine s_iload (q := 117) dX6_copy_115 rfl 6 rfl ?_
    refine s_iload (q := 119) dX6_copy_117 rfl 5 rfl ?_
    refine s_icmp_ge (q := 122) (tgt := 149) dX6_copy_119 rfl rfl (fun hb25 => ?_) (fun hb25 => ?_)
    · rw [if_pos hb25] at h
      obtain rfl := Option.some.inj h
      exact t_sub [0, 3, 4, 5] rfl K
    · rw [if_neg hb25] at h
      refine s_aload_n (q := 123) dX6_copy_122 rfl rfl 0 rfl ?_
      refine t_getR (q := 126) (k := 51) (f := 19) (t := 65) dX6_copy_123 rfl rfl rfl rfl inX6 (Nat.le_of_ble_eq_true rfl) fX6_50 ?_
      refine s_iload (q := 128) dX6_copy_126 rfl 6 rfl ?_
      refine s_aload_n (q := 129) dX6_copy_128 rfl rfl 0 rfl ?_
      refine t_getR (q := 132) (k := 51) (f := 18) (t := 64) dX6_copy_129 rfl rfl rfl rfl inX6 (Nat.le_of_ble_eq_true rfl) fX6_47 ?_
      refine s_bipush (q := 134) (v := 40) dX6_copy_132 rfl rfl ?_
      refine s_iload_n (q := 135) dX6_copy_134 rfl rfl 1 rfl ?_
      refine s_imul (q := 136) dX6_copy_135 rfl ?_
      refine s_iload_n (q := 137) dX6_copy_136 rfl rfl 2 rfl ?_
      refine s_iadd (q := 138) dX6_copy_137 rfl ?_
      refine s_iload (q := 140) dX6_copy_138 rfl 6 rfl ?_
      refine s_iadd (q := 141) dX6_copy_140 rfl ?_
      obtain ⟨hg26, h⟩ := chk_some h
      refine u_iald (q := 142) (k := 64) (v := (S.1 64 ((((40 * x1) + x2) + x6).toNatClampNeg))) dX6_copy_141 rfl rfl (inB_in hg26) rfl rfl ?_
      obtain ⟨hg27, h⟩ := chk_some h
      refine u_iast (q := 143) (k := 65) dX6_copy_142 rfl rfl (inB_in hg27) rfl ?_
      refine s_iinc (q := 146) (j := 6) (v := (x6 + 1)) (lv' := [(6, .int (x6 + 1)), (0, .ref (eB E + 51)), (1, .int x1), (2, .int x2), (3, .int x3), (4, .int x4), (5, .int x5)]) dX6_copy_143 rfl rfl rfl (Nat.le_of_ble_eq_true rfl) rfl ?_
      refine s_goto (tgt := 115) dX6_copy_146 rfl ?_
      exact t_sub [1, 2, 3, 4, 5, 6, 0] rfl (ih _ _ _ _ _ _ _ _ h K)
def G_X6_copy_51_152 : Nat → Int32 → Int32 → Int32 → Int32 → ST → Option (Int32 × ST)
  | 0, _, _, _, _, _ => none
  | n + 1, x3, x4, x5, x6, S => (if x5 ≤ x6 then some (x5, S) else (if inB x6 40 = true then (if inB (((40 * x3) + x4) + x6) 160 = true then G_X6_copy_51_152 n x3 x4 x5 (x6 + 1) (wr S 64 ((((40 * x3) + x4) + x6).toNatClampNeg) (S.1 65 x6.toNatClampNeg)) else none) else none))
set_option maxHeartbeats 4000000 in
set_option maxRecDepth 100000 in
theorem T_X6_copy_51_152 (E : EV) : ∀ (n : Nat) (x3 : Int32) (x4 : Int32) (x5 : Int32) (x6 : Int32) (S : ST), ∀ (w : (Int32 × ST)), G_X6_copy_51_152 n x3 x4 x5 x6 S = some w → ∀ {Q : Option Value → ST → Prop}, SS E mX6_copy 187 [(5, .int w.1)] [] w.2 Q → SS E mX6_copy 152 [(0, .ref (eB E + 51)), (3, .int x3), (4, .int x4), (5, .int x5), (6, .int x6)] [] S Q := by
  intro n
  induction n with
  | zero =>
    intro x3 x4 x5 x6 S w h
    cases h
  | succ n ih =>
    intro x3 x4 x5 x6 S w h Q K
    unfold G_X6_copy_51_152 at h
    refine s_iload (q := 154) dX6_copy_152 rfl 4 rfl ?_
    refine s_iload (q := 156) dX6_copy_154 rfl 3 rfl ?_
    refine s_icmp_ge (q := 159) (tgt := 187) dX6_copy_156 rfl rfl (fun hb29 => ?_) (fun hb29 => ?_)
    · rw [if_pos hb29] at h
      obtain rfl := Option.some.inj h
      exact t_sub [3] rfl K
    · rw [if_neg hb29] at h
      refine s_aload_n (q := 160) dX6_copy_159 rfl rfl 0 rfl ?_
      refine t_getR (q := 163) (k := 51) (f := 18) (t := 64) dX6_copy_160 rfl rfl rfl rfl inX6 (Nat.le_of_ble_eq_true rfl) fX6_47 ?_
      refine s_bipush (q := 165) (v := 40) dX6_copy_163 rfl rfl ?_
      refine s_iload_n (q := 166) dX6_copy_165 rfl rfl 1 rfl ?_
      refine s_imul (q := 167) dX6_copy_166 rfl ?_
      refine s_iload (q := 169) dX6_copy_167 rfl 2 rfl ?_
      refine s_iadd (q := 170) dX6_copy_169 rfl ?_
      refine s_iload (q := 172) dX6_copy_170 rfl 4 rfl ?_
      refine s_iadd (q := 173) dX6_copy_172 rfl ?_
      refine s_aload_n (q := 174) dX6_copy_173 rfl rfl 0 rfl ?_
      refine t_getR (q := 177) (k := 51) (f := 19) (t := 65) dX6_copy_174 rfl rfl rfl rfl inX6 (Nat.le_of_ble_eq_true rfl) fX6_50 ?_
      refine s_iload (q := 179) dX6_copy_177 rfl 4 rfl ?_
      obtain ⟨hg30, h⟩ := chk_some h
      refine u_iald (q := 180) (k := 65) (v := (S.1 65 x6.toNatClampNeg)) dX6_copy_179 rfl rfl (inB_in hg30) rfl rfl ?_
      obtain ⟨hg31, h⟩ := chk_some h
      refine u_iast (q := 181) (k := 64) dX6_copy_180 rfl rfl (inB_in hg31) rfl ?_
      refine s_iinc (q := 184) (j := 4) (v := (x6 + 1)) (lv' := [(6, .int (x6 + 1)), (0, .ref (eB E + 51)), (3, .int x3), (4, .int x4), (5, .int x5)]) dX6_copy_181 rfl rfl rfl (Nat.le_of_ble_eq_true rfl) rfl ?_
      refine s_goto (tgt := 152) dX6_copy_184 rfl ?_
      exact t_sub [1, 2, 3, 4, 0] rfl (ih _ _ _ _ _ _ h K)
def G_X6_copy_51 (x1 : Int32) (x2 : Int32) (x3 : Int32) (x4 : Int32) (x5 : Int32) (S : ST) : Option (Int32 × ST) := ((G_X6_isSheet x1 S).bind fun q1 => (if q1.1 = 0 then ((G_X6_no_51 0 q1.2).bind fun q3 => some (q3.1, q3.2)) else ((G_X6_isSheet x3 q1.2).bind fun q4 => (if q4.1 = 0 then ((G_X6_no_51 0 q4.2).bind fun q36 => some (q36.1, q36.2)) else (if inB x1 4 = true then (if (q4.2.1 62 x1.toNatClampNeg) = 0 then ((G_X6_no_51 5 q4.2).bind fun q8 => some (q8.1, q8.2)) else (if inB x3 4 = true then (if (q4.2.1 62 x3.toNatClampNeg) = 0 then ((G_X6_no_51 5 q4.2).bind fun q35 => some (q35.1, q35.2)) else (if inB x1 4 = true then (if inB x3 4 = true then (if (q4.2.1 62 x1.toNatClampNeg) = (q4.2.1 62 x3.toNatClampNeg) then (if x5 < 0 then ((G_X6_no_51 0 q4.2).bind fun q15 => some (q15.1, q15.2)) else (if x2 < 0 then ((G_X6_no_51 0 q4.2).bind fun q17 => some (q17.1, q17.2)) else (if x4 < 0 then ((G_X6_no_51 0 q4.2).bind fun q19 => some (q19.1, q19.2)) else (if inB x1 4 = true then (if ((q4.2.1 63 x1.toNatClampNeg) - x5) < x2 then ((G_X6_no_51 0 q4.2).bind fun q22 => some (q22.1, q22.2)) else (if inB x3 4 = true then (if x4 ≤ ((q4.2.1 63 x3.toNatClampNeg) - x5) then (G_X6_copy_51_115 3000 x1 x2 x3 x4 x5 0 q4.2).bind fun q28 => (G_X6_copy_51_152 3000 q28.1 q28.2.1 q28.2.2.1 0 q28.2.2.2).bind fun q32 => some (q32.1, q32.2) else ((G_X6_no_51 0 q4.2).bind fun q33 => some (q33.1, q33.2))) else none)) else none)))) else ((G_X6_no_51 2 q4.2).bind fun q34 => some (q34.1, q34.2))) else none) else none)) else none)) else none)))))
set_option maxHeartbeats 4000000 in
set_option maxRecDepth 100000 in
theorem T_X6_copy_51 (E : EV) (x1 : Int32) (x2 : Int32) (x3 : Int32) (x4 : Int32) (x5 : Int32) {S : ST} {w : (Int32 × ST)} (h : G_X6_copy_51 x1 x2 x3 x4 x5 S = some w) : SD E mX6_copy 0 [(0, .ref (eB E + 51)), (1, .int x1), (2, .int x2), (3, .int x3), (4, .int x4), (5, .int x5)] [] S (some (.int w.1)) w.2 := by
  unfold G_X6_copy_51 at h
  refine s_iload_n (q := 1) dX6_copy_0 rfl rfl 1 rfl ?_
  obtain ⟨q1, hc1, h⟩ := bnd h
  try dsimp only at h
  refine t_callS (q := 4) (N := mX6_isSheet) [.int x1] dX6_copy_1 rfl nkX6_isSheet sX6_isSheet lX6_180 ⟨Nat.le_of_ble_eq_true rfl, Nat.le_of_ble_eq_true rfl⟩ rfl rfl (Nat.le_of_ble_eq_true rfl) (Nat.le_of_ble_eq_true rfl) (T_X6_isSheet E _ hc1) ?_
  refine s_if_eq (q := 7) (tgt := 14) dX6_copy_4 rfl rfl (fun hb2 => ?_) (fun hb2 => ?_)
  · rw [if_pos hb2] at h
    refine s_aload_n (q := 15) dX6_copy_14 rfl rfl 0 rfl ?_
    refine s_iconst (q := 16) (v := 0) dX6_copy_15 rfl rfl ?_
    obtain ⟨q3, hc3, h⟩ := bnd h
    try dsimp only at h
    refine t_callV (q := 19) (N := mX6_no) (a := eB E + 51) [.int 0] dX6_copy_16 rfl nkX6_no vkX6_no lX6_94 ⟨Nat.le_of_ble_eq_true rfl, Nat.le_of_ble_eq_true rfl⟩ (rc_obj (k := 51) rfl rfl) rfl rfl (Nat.le_of_ble_eq_true rfl) (Nat.le_of_ble_eq_true rfl) (T_X6_no_51 E _ hc3) ?_
    obtain rfl := Option.some.inj h
    exact t_iret dX6_copy_19 rfl rfl
  · rw [if_neg hb2] at h
    refine s_iload_n (q := 8) dX6_copy_7 rfl rfl 3 rfl ?_
    obtain ⟨q4, hc4, h⟩ := bnd h
    try dsimp only at h
    refine t_callS (q := 11) (N := mX6_isSheet) [.int x3] dX6_copy_8 rfl nkX6_isSheet sX6_isSheet lX6_180 ⟨Nat.le_of_ble_eq_true rfl, Nat.le_of_ble_eq_true rfl⟩ rfl rfl (Nat.le_of_ble_eq_true rfl) (Nat.le_of_ble_eq_true rfl) (T_X6_isSheet E _ hc4) ?_
    refine s_if_ne (q := 14) (tgt := 20) dX6_copy_11 rfl rfl (fun hb5 => ?_) (fun hb5 => ?_)
    · rw [if_neg hb5] at h
      refine s_aload_n (q := 21) dX6_copy_20 rfl rfl 0 rfl ?_
      refine t_getR (q := 24) (k := 51) (f := 16) (t := 62) dX6_copy_21 rfl rfl rfl rfl inX6 (Nat.le_of_ble_eq_true rfl) fX6_41 ?_
      refine s_iload_n (q := 25) dX6_copy_24 rfl rfl 1 rfl ?_
      obtain ⟨hg6, h⟩ := chk_some h
      refine u_iald (q := 26) (k := 62) (v := (q4.2.1 62 x1.toNatClampNeg)) dX6_copy_25 rfl rfl (inB_in hg6) rfl rfl ?_
      refine s_if_eq (q := 29) (tgt := 38) dX6_copy_26 rfl rfl (fun hb7 => ?_) (fun hb7 => ?_)
      · rw [if_pos hb7] at h
        refine s_aload_n (q := 39) dX6_copy_38 rfl rfl 0 rfl ?_
        refine s_iconst (q := 40) (v := 5) dX6_copy_39 rfl rfl ?_
        obtain ⟨q8, hc8, h⟩ := bnd h
        try dsimp only at h
        refine t_callV (q := 43) (N := mX6_no) (a := eB E + 51) [.int 5] dX6_copy_40 rfl nkX6_no vkX6_no lX6_94 ⟨Nat.le_of_ble_eq_true rfl, Nat.le_of_ble_eq_true rfl⟩ (rc_obj (k := 51) rfl rfl) rfl rfl (Nat.le_of_ble_eq_true rfl) (Nat.le_of_ble_eq_true rfl) (T_X6_no_51 E _ hc8) ?_
        obtain rfl := Option.some.inj h
        exact t_iret dX6_copy_43 rfl rfl
      · rw [if_neg hb7] at h
        refine s_aload_n (q := 30) dX6_copy_29 rfl rfl 0 rfl ?_
        refine t_getR (q := 33) (k := 51) (f := 16) (t := 62) dX6_copy_30 rfl rfl rfl rfl inX6 (Nat.le_of_ble_eq_true rfl) fX6_41 ?_
        refine s_iload_n (q := 34) dX6_copy_33 rfl rfl 3 rfl ?_
        obtain ⟨hg9, h⟩ := chk_some h
        refine u_iald (q := 35) (k := 62) (v := (q4.2.1 62 x3.toNatClampNeg)) dX6_copy_34 rfl rfl (inB_in hg9) rfl rfl ?_
        refine s_if_ne (q := 38) (tgt := 44) dX6_copy_35 rfl rfl (fun hb10 => ?_) (fun hb10 => ?_)
        · rw [if_neg hb10] at h
          refine s_aload_n (q := 45) dX6_copy_44 rfl rfl 0 rfl ?_
          refine t_getR (q := 48) (k := 51) (f := 16) (t := 62) dX6_copy_45 rfl rfl rfl rfl inX6 (Nat.le_of_ble_eq_true rfl) fX6_41 ?_
          refine s_iload_n (q := 49) dX6_copy_48 rfl rfl 1 rfl ?_
          obtain ⟨hg11, h⟩ := chk_some h
          refine u_iald (q := 50) (k := 62) (v := (q4.2.1 62 x1.toNatClampNeg)) dX6_copy_49 rfl rfl (inB_in hg11) rfl rfl ?_
          refine s_aload_n (q := 51) dX6_copy_50 rfl rfl 0 rfl ?_
          refine t_getR (q := 54) (k := 51) (f := 16) (t := 62) dX6_copy_51 rfl rfl rfl rfl inX6 (Nat.le_of_ble_eq_true rfl) fX6_41 ?_
          refine s_iload_n (q := 55) dX6_copy_54 rfl rfl 3 rfl ?_
          obtain ⟨hg12, h⟩ := chk_some h
          refine u_iald (q := 56) (k := 62) (v := (q4.2.1 62 x3.toNatClampNeg)) dX6_copy_55 rfl rfl (inB_in hg12) rfl rfl ?_
          refine s_icmp_eq (q := 59) (tgt := 65) dX6_copy_56 rfl rfl (fun hb13 => ?_) (fun hb13 => ?_)
          · rw [if_pos hb13] at h
            refine s_iload (q := 67) dX6_copy_65 rfl 5 rfl ?_
            refine s_if_lt (q := 70) (tgt := 106) dX6_copy_67 rfl rfl (fun hb14 => ?_) (fun hb14 => ?_)
            · rw [if_pos hb14] at h
              refine s_aload_n (q := 107) dX6_copy_106 rfl rfl 0 rfl ?_
              refine s_iconst (q := 108) (v := 0) dX6_copy_107 rfl rfl ?_
              obtain ⟨q15, hc15, h⟩ := bnd h
              try dsimp only at h
              refine t_callV (q := 111) (N := mX6_no) (a := eB E + 51) [.int 0] dX6_copy_108 rfl nkX6_no vkX6_no lX6_94 ⟨Nat.le_of_ble_eq_true rfl, Nat.le_of_ble_eq_true rfl⟩ (rc_obj (k := 51) rfl rfl) rfl rfl (Nat.le_of_ble_eq_true rfl) (Nat.le_of_ble_eq_true rfl) (T_X6_no_51 E _ hc15) ?_
              obtain rfl := Option.some.inj h
              exact t_iret dX6_copy_111 rfl rfl
            · rw [if_neg hb14] at h
              refine s_iload_n (q := 71) dX6_copy_70 rfl rfl 2 rfl ?_
              refine s_if_lt (q := 74) (tgt := 106) dX6_copy_71 rfl rfl (fun hb16 => ?_) (fun hb16 => ?_)
              · rw [if_pos hb16] at h
                refine s_aload_n (q := 107) dX6_copy_106 rfl rfl 0 rfl ?_
                refine s_iconst (q := 108) (v := 0) dX6_copy_107 rfl rfl ?_
                obtain ⟨q17, hc17, h⟩ := bnd h
                try dsimp only at h
                refine t_callV (q := 111) (N := mX6_no) (a := eB E + 51) [.int 0] dX6_copy_108 rfl nkX6_no vkX6_no lX6_94 ⟨Nat.le_of_ble_eq_true rfl, Nat.le_of_ble_eq_true rfl⟩ (rc_obj (k := 51) rfl rfl) rfl rfl (Nat.le_of_ble_eq_true rfl) (Nat.le_of_ble_eq_true rfl) (T_X6_no_51 E _ hc17) ?_
                obtain rfl := Option.some.inj h
                exact t_iret dX6_copy_111 rfl rfl
              · rw [if_neg hb16] at h
                refine s_iload (q := 76) dX6_copy_74 rfl 4 rfl ?_
                refine s_if_lt (q := 79) (tgt := 106) dX6_copy_76 rfl rfl (fun hb18 => ?_) (fun hb18 => ?_)
                · rw [if_pos hb18] at h
                  refine s_aload_n (q := 107) dX6_copy_106 rfl rfl 0 rfl ?_
                  refine s_iconst (q := 108) (v := 0) dX6_copy_107 rfl rfl ?_
                  obtain ⟨q19, hc19, h⟩ := bnd h
                  try dsimp only at h
                  refine t_callV (q := 111) (N := mX6_no) (a := eB E + 51) [.int 0] dX6_copy_108 rfl nkX6_no vkX6_no lX6_94 ⟨Nat.le_of_ble_eq_true rfl, Nat.le_of_ble_eq_true rfl⟩ (rc_obj (k := 51) rfl rfl) rfl rfl (Nat.le_of_ble_eq_true rfl) (Nat.le_of_ble_eq_true rfl) (T_X6_no_51 E _ hc19) ?_
                  obtain rfl := Option.some.inj h
                  exact t_iret dX6_copy_111 rfl rfl
                · rw [if_neg hb18] at h
                  refine s_iload_n (q := 80) dX6_copy_79 rfl rfl 2 rfl ?_
                  refine s_aload_n (q := 81) dX6_copy_80 rfl rfl 0 rfl ?_
                  refine t_getR (q := 84) (k := 51) (f := 17) (t := 63) dX6_copy_81 rfl rfl rfl rfl inX6 (Nat.le_of_ble_eq_true rfl) fX6_44 ?_
                  refine s_iload_n (q := 85) dX6_copy_84 rfl rfl 1 rfl ?_
                  obtain ⟨hg20, h⟩ := chk_some h
                  refine u_iald (q := 86) (k := 63) (v := (q4.2.1 63 x1.toNatClampNeg)) dX6_copy_85 rfl rfl (inB_in hg20) rfl rfl ?_
                  refine s_iload (q := 88) dX6_copy_86 rfl 5 rfl ?_
                  refine s_isub (q := 89) dX6_copy_88 rfl ?_
                  refine s_icmp_gt (q := 92) (tgt := 106) dX6_copy_89 rfl rfl (fun hb21 => ?_) (fun hb21 => ?_)
                  · rw [if_pos hb21] at h
                    refine s_aload_n (q := 107) dX6_copy_106 rfl rfl 0 rfl ?_
                    refine s_iconst (q := 108) (v := 0) dX6_copy_107 rfl rfl ?_
                    obtain ⟨q22, hc22, h⟩ := bnd h
                    try dsimp only at h
                    refine t_callV (q := 111) (N := mX6_no) (a := eB E + 51) [.int 0] dX6_copy_108 rfl nkX6_no vkX6_no lX6_94 ⟨Nat.le_of_ble_eq_true rfl, Nat.le_of_ble_eq_true rfl⟩ (rc_obj (k := 51) rfl rfl) rfl rfl (Nat.le_of_ble_eq_true rfl) (Nat.le_of_ble_eq_true rfl) (T_X6_no_51 E _ hc22) ?_
                    obtain rfl := Option.some.inj h
                    exact t_iret dX6_copy_111 rfl rfl
                  · rw [if_neg hb21] at h
                    refine s_iload (q := 94) dX6_copy_92 rfl 4 rfl ?_
                    refine s_aload_n (q := 95) dX6_copy_94 rfl rfl 0 rfl ?_
                    refine t_getR (q := 98) (k := 51) (f := 17) (t := 63) dX6_copy_95 rfl rfl rfl rfl inX6 (Nat.le_of_ble_eq_true rfl) fX6_44 ?_
                    refine s_iload_n (q := 99) dX6_copy_98 rfl rfl 3 rfl ?_
                    obtain ⟨hg23, h⟩ := chk_some h
                    refine u_iald (q := 100) (k := 63) (v := (q4.2.1 63 x3.toNatClampNeg)) dX6_copy_99 rfl rfl (inB_in hg23) rfl rfl ?_
                    refine s_iload (q := 102) dX6_copy_100 rfl 5 rfl ?_
                    refine s_isub (q := 103) dX6_copy_102 rfl ?_
                    refine s_icmp_le (q := 106) (tgt := 112) dX6_copy_103 rfl rfl (fun hb24 => ?_) (fun hb24 => ?_)
                    · rw [if_pos hb24] at h
                      refine s_iconst (q := 113) (v := 0) dX6_copy_112 rfl rfl ?_
                      refine s_istore (q := 115) (lv' := [(6, .int 0), (0, .ref (eB E + 51)), (1, .int x1), (2, .int x2), (3, .int x3), (4, .int x4), (5, .int x5)]) dX6_copy_113 rfl (Nat.le_of_ble_eq_true rfl) rfl ?_
                      obtain ⟨q28, hc28, h⟩ := bnd h
                      try dsimp only at h
                      refine t_sub [1, 2, 3, 4, 5, 6, 0] rfl (T_X6_copy_51_115 E _ _ _ _ _ _ _ _ _ hc28 ?_)
                      refine s_iconst (q := 150) (v := 0) dX6_copy_149 rfl rfl ?_
                      refine s_istore (q := 152) (lv' := [(6, .int 0), (0, .ref (eB E + 51)), (3, .int q28.1), (4, .int q28.2.1), (5, .int q28.2.2.1)]) dX6_copy_150 rfl (Nat.le_of_ble_eq_true rfl) rfl ?_
                      obtain ⟨q32, hc32, h⟩ := bnd h
                      try dsimp only at h
                      refine t_sub [1, 2, 3, 4, 0] rfl (T_X6_copy_51_152 E _ _ _ _ _ _ _ hc32 ?_)
                      refine s_iload (q := 189) dX6_copy_187 rfl 0 rfl ?_
                      obtain rfl := Option.some.inj h
                      exact t_iret dX6_copy_189 rfl rfl
                    · rw [if_neg hb24] at h
                      refine s_aload_n (q := 107) dX6_copy_106 rfl rfl 0 rfl ?_
                      refine s_iconst (q := 108) (v := 0) dX6_copy_107 rfl rfl ?_
                      obtain ⟨q33, hc33, h⟩ := bnd h
                      try dsimp only at h
                      refine t_callV (q := 111) (N := mX6_no) (a := eB E + 51) [.int 0] dX6_copy_108 rfl nkX6_no vkX6_no lX6_94 ⟨Nat.le_of_ble_eq_true rfl, Nat.le_of_ble_eq_true rfl⟩ (rc_obj (k := 51) rfl rfl) rfl rfl (Nat.le_of_ble_eq_true rfl) (Nat.le_of_ble_eq_true rfl) (T_X6_no_51 E _ hc33) ?_
                      obtain rfl := Option.some.inj h
                      exact t_iret dX6_copy_111 rfl rfl
          · rw [if_neg hb13] at h
            refine s_aload_n (q := 60) dX6_copy_59 rfl rfl 0 rfl ?_
            refine s_iconst (q := 61) (v := 2) dX6_copy_60 rfl rfl ?_
            obtain ⟨q34, hc34, h⟩ := bnd h
            try dsimp only at h
            refine t_callV (q := 64) (N := mX6_no) (a := eB E + 51) [.int 2] dX6_copy_61 rfl nkX6_no vkX6_no lX6_94 ⟨Nat.le_of_ble_eq_true rfl, Nat.le_of_ble_eq_true rfl⟩ (rc_obj (k := 51) rfl rfl) rfl rfl (Nat.le_of_ble_eq_true rfl) (Nat.le_of_ble_eq_true rfl) (T_X6_no_51 E _ hc34) ?_
            obtain rfl := Option.some.inj h
            exact t_iret dX6_copy_64 rfl rfl
        · rw [if_pos hb10] at h
          refine s_aload_n (q := 39) dX6_copy_38 rfl rfl 0 rfl ?_
          refine s_iconst (q := 40) (v := 5) dX6_copy_39 rfl rfl ?_
          obtain ⟨q35, hc35, h⟩ := bnd h
          try dsimp only at h
          refine t_callV (q := 43) (N := mX6_no) (a := eB E + 51) [.int 5] dX6_copy_40 rfl nkX6_no vkX6_no lX6_94 ⟨Nat.le_of_ble_eq_true rfl, Nat.le_of_ble_eq_true rfl⟩ (rc_obj (k := 51) rfl rfl) rfl rfl (Nat.le_of_ble_eq_true rfl) (Nat.le_of_ble_eq_true rfl) (T_X6_no_51 E _ hc35) ?_
          obtain rfl := Option.some.inj h
          exact t_iret dX6_copy_43 rfl rfl
    · rw [if_pos hb5] at h
      refine s_aload_n (q := 15) dX6_copy_14 rfl rfl 0 rfl ?_
      refine s_iconst (q := 16) (v := 0) dX6_copy_15 rfl rfl ?_
      obtain ⟨q36, hc36, h⟩ := bnd h
      try dsimp only at h
      refine t_callV (q := 19) (N := mX6_no) (a := eB E + 51) [.int 0] dX6_copy_16 rfl nkX6_no vkX6_no lX6_94 ⟨Nat.le_of_ble_eq_true rfl, Nat.le_of_ble_eq_true rfl⟩ (rc_obj (k := 51) rfl rfl) rfl rfl (Nat.le_of_ble_eq_true rfl) (Nat.le_of_ble_eq_true rfl) (T_X6_no_51 E _ hc36) ?_
      obtain rfl := Option.some.inj h
      exact t_iret dX6_copy_19 rfl rfl
-- X5_load
def G_X5_load_0_38 : Nat → Nat → Int32 → Int32 → ST → Option (Int32 × ST)
  | 0, _, _, _, _ => none
  | n + 1, x3, x4, x5, S => if isSh x3 = true then (if x4 ≤ x5 then some (x5, S) else (if inB x5 40 = true then ((G_X5_isWithin (S.1 (x3 + 1) x5.toNatClampNeg) 99 S).bind fun q6 => (if q6.1 = 0 then some (x5, q6.2) else (if inB x5 40 = true then (if inB x5 10 = true then G_X5_load_0_38 n x3 x4 (x5 + 1) (wr q6.2 4 x5.toNatClampNeg (q6.2.1 (x3 + 1) x5.toNatClampNeg)) else none) else none))) else none)) else none
set_option maxHeartbeats 4000000 in
set_option maxRecDepth 100000 in
theorem T_X5_load_0_38 (E : EV) : ∀ (n : Nat) (x3 : Nat) (x4 : Int32) (x5 : Int32) (S : ST), ∀ (w : (Int32 × ST)), G_X5_load_0_38 n x3 x4 x5 S = some w → ∀ {Q : Option Value → ST → Prop}, SS E mX5_load 83 [(5, .int w.1)] [] w.2 Q → SS E mX5_load 38 [(0, .ref (eB E + 0)), (3, .ref (eB E + x3)), (4, .int x4), (5, .int x5)] [] S Q := by
  intro n
  induction n with
  | zero =>
    intro x3 x4 x5 S w h
    cases h
  | succ n ih =>
    intro x3 x4 x5 S w h Q K
    unfold G_X5_load_0_38 at h
    obtain ⟨hx3, h⟩ := chk_some h
    refine s_iload (q := 40) dX5_load_38 rfl 3 rfl ?_
    refine s_iload (q := 42) dX5_load_40 rfl 2 rfl ?_
    refine s_icmp_ge (q := 45) (tgt := 83) dX5_load_42 rfl rfl (fun hb4 => ?_) (fun hb4 => ?_)
    · rw [if_pos hb4] at h
      obtain rfl := Option.some.inj h
      exact t_sub [3] rfl K
    · rw [if_neg hb4] at h
      refine s_aload_n (q := 46) dX5_load_45 rfl rfl 1 rfl ?_
      refine t_getR (q := 49) (k := x3) (f := 2) (t := x3 + 1) dX5_load_46 rfl (sh_obj hx3) rfl rfl inX0 (Nat.le_of_ble_eq_true rfl) fX5_266 ?_
      refine s_iload (q := 51) dX5_load_49 rfl 3 rfl ?_
      obtain ⟨hg5, h⟩ := chk_some h
      refine u_iald (q := 52) (k := (x3 + 1)) (v := (S.1 (x3 + 1) x5.toNatClampNeg)) dX5_load_51 rfl (sh_num hx3) (inB_in hg5) rfl rfl ?_
      refine s_bipush (q := 54) (v := 99) dX5_load_52 rfl rfl ?_
      obtain ⟨q6, hc6, h⟩ := bnd h
      try dsimp only at h
      refine t_callS (q := 57) (N := mX5_isWithin) [.int (S.1 (x3 + 1) x5.toNatClampNeg), .int 99] dX5_load_54 rfl nkX5_isWithin sX5_isWithin lX5_99 ⟨Nat.le_of_ble_eq_true rfl, Nat.le_of_ble_eq_true rfl⟩ rfl rfl (Nat.le_of_ble_eq_true rfl) (Nat.le_of_ble_eq_true rfl) (T_X5_isWithin E _ _ hc6) ?_
      refine s_if_eq (q := 60) (tgt := 83) dX5_load_57 rfl rfl (fun hb7 => ?_) (fun hb7 => ?_)
      · rw [if_pos hb7] at h
        obtain rfl := Option.some.inj h
        exact t_sub [3] rfl K
      · rw [if_neg hb7] at h
        refine s_aload_n (q := 61) dX5_load_60 rfl rfl 0 rfl ?_
        refine t_getR (q := 64) (k := 0) (f := 0) (t := 1) dX5_load_61 rfl rfl rfl rfl inX5 (Nat.le_of_ble_eq_true rfl) fX5_10 ?_
        refine t_getR (q := 67) (k := 1) (f := 3) (t := 4) dX5_load_64 rfl rfl rfl rfl inX1 (Nat.le_of_ble_eq_true rfl) fX5_80 ?_
        refine s_iload (q := 69) dX5_load_67 rfl 3 rfl ?_
        refine s_aload_n (q := 70) dX5_load_69 rfl rfl 1 rfl ?_
        refine t_getR (q := 73) (k := x3) (f := 2) (t := x3 + 1) dX5_load_70 rfl (sh_obj hx3) rfl rfl inX0 (Nat.le_of_ble_eq_true rfl) fX5_266 ?_
        refine s_iload (q := 75) dX5_load_73 rfl 3 rfl ?_
        obtain ⟨hg8, h⟩ := chk_some h
        refine u_iald (q := 76) (k := (x3 + 1)) (v := (q6.2.1 (x3 + 1) x5.toNatClampNeg)) dX5_load_75 rfl (sh_num hx3) (inB_in hg8) rfl rfl ?_
        obtain ⟨hg9, h⟩ := chk_some h
        refine u_iast (q := 77) (k := 4) dX5_load_76 rfl rfl (inB_in hg9) rfl ?_
        refine s_iinc (q := 80) (j := 3) (v := (x5 + 1)) (lv' := [(5, .int (x5 + 1)), (0, .ref (eB E + 0)), (3, .ref (eB E + x3)), (4, .int x4)]) dX5_load_77 rfl rfl rfl (Nat.le_of_ble_eq_true rfl) rfl ?_
        refine s_goto (tgt := 38) dX5_load_80 rfl ?_
        exact t_sub [1, 2, 3, 0] rfl (ih _ _ _ _ _ h K)
def G_X5_load_0 (x1 : Int32) (S : ST) : Option (Int32 × ST) := ((G_X5_lackOfSheet_0 x1 S).bind fun q1 => (if q1.1 = 0 then (if inB x1 4 = true then (G_X5_load_0_38 3000 (shO x1) (imn (q1.2.1 (shO x1) 1) (q1.2.1 1 0)) 0 q1.2).bind fun q10 => some (q10.1, q10.2) else none) else some (q1.1, q1.2)))
set_option maxHeartbeats 4000000 in
set_option maxRecDepth 100000 in
theorem T_X5_load_0 (E : EV) (x1 : Int32) {S : ST} {w : (Int32 × ST)} (h : G_X5_load_0 x1 S = some w) : SD E mX5_load 0 [(0, .ref (eB E + 0)), (1, .int x1)] [] S (some (.int w.1)) w.2 := by
  unfold G_X5_load_0 at h
  refine s_aload_n (q := 1) dX5_load_0 rfl rfl 0 rfl ?_
  refine s_iload_n (q := 2) dX5_load_1 rfl rfl 1 rfl ?_
  obtain ⟨q1, hc1, h⟩ := bnd h
  try dsimp only at h
  refine t_callV (q := 5) (N := mX5_lackOfSheet) (a := eB E + 0) [.int x1] dX5_load_2 rfl nkX5_lackOfSheet vkX5_lackOfSheet lX5_209 ⟨Nat.le_of_ble_eq_true rfl, Nat.le_of_ble_eq_true rfl⟩ (rc_obj (k := 0) rfl rfl) rfl rfl (Nat.le_of_ble_eq_true rfl) (Nat.le_of_ble_eq_true rfl) (T_X5_lackOfSheet_0 E _ hc1) ?_
  refine s_istore_n (q := 6) (lv' := [(2, .int q1.1), (0, .ref (eB E + 0)), (1, .int x1)]) dX5_load_5 rfl rfl (Nat.le_of_ble_eq_true rfl) rfl ?_
  refine s_iload_n (q := 7) dX5_load_6 rfl rfl 0 rfl ?_
  refine s_if_eq (q := 10) (tgt := 12) dX5_load_7 rfl rfl (fun hb2 => ?_) (fun hb2 => ?_)
  · rw [if_pos hb2] at h
    refine s_aload_n (q := 13) dX5_load_12 rfl rfl 1 rfl ?_
    refine t_getR (q := 16) (k := 0) (f := 5) (t := 34) dX5_load_13 rfl rfl rfl rfl inX5 (Nat.le_of_ble_eq_true rfl) fX5_35 ?_
    refine s_iload_n (q := 17) dX5_load_16 rfl rfl 2 rfl ?_
    obtain ⟨hg3, h⟩ := chk_some h
    refine t_aald (q := 18) dX5_load_17 rfl (inB_in hg3) ?_
    refine s_astore_n (q := 19) (lv' := [(3, .ref (eB E + (shO x1))), (2, .int q1.1), (0, .ref (eB E + 0)), (1, .int x1)]) dX5_load_18 rfl rfl (Nat.le_of_ble_eq_true rfl) rfl ?_
    refine s_aload_n (q := 20) dX5_load_19 rfl rfl 0 rfl ?_
    refine t_getI (q := 23) (k := (shO x1)) (f := 1) (v := (q1.2.1 (shO x1) 1)) dX5_load_20 rfl (sh_obj (sh_of (inB_in hg3))) rfl rfl inX0 (Nat.le_of_ble_eq_true rfl) fX5_256 rfl ?_
    refine s_aload_n (q := 24) dX5_load_23 rfl rfl 2 rfl ?_
    refine t_getR (q := 27) (k := 0) (f := 0) (t := 1) dX5_load_24 rfl rfl rfl rfl inX5 (Nat.le_of_ble_eq_true rfl) fX5_10 ?_
    refine t_getI (q := 30) (k := 1) (f := 0) (v := (q1.2.1 1 0)) dX5_load_27 rfl rfl rfl rfl inX1 (Nat.le_of_ble_eq_true rfl) fX5_65 rfl ?_
    refine v_min (q := 33) dX5_load_30 rfl lX5_161 (Nat.le_of_ble_eq_true rfl) (Nat.le_of_ble_eq_true rfl) ?_
    refine s_istore (q := 35) (lv' := [(4, .int (imn (q1.2.1 (shO x1) 1) (q1.2.1 1 0))), (3, .ref (eB E + (shO x1))), (2, .int q1.1), (0, .ref (eB E + 0)), (1, .int x1)]) dX5_load_33 rfl (Nat.le_of_ble_eq_true rfl) rfl ?_
    refine s_iconst (q := 36) (v := 0) dX5_load_35 rfl rfl ?_
    refine s_istore (q := 38) (lv' := [(5, .int 0), (4, .int (imn (q1.2.1 (shO x1) 1) (q1.2.1 1 0))), (3, .ref (eB E + (shO x1))), (2, .int q1.1), (0, .ref (eB E + 0)), (1, .int x1)]) dX5_load_36 rfl (Nat.le_of_ble_eq_true rfl) rfl ?_
    obtain ⟨q10, hc10, h⟩ := bnd h
    try dsimp only at h
    refine t_sub [4, 2, 1, 0] rfl (T_X5_load_0_38 E _ _ _ _ _ _ hc10 ?_)
    refine s_iload (q := 85) dX5_load_83 rfl 0 rfl ?_
    obtain rfl := Option.some.inj h
    exact t_iret dX5_load_85 rfl rfl
  · rw [if_neg hb2] at h
    refine s_iload_n (q := 11) dX5_load_10 rfl rfl 0 rfl ?_
    obtain rfl := Option.some.inj h
    exact t_iret dX5_load_11 rfl rfl
-- X6_load
def G_X6_load_51_18 : Nat → Int32 → Int32 → ST → Option (Int32 × ST)
  | 0, _, _, _ => none
  | n + 1, x1, x3, S => (if inB x1 4 = true then (if (S.1 63 x1.toNatClampNeg) ≤ x3 then some (x3, S) else ((G_X6_isStar_51 x3 S).bind fun q5 => (if q5.1 = 0 then some (x3, q5.2) else ((G_X6_toldAt_51 x1 x3 q5.2).bind fun q7 => ((G_X6_in1 q7.1 0 99 q7.2).bind fun q8 => (if q8.1 = 0 then some (x3, q8.2) else ((G_X6_toldAt_51 x1 x3 q8.2).bind fun q10 => ((G_X6_puts_51 x3 2 q10.1 q10.2).bind fun q11 => G_X6_load_51_18 n x1 (x3 + 1) q11.2)))))))) else none)
set_option maxHeartbeats 4000000 in
set_option maxRecDepth 100000 in
theorem T_X6_load_51_18 (E : EV) : ∀ (n : Nat) (x1 : Int32) (x3 : Int32) (S : ST), ∀ (w : (Int32 × ST)), G_X6_load_51_18 n x1 x3 S = some w → ∀ {Q : Option Value → ST → Prop}, SS E mX6_load 69 [(3, .int w.1)] [] w.2 Q → SS E mX6_load 18 [(0, .ref (eB E + 51)), (1, .int x1), (3, .int x3)] [] S Q := by
  intro n
  induction n with
  | zero =>
    intro x1 x3 S w h
    cases h
  | succ n ih =>
    intro x1 x3 S w h Q K
    unfold G_X6_load_51_18 at h
    refine s_iload_n (q := 19) dX6_load_18 rfl rfl 2 rfl ?_
    refine s_aload_n (q := 20) dX6_load_19 rfl rfl 0 rfl ?_
    refine t_getR (q := 23) (k := 51) (f := 17) (t := 63) dX6_load_20 rfl rfl rfl rfl inX6 (Nat.le_of_ble_eq_true rfl) fX6_44 ?_
    refine s_iload_n (q := 24) dX6_load_23 rfl rfl 1 rfl ?_
    obtain ⟨hg3, h⟩ := chk_some h
    refine u_iald (q := 25) (k := 63) (v := (S.1 63 x1.toNatClampNeg)) dX6_load_24 rfl rfl (inB_in hg3) rfl rfl ?_
    refine s_icmp_ge (q := 28) (tgt := 69) dX6_load_25 rfl rfl (fun hb4 => ?_) (fun hb4 => ?_)
    · rw [if_pos hb4] at h
      obtain rfl := Option.some.inj h
      exact t_sub [2] rfl K
    · rw [if_neg hb4] at h
      refine s_aload_n (q := 29) dX6_load_28 rfl rfl 0 rfl ?_
      refine s_iload_n (q := 30) dX6_load_29 rfl rfl 2 rfl ?_
      obtain ⟨q5, hc5, h⟩ := bnd h
      try dsimp only at h
      refine t_callV (q := 33) (N := mX6_isStar) (a := eB E + 51) [.int x3] dX6_load_30 rfl nkX6_isStar vkX6_isStar lX6_101 ⟨Nat.le_of_ble_eq_true rfl, Nat.le_of_ble_eq_true rfl⟩ (rc_obj (k := 51) rfl rfl) rfl rfl (Nat.le_of_ble_eq_true rfl) (Nat.le_of_ble_eq_true rfl) (T_X6_isStar_51 E _ hc5) ?_
      refine s_if_eq (q := 36) (tgt := 69) dX6_load_33 rfl rfl (fun hb6 => ?_) (fun hb6 => ?_)
      · rw [if_pos hb6] at h
        obtain rfl := Option.some.inj h
        exact t_sub [2] rfl K
      · rw [if_neg hb6] at h
        refine s_aload_n (q := 37) dX6_load_36 rfl rfl 0 rfl ?_
        refine s_iload_n (q := 38) dX6_load_37 rfl rfl 1 rfl ?_
        refine s_iload_n (q := 39) dX6_load_38 rfl rfl 2 rfl ?_
        obtain ⟨q7, hc7, h⟩ := bnd h
        try dsimp only at h
        refine t_callV (q := 42) (N := mX6_toldAt) (a := eB E + 51) [.int x1, .int x3] dX6_load_39 rfl nkX6_toldAt vkX6_toldAt lX6_183 ⟨Nat.le_of_ble_eq_true rfl, Nat.le_of_ble_eq_true rfl⟩ (rc_obj (k := 51) rfl rfl) rfl rfl (Nat.le_of_ble_eq_true rfl) (Nat.le_of_ble_eq_true rfl) (T_X6_toldAt_51 E _ _ hc7) ?_
        refine s_iconst (q := 43) (v := 0) dX6_load_42 rfl rfl ?_
        refine s_bipush (q := 45) (v := 99) dX6_load_43 rfl rfl ?_
        obtain ⟨q8, hc8, h⟩ := bnd h
        try dsimp only at h
        refine t_callS (q := 48) (N := mX6_in1) [.int q7.1, .int 0, .int 99] dX6_load_45 rfl nkX6_in1 sX6_in1 lX6_54 ⟨Nat.le_of_ble_eq_true rfl, Nat.le_of_ble_eq_true rfl⟩ rfl rfl (Nat.le_of_ble_eq_true rfl) (Nat.le_of_ble_eq_true rfl) (T_X6_in1 E _ _ _ hc8) ?_
        refine s_if_eq (q := 51) (tgt := 69) dX6_load_48 rfl rfl (fun hb9 => ?_) (fun hb9 => ?_)
        · rw [if_pos hb9] at h
          obtain rfl := Option.some.inj h
          exact t_sub [2] rfl K
        · rw [if_neg hb9] at h
          refine s_aload_n (q := 52) dX6_load_51 rfl rfl 0 rfl ?_
          refine s_iload_n (q := 53) dX6_load_52 rfl rfl 2 rfl ?_
          refine s_iconst (q := 54) (v := 2) dX6_load_53 rfl rfl ?_
          refine s_aload_n (q := 55) dX6_load_54 rfl rfl 0 rfl ?_
          refine s_iload_n (q := 56) dX6_load_55 rfl rfl 1 rfl ?_
          refine s_iload_n (q := 57) dX6_load_56 rfl rfl 2 rfl ?_
          obtain ⟨q10, hc10, h⟩ := bnd h
          try dsimp only at h
          refine t_callV (q := 60) (N := mX6_toldAt) (a := eB E + 51) [.int x1, .int x3] dX6_load_57 rfl nkX6_toldAt vkX6_toldAt lX6_183 ⟨Nat.le_of_ble_eq_true rfl, Nat.le_of_ble_eq_true rfl⟩ (rc_obj (k := 51) rfl rfl) rfl rfl (Nat.le_of_ble_eq_true rfl) (Nat.le_of_ble_eq_true rfl) (T_X6_toldAt_51 E _ _ hc10) ?_
          obtain ⟨q11, hc11, h⟩ := bnd h
          try dsimp only at h
          refine t_callV (q := 63) (N := mX6_puts) (a := eB E + 51) [.int x3, .int 2, .int q10.1] dX6_load_60 rfl nkX6_puts vkX6_puts lX6_80 ⟨Nat.le_of_ble_eq_true rfl, Nat.le_of_ble_eq_true rfl⟩ (rc_obj (k := 51) rfl rfl) rfl rfl (Nat.le_of_ble_eq_true rfl) (Nat.le_of_ble_eq_true rfl) (T_X6_puts_51 E _ _ _ hc11) ?_
          refine s_iinc (q := 66) (j := 2) (v := (x3 + 1)) (lv' := [(3, .int (x3 + 1)), (0, .ref (eB E + 51)), (1, .int x1)]) dX6_load_63 rfl rfl rfl (Nat.le_of_ble_eq_true rfl) rfl ?_
          refine s_goto (tgt := 18) dX6_load_66 rfl ?_
          exact t_sub [1, 2, 0] rfl (ih _ _ _ _ h K)
def G_X6_load_51 (x1 : Int32) (S : ST) : Option (Int32 × ST) := ((G_X6_wrongSheet_51 x1 S).bind fun q1 => (if q1.1 < 0 then (G_X6_load_51_18 3000 x1 0 q1.2).bind fun q12 => some (q12.1, q12.2) else ((G_X6_no_51 q1.1 q1.2).bind fun q13 => some (q13.1, q13.2))))
set_option maxHeartbeats 4000000 in
set_option maxRecDepth 100000 in
theorem T_X6_load_51 (E : EV) (x1 : Int32) {S : ST} {w : (Int32 × ST)} (h : G_X6_load_51 x1 S = some w) : SD E mX6_load 0 [(0, .ref (eB E + 51)), (1, .int x1)] [] S (some (.int w.1)) w.2 := by
  unfold G_X6_load_51 at h
  refine s_aload_n (q := 1) dX6_load_0 rfl rfl 0 rfl ?_
  refine s_iload_n (q := 2) dX6_load_1 rfl rfl 1 rfl ?_
  obtain ⟨q1, hc1, h⟩ := bnd h
  try dsimp only at h
  refine t_callV (q := 5) (N := mX6_wrongSheet) (a := eB E + 51) [.int x1] dX6_load_2 rfl nkX6_wrongSheet vkX6_wrongSheet lX6_186 ⟨Nat.le_of_ble_eq_true rfl, Nat.le_of_ble_eq_true rfl⟩ (rc_obj (k := 51) rfl rfl) rfl rfl (Nat.le_of_ble_eq_true rfl) (Nat.le_of_ble_eq_true rfl) (T_X6_wrongSheet_51 E _ hc1) ?_
  refine s_istore_n (q := 6) (lv' := [(2, .int q1.1), (0, .ref (eB E + 51)), (1, .int x1)]) dX6_load_5 rfl rfl (Nat.le_of_ble_eq_true rfl) rfl ?_
  refine s_iload_n (q := 7) dX6_load_6 rfl rfl 0 rfl ?_
  refine s_if_lt (q := 10) (tgt := 16) dX6_load_7 rfl rfl (fun hb2 => ?_) (fun hb2 => ?_)
  · rw [if_pos hb2] at h
    refine s_iconst (q := 17) (v := 0) dX6_load_16 rfl rfl ?_
    refine s_istore_n (q := 18) (lv' := [(3, .int 0), (2, .int q1.1), (0, .ref (eB E + 51)), (1, .int x1)]) dX6_load_17 rfl rfl (Nat.le_of_ble_eq_true rfl) rfl ?_
    obtain ⟨q12, hc12, h⟩ := bnd h
    try dsimp only at h
    refine t_sub [2, 3, 0] rfl (T_X6_load_51_18 E _ _ _ _ _ hc12 ?_)
    refine s_iload_n (q := 70) dX6_load_69 rfl rfl 0 rfl ?_
    obtain rfl := Option.some.inj h
    exact t_iret dX6_load_70 rfl rfl
  · rw [if_neg hb2] at h
    refine s_aload_n (q := 11) dX6_load_10 rfl rfl 1 rfl ?_
    refine s_iload_n (q := 12) dX6_load_11 rfl rfl 0 rfl ?_
    obtain ⟨q13, hc13, h⟩ := bnd h
    try dsimp only at h
    refine t_callV (q := 15) (N := mX6_no) (a := eB E + 51) [.int q1.1] dX6_load_12 rfl nkX6_no vkX6_no lX6_94 ⟨Nat.le_of_ble_eq_true rfl, Nat.le_of_ble_eq_true rfl⟩ (rc_obj (k := 51) rfl rfl) rfl rfl (Nat.le_of_ble_eq_true rfl) (Nat.le_of_ble_eq_true rfl) (T_X6_no_51 E _ hc13) ?_
    obtain rfl := Option.some.inj h
    exact t_iret dX6_load_15 rfl rfl
-- X5_judge
def G_X5_judge_0_47 : Nat → Nat → Int32 → Int32 → Int32 → Int32 → ST → Option (Int32 × ST)
  | 0, _, _, _, _, _, _ => none
  | n + 1, x3, x4, x5, x6, x7, S => if isSh x3 = true then (if (S.1 x3 1) ≤ x7 then some (0, S) else (if inB x7 40 = true then ((G_X5_isBelow (S.1 (x3 + 1) x7.toNatClampNeg) (S.1 1 0) S).bind fun q6 => (if q6.1 = 0 then some ((x7 + 1), q6.2) else (if ((x6 >>> ((S.1 (x3 + 1) x7.toNatClampNeg) &&& 31)) &&& 1) = 1 then some ((x7 + 1), q6.2) else (if inB (S.1 (x3 + 1) x7.toNatClampNeg) 10 = true then ((G_X5_stepsBetween x5 (q6.2.1 3 ((S.1 (x3 + 1) x7.toNatClampNeg).toNatClampNeg)) q6.2).bind fun q10 => (if (0 : Int32) ≤ (x4 - (q10.1 + (q10.2.1 8 2))) then (if inB (S.1 (x3 + 1) x7.toNatClampNeg) 10 = true then G_X5_judge_0_47 n x3 (x4 - (q10.1 + (q10.2.1 8 2))) (q10.2.1 3 ((S.1 (x3 + 1) x7.toNatClampNeg).toNatClampNeg)) (x6 ||| (1 <<< ((S.1 (x3 + 1) x7.toNatClampNeg) &&& 31))) (x7 + 1) q10.2 else none) else some ((x7 + 1), q10.2))) else none)))) else none)) else none
set_option maxHeartbeats 4000000 in
set_option maxRecDepth 100000 in
theorem T_X5_judge_0_47 (E : EV) : ∀ (n : Nat) (x3 : Nat) (x4 : Int32) (x5 : Int32) (x6 : Int32) (x7 : Int32) (S : ST) (w : (Int32 × ST)), G_X5_judge_0_47 n x3 x4 x5 x6 x7 S = some w → SD E mX5_judge 47 [(0, .ref (eB E + 0)), (3, .ref (eB E + x3)), (4, .int x4), (5, .int x5), (6, .int x6), (7, .int x7)] [] S (some (.int w.1)) w.2 := by
  intro n
  induction n with
  | zero =>
    intro x3 x4 x5 x6 x7 S w h
    cases h
  | succ n ih =>
    intro x3 x4 x5 x6 x7 S w h
    unfold G_X5_judge_0_47 at h
    obtain ⟨hx3, h⟩ := chk_some h
    refine s_iload (q := 49) dX5_judge_47 rfl 5 rfl ?_
    refine s_aload_n (q := 50) dX5_judge_49 rfl rfl 1 rfl ?_
    refine t_getI (q := 53) (k := x3) (f := 1) (v := (S.1 x3 1)) dX5_judge_50 rfl (sh_obj hx3) rfl rfl inX0 (Nat.le_of_ble_eq_true rfl) fX5_256 rfl ?_
    refine s_icmp_ge (q := 56) (tgt := 163) dX5_judge_53 rfl rfl (fun hb4 => ?_) (fun hb4 => ?_)
    · rw [if_pos hb4] at h
      refine s_iconst (q := 164) (v := 0) dX5_judge_163 rfl rfl ?_
      obtain rfl := Option.some.inj h
      exact t_iret dX5_judge_164 rfl rfl
    · rw [if_neg hb4] at h
      refine s_aload_n (q := 57) dX5_judge_56 rfl rfl 1 rfl ?_
      refine t_getR (q := 60) (k := x3) (f := 2) (t := x3 + 1) dX5_judge_57 rfl (sh_obj hx3) rfl rfl inX0 (Nat.le_of_ble_eq_true rfl) fX5_266 ?_
      refine s_iload (q := 62) dX5_judge_60 rfl 5 rfl ?_
      obtain ⟨hg5, h⟩ := chk_some h
      refine u_iald (q := 63) (k := (x3 + 1)) (v := (S.1 (x3 + 1) x7.toNatClampNeg)) dX5_judge_62 rfl (sh_num hx3) (inB_in hg5) rfl rfl ?_
      refine s_istore (q := 65) (lv' := [(8, .int (S.1 (x3 + 1) x7.toNatClampNeg)), (0, .ref (eB E + 0)), (3, .ref (eB E + x3)), (4, .int x4), (5, .int x5), (6, .int x6), (7, .int x7)]) dX5_judge_63 rfl (Nat.le_of_ble_eq_true rfl) rfl ?_
      refine s_iload (q := 67) dX5_judge_65 rfl 0 rfl ?_
      refine s_aload_n (q := 68) dX5_judge_67 rfl rfl 1 rfl ?_
      refine t_getR (q := 71) (k := 0) (f := 0) (t := 1) dX5_judge_68 rfl rfl rfl rfl inX5 (Nat.le_of_ble_eq_true rfl) fX5_10 ?_
      refine t_getI (q := 74) (k := 1) (f := 0) (v := (S.1 1 0)) dX5_judge_71 rfl rfl rfl rfl inX1 (Nat.le_of_ble_eq_true rfl) fX5_65 rfl ?_
      obtain ⟨q6, hc6, h⟩ := bnd h
      try dsimp only at h
      refine t_callS (q := 77) (N := mX5_isBelow) [.int (S.1 (x3 + 1) x7.toNatClampNeg), .int (S.1 1 0)] dX5_judge_74 rfl nkX5_isBelow sX5_isBelow lX5_57 ⟨Nat.le_of_ble_eq_true rfl, Nat.le_of_ble_eq_true rfl⟩ rfl rfl (Nat.le_of_ble_eq_true rfl) (Nat.le_of_ble_eq_true rfl) (T_X5_isBelow E _ _ hc6) ?_
      refine s_if_eq (q := 80) (tgt := 91) dX5_judge_77 rfl rfl (fun hb7 => ?_) (fun hb7 => ?_)
      · rw [if_pos hb7] at h
        refine s_iload (q := 93) dX5_judge_91 rfl 6 rfl ?_
        refine s_iconst (q := 94) (v := 1) dX5_judge_93 rfl rfl ?_
        refine s_iadd (q := 95) dX5_judge_94 rfl ?_
        obtain rfl := Option.some.inj h
        exact t_iret dX5_judge_95 rfl rfl
      · rw [if_neg hb7] at h
        refine s_iload (q := 82) dX5_judge_80 rfl 5 rfl ?_
        refine s_iload (q := 84) dX5_judge_82 rfl 0 rfl ?_
        refine s_ishr (q := 85) dX5_judge_84 rfl ?_
        refine s_iconst (q := 86) (v := 1) dX5_judge_85 rfl rfl ?_
        refine s_iand (q := 87) dX5_judge_86 rfl ?_
        refine s_iconst (q := 88) (v := 1) dX5_judge_87 rfl rfl ?_
        refine s_icmp_ne (q := 91) (tgt := 96) dX5_judge_88 rfl rfl (fun hb8 => ?_) (fun hb8 => ?_)
        · rw [if_neg hb8] at h
          refine s_iload (q := 98) dX5_judge_96 rfl 3 rfl ?_
          refine s_iload (q := 100) dX5_judge_98 rfl 4 rfl ?_
          refine s_aload_n (q := 101) dX5_judge_100 rfl rfl 1 rfl ?_
          refine t_getR (q := 104) (k := 0) (f := 0) (t := 1) dX5_judge_101 rfl rfl rfl rfl inX5 (Nat.le_of_ble_eq_true rfl) fX5_10 ?_
          refine t_getR (q := 107) (k := 1) (f := 2) (t := 3) dX5_judge_104 rfl rfl rfl rfl inX1 (Nat.le_of_ble_eq_true rfl) fX5_145 ?_
          refine s_iload (q := 109) dX5_judge_107 rfl 0 rfl ?_
          obtain ⟨hg9, h⟩ := chk_some h
          refine u_iald (q := 110) (k := 3) (v := (q6.2.1 3 ((S.1 (x3 + 1) x7.toNatClampNeg).toNatClampNeg))) dX5_judge_109 rfl rfl (inB_in hg9) rfl rfl ?_
          obtain ⟨q10, hc10, h⟩ := bnd h
          try dsimp only at h
          refine t_callS (q := 113) (N := mX5_stepsBetween) [.int x5, .int (q6.2.1 3 ((S.1 (x3 + 1) x7.toNatClampNeg).toNatClampNeg))] dX5_judge_110 rfl nkX5_stepsBetween sX5_stepsBetween lX5_115 ⟨Nat.le_of_ble_eq_true rfl, Nat.le_of_ble_eq_true rfl⟩ rfl rfl (Nat.le_of_ble_eq_true rfl) (Nat.le_of_ble_eq_true rfl) (T_X5_stepsBetween E _ _ hc10) ?_
          refine s_aload_n (q := 114) dX5_judge_113 rfl rfl 1 rfl ?_
          refine t_getR (q := 117) (k := 0) (f := 0) (t := 1) dX5_judge_114 rfl rfl rfl rfl inX5 (Nat.le_of_ble_eq_true rfl) fX5_10 ?_
          refine t_getR (q := 120) (k := 1) (f := 7) (t := 8) dX5_judge_117 rfl rfl rfl rfl inX1 (Nat.le_of_ble_eq_true rfl) fX5_83 ?_
          refine s_iconst (q := 121) (v := 2) dX5_judge_120 rfl rfl ?_
          refine u_iald (q := 122) (k := 8) (j := 2) (v := (q10.2.1 8 2)) dX5_judge_121 rfl rfl (inB_in (by decide)) (by decide) rfl ?_
          refine s_iadd (q := 123) dX5_judge_122 rfl ?_
          refine s_isub (q := 124) dX5_judge_123 rfl ?_
          refine s_istore (q := 126) (lv' := [(4, .int (x4 - (q10.1 + (q10.2.1 8 2)))), (8, .int (S.1 (x3 + 1) x7.toNatClampNeg)), (0, .ref (eB E + 0)), (3, .ref (eB E + x3)), (5, .int x5), (6, .int x6), (7, .int x7)]) dX5_judge_124 rfl (Nat.le_of_ble_eq_true rfl) rfl ?_
          refine s_iload (q := 128) dX5_judge_126 rfl 0 rfl ?_
          refine s_if_ge (q := 131) (tgt := 136) dX5_judge_128 rfl rfl (fun hb11 => ?_) (fun hb11 => ?_)
          · rw [if_pos hb11] at h
            refine s_aload_n (q := 137) dX5_judge_136 rfl rfl 2 rfl ?_
            refine t_getR (q := 140) (k := 0) (f := 0) (t := 1) dX5_judge_137 rfl rfl rfl rfl inX5 (Nat.le_of_ble_eq_true rfl) fX5_10 ?_
            refine t_getR (q := 143) (k := 1) (f := 2) (t := 3) dX5_judge_140 rfl rfl rfl rfl inX1 (Nat.le_of_ble_eq_true rfl) fX5_145 ?_
            refine s_iload (q := 145) dX5_judge_143 rfl 1 rfl ?_
            obtain ⟨hg12, h⟩ := chk_some h
            refine u_iald (q := 146) (k := 3) (v := (q10.2.1 3 ((S.1 (x3 + 1) x7.toNatClampNeg).toNatClampNeg))) dX5_judge_145 rfl rfl (inB_in hg12) rfl rfl ?_
            refine s_istore (q := 148) (lv' := [(5, .int (q10.2.1 3 ((S.1 (x3 + 1) x7.toNatClampNeg).toNatClampNeg))), (4, .int (x4 - (q10.1 + (q10.2.1 8 2)))), (8, .int (S.1 (x3 + 1) x7.toNatClampNeg)), (0, .ref (eB E + 0)), (3, .ref (eB E + x3)), (6, .int x6), (7, .int x7)]) dX5_judge_146 rfl (Nat.le_of_ble_eq_true rfl) rfl ?_
            refine s_iload (q := 150) dX5_judge_148 rfl 5 rfl ?_
            refine s_iconst (q := 151) (v := 1) dX5_judge_150 rfl rfl ?_
            refine s_iload (q := 153) dX5_judge_151 rfl 2 rfl ?_
            refine s_ishl (q := 154) dX5_judge_153 rfl ?_
            refine s_ior (q := 155) dX5_judge_154 rfl ?_
            refine s_istore (q := 157) (lv' := [(6, .int (x6 ||| (1 <<< ((S.1 (x3 + 1) x7.toNatClampNeg) &&& 31)))), (5, .int (q10.2.1 3 ((S.1 (x3 + 1) x7.toNatClampNeg).toNatClampNeg))), (4, .int (x4 - (q10.1 + (q10.2.1 8 2)))), (8, .int (S.1 (x3 + 1) x7.toNatClampNeg)), (0, .ref (eB E + 0)), (3, .ref (eB E + x3)), (7, .int x7)]) dX5_judge_155 rfl (Nat.le_of_ble_eq_true rfl) rfl ?_
            refine s_iinc (q := 160) (j := 6) (v := (x7 + 1)) (lv' := [(7, .int (x7 + 1)), (6, .int (x6 ||| (1 <<< ((S.1 (x3 + 1) x7.toNatClampNeg) &&& 31)))), (5, .int (q10.2.1 3 ((S.1 (x3 + 1) x7.toNatClampNeg).toNatClampNeg))), (4, .int (x4 - (q10.1 + (q10.2.1 8 2)))), (8, .int (S.1 (x3 + 1) x7.toNatClampNeg)), (0, .ref (eB E + 0)), (3, .ref (eB E + x3))]) dX5_judge_157 rfl rfl rfl (Nat.le_of_ble_eq_true rfl) rfl ?_
            refine s_goto (tgt := 47) dX5_judge_160 rfl ?_
            exact t_sub [5, 6, 3, 2, 1, 0] rfl (ih _ _ _ _ _ _ _ h)
          · rw [if_neg hb11] at h
            refine s_iload (q := 133) dX5_judge_131 rfl 6 rfl ?_
            refine s_iconst (q := 134) (v := 1) dX5_judge_133 rfl rfl ?_
            refine s_iadd (q := 135) dX5_judge_134 rfl ?_
            obtain rfl := Option.some.inj h
            exact t_iret dX5_judge_135 rfl rfl
        · rw [if_pos hb8] at h
          refine s_iload (q := 93) dX5_judge_91 rfl 6 rfl ?_
          refine s_iconst (q := 94) (v := 1) dX5_judge_93 rfl rfl ?_
          refine s_iadd (q := 95) dX5_judge_94 rfl ?_
          obtain rfl := Option.some.inj h
          exact t_iret dX5_judge_95 rfl rfl
def G_X5_judge_0 (x1 : Int32) (S : ST) : Option (Int32 × ST) := ((G_X5_lackOfSheet_0 x1 S).bind fun q1 => (if q1.1 = 0 then (if inB x1 4 = true then G_X5_judge_0_47 3000 (shO x1) (q1.2.1 7 0) (q1.2.1 6 0) 0 0 q1.2 else none) else some (q1.1, q1.2)))
set_option maxHeartbeats 4000000 in
set_option maxRecDepth 100000 in
theorem T_X5_judge_0 (E : EV) (x1 : Int32) {S : ST} {w : (Int32 × ST)} (h : G_X5_judge_0 x1 S = some w) : SD E mX5_judge 0 [(0, .ref (eB E + 0)), (1, .int x1)] [] S (some (.int w.1)) w.2 := by
  unfold G_X5_judge_0 at h
  refine s_aload_n (q := 1) dX5_judge_0 rfl rfl 0 rfl ?_
  refine s_iload_n (q := 2) dX5_judge_1 rfl rfl 1 rfl ?_
  obtain ⟨q1, hc1, h⟩ := bnd h
  try dsimp only at h
  refine t_callV (q := 5) (N := mX5_lackOfSheet) (a := eB E + 0) [.int x1] dX5_judge_2 rfl nkX5_lackOfSheet vkX5_lackOfSheet lX5_209 ⟨Nat.le_of_ble_eq_true rfl, Nat.le_of_ble_eq_true rfl⟩ (rc_obj (k := 0) rfl rfl) rfl rfl (Nat.le_of_ble_eq_true rfl) (Nat.le_of_ble_eq_true rfl) (T_X5_lackOfSheet_0 E _ hc1) ?_
  refine s_istore_n (q := 6) (lv' := [(2, .int q1.1), (0, .ref (eB E + 0)), (1, .int x1)]) dX5_judge_5 rfl rfl (Nat.le_of_ble_eq_true rfl) rfl ?_
  refine s_iload_n (q := 7) dX5_judge_6 rfl rfl 0 rfl ?_
  refine s_if_eq (q := 10) (tgt := 12) dX5_judge_7 rfl rfl (fun hb2 => ?_) (fun hb2 => ?_)
  · rw [if_pos hb2] at h
    refine s_aload_n (q := 13) dX5_judge_12 rfl rfl 1 rfl ?_
    refine t_getR (q := 16) (k := 0) (f := 5) (t := 34) dX5_judge_13 rfl rfl rfl rfl inX5 (Nat.le_of_ble_eq_true rfl) fX5_35 ?_
    refine s_iload_n (q := 17) dX5_judge_16 rfl rfl 2 rfl ?_
    obtain ⟨hg3, h⟩ := chk_some h
    refine t_aald (q := 18) dX5_judge_17 rfl (inB_in hg3) ?_
    refine s_astore_n (q := 19) (lv' := [(3, .ref (eB E + (shO x1))), (2, .int q1.1), (0, .ref (eB E + 0)), (1, .int x1)]) dX5_judge_18 rfl rfl (Nat.le_of_ble_eq_true rfl) rfl ?_
    refine s_aload_n (q := 20) dX5_judge_19 rfl rfl 2 rfl ?_
    refine t_getR (q := 23) (k := 0) (f := 0) (t := 1) dX5_judge_20 rfl rfl rfl rfl inX5 (Nat.le_of_ble_eq_true rfl) fX5_10 ?_
    refine t_getR (q := 26) (k := 1) (f := 6) (t := 7) dX5_judge_23 rfl rfl rfl rfl inX1 (Nat.le_of_ble_eq_true rfl) fX5_275 ?_
    refine s_iconst (q := 27) (v := 0) dX5_judge_26 rfl rfl ?_
    refine u_iald (q := 28) (k := 7) (j := 0) (v := (q1.2.1 7 0)) dX5_judge_27 rfl rfl (inB_in (by decide)) (by decide) rfl ?_
    refine s_istore (q := 30) (lv' := [(4, .int (q1.2.1 7 0)), (3, .ref (eB E + (shO x1))), (2, .int q1.1), (0, .ref (eB E + 0)), (1, .int x1)]) dX5_judge_28 rfl (Nat.le_of_ble_eq_true rfl) rfl ?_
    refine s_aload_n (q := 31) dX5_judge_30 rfl rfl 3 rfl ?_
    refine t_getR (q := 34) (k := 0) (f := 0) (t := 1) dX5_judge_31 rfl rfl rfl rfl inX5 (Nat.le_of_ble_eq_true rfl) fX5_10 ?_
    refine t_getR (q := 37) (k := 1) (f := 5) (t := 6) dX5_judge_34 rfl rfl rfl rfl inX1 (Nat.le_of_ble_eq_true rfl) fX5_142 ?_
    refine s_iconst (q := 38) (v := 0) dX5_judge_37 rfl rfl ?_
    refine u_iald (q := 39) (k := 6) (j := 0) (v := (q1.2.1 6 0)) dX5_judge_38 rfl rfl (inB_in (by decide)) (by decide) rfl ?_
    refine s_istore (q := 41) (lv' := [(5, .int (q1.2.1 6 0)), (4, .int (q1.2.1 7 0)), (3, .ref (eB E + (shO x1))), (2, .int q1.1), (0, .ref (eB E + 0)), (1, .int x1)]) dX5_judge_39 rfl (Nat.le_of_ble_eq_true rfl) rfl ?_
    refine s_iconst (q := 42) (v := 0) dX5_judge_41 rfl rfl ?_
    refine s_istore (q := 44) (lv' := [(6, .int 0), (5, .int (q1.2.1 6 0)), (4, .int (q1.2.1 7 0)), (3, .ref (eB E + (shO x1))), (2, .int q1.1), (0, .ref (eB E + 0)), (1, .int x1)]) dX5_judge_42 rfl (Nat.le_of_ble_eq_true rfl) rfl ?_
    refine s_iconst (q := 45) (v := 0) dX5_judge_44 rfl rfl ?_
    refine s_istore (q := 47) (lv' := [(7, .int 0), (6, .int 0), (5, .int (q1.2.1 6 0)), (4, .int (q1.2.1 7 0)), (3, .ref (eB E + (shO x1))), (2, .int q1.1), (0, .ref (eB E + 0)), (1, .int x1)]) dX5_judge_45 rfl (Nat.le_of_ble_eq_true rfl) rfl ?_
    exact t_sub [6, 4, 3, 2, 1, 0] rfl (T_X5_judge_0_47 E _ _ _ _ _ _ _ _ h)
  · rw [if_neg hb2] at h
    refine s_iload_n (q := 11) dX5_judge_10 rfl rfl 0 rfl ?_
    obtain rfl := Option.some.inj h
    exact t_iret dX5_judge_11 rfl rfl
-- X6_judge
def G_X6_judge_51_31 : Nat → Int32 → Int32 → Int32 → Int32 → Int32 → ST → Option (Int32 × ST)
  | 0, _, _, _, _, _, _ => none
  | n + 1, x1, x3, x4, x5, x6, S => (if inB x1 4 = true then (if (S.1 63 x1.toNatClampNeg) ≤ x6 then some (0, S) else ((G_X6_toldAt_51 x1 x6 S).bind fun q6 => ((G_X6_isStar_51 q6.1 q6.2).bind fun q7 => (if q7.1 = 0 then (if (0 : Int32) = 0 then (if (0 : Int32) = 0 then some ((1 + x6), q7.2) else ((G_X6_stepsOf_51 0 q7.2).bind fun q11 => (if (x4 + 0) ≤ q11.1 then ((G_X6_get_51 q6.1 1 q11.2).bind fun q13 => G_X6_judge_51_31 n x1 (x3 ||| (1 <<< (q6.1 &&& 31))) (x4 + 0) q13.1 (x6 + 1) q13.2) else some ((1 + x6), q11.2)))) else ((G_X6_get_51 q6.1 1 q7.2).bind fun q14 => ((G_X6_apartOf x5 q14.1 q14.2).bind fun q15 => (if (0 : Int32) = 0 then some ((1 + x6), q15.2) else ((G_X6_stepsOf_51 0 q15.2).bind fun q17 => (if (x4 + (q15.1 + (q15.2.1 52 6))) ≤ q17.1 then ((G_X6_get_51 q6.1 1 q17.2).bind fun q19 => G_X6_judge_51_31 n x1 (x3 ||| (1 <<< (q6.1 &&& 31))) (x4 + (q15.1 + (q15.2.1 52 6))) q19.1 (x6 + 1) q19.2) else some ((1 + x6), q17.2))))))) else ((G_X6_isIn x3 q6.1 q7.2).bind fun q20 => (if q20.1 = 0 then (if (1 : Int32) = 0 then (if (1 : Int32) = 0 then some ((1 + x6), q20.2) else ((G_X6_stepsOf_51 0 q20.2).bind fun q35 => (if (x4 + 0) ≤ q35.1 then ((G_X6_get_51 q6.1 1 q35.2).bind fun q37 => G_X6_judge_51_31 n x1 (x3 ||| (1 <<< (q6.1 &&& 31))) (x4 + 0) q37.1 (x6 + 1) q37.2) else some ((1 + x6), q35.2)))) else ((G_X6_get_51 q6.1 1 q20.2).bind fun q38 => ((G_X6_apartOf x5 q38.1 q38.2).bind fun q39 => (if (1 : Int32) = 0 then some ((1 + x6), q39.2) else ((G_X6_stepsOf_51 0 q39.2).bind fun q41 => (if (x4 + (q39.1 + (q39.2.1 52 6))) ≤ q41.1 then ((G_X6_get_51 q6.1 1 q41.2).bind fun q43 => G_X6_judge_51_31 n x1 (x3 ||| (1 <<< (q6.1 &&& 31))) (x4 + (q39.1 + (q39.2.1 52 6))) q43.1 (x6 + 1) q43.2) else some ((1 + x6), q41.2))))))) else (if (0 : Int32) = 0 then (if (0 : Int32) = 0 then some ((1 + x6), q20.2) else ((G_X6_stepsOf_51 0 q20.2).bind fun q24 => (if (x4 + 0) ≤ q24.1 then ((G_X6_get_51 q6.1 1 q24.2).bind fun q26 => G_X6_judge_51_31 n x1 (x3 ||| (1 <<< (q6.1 &&& 31))) (x4 + 0) q26.1 (x6 + 1) q26.2) else some ((1 + x6), q24.2)))) else ((G_X6_get_51 q6.1 1 q20.2).bind fun q27 => ((G_X6_apartOf x5 q27.1 q27.2).bind fun q28 => (if (0 : Int32) = 0 then some ((1 + x6), q28.2) else ((G_X6_stepsOf_51 0 q28.2).bind fun q30 => (if (x4 + (q28.1 + (q28.2.1 52 6))) ≤ q30.1 then ((G_X6_get_51 q6.1 1 q30.2).bind fun q32 => G_X6_judge_51_31 n x1 (x3 ||| (1 <<< (q6.1 &&& 31))) (x4 + (q28.1 + (q28.2.1 52 6))) q32.1 (x6 + 1) q32.2) else some ((1 + x6), q30.2))))))))))))) else none)
set_option maxHeartbeats 4000000 in
set_option maxRecDepth 100000 in
theorem T_X6_judge_51_31 (E : EV) : ∀ (n : Nat) (x1 : Int32) (x3 : Int32) (x4 : Int32) (x5 : Int32) (x6 : Int32) (S : ST) (w : (Int32 × ST)), G_X6_judge_51_31 n x1 x3 x4 x5 x6 S = some w → SD E mX6_judge 31 [(0, .ref (eB E + 51)), (1, .int x1), (3, .int x3), (4, .int x4), (5, .int x5), (6, .int x6)] [] S (some (.int w.1)) w.2 := by
  intro n
  induction n with
  | zero =>
    intro x1 x3 x4 x5 x6 S w h
    cases h
  | succ n ih =>
    intro x1 x3 x4 x5 x6 S w h
    unfold G_X6_judge_51_31 at h
    refine s_iload (q := 33) dX6_judge_31 rfl 5 rfl ?_
    refine s_aload_n (q := 34) dX6_judge_33 rfl rfl 0 rfl ?_
    refine t_getR (q := 37) (k := 51) (f := 17) (t := 63) dX6_judge_34 rfl rfl rfl rfl inX6 (Nat.le_of_ble_eq_true rfl) fX6_44 ?_
    refine s_iload_n (q := 38) dX6_judge_37 rfl rfl 1 rfl ?_
    obtain ⟨hg4, h⟩ := chk_some h
    refine u_iald (q := 39) (k := 63) (v := (S.1 63 x1.toNatClampNeg)) dX6_judge_38 rfl rfl (inB_in hg4) rfl rfl ?_
    refine s_icmp_ge (q := 42) (tgt := 152) dX6_judge_39 rfl rfl (fun hb5 => ?_) (fun hb5 => ?_)
    · rw [if_pos hb5] at h
      refine s_iconst (q := 153) (v := 0) dX6_judge_152 rfl rfl ?_
      obtain rfl := Option.some.inj h
      exact t_iret dX6_judge_153 rfl rfl
    · rw [if_neg hb5] at h
      refine s_aload_n (q := 43) dX6_judge_42 rfl rfl 0 rfl ?_
      refine s_iload_n (q := 44) dX6_judge_43 rfl rfl 1 rfl ?_
      refine s_iload (q := 46) dX6_judge_44 rfl 5 rfl ?_
      obtain ⟨q6, hc6, h⟩ := bnd h
      try dsimp only at h
      refine t_callV (q := 49) (N := mX6_toldAt) (a := eB E + 51) [.int x1, .int x6] dX6_judge_46 rfl nkX6_toldAt vkX6_toldAt lX6_183 ⟨Nat.le_of_ble_eq_true rfl, Nat.le_of_ble_eq_true rfl⟩ (rc_obj (k := 51) rfl rfl) rfl rfl (Nat.le_of_ble_eq_true rfl) (Nat.le_of_ble_eq_true rfl) (T_X6_toldAt_51 E _ _ hc6) ?_
      refine s_istore (q := 51) (lv' := [(7, .int q6.1), (0, .ref (eB E + 51)), (1, .int x1), (3, .int x3), (4, .int x4), (5, .int x5), (6, .int x6)]) dX6_judge_49 rfl (Nat.le_of_ble_eq_true rfl) rfl ?_
      refine s_aload_n (q := 52) dX6_judge_51 rfl rfl 1 rfl ?_
      refine s_iload (q := 54) dX6_judge_52 rfl 0 rfl ?_
      obtain ⟨q7, hc7, h⟩ := bnd h
      try dsimp only at h
      refine t_callV (q := 57) (N := mX6_isStar) (a := eB E + 51) [.int q6.1] dX6_judge_54 rfl nkX6_isStar vkX6_isStar lX6_101 ⟨Nat.le_of_ble_eq_true rfl, Nat.le_of_ble_eq_true rfl⟩ (rc_obj (k := 51) rfl rfl) rfl rfl (Nat.le_of_ble_eq_true rfl) (Nat.le_of_ble_eq_true rfl) (T_X6_isStar_51 E _ hc7) ?_
      refine s_if_eq (q := 60) (tgt := 73) dX6_judge_57 rfl rfl (fun hb8 => ?_) (fun hb8 => ?_)
      · rw [if_pos hb8] at h
        refine s_iconst (q := 74) (v := 0) dX6_judge_73 rfl rfl ?_
        refine s_istore (q := 76) (lv' := [(8, .int 0), (7, .int q6.1), (0, .ref (eB E + 51)), (1, .int x1), (3, .int x3), (4, .int x4), (5, .int x5), (6, .int x6)]) dX6_judge_74 rfl (Nat.le_of_ble_eq_true rfl) rfl ?_
        refine s_iload (q := 78) dX6_judge_76 rfl 5 rfl ?_
        refine s_iload (q := 80) dX6_judge_78 rfl 0 rfl ?_
        refine s_if_eq (q := 83) (tgt := 106) dX6_judge_80 rfl rfl (fun hb9 => ?_) (fun hb9 => ?_)
        · rw [if_pos hb9] at h
          refine s_iconst (q := 107) (v := 0) dX6_judge_106 rfl rfl ?_
          refine s_iadd (q := 108) dX6_judge_107 rfl ?_
          refine s_istore (q := 110) (lv' := [(4, .int (x4 + 0)), (8, .int 0), (7, .int q6.1), (0, .ref (eB E + 51)), (1, .int x1), (3, .int x3), (5, .int x5), (6, .int x6)]) dX6_judge_108 rfl (Nat.le_of_ble_eq_true rfl) rfl ?_
          refine s_iload (q := 112) dX6_judge_110 rfl 1 rfl ?_
          refine s_if_eq (q := 115) (tgt := 125) dX6_judge_112 rfl rfl (fun hb10 => ?_) (fun hb10 => ?_)
          · rw [if_pos hb10] at h
            refine s_iconst (q := 126) (v := 1) dX6_judge_125 rfl rfl ?_
            refine s_iload (q := 128) dX6_judge_126 rfl 7 rfl ?_
            refine s_iadd (q := 129) dX6_judge_128 rfl ?_
            obtain rfl := Option.some.inj h
            exact t_iret dX6_judge_129 rfl rfl
          · rw [if_neg hb10] at h
            refine s_iload (q := 117) dX6_judge_115 rfl 0 rfl ?_
            refine s_aload_n (q := 118) dX6_judge_117 rfl rfl 3 rfl ?_
            refine s_iconst (q := 119) (v := 0) dX6_judge_118 rfl rfl ?_
            obtain ⟨q11, hc11, h⟩ := bnd h
            try dsimp only at h
            refine t_callV (q := 122) (N := mX6_stepsOf) (a := eB E + 51) [.int 0] dX6_judge_119 rfl nkX6_stepsOf vkX6_stepsOf lX6_151 ⟨Nat.le_of_ble_eq_true rfl, Nat.le_of_ble_eq_true rfl⟩ (rc_obj (k := 51) rfl rfl) rfl rfl (Nat.le_of_ble_eq_true rfl) (Nat.le_of_ble_eq_true rfl) (T_X6_stepsOf_51 E _ hc11) ?_
            refine s_icmp_le (q := 125) (tgt := 130) dX6_judge_122 rfl rfl (fun hb12 => ?_) (fun hb12 => ?_)
            · rw [if_pos hb12] at h
              refine s_iload_n (q := 131) dX6_judge_130 rfl rfl 5 rfl ?_
              refine s_iconst (q := 132) (v := 1) dX6_judge_131 rfl rfl ?_
              refine s_iload (q := 134) dX6_judge_132 rfl 2 rfl ?_
              refine s_ishl (q := 135) dX6_judge_134 rfl ?_
              refine s_ior (q := 136) dX6_judge_135 rfl ?_
              refine s_istore_n (q := 137) (lv' := [(3, .int (x3 ||| (1 <<< (q6.1 &&& 31)))), (4, .int (x4 + 0)), (8, .int 0), (7, .int q6.1), (0, .ref (eB E + 51)), (1, .int x1), (5, .int x5), (6, .int x6)]) dX6_judge_136 rfl rfl (Nat.le_of_ble_eq_true rfl) rfl ?_
              refine s_aload_n (q := 138) dX6_judge_137 rfl rfl 4 rfl ?_
              refine s_iload (q := 140) dX6_judge_138 rfl 3 rfl ?_
              refine s_iconst (q := 141) (v := 1) dX6_judge_140 rfl rfl ?_
              obtain ⟨q13, hc13, h⟩ := bnd h
              try dsimp only at h
              refine t_callV (q := 144) (N := mX6_get) (a := eB E + 51) [.int q6.1, .int 1] dX6_judge_141 rfl nkX6_get vkX6_get lX6_58 ⟨Nat.le_of_ble_eq_true rfl, Nat.le_of_ble_eq_true rfl⟩ (rc_obj (k := 51) rfl rfl) rfl rfl (Nat.le_of_ble_eq_true rfl) (Nat.le_of_ble_eq_true rfl) (T_X6_get_51 E _ _ hc13) ?_
              refine s_istore (q := 146) (lv' := [(5, .int q13.1), (3, .int (x3 ||| (1 <<< (q6.1 &&& 31)))), (4, .int (x4 + 0)), (8, .int 0), (7, .int q6.1), (0, .ref (eB E + 51)), (1, .int x1), (6, .int x6)]) dX6_judge_144 rfl (Nat.le_of_ble_eq_true rfl) rfl ?_
              refine s_iinc (q := 149) (j := 7) (v := (x6 + 1)) (lv' := [(6, .int (x6 + 1)), (5, .int q13.1), (3, .int (x3 ||| (1 <<< (q6.1 &&& 31)))), (4, .int (x4 + 0)), (8, .int 0), (7, .int q6.1), (0, .ref (eB E + 51)), (1, .int x1)]) dX6_judge_146 rfl rfl rfl (Nat.le_of_ble_eq_true rfl) rfl ?_
              refine s_goto (tgt := 31) dX6_judge_149 rfl ?_
              exact t_sub [6, 7, 2, 3, 1, 0] rfl (ih _ _ _ _ _ _ _ h)
            · rw [if_neg hb12] at h
              refine s_iconst (q := 126) (v := 1) dX6_judge_125 rfl rfl ?_
              refine s_iload (q := 128) dX6_judge_126 rfl 7 rfl ?_
              refine s_iadd (q := 129) dX6_judge_128 rfl ?_
              obtain rfl := Option.some.inj h
              exact t_iret dX6_judge_129 rfl rfl
        · rw [if_neg hb9] at h
          refine s_iload (q := 85) dX6_judge_83 rfl 6 rfl ?_
          refine s_aload_n (q := 86) dX6_judge_85 rfl rfl 2 rfl ?_
          refine s_iload (q := 88) dX6_judge_86 rfl 1 rfl ?_
          refine s_iconst (q := 89) (v := 1) dX6_judge_88 rfl rfl ?_
          obtain ⟨q14, hc14, h⟩ := bnd h
          try dsimp only at h
          refine t_callV (q := 92) (N := mX6_get) (a := eB E + 51) [.int q6.1, .int 1] dX6_judge_89 rfl nkX6_get vkX6_get lX6_58 ⟨Nat.le_of_ble_eq_true rfl, Nat.le_of_ble_eq_true rfl⟩ (rc_obj (k := 51) rfl rfl) rfl rfl (Nat.le_of_ble_eq_true rfl) (Nat.le_of_ble_eq_true rfl) (T_X6_get_51 E _ _ hc14) ?_
          obtain ⟨q15, hc15, h⟩ := bnd h
          try dsimp only at h
          refine t_callS (q := 95) (N := mX6_apartOf) [.int x5, .int q14.1] dX6_judge_92 rfl nkX6_apartOf sX6_apartOf lX6_110 ⟨Nat.le_of_ble_eq_true rfl, Nat.le_of_ble_eq_true rfl⟩ rfl rfl (Nat.le_of_ble_eq_true rfl) (Nat.le_of_ble_eq_true rfl) (T_X6_apartOf E _ _ hc15) ?_
          refine s_aload_n (q := 96) dX6_judge_95 rfl rfl 2 rfl ?_
          refine t_getR (q := 99) (k := 51) (f := 0) (t := 52) dX6_judge_96 rfl rfl rfl rfl inX6 (Nat.le_of_ble_eq_true rfl) fX6_9 ?_
          refine s_bipush (q := 101) (v := 6) dX6_judge_99 rfl rfl ?_
          refine u_iald (q := 102) (k := 52) (j := 6) (v := (q15.2.1 52 6)) dX6_judge_101 rfl rfl (inB_in (by decide)) (by decide) rfl ?_
          refine s_iadd (q := 103) dX6_judge_102 rfl ?_
          refine s_goto (tgt := 107) dX6_judge_103 rfl ?_
          refine s_iadd (q := 108) dX6_judge_107 rfl ?_
          refine s_istore (q := 110) (lv' := [(4, .int (x4 + (q15.1 + (q15.2.1 52 6)))), (8, .int 0), (7, .int q6.1), (0, .ref (eB E + 51)), (1, .int x1), (3, .int x3), (5, .int x5), (6, .int x6)]) dX6_judge_108 rfl (Nat.le_of_ble_eq_true rfl) rfl ?_
          refine s_iload (q := 112) dX6_judge_110 rfl 1 rfl ?_
          refine s_if_eq (q := 115) (tgt := 125) dX6_judge_112 rfl rfl (fun hb16 => ?_) (fun hb16 => ?_)
          · rw [if_pos hb16] at h
            refine s_iconst (q := 126) (v := 1) dX6_judge_125 rfl rfl ?_
            refine s_iload (q := 128) dX6_judge_126 rfl 7 rfl ?_
            refine s_iadd (q := 129) dX6_judge_128 rfl ?_
            obtain rfl := Option.some.inj h
            exact t_iret dX6_judge_129 rfl rfl
          · rw [if_neg hb16] at h
            refine s_iload (q := 117) dX6_judge_115 rfl 0 rfl ?_
            refine s_aload_n (q := 118) dX6_judge_117 rfl rfl 3 rfl ?_
            refine s_iconst (q := 119) (v := 0) dX6_judge_118 rfl rfl ?_
            obtain ⟨q17, hc17, h⟩ := bnd h
            try dsimp only at h
            refine t_callV (q := 122) (N := mX6_stepsOf) (a := eB E + 51) [.int 0] dX6_judge_119 rfl nkX6_stepsOf vkX6_stepsOf lX6_151 ⟨Nat.le_of_ble_eq_true rfl, Nat.le_of_ble_eq_true rfl⟩ (rc_obj (k := 51) rfl rfl) rfl rfl (Nat.le_of_ble_eq_true rfl) (Nat.le_of_ble_eq_true rfl) (T_X6_stepsOf_51 E _ hc17) ?_
            refine s_icmp_le (q := 125) (tgt := 130) dX6_judge_122 rfl rfl (fun hb18 => ?_) (fun hb18 => ?_)
            · rw [if_pos hb18] at h
              refine s_iload_n (q := 131) dX6_judge_130 rfl rfl 5 rfl ?_
              refine s_iconst (q := 132) (v := 1) dX6_judge_131 rfl rfl ?_
              refine s_iload (q := 134) dX6_judge_132 rfl 2 rfl ?_
              refine s_ishl (q := 135) dX6_judge_134 rfl ?_
              refine s_ior (q := 136) dX6_judge_135 rfl ?_
              refine s_istore_n (q := 137) (lv' := [(3, .int (x3 ||| (1 <<< (q6.1 &&& 31)))), (4, .int (x4 + (q15.1 + (q15.2.1 52 6)))), (8, .int 0), (7, .int q6.1), (0, .ref (eB E + 51)), (1, .int x1), (5, .int x5), (6, .int x6)]) dX6_judge_136 rfl rfl (Nat.le_of_ble_eq_true rfl) rfl ?_
              refine s_aload_n (q := 138) dX6_judge_137 rfl rfl 4 rfl ?_
              refine s_iload (q := 140) dX6_judge_138 rfl 3 rfl ?_
              refine s_iconst (q := 141) (v := 1) dX6_judge_140 rfl rfl ?_
              obtain ⟨q19, hc19, h⟩ := bnd h
              try dsimp only at h
              refine t_callV (q := 144) (N := mX6_get) (a := eB E + 51) [.int q6.1, .int 1] dX6_judge_141 rfl nkX6_get vkX6_get lX6_58 ⟨Nat.le_of_ble_eq_true rfl, Nat.le_of_ble_eq_true rfl⟩ (rc_obj (k := 51) rfl rfl) rfl rfl (Nat.le_of_ble_eq_true rfl) (Nat.le_of_ble_eq_true rfl) (T_X6_get_51 E _ _ hc19) ?_
              refine s_istore (q := 146) (lv' := [(5, .int q19.1), (3, .int (x3 ||| (1 <<< (q6.1 &&& 31)))), (4, .int (x4 + (q15.1 + (q15.2.1 52 6)))), (8, .int 0), (7, .int q6.1), (0, .ref (eB E + 51)), (1, .int x1), (6, .int x6)]) dX6_judge_144 rfl (Nat.le_of_ble_eq_true rfl) rfl ?_
              refine s_iinc (q := 149) (j := 7) (v := (x6 + 1)) (lv' := [(6, .int (x6 + 1)), (5, .int q19.1), (3, .int (x3 ||| (1 <<< (q6.1 &&& 31)))), (4, .int (x4 + (q15.1 + (q15.2.1 52 6)))), (8, .int 0), (7, .int q6.1), (0, .ref (eB E + 51)), (1, .int x1)]) dX6_judge_146 rfl rfl rfl (Nat.le_of_ble_eq_true rfl) rfl ?_
              refine s_goto (tgt := 31) dX6_judge_149 rfl ?_
              exact t_sub [6, 7, 2, 3, 1, 0] rfl (ih _ _ _ _ _ _ _ h)
            · rw [if_neg hb18] at h
              refine s_iconst (q := 126) (v := 1) dX6_judge_125 rfl rfl ?_
              refine s_iload (q := 128) dX6_judge_126 rfl 7 rfl ?_
              refine s_iadd (q := 129) dX6_judge_128 rfl ?_
              obtain rfl := Option.some.inj h
              exact t_iret dX6_judge_129 rfl rfl
      · rw [if_neg hb8] at h
        refine s_iload_n (q := 61) dX6_judge_60 rfl rfl 3 rfl ?_
        refine s_iload (q := 63) dX6_judge_61 rfl 0 rfl ?_
        obtain ⟨q20, hc20, h⟩ := bnd h
        try dsimp only at h
        refine t_callS (q := 66) (N := mX6_isIn) [.int x3, .int q6.1] dX6_judge_63 rfl nkX6_isIn sX6_isIn lX6_70 ⟨Nat.le_of_ble_eq_true rfl, Nat.le_of_ble_eq_true rfl⟩ rfl rfl (Nat.le_of_ble_eq_true rfl) (Nat.le_of_ble_eq_true rfl) (T_X6_isIn E _ _ hc20) ?_
        refine s_if_ne (q := 69) (tgt := 73) dX6_judge_66 rfl rfl (fun hb21 => ?_) (fun hb21 => ?_)
        · rw [if_neg hb21] at h
          refine s_iconst (q := 74) (v := 0) dX6_judge_73 rfl rfl ?_
          refine s_istore (q := 76) (lv' := [(8, .int 0), (7, .int q6.1), (0, .ref (eB E + 51)), (1, .int x1), (3, .int x3), (4, .int x4), (5, .int x5), (6, .int x6)]) dX6_judge_74 rfl (Nat.le_of_ble_eq_true rfl) rfl ?_
          refine s_iload (q := 78) dX6_judge_76 rfl 5 rfl ?_
          refine s_iload (q := 80) dX6_judge_78 rfl 0 rfl ?_
          refine s_if_eq (q := 83) (tgt := 106) dX6_judge_80 rfl rfl (fun hb22 => ?_) (fun hb22 => ?_)
          · rw [if_pos hb22] at h
            refine s_iconst (q := 107) (v := 0) dX6_judge_106 rfl rfl ?_
            refine s_iadd (q := 108) dX6_judge_107 rfl ?_
            refine s_istore (q := 110) (lv' := [(4, .int (x4 + 0)), (8, .int 0), (7, .int q6.1), (0, .ref (eB E + 51)), (1, .int x1), (3, .int x3), (5, .int x5), (6, .int x6)]) dX6_judge_108 rfl (Nat.le_of_ble_eq_true rfl) rfl ?_
            refine s_iload (q := 112) dX6_judge_110 rfl 1 rfl ?_
            refine s_if_eq (q := 115) (tgt := 125) dX6_judge_112 rfl rfl (fun hb23 => ?_) (fun hb23 => ?_)
            · rw [if_pos hb23] at h
              refine s_iconst (q := 126) (v := 1) dX6_judge_125 rfl rfl ?_
              refine s_iload (q := 128) dX6_judge_126 rfl 7 rfl ?_
              refine s_iadd (q := 129) dX6_judge_128 rfl ?_
              obtain rfl := Option.some.inj h
              exact t_iret dX6_judge_129 rfl rfl
            · rw [if_neg hb23] at h
              refine s_iload (q := 117) dX6_judge_115 rfl 0 rfl ?_
              refine s_aload_n (q := 118) dX6_judge_117 rfl rfl 3 rfl ?_
              refine s_iconst (q := 119) (v := 0) dX6_judge_118 rfl rfl ?_
              obtain ⟨q24, hc24, h⟩ := bnd h
              try dsimp only at h
              refine t_callV (q := 122) (N := mX6_stepsOf) (a := eB E + 51) [.int 0] dX6_judge_119 rfl nkX6_stepsOf vkX6_stepsOf lX6_151 ⟨Nat.le_of_ble_eq_true rfl, Nat.le_of_ble_eq_true rfl⟩ (rc_obj (k := 51) rfl rfl) rfl rfl (Nat.le_of_ble_eq_true rfl) (Nat.le_of_ble_eq_true rfl) (T_X6_stepsOf_51 E _ hc24) ?_
              refine s_icmp_le (q := 125) (tgt := 130) dX6_judge_122 rfl rfl (fun hb25 => ?_) (fun hb25 => ?_)
              · rw [if_pos hb25] at h
                refine s_iload_n (q := 131) dX6_judge_130 rfl rfl 5 rfl ?_
                refine s_iconst (q := 132) (v := 1) dX6_judge_131 rfl rfl ?_
                refine s_iload (q := 134) dX6_judge_132 rfl 2 rfl ?_
                refine s_ishl (q := 135) dX6_judge_134 rfl ?_
                refine s_ior (q := 136) dX6_judge_135 rfl ?_
                refine s_istore_n (q := 137) (lv' := [(3, .int (x3 ||| (1 <<< (q6.1 &&& 31)))), (4, .int (x4 + 0)), (8, .int 0), (7, .int q6.1), (0, .ref (eB E + 51)), (1, .int x1), (5, .int x5), (6, .int x6)]) dX6_judge_136 rfl rfl (Nat.le_of_ble_eq_true rfl) rfl ?_
                refine s_aload_n (q := 138) dX6_judge_137 rfl rfl 4 rfl ?_
                refine s_iload (q := 140) dX6_judge_138 rfl 3 rfl ?_
                refine s_iconst (q := 141) (v := 1) dX6_judge_140 rfl rfl ?_
                obtain ⟨q26, hc26, h⟩ := bnd h
                try dsimp only at h
                refine t_callV (q := 144) (N := mX6_get) (a := eB E + 51) [.int q6.1, .int 1] dX6_judge_141 rfl nkX6_get vkX6_get lX6_58 ⟨Nat.le_of_ble_eq_true rfl, Nat.le_of_ble_eq_true rfl⟩ (rc_obj (k := 51) rfl rfl) rfl rfl (Nat.le_of_ble_eq_true rfl) (Nat.le_of_ble_eq_true rfl) (T_X6_get_51 E _ _ hc26) ?_
                refine s_istore (q := 146) (lv' := [(5, .int q26.1), (3, .int (x3 ||| (1 <<< (q6.1 &&& 31)))), (4, .int (x4 + 0)), (8, .int 0), (7, .int q6.1), (0, .ref (eB E + 51)), (1, .int x1), (6, .int x6)]) dX6_judge_144 rfl (Nat.le_of_ble_eq_true rfl) rfl ?_
                refine s_iinc (q := 149) (j := 7) (v := (x6 + 1)) (lv' := [(6, .int (x6 + 1)), (5, .int q26.1), (3, .int (x3 ||| (1 <<< (q6.1 &&& 31)))), (4, .int (x4 + 0)), (8, .int 0), (7, .int q6.1), (0, .ref (eB E + 51)), (1, .int x1)]) dX6_judge_146 rfl rfl rfl (Nat.le_of_ble_eq_true rfl) rfl ?_
                refine s_goto (tgt := 31) dX6_judge_149 rfl ?_
                exact t_sub [6, 7, 2, 3, 1, 0] rfl (ih _ _ _ _ _ _ _ h)
              · rw [if_neg hb25] at h
                refine s_iconst (q := 126) (v := 1) dX6_judge_125 rfl rfl ?_
                refine s_iload (q := 128) dX6_judge_126 rfl 7 rfl ?_
                refine s_iadd (q := 129) dX6_judge_128 rfl ?_
                obtain rfl := Option.some.inj h
                exact t_iret dX6_judge_129 rfl rfl
          · rw [if_neg hb22] at h
            refine s_iload (q := 85) dX6_judge_83 rfl 6 rfl ?_
            refine s_aload_n (q := 86) dX6_judge_85 rfl rfl 2 rfl ?_
            refine s_iload (q := 88) dX6_judge_86 rfl 1 rfl ?_
            refine s_iconst (q := 89) (v := 1) dX6_judge_88 rfl rfl ?_
            obtain ⟨q27, hc27, h⟩ := bnd h
            try dsimp only at h
            refine t_callV (q := 92) (N := mX6_get) (a := eB E + 51) [.int q6.1, .int 1] dX6_judge_89 rfl nkX6_get vkX6_get lX6_58 ⟨Nat.le_of_ble_eq_true rfl, Nat.le_of_ble_eq_true rfl⟩ (rc_obj (k := 51) rfl rfl) rfl rfl (Nat.le_of_ble_eq_true rfl) (Nat.le_of_ble_eq_true rfl) (T_X6_get_51 E _ _ hc27) ?_
            obtain ⟨q28, hc28, h⟩ := bnd h
            try dsimp only at h
            refine t_callS (q := 95) (N := mX6_apartOf) [.int x5, .int q27.1] dX6_judge_92 rfl nkX6_apartOf sX6_apartOf lX6_110 ⟨Nat.le_of_ble_eq_true rfl, Nat.le_of_ble_eq_true rfl⟩ rfl rfl (Nat.le_of_ble_eq_true rfl) (Nat.le_of_ble_eq_true rfl) (T_X6_apartOf E _ _ hc28) ?_
            refine s_aload_n (q := 96) dX6_judge_95 rfl rfl 2 rfl ?_
            refine t_getR (q := 99) (k := 51) (f := 0) (t := 52) dX6_judge_96 rfl rfl rfl rfl inX6 (Nat.le_of_ble_eq_true rfl) fX6_9 ?_
            refine s_bipush (q := 101) (v := 6) dX6_judge_99 rfl rfl ?_
            refine u_iald (q := 102) (k := 52) (j := 6) (v := (q28.2.1 52 6)) dX6_judge_101 rfl rfl (inB_in (by decide)) (by decide) rfl ?_
            refine s_iadd (q := 103) dX6_judge_102 rfl ?_
            refine s_goto (tgt := 107) dX6_judge_103 rfl ?_
            refine s_iadd (q := 108) dX6_judge_107 rfl ?_
            refine s_istore (q := 110) (lv' := [(4, .int (x4 + (q28.1 + (q28.2.1 52 6)))), (8, .int 0), (7, .int q6.1), (0, .ref (eB E + 51)), (1, .int x1), (3, .int x3), (5, .int x5), (6, .int x6)]) dX6_judge_108 rfl (Nat.le_of_ble_eq_true rfl) rfl ?_
            refine s_iload (q := 112) dX6_judge_110 rfl 1 rfl ?_
            refine s_if_eq (q := 115) (tgt := 125) dX6_judge_112 rfl rfl (fun hb29 => ?_) (fun hb29 => ?_)
            · rw [if_pos hb29] at h
              refine s_iconst (q := 126) (v := 1) dX6_judge_125 rfl rfl ?_
              refine s_iload (q := 128) dX6_judge_126 rfl 7 rfl ?_
              refine s_iadd (q := 129) dX6_judge_128 rfl ?_
              obtain rfl := Option.some.inj h
              exact t_iret dX6_judge_129 rfl rfl
            · rw [if_neg hb29] at h
              refine s_iload (q := 117) dX6_judge_115 rfl 0 rfl ?_
              refine s_aload_n (q := 118) dX6_judge_117 rfl rfl 3 rfl ?_
              refine s_iconst (q := 119) (v := 0) dX6_judge_118 rfl rfl ?_
              obtain ⟨q30, hc30, h⟩ := bnd h
              try dsimp only at h
              refine t_callV (q := 122) (N := mX6_stepsOf) (a := eB E + 51) [.int 0] dX6_judge_119 rfl nkX6_stepsOf vkX6_stepsOf lX6_151 ⟨Nat.le_of_ble_eq_true rfl, Nat.le_of_ble_eq_true rfl⟩ (rc_obj (k := 51) rfl rfl) rfl rfl (Nat.le_of_ble_eq_true rfl) (Nat.le_of_ble_eq_true rfl) (T_X6_stepsOf_51 E _ hc30) ?_
              refine s_icmp_le (q := 125) (tgt := 130) dX6_judge_122 rfl rfl (fun hb31 => ?_) (fun hb31 => ?_)
              · rw [if_pos hb31] at h
                refine s_iload_n (q := 131) dX6_judge_130 rfl rfl 5 rfl ?_
                refine s_iconst (q := 132) (v := 1) dX6_judge_131 rfl rfl ?_
                refine s_iload (q := 134) dX6_judge_132 rfl 2 rfl ?_
                refine s_ishl (q := 135) dX6_judge_134 rfl ?_
                refine s_ior (q := 136) dX6_judge_135 rfl ?_
                refine s_istore_n (q := 137) (lv' := [(3, .int (x3 ||| (1 <<< (q6.1 &&& 31)))), (4, .int (x4 + (q28.1 + (q28.2.1 52 6)))), (8, .int 0), (7, .int q6.1), (0, .ref (eB E + 51)), (1, .int x1), (5, .int x5), (6, .int x6)]) dX6_judge_136 rfl rfl (Nat.le_of_ble_eq_true rfl) rfl ?_
                refine s_aload_n (q := 138) dX6_judge_137 rfl rfl 4 rfl ?_
                refine s_iload (q := 140) dX6_judge_138 rfl 3 rfl ?_
                refine s_iconst (q := 141) (v := 1) dX6_judge_140 rfl rfl ?_
                obtain ⟨q32, hc32, h⟩ := bnd h
                try dsimp only at h
                refine t_callV (q := 144) (N := mX6_get) (a := eB E + 51) [.int q6.1, .int 1] dX6_judge_141 rfl nkX6_get vkX6_get lX6_58 ⟨Nat.le_of_ble_eq_true rfl, Nat.le_of_ble_eq_true rfl⟩ (rc_obj (k := 51) rfl rfl) rfl rfl (Nat.le_of_ble_eq_true rfl) (Nat.le_of_ble_eq_true rfl) (T_X6_get_51 E _ _ hc32) ?_
                refine s_istore (q := 146) (lv' := [(5, .int q32.1), (3, .int (x3 ||| (1 <<< (q6.1 &&& 31)))), (4, .int (x4 + (q28.1 + (q28.2.1 52 6)))), (8, .int 0), (7, .int q6.1), (0, .ref (eB E + 51)), (1, .int x1), (6, .int x6)]) dX6_judge_144 rfl (Nat.le_of_ble_eq_true rfl) rfl ?_
                refine s_iinc (q := 149) (j := 7) (v := (x6 + 1)) (lv' := [(6, .int (x6 + 1)), (5, .int q32.1), (3, .int (x3 ||| (1 <<< (q6.1 &&& 31)))), (4, .int (x4 + (q28.1 + (q28.2.1 52 6)))), (8, .int 0), (7, .int q6.1), (0, .ref (eB E + 51)), (1, .int x1)]) dX6_judge_146 rfl rfl rfl (Nat.le_of_ble_eq_true rfl) rfl ?_
                refine s_goto (tgt := 31) dX6_judge_149 rfl ?_
                exact t_sub [6, 7, 2, 3, 1, 0] rfl (ih _ _ _ _ _ _ _ h)
              · rw [if_neg hb31] at h
                refine s_iconst (q := 126) (v := 1) dX6_judge_125 rfl rfl ?_
                refine s_iload (q := 128) dX6_judge_126 rfl 7 rfl ?_
                refine s_iadd (q := 129) dX6_judge_128 rfl ?_
                obtain rfl := Option.some.inj h
                exact t_iret dX6_judge_129 rfl rfl
        · rw [if_pos hb21] at h
          refine s_iconst (q := 70) (v := 1) dX6_judge_69 rfl rfl ?_
          refine s_goto (tgt := 74) dX6_judge_70 rfl ?_
          refine s_istore (q := 76) (lv' := [(8, .int 1), (7, .int q6.1), (0, .ref (eB E + 51)), (1, .int x1), (3, .int x3), (4, .int x4), (5, .int x5), (6, .int x6)]) dX6_judge_74 rfl (Nat.le_of_ble_eq_true rfl) rfl ?_
          refine s_iload (q := 78) dX6_judge_76 rfl 5 rfl ?_
          refine s_iload (q := 80) dX6_judge_78 rfl 0 rfl ?_
          refine s_if_eq (q := 83) (tgt := 106) dX6_judge_80 rfl rfl (fun hb33 => ?_) (fun hb33 => ?_)
          · rw [if_pos hb33] at h
            refine s_iconst (q := 107) (v := 0) dX6_judge_106 rfl rfl ?_
            refine s_iadd (q := 108) dX6_judge_107 rfl ?_
            refine s_istore (q := 110) (lv' := [(4, .int (x4 + 0)), (8, .int 1), (7, .int q6.1), (0, .ref (eB E + 51)), (1, .int x1), (3, .int x3), (5, .int x5), (6, .int x6)]) dX6_judge_108 rfl (Nat.le_of_ble_eq_true rfl) rfl ?_
            refine s_iload (q := 112) dX6_judge_110 rfl 1 rfl ?_
            refine s_if_eq (q := 115) (tgt := 125) dX6_judge_112 rfl rfl (fun hb34 => ?_) (fun hb34 => ?_)
            · rw [if_pos hb34] at h
              refine s_iconst (q := 126) (v := 1) dX6_judge_125 rfl rfl ?_
              refine s_iload (q := 128) dX6_judge_126 rfl 7 rfl ?_
              refine s_iadd (q := 129) dX6_judge_128 rfl ?_
              obtain rfl := Option.some.inj h
              exact t_iret dX6_judge_129 rfl rfl
            · rw [if_neg hb34] at h
              refine s_iload (q := 117) dX6_judge_115 rfl 0 rfl ?_
              refine s_aload_n (q := 118) dX6_judge_117 rfl rfl 3 rfl ?_
              refine s_iconst (q := 119) (v := 0) dX6_judge_118 rfl rfl ?_
              obtain ⟨q35, hc35, h⟩ := bnd h
              try dsimp only at h
              refine t_callV (q := 122) (N := mX6_stepsOf) (a := eB E + 51) [.int 0] dX6_judge_119 rfl nkX6_stepsOf vkX6_stepsOf lX6_151 ⟨Nat.le_of_ble_eq_true rfl, Nat.le_of_ble_eq_true rfl⟩ (rc_obj (k := 51) rfl rfl) rfl rfl (Nat.le_of_ble_eq_true rfl) (Nat.le_of_ble_eq_true rfl) (T_X6_stepsOf_51 E _ hc35) ?_
              refine s_icmp_le (q := 125) (tgt := 130) dX6_judge_122 rfl rfl (fun hb36 => ?_) (fun hb36 => ?_)
              · rw [if_pos hb36] at h
                refine s_iload_n (q := 131) dX6_judge_130 rfl rfl 5 rfl ?_
                refine s_iconst (q := 132) (v := 1) dX6_judge_131 rfl rfl ?_
                refine s_iload (q := 134) dX6_judge_132 rfl 2 rfl ?_
                refine s_ishl (q := 135) dX6_judge_134 rfl ?_
                refine s_ior (q := 136) dX6_judge_135 rfl ?_
                refine s_istore_n (q := 137) (lv' := [(3, .int (x3 ||| (1 <<< (q6.1 &&& 31)))), (4, .int (x4 + 0)), (8, .int 1), (7, .int q6.1), (0, .ref (eB E + 51)), (1, .int x1), (5, .int x5), (6, .int x6)]) dX6_judge_136 rfl rfl (Nat.le_of_ble_eq_true rfl) rfl ?_
                refine s_aload_n (q := 138) dX6_judge_137 rfl rfl 4 rfl ?_
                refine s_iload (q := 140) dX6_judge_138 rfl 3 rfl ?_
                refine s_iconst (q := 141) (v := 1) dX6_judge_140 rfl rfl ?_
                obtain ⟨q37, hc37, h⟩ := bnd h
                try dsimp only at h
                refine t_callV (q := 144) (N := mX6_get) (a := eB E + 51) [.int q6.1, .int 1] dX6_judge_141 rfl nkX6_get vkX6_get lX6_58 ⟨Nat.le_of_ble_eq_true rfl, Nat.le_of_ble_eq_true rfl⟩ (rc_obj (k := 51) rfl rfl) rfl rfl (Nat.le_of_ble_eq_true rfl) (Nat.le_of_ble_eq_true rfl) (T_X6_get_51 E _ _ hc37) ?_
                refine s_istore (q := 146) (lv' := [(5, .int q37.1), (3, .int (x3 ||| (1 <<< (q6.1 &&& 31)))), (4, .int (x4 + 0)), (8, .int 1), (7, .int q6.1), (0, .ref (eB E + 51)), (1, .int x1), (6, .int x6)]) dX6_judge_144 rfl (Nat.le_of_ble_eq_true rfl) rfl ?_
                refine s_iinc (q := 149) (j := 7) (v := (x6 + 1)) (lv' := [(6, .int (x6 + 1)), (5, .int q37.1), (3, .int (x3 ||| (1 <<< (q6.1 &&& 31)))), (4, .int (x4 + 0)), (8, .int 1), (7, .int q6.1), (0, .ref (eB E + 51)), (1, .int x1)]) dX6_judge_146 rfl rfl rfl (Nat.le_of_ble_eq_true rfl) rfl ?_
                refine s_goto (tgt := 31) dX6_judge_149 rfl ?_
                exact t_sub [6, 7, 2, 3, 1, 0] rfl (ih _ _ _ _ _ _ _ h)
              · rw [if_neg hb36] at h
                refine s_iconst (q := 126) (v := 1) dX6_judge_125 rfl rfl ?_
                refine s_iload (q := 128) dX6_judge_126 rfl 7 rfl ?_
                refine s_iadd (q := 129) dX6_judge_128 rfl ?_
                obtain rfl := Option.some.inj h
                exact t_iret dX6_judge_129 rfl rfl
          · rw [if_neg hb33] at h
            refine s_iload (q := 85) dX6_judge_83 rfl 6 rfl ?_
            refine s_aload_n (q := 86) dX6_judge_85 rfl rfl 2 rfl ?_
            refine s_iload (q := 88) dX6_judge_86 rfl 1 rfl ?_
            refine s_iconst (q := 89) (v := 1) dX6_judge_88 rfl rfl ?_
            obtain ⟨q38, hc38, h⟩ := bnd h
            try dsimp only at h
            refine t_callV (q := 92) (N := mX6_get) (a := eB E + 51) [.int q6.1, .int 1] dX6_judge_89 rfl nkX6_get vkX6_get lX6_58 ⟨Nat.le_of_ble_eq_true rfl, Nat.le_of_ble_eq_true rfl⟩ (rc_obj (k := 51) rfl rfl) rfl rfl (Nat.le_of_ble_eq_true rfl) (Nat.le_of_ble_eq_true rfl) (T_X6_get_51 E _ _ hc38) ?_
            obtain ⟨q39, hc39, h⟩ := bnd h
            try dsimp only at h
            refine t_callS (q := 95) (N := mX6_apartOf) [.int x5, .int q38.1] dX6_judge_92 rfl nkX6_apartOf sX6_apartOf lX6_110 ⟨Nat.le_of_ble_eq_true rfl, Nat.le_of_ble_eq_true rfl⟩ rfl rfl (Nat.le_of_ble_eq_true rfl) (Nat.le_of_ble_eq_true rfl) (T_X6_apartOf E _ _ hc39) ?_
            refine s_aload_n (q := 96) dX6_judge_95 rfl rfl 2 rfl ?_
            refine t_getR (q := 99) (k := 51) (f := 0) (t := 52) dX6_judge_96 rfl rfl rfl rfl inX6 (Nat.le_of_ble_eq_true rfl) fX6_9 ?_
            refine s_bipush (q := 101) (v := 6) dX6_judge_99 rfl rfl ?_
            refine u_iald (q := 102) (k := 52) (j := 6) (v := (q39.2.1 52 6)) dX6_judge_101 rfl rfl (inB_in (by decide)) (by decide) rfl ?_
            refine s_iadd (q := 103) dX6_judge_102 rfl ?_
            refine s_goto (tgt := 107) dX6_judge_103 rfl ?_
            refine s_iadd (q := 108) dX6_judge_107 rfl ?_
            refine s_istore (q := 110) (lv' := [(4, .int (x4 + (q39.1 + (q39.2.1 52 6)))), (8, .int 1), (7, .int q6.1), (0, .ref (eB E + 51)), (1, .int x1), (3, .int x3), (5, .int x5), (6, .int x6)]) dX6_judge_108 rfl (Nat.le_of_ble_eq_true rfl) rfl ?_
            refine s_iload (q := 112) dX6_judge_110 rfl 1 rfl ?_
            refine s_if_eq (q := 115) (tgt := 125) dX6_judge_112 rfl rfl (fun hb40 => ?_) (fun hb40 => ?_)
            · rw [if_pos hb40] at h
              refine s_iconst (q := 126) (v := 1) dX6_judge_125 rfl rfl ?_
              refine s_iload (q := 128) dX6_judge_126 rfl 7 rfl ?_
              refine s_iadd (q := 129) dX6_judge_128 rfl ?_
              obtain rfl := Option.some.inj h
              exact t_iret dX6_judge_129 rfl rfl
            · rw [if_neg hb40] at h
              refine s_iload (q := 117) dX6_judge_115 rfl 0 rfl ?_
              refine s_aload_n (q := 118) dX6_judge_117 rfl rfl 3 rfl ?_
              refine s_iconst (q := 119) (v := 0) dX6_judge_118 rfl rfl ?_
              obtain ⟨q41, hc41, h⟩ := bnd h
              try dsimp only at h
              refine t_callV (q := 122) (N := mX6_stepsOf) (a := eB E + 51) [.int 0] dX6_judge_119 rfl nkX6_stepsOf vkX6_stepsOf lX6_151 ⟨Nat.le_of_ble_eq_true rfl, Nat.le_of_ble_eq_true rfl⟩ (rc_obj (k := 51) rfl rfl) rfl rfl (Nat.le_of_ble_eq_true rfl) (Nat.le_of_ble_eq_true rfl) (T_X6_stepsOf_51 E _ hc41) ?_
              refine s_icmp_le (q := 125) (tgt := 130) dX6_judge_122 rfl rfl (fun hb42 => ?_) (fun hb42 => ?_)
              · rw [if_pos hb42] at h
                refine s_iload_n (q := 131) dX6_judge_130 rfl rfl 5 rfl ?_
                refine s_iconst (q := 132) (v := 1) dX6_judge_131 rfl rfl ?_
                refine s_iload (q := 134) dX6_judge_132 rfl 2 rfl ?_
                refine s_ishl (q := 135) dX6_judge_134 rfl ?_
                refine s_ior (q := 136) dX6_judge_135 rfl ?_
                refine s_istore_n (q := 137) (lv' := [(3, .int (x3 ||| (1 <<< (q6.1 &&& 31)))), (4, .int (x4 + (q39.1 + (q39.2.1 52 6)))), (8, .int 1), (7, .int q6.1), (0, .ref (eB E + 51)), (1, .int x1), (5, .int x5), (6, .int x6)]) dX6_judge_136 rfl rfl (Nat.le_of_ble_eq_true rfl) rfl ?_
                refine s_aload_n (q := 138) dX6_judge_137 rfl rfl 4 rfl ?_
                refine s_iload (q := 140) dX6_judge_138 rfl 3 rfl ?_
                refine s_iconst (q := 141) (v := 1) dX6_judge_140 rfl rfl ?_
                obtain ⟨q43, hc43, h⟩ := bnd h
                try dsimp only at h
                refine t_callV (q := 144) (N := mX6_get) (a := eB E + 51) [.int q6.1, .int 1] dX6_judge_141 rfl nkX6_get vkX6_get lX6_58 ⟨Nat.le_of_ble_eq_true rfl, Nat.le_of_ble_eq_true rfl⟩ (rc_obj (k := 51) rfl rfl) rfl rfl (Nat.le_of_ble_eq_true rfl) (Nat.le_of_ble_eq_true rfl) (T_X6_get_51 E _ _ hc43) ?_
                refine s_istore (q := 146) (lv' := [(5, .int q43.1), (3, .int (x3 ||| (1 <<< (q6.1 &&& 31)))), (4, .int (x4 + (q39.1 + (q39.2.1 52 6)))), (8, .int 1), (7, .int q6.1), (0, .ref (eB E + 51)), (1, .int x1), (6, .int x6)]) dX6_judge_144 rfl (Nat.le_of_ble_eq_true rfl) rfl ?_
                refine s_iinc (q := 149) (j := 7) (v := (x6 + 1)) (lv' := [(6, .int (x6 + 1)), (5, .int q43.1), (3, .int (x3 ||| (1 <<< (q6.1 &&& 31)))), (4, .int (x4 + (q39.1 + (q39.2.1 52 6)))), (8, .int 1), (7, .int q6.1), (0, .ref (eB E + 51)), (1, .int x1)]) dX6_judge_146 rfl rfl rfl (Nat.le_of_ble_eq_true rfl) rfl ?_
                refine s_goto (tgt := 31) dX6_judge_149 rfl ?_
                exact t_sub [6, 7, 2, 3, 1, 0] rfl (ih _ _ _ _ _ _ _ h)
              · rw [if_neg hb42] at h
                refine s_iconst (q := 126) (v := 1) dX6_judge_125 rfl rfl ?_
                refine s_iload (q := 128) dX6_judge_126 rfl 7 rfl ?_
                refine s_iadd (q := 129) dX6_judge_128 rfl ?_
                obtain rfl := Option.some.inj h
                exact t_iret dX6_judge_129 rfl rfl
def G_X6_judge_51 (x1 : Int32) (S : ST) : Option (Int32 × ST) := ((G_X6_wrongSheet_51 x1 S).bind fun q1 => (if q1.1 < 0 then ((G_X6_at_51 0 q1.2).bind fun q3 => G_X6_judge_51_31 3000 x1 0 0 q3.1 0 q3.2) else ((G_X6_no_51 q1.1 q1.2).bind fun q44 => some (q44.1, q44.2))))
set_option maxHeartbeats 4000000 in
set_option maxRecDepth 100000 in
theorem T_X6_judge_51 (E : EV) (x1 : Int32) {S : ST} {w : (Int32 × ST)} (h : G_X6_judge_51 x1 S = some w) : SD E mX6_judge 0 [(0, .ref (eB E + 51)), (1, .int x1)] [] S (some (.int w.1)) w.2 := by
  unfold G_X6_judge_51 at h
  refine s_aload_n (q := 1) dX6_judge_0 rfl rfl 0 rfl ?_
  refine s_iload_n (q := 2) dX6_judge_1 rfl rfl 1 rfl ?_
  obtain ⟨q1, hc1, h⟩ := bnd h
  try dsimp only at h
  refine t_callV (q := 5) (N := mX6_wrongSheet) (a := eB E + 51) [.int x1] dX6_judge_2 rfl nkX6_wrongSheet vkX6_wrongSheet lX6_186 ⟨Nat.le_of_ble_eq_true rfl, Nat.le_of_ble_eq_true rfl⟩ (rc_obj (k := 51) rfl rfl) rfl rfl (Nat.le_of_ble_eq_true rfl) (Nat.le_of_ble_eq_true rfl) (T_X6_wrongSheet_51 E _ hc1) ?_
  refine s_istore_n (q := 6) (lv' := [(2, .int q1.1), (0, .ref (eB E + 51)), (1, .int x1)]) dX6_judge_5 rfl rfl (Nat.le_of_ble_eq_true rfl) rfl ?_
  refine s_iload_n (q := 7) dX6_judge_6 rfl rfl 0 rfl ?_
  refine s_if_lt (q := 10) (tgt := 16) dX6_judge_7 rfl rfl (fun hb2 => ?_) (fun hb2 => ?_)
  · rw [if_pos hb2] at h
    refine s_iconst (q := 17) (v := 0) dX6_judge_16 rfl rfl ?_
    refine s_istore_n (q := 18) (lv' := [(3, .int 0), (2, .int q1.1), (0, .ref (eB E + 51)), (1, .int x1)]) dX6_judge_17 rfl rfl (Nat.le_of_ble_eq_true rfl) rfl ?_
    refine s_iconst (q := 19) (v := 0) dX6_judge_18 rfl rfl ?_
    refine s_istore (q := 21) (lv' := [(4, .int 0), (3, .int 0), (2, .int q1.1), (0, .ref (eB E + 51)), (1, .int x1)]) dX6_judge_19 rfl (Nat.le_of_ble_eq_true rfl) rfl ?_
    refine s_aload_n (q := 22) dX6_judge_21 rfl rfl 3 rfl ?_
    refine s_iconst (q := 23) (v := 0) dX6_judge_22 rfl rfl ?_
    obtain ⟨q3, hc3, h⟩ := bnd h
    try dsimp only at h
    refine t_callV (q := 26) (N := mX6_at) (a := eB E + 51) [.int 0] dX6_judge_23 rfl nkX6_at vkX6_at lX6_130 ⟨Nat.le_of_ble_eq_true rfl, Nat.le_of_ble_eq_true rfl⟩ (rc_obj (k := 51) rfl rfl) rfl rfl (Nat.le_of_ble_eq_true rfl) (Nat.le_of_ble_eq_true rfl) (T_X6_at_51 E _ hc3) ?_
    refine s_istore (q := 28) (lv' := [(5, .int q3.1), (4, .int 0), (3, .int 0), (2, .int q1.1), (0, .ref (eB E + 51)), (1, .int x1)]) dX6_judge_26 rfl (Nat.le_of_ble_eq_true rfl) rfl ?_
    refine s_iconst (q := 29) (v := 0) dX6_judge_28 rfl rfl ?_
    refine s_istore (q := 31) (lv' := [(6, .int 0), (5, .int q3.1), (4, .int 0), (3, .int 0), (2, .int q1.1), (0, .ref (eB E + 51)), (1, .int x1)]) dX6_judge_29 rfl (Nat.le_of_ble_eq_true rfl) rfl ?_
    exact t_sub [5, 6, 3, 2, 1, 0] rfl (T_X6_judge_51_31 E _ _ _ _ _ _ _ _ h)
  · rw [if_neg hb2] at h
    refine s_aload_n (q := 11) dX6_judge_10 rfl rfl 1 rfl ?_
    refine s_iload_n (q := 12) dX6_judge_11 rfl rfl 0 rfl ?_
    obtain ⟨q44, hc44, h⟩ := bnd h
    try dsimp only at h
    refine t_callV (q := 15) (N := mX6_no) (a := eB E + 51) [.int q1.1] dX6_judge_12 rfl nkX6_no vkX6_no lX6_94 ⟨Nat.le_of_ble_eq_true rfl, Nat.le_of_ble_eq_true rfl⟩ (rc_obj (k := 51) rfl rfl) rfl rfl (Nat.le_of_ble_eq_true rfl) (Nat.le_of_ble_eq_true rfl) (T_X6_no_51 E _ hc44) ?_
    obtain rfl := Option.some.inj h
    exact t_iret dX6_judge_15 rfl rfl
