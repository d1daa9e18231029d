-- X5_share
def G_X5_share_0 (x1 : Int32) (x2 : Int32) (x3 : Int32) (S : ST) : Option (Int32 × ST) := ((G_X5_canShare_0 x1 x2 x3 S).bind fun q1 => (if q1.1 = 0 then ((G_X5_finding_0 0 q1.2).bind fun q4 => some (q4.1, q4.2)) else ((G_X5_firstShare_0 x1 x2 x3 q1.2).bind fun q3 => some (q3.1, q3.2))))
set_option maxHeartbeats 4000000 in
set_option maxRecDepth 100000 in
theorem T_X5_share_0 (E : EV) (x1 : Int32) (x2 : Int32) (x3 : Int32) {S : ST} {w : (Int32 × ST)} (h : G_X5_share_0 x1 x2 x3 S = some w) : SD E mX5_share 0 [(0, .ref (eB E + 0)), (1, .int x1), (2, .int x2), (3, .int x3)] [] S (some (.int w.1)) w.2 := by
  unfold G_X5_share_0 at h
  refine s_aload_n (q := 1) dX5_share_0 rfl rfl 0 rfl ?_
  refine s_iload_n (q := 2) dX5_share_1 rfl rfl 1 rfl ?_
  refine s_iload_n (q := 3) dX5_share_2 rfl rfl 2 rfl ?_
  refine s_iload_n (q := 4) dX5_share_3 rfl rfl 3 rfl ?_
  obtain ⟨q1, hc1, h⟩ := bnd h
  try dsimp only at h
  refine t_callV (q := 7) (N := mX5_canShare) (a := eB E + 0) [.int x1, .int x2, .int x3] dX5_share_4 rfl nkX5_canShare vkX5_canShare lX5_184 ⟨Nat.le_of_ble_eq_true rfl, Nat.le_of_ble_eq_true rfl⟩ (rc_obj (k := 0) rfl rfl) rfl rfl (Nat.le_of_ble_eq_true rfl) (Nat.le_of_ble_eq_true rfl) (T_X5_canShare_0 E _ _ _ hc1) ?_
  refine s_if_ne (q := 10) (tgt := 16) dX5_share_7 rfl rfl (fun hb2 => ?_) (fun hb2 => ?_)
  · rw [if_neg hb2] at h
    refine s_aload_n (q := 17) dX5_share_16 rfl rfl 0 rfl ?_
    refine s_iload_n (q := 18) dX5_share_17 rfl rfl 1 rfl ?_
    refine s_iload_n (q := 19) dX5_share_18 rfl rfl 2 rfl ?_
    refine s_iload_n (q := 20) dX5_share_19 rfl rfl 3 rfl ?_
    obtain ⟨q3, hc3, h⟩ := bnd h
    try dsimp only at h
    refine t_callV (q := 23) (N := mX5_firstShare) (a := eB E + 0) [.int x1, .int x2, .int x3] dX5_share_20 rfl nkX5_firstShare vkX5_firstShare lX5_188 ⟨Nat.le_of_ble_eq_true rfl, Nat.le_of_ble_eq_true rfl⟩ (rc_obj (k := 0) rfl rfl) rfl rfl (Nat.le_of_ble_eq_true rfl) (Nat.le_of_ble_eq_true rfl) (T_X5_firstShare_0 E _ _ _ hc3) ?_
    obtain rfl := Option.some.inj h
    exact t_iret dX5_share_23 rfl rfl
  · rw [if_pos hb2] at h
    refine s_aload_n (q := 11) dX5_share_10 rfl rfl 0 rfl ?_
    refine s_iconst (q := 12) (v := 0) dX5_share_11 rfl rfl ?_
    obtain ⟨q4, hc4, h⟩ := bnd h
    try dsimp only at h
    refine t_callV (q := 15) (N := mX5_finding) (a := eB E + 0) [.int 0] dX5_share_12 rfl nkX5_finding vkX5_finding lX5_61 ⟨Nat.le_of_ble_eq_true rfl, Nat.le_of_ble_eq_true rfl⟩ (rc_obj (k := 0) rfl rfl) rfl rfl (Nat.le_of_ble_eq_true rfl) (Nat.le_of_ble_eq_true rfl) (T_X5_finding_0 E _ hc4) ?_
    obtain rfl := Option.some.inj h
    exact t_iret dX5_share_15 rfl rfl
-- X6_canShare
def G_X6_canShare_51 (x1 : Int32) (x2 : Int32) (x3 : Int32) (S : ST) : Option (Int32 × ST) := ((G_X6_isCrew x1 S).bind fun q1 => (if q1.1 = 0 then some (0, q1.2) else ((G_X6_isCrew x2 q1.2).bind fun q3 => (if q3.1 = 0 then some (0, q3.2) else (if x1 = x2 then some (0, q3.2) else ((G_X6_isSet_51 x3 q3.2).bind fun q6 => (if q6.1 = 0 then some (0, q6.2) else some (1, q6.2))))))))
set_option maxHeartbeats 4000000 in
set_option maxRecDepth 100000 in
theorem T_X6_canShare_51 (E : EV) (x1 : Int32) (x2 : Int32) (x3 : Int32) {S : ST} {w : (Int32 × ST)} (h : G_X6_canShare_51 x1 x2 x3 S = some w) : SD E mX6_canShare 0 [(0, .ref (eB E + 51)), (1, .int x1), (2, .int x2), (3, .int x3)] [] S (some (.int w.1)) w.2 := by
  unfold G_X6_canShare_51 at h
  refine s_iload_n (q := 1) dX6_canShare_0 rfl rfl 1 rfl ?_
  obtain ⟨q1, hc1, h⟩ := bnd h
  try dsimp only at h
  refine t_callS (q := 4) (N := mX6_isCrew) [.int x1] dX6_canShare_1 rfl nkX6_isCrew sX6_isCrew lX6_104 ⟨Nat.le_of_ble_eq_true rfl, Nat.le_of_ble_eq_true rfl⟩ rfl rfl (Nat.le_of_ble_eq_true rfl) (Nat.le_of_ble_eq_true rfl) (T_X6_isCrew E _ hc1) ?_
  refine s_if_eq (q := 7) (tgt := 31) dX6_canShare_4 rfl rfl (fun hb2 => ?_) (fun hb2 => ?_)
  · rw [if_pos hb2] at h
    refine s_iconst (q := 32) (v := 0) dX6_canShare_31 rfl rfl ?_
    obtain rfl := Option.some.inj h
    exact t_zret dX6_canShare_32 rfl rfl rfl
  · rw [if_neg hb2] at h
    refine s_iload_n (q := 8) dX6_canShare_7 rfl rfl 2 rfl ?_
    obtain ⟨q3, hc3, h⟩ := bnd h
    try dsimp only at h
    refine t_callS (q := 11) (N := mX6_isCrew) [.int x2] dX6_canShare_8 rfl nkX6_isCrew sX6_isCrew lX6_104 ⟨Nat.le_of_ble_eq_true rfl, Nat.le_of_ble_eq_true rfl⟩ rfl rfl (Nat.le_of_ble_eq_true rfl) (Nat.le_of_ble_eq_true rfl) (T_X6_isCrew E _ hc3) ?_
    refine s_if_eq (q := 14) (tgt := 31) dX6_canShare_11 rfl rfl (fun hb4 => ?_) (fun hb4 => ?_)
    · rw [if_pos hb4] at h
      refine s_iconst (q := 32) (v := 0) dX6_canShare_31 rfl rfl ?_
      obtain rfl := Option.some.inj h
      exact t_zret dX6_canShare_32 rfl rfl rfl
    · rw [if_neg hb4] at h
      refine s_iload_n (q := 15) dX6_canShare_14 rfl rfl 1 rfl ?_
      refine s_iload_n (q := 16) dX6_canShare_15 rfl rfl 2 rfl ?_
      refine s_icmp_eq (q := 19) (tgt := 31) dX6_canShare_16 rfl rfl (fun hb5 => ?_) (fun hb5 => ?_)
      · rw [if_pos hb5] at h
        refine s_iconst (q := 32) (v := 0) dX6_canShare_31 rfl rfl ?_
        obtain rfl := Option.some.inj h
        exact t_zret dX6_canShare_32 rfl rfl rfl
      · rw [if_neg hb5] at h
        refine s_aload_n (q := 20) dX6_canShare_19 rfl rfl 0 rfl ?_
        refine s_iload_n (q := 21) dX6_canShare_20 rfl rfl 3 rfl ?_
        obtain ⟨q6, hc6, h⟩ := bnd h
        try dsimp only at h
        refine t_callV (q := 24) (N := mX6_isSet) (a := eB E + 51) [.int x3] dX6_canShare_21 rfl nkX6_isSet vkX6_isSet lX6_145 ⟨Nat.le_of_ble_eq_true rfl, Nat.le_of_ble_eq_true rfl⟩ (rc_obj (k := 51) rfl rfl) rfl rfl (Nat.le_of_ble_eq_true rfl) (Nat.le_of_ble_eq_true rfl) (T_X6_isSet_51 E _ hc6) ?_
        refine s_if_eq (q := 27) (tgt := 31) dX6_canShare_24 rfl rfl (fun hb7 => ?_) (fun hb7 => ?_)
        · rw [if_pos hb7] at h
          refine s_iconst (q := 32) (v := 0) dX6_canShare_31 rfl rfl ?_
          obtain rfl := Option.some.inj h
          exact t_zret dX6_canShare_32 rfl rfl rfl
        · rw [if_neg hb7] at h
          refine s_iconst (q := 28) (v := 1) dX6_canShare_27 rfl rfl ?_
          refine s_goto (tgt := 32) dX6_canShare_28 rfl ?_
          obtain rfl := Option.some.inj h
          exact t_zret dX6_canShare_32 rfl rfl rfl
-- X6_longerOf
def G_X6_longerOf_51 (x1 : Int32) (x2 : Int32) (x3 : Int32) (x4 : Int32) (S : ST) : Option (Int32 × ST) := ((G_X6_at_51 x1 S).bind fun q1 => ((G_X6_roundOf_51 q1.1 x3 q1.2).bind fun q2 => ((G_X6_at_51 x2 q2.2).bind fun q3 => ((G_X6_roundOf_51 q3.1 x4 q3.2).bind fun q4 => ((G_X6_greater q2.1 q4.1 q4.2).bind fun q5 => some (q5.1, q5.2))))))
set_option maxHeartbeats 4000000 in
set_option maxRecDepth 100000 in
theorem T_X6_longerOf_51 (E : EV) (x1 : Int32) (x2 : Int32) (x3 : Int32) (x4 : Int32) {S : ST} {w : (Int32 × ST)} (h : G_X6_longerOf_51 x1 x2 x3 x4 S = some w) : SD E mX6_longerOf 0 [(0, .ref (eB E + 51)), (1, .int x1), (2, .int x2), (3, .int x3), (4, .int x4)] [] S (some (.int w.1)) w.2 := by
  unfold G_X6_longerOf_51 at h
  refine s_aload_n (q := 1) dX6_longerOf_0 rfl rfl 0 rfl ?_
  refine s_aload_n (q := 2) dX6_longerOf_1 rfl rfl 0 rfl ?_
  refine s_iload_n (q := 3) dX6_longerOf_2 rfl rfl 1 rfl ?_
  obtain ⟨q1, hc1, h⟩ := bnd h
  try dsimp only at h
  refine t_callV (q := 6) (N := mX6_at) (a := eB E + 51) [.int x1] dX6_longerOf_3 rfl nkX6_at vkX6_at lX6_130 ⟨Nat.le_of_ble_eq_true rfl, Nat.le_of_ble_eq_true rfl⟩ (rc_obj (k := 51) rfl rfl) rfl rfl (Nat.le_of_ble_eq_true rfl) (Nat.le_of_ble_eq_true rfl) (T_X6_at_51 E _ hc1) ?_
  refine s_iload_n (q := 7) dX6_longerOf_6 rfl rfl 3 rfl ?_
  obtain ⟨q2, hc2, h⟩ := bnd h
  try dsimp only at h
  refine t_callV (q := 10) (N := mX6_roundOf) (a := eB E + 51) [.int q1.1, .int x3] dX6_longerOf_7 rfl nkX6_roundOf vkX6_roundOf lX6_148 ⟨Nat.le_of_ble_eq_true rfl, Nat.le_of_ble_eq_true rfl⟩ (rc_obj (k := 51) rfl rfl) rfl rfl (Nat.le_of_ble_eq_true rfl) (Nat.le_of_ble_eq_true rfl) (T_X6_roundOf_51 E _ _ hc2) ?_
  refine s_aload_n (q := 11) dX6_longerOf_10 rfl rfl 0 rfl ?_
  refine s_aload_n (q := 12) dX6_longerOf_11 rfl rfl 0 rfl ?_
  refine s_iload_n (q := 13) dX6_longerOf_12 rfl rfl 2 rfl ?_
  obtain ⟨q3, hc3, h⟩ := bnd h
  try dsimp only at h
  refine t_callV (q := 16) (N := mX6_at) (a := eB E + 51) [.int x2] dX6_longerOf_13 rfl nkX6_at vkX6_at lX6_130 ⟨Nat.le_of_ble_eq_true rfl, Nat.le_of_ble_eq_true rfl⟩ (rc_obj (k := 51) rfl rfl) rfl rfl (Nat.le_of_ble_eq_true rfl) (Nat.le_of_ble_eq_true rfl) (T_X6_at_51 E _ hc3) ?_
  refine s_iload (q := 18) dX6_longerOf_16 rfl 4 rfl ?_
  obtain ⟨q4, hc4, h⟩ := bnd h
  try dsimp only at h
  refine t_callV (q := 21) (N := mX6_roundOf) (a := eB E + 51) [.int q3.1, .int x4] dX6_longerOf_18 rfl nkX6_roundOf vkX6_roundOf lX6_148 ⟨Nat.le_of_ble_eq_true rfl, Nat.le_of_ble_eq_true rfl⟩ (rc_obj (k := 51) rfl rfl) rfl rfl (Nat.le_of_ble_eq_true rfl) (Nat.le_of_ble_eq_true rfl) (T_X6_roundOf_51 E _ _ hc4) ?_
  obtain ⟨q5, hc5, h⟩ := bnd h
  try dsimp only at h
  refine t_callS (q := 24) (N := mX6_greater) [.int q2.1, .int q4.1] dX6_longerOf_21 rfl nkX6_greater sX6_greater lX6_77 ⟨Nat.le_of_ble_eq_true rfl, Nat.le_of_ble_eq_true rfl⟩ rfl rfl (Nat.le_of_ble_eq_true rfl) (Nat.le_of_ble_eq_true rfl) (T_X6_greater E _ _ hc5) ?_
  obtain rfl := Option.some.inj h
  exact t_iret dX6_longerOf_24 rfl rfl
-- X6_bestShare
def G_X6_bestShare_51_9 : Nat → Int32 → Int32 → Int32 → Int32 → Int32 → Int32 → ST → Option (Int32 × ST)
  | 0, _, _, _, _, _, _, _ => none
  | n + 1, x1, x2, x3, x4, x5, x6, S => (if x3 < x6 then some (x4, S) else (if (x6 &&& (x3 ^^^ (-1))) = 0 then ((G_X6_longerOf_51 x1 x2 x6 (x3 &&& (x6 ^^^ (-1))) S).bind fun q3 => (if x4 < 0 then (if (1 : Int32) = 0 then (if (1 : Int32) = 0 then G_X6_bestShare_51_9 n x1 x2 x3 x4 x5 (x6 + 1) q3.2 else G_X6_bestShare_51_9 n x1 x2 x3 x4 q3.1 (x6 + 1) q3.2) else (if (1 : Int32) = 0 then G_X6_bestShare_51_9 n x1 x2 x3 x6 x5 (x6 + 1) q3.2 else G_X6_bestShare_51_9 n x1 x2 x3 x6 q3.1 (x6 + 1) q3.2)) else (if x5 ≤ q3.1 then (if (0 : Int32) = 0 then (if (0 : Int32) = 0 then G_X6_bestShare_51_9 n x1 x2 x3 x4 x5 (x6 + 1) q3.2 else G_X6_bestShare_51_9 n x1 x2 x3 x4 q3.1 (x6 + 1) q3.2) else (if (0 : Int32) = 0 then G_X6_bestShare_51_9 n x1 x2 x3 x6 x5 (x6 + 1) q3.2 else G_X6_bestShare_51_9 n x1 x2 x3 x6 q3.1 (x6 + 1) q3.2)) else (if (1 : Int32) = 0 then (if (1 : Int32) = 0 then G_X6_bestShare_51_9 n x1 x2 x3 x4 x5 (x6 + 1) q3.2 else G_X6_bestShare_51_9 n x1 x2 x3 x4 q3.1 (x6 + 1) q3.2) else (if (1 : Int32) = 0 then G_X6_bestShare_51_9 n x1 x2 x3 x6 x5 (x6 + 1) q3.2 else G_X6_bestShare_51_9 n x1 x2 x3 x6 q3.1 (x6 + 1) q3.2))))) else G_X6_bestShare_51_9 n x1 x2 x3 x4 x5 (x6 + 1) S))
set_option maxHeartbeats 4000000 in
set_option maxRecDepth 100000 in
theorem T_X6_bestShare_51_9 (E : EV) : ∀ (n : Nat) (x1 : Int32) (x2 : Int32) (x3 : Int32) (x4 : Int32) (x5 : Int32) (x6 : Int32) (S : ST), ∀ (w : (Int32 × ST)), G_X6_bestShare_51_9 n x1 x2 x3 x4 x5 x6 S = some w → ∀ {Q : Option Value → ST → Prop}, SS E mX6_bestShare 93 [(4, .int w.1)] [] w.2 Q → SS E mX6_bestShare 9 [(0, .ref (eB E + 51)), (1, .int x1), (2, .int x2), (3, .int x3), (4, .int x4), (5, .int x5), (6, .int x6)] [] S Q := by
  intro n
  induction n with
  | zero =>
    intro x1 x2 x3 x4 x5 x6 S w h
    cases h
  | succ n ih =>
    intro x1 x2 x3 x4 x5 x6 S w h Q K
    unfold G_X6_bestShare_51_9 at h
    refine s_iload (q := 11) dX6_bestShare_9 rfl 6 rfl ?_
    refine s_iload_n (q := 12) dX6_bestShare_11 rfl rfl 3 rfl ?_
    refine s_icmp_gt (q := 15) (tgt := 93) dX6_bestShare_12 rfl rfl (fun hb1 => ?_) (fun hb1 => ?_)
    · rw [if_pos hb1] at h
      obtain rfl := Option.some.inj h
      exact t_sub [4] rfl K
    · rw [if_neg hb1] at h
      refine s_iload (q := 17) dX6_bestShare_15 rfl 6 rfl ?_
      refine s_iload_n (q := 18) dX6_bestShare_17 rfl rfl 3 rfl ?_
      refine s_iconst (q := 19) (v := (-1)) dX6_bestShare_18 rfl rfl ?_
      refine s_ixor (q := 20) dX6_bestShare_19 rfl ?_
      refine s_iand (q := 21) dX6_bestShare_20 rfl ?_
      refine s_if_ne (q := 24) (tgt := 87) dX6_bestShare_21 rfl rfl (fun hb2 => ?_) (fun hb2 => ?_)
      · rw [if_neg hb2] at h
        refine s_iinc (q := 90) (j := 6) (v := (x6 + 1)) (lv' := [(6, .int (x6 + 1)), (0, .ref (eB E + 51)), (1, .int x1), (2, .int x2), (3, .int x3), (4, .int x4), (5, .int x5)]) dX6_bestShare_87 rfl rfl rfl (Nat.le_of_ble_eq_true rfl) rfl ?_
        refine s_goto (tgt := 9) dX6_bestShare_90 rfl ?_
        exact t_sub [1, 2, 3, 4, 5, 6, 0] rfl (ih _ _ _ _ _ _ _ _ h K)
      · rw [if_pos hb2] at h
        refine s_aload_n (q := 25) dX6_bestShare_24 rfl rfl 0 rfl ?_
        refine s_iload_n (q := 26) dX6_bestShare_25 rfl rfl 1 rfl ?_
        refine s_iload_n (q := 27) dX6_bestShare_26 rfl rfl 2 rfl ?_
        refine s_iload (q := 29) dX6_bestShare_27 rfl 6 rfl ?_
        refine s_iload_n (q := 30) dX6_bestShare_29 rfl rfl 3 rfl ?_
        refine s_iload (q := 32) dX6_bestShare_30 rfl 6 rfl ?_
        refine s_iconst (q := 33) (v := (-1)) dX6_bestShare_32 rfl rfl ?_
        refine s_ixor (q := 34) dX6_bestShare_33 rfl ?_
        refine s_iand (q := 35) dX6_bestShare_34 rfl ?_
        obtain ⟨q3, hc3, h⟩ := bnd h
        try dsimp only at h
        refine t_callV (q := 38) (N := mX6_longerOf) (a := eB E + 51) [.int x1, .int x2, .int x6, .int (x3 &&& (x6 ^^^ (-1)))] dX6_bestShare_35 rfl nkX6_longerOf vkX6_longerOf lX6_157 ⟨Nat.le_of_ble_eq_true rfl, Nat.le_of_ble_eq_true rfl⟩ (rc_obj (k := 51) rfl rfl) rfl rfl (Nat.le_of_ble_eq_true rfl) (Nat.le_of_ble_eq_true rfl) (T_X6_longerOf_51 E _ _ _ _ hc3) ?_
        refine s_istore (q := 40) (lv' := [(7, .int q3.1), (0, .ref (eB E + 51)), (1, .int x1), (2, .int x2), (3, .int x3), (4, .int x4), (5, .int x5), (6, .int x6)]) dX6_bestShare_38 rfl (Nat.le_of_ble_eq_true rfl) rfl ?_
        refine s_iload (q := 42) dX6_bestShare_40 rfl 5 rfl ?_
        refine s_if_lt (q := 45) (tgt := 52) dX6_bestShare_42 rfl rfl (fun hb4 => ?_) (fun hb4 => ?_)
        · rw [if_pos hb4] at h
          refine s_iconst (q := 53) (v := 1) dX6_bestShare_52 rfl rfl ?_
          refine s_goto (tgt := 57) dX6_bestShare_53 rfl ?_
          refine s_istore (q := 59) (lv' := [(8, .int 1), (7, .int q3.1), (0, .ref (eB E + 51)), (1, .int x1), (2, .int x2), (3, .int x3), (4, .int x4), (5, .int x5), (6, .int x6)]) dX6_bestShare_57 rfl (Nat.le_of_ble_eq_true rfl) rfl ?_
          refine s_iload (q := 61) dX6_bestShare_59 rfl 0 rfl ?_
          refine s_if_eq (q := 64) (tgt := 69) dX6_bestShare_61 rfl rfl (fun hb5 => ?_) (fun hb5 => ?_)
          · rw [if_pos hb5] at h
            refine s_iload (q := 71) dX6_bestShare_69 rfl 6 rfl ?_
            refine s_istore (q := 73) (lv' := [(4, .int x4), (8, .int 1), (7, .int q3.1), (0, .ref (eB E + 51)), (1, .int x1), (2, .int x2), (3, .int x3), (5, .int x5), (6, .int x6)]) dX6_bestShare_71 rfl (Nat.le_of_ble_eq_true rfl) rfl ?_
            refine s_iload (q := 75) dX6_bestShare_73 rfl 1 rfl ?_
            refine s_if_eq (q := 78) (tgt := 83) dX6_bestShare_75 rfl rfl (fun hb6 => ?_) (fun hb6 => ?_)
            · rw [if_pos hb6] at h
              refine s_iload (q := 85) dX6_bestShare_83 rfl 7 rfl ?_
              refine s_istore (q := 87) (lv' := [(5, .int x5), (4, .int x4), (8, .int 1), (7, .int q3.1), (0, .ref (eB E + 51)), (1, .int x1), (2, .int x2), (3, .int x3), (6, .int x6)]) dX6_bestShare_85 rfl (Nat.le_of_ble_eq_true rfl) rfl ?_
              refine s_iinc (q := 90) (j := 8) (v := (x6 + 1)) (lv' := [(6, .int (x6 + 1)), (5, .int x5), (4, .int x4), (8, .int 1), (7, .int q3.1), (0, .ref (eB E + 51)), (1, .int x1), (2, .int x2), (3, .int x3)]) dX6_bestShare_87 rfl rfl rfl (Nat.le_of_ble_eq_true rfl) rfl ?_
              refine s_goto (tgt := 9) dX6_bestShare_90 rfl ?_
              exact t_sub [5, 6, 7, 8, 2, 1, 0] rfl (ih _ _ _ _ _ _ _ _ h K)
            · rw [if_neg hb6] at h
              refine s_iload (q := 80) dX6_bestShare_78 rfl 2 rfl ?_
              refine s_goto (tgt := 85) dX6_bestShare_80 rfl ?_
              refine s_istore (q := 87) (lv' := [(5, .int q3.1), (4, .int x4), (8, .int 1), (7, .int q3.1), (0, .ref (eB E + 51)), (1, .int x1), (2, .int x2), (3, .int x3), (6, .int x6)]) dX6_bestShare_85 rfl (Nat.le_of_ble_eq_true rfl) rfl ?_
              refine s_iinc (q := 90) (j := 8) (v := (x6 + 1)) (lv' := [(6, .int (x6 + 1)), (5, .int q3.1), (4, .int x4), (8, .int 1), (7, .int q3.1), (0, .ref (eB E + 51)), (1, .int x1), (2, .int x2), (3, .int x3)]) dX6_bestShare_87 rfl rfl rfl (Nat.le_of_ble_eq_true rfl) rfl ?_
              refine s_goto (tgt := 9) dX6_bestShare_90 rfl ?_
              exact t_sub [5, 6, 7, 8, 2, 1, 0] rfl (ih _ _ _ _ _ _ _ _ h K)
          · rw [if_neg hb5] at h
            refine s_iload (q := 66) dX6_bestShare_64 rfl 8 rfl ?_
            refine s_goto (tgt := 71) dX6_bestShare_66 rfl ?_
            refine s_istore (q := 73) (lv' := [(4, .int x6), (8, .int 1), (7, .int q3.1), (0, .ref (eB E + 51)), (1, .int x1), (2, .int x2), (3, .int x3), (5, .int x5), (6, .int x6)]) dX6_bestShare_71 rfl (Nat.le_of_ble_eq_true rfl) rfl ?_
            refine s_iload (q := 75) dX6_bestShare_73 rfl 1 rfl ?_
            refine s_if_eq (q := 78) (tgt := 83) dX6_bestShare_75 rfl rfl (fun hb7 => ?_) (fun hb7 => ?_)
            · rw [if_pos hb7] at h
              refine s_iload (q := 85) dX6_bestShare_83 rfl 7 rfl ?_
              refine s_istore (q := 87) (lv' := [(5, .int x5), (4, .int x6), (8, .int 1), (7, .int q3.1), (0, .ref (eB E + 51)), (1, .int x1), (2, .int x2), (3, .int x3), (6, .int x6)]) dX6_bestShare_85 rfl (Nat.le_of_ble_eq_true rfl) rfl ?_
              refine s_iinc (q := 90) (j := 8) (v := (x6 + 1)) (lv' := [(6, .int (x6 + 1)), (5, .int x5), (4, .int x6), (8, .int 1), (7, .int q3.1), (0, .ref (eB E + 51)), (1, .int x1), (2, .int x2), (3, .int x3)]) dX6_bestShare_87 rfl rfl rfl (Nat.le_of_ble_eq_true rfl) rfl ?_
              refine s_goto (tgt := 9) dX6_bestShare_90 rfl ?_
              exact t_sub [5, 6, 7, 8, 2, 1, 0] rfl (ih _ _ _ _ _ _ _ _ h K)
            · rw [if_neg hb7] at h
              refine s_iload (q := 80) dX6_bestShare_78 rfl 2 rfl ?_
              refine s_goto (tgt := 85) dX6_bestShare_80 rfl ?_
              refine s_istore (q := 87) (lv' := [(5, .int q3.1), (4, .int x6), (8, .int 1), (7, .int q3.1), (0, .ref (eB E + 51)), (1, .int x1), (2, .int x2), (3, .int x3), (6, .int x6)]) dX6_bestShare_85 rfl (Nat.le_of_ble_eq_true rfl) rfl ?_
              refine s_iinc (q := 90) (j := 8) (v := (x6 + 1)) (lv' := [(6, .int (x6 + 1)), (5, .int q3.1), (4, .int x6), (8, .int 1), (7, .int q3.1), (0, .ref (eB E + 51)), (1, .int x1), (2, .int x2), (3, .int x3)]) dX6_bestShare_87 rfl rfl rfl (Nat.le_of_ble_eq_true rfl) rfl ?_
              refine s_goto (tgt := 9) dX6_bestShare_90 rfl ?_
              exact t_sub [5, 6, 7, 8, 2, 1, 0] rfl (ih _ _ _ _ _ _ _ _ h K)
        · rw [if_neg hb4] at h
          refine s_iload (q := 47) dX6_bestShare_45 rfl 0 rfl ?_
          refine s_iload (q := 49) dX6_bestShare_47 rfl 6 rfl ?_
          refine s_icmp_ge (q := 52) (tgt := 56) dX6_bestShare_49 rfl rfl (fun hb8 => ?_) (fun hb8 => ?_)
          · rw [if_pos hb8] at h
            refine s_iconst (q := 57) (v := 0) dX6_bestShare_56 rfl rfl ?_
            refine s_istore (q := 59) (lv' := [(8, .int 0), (7, .int q3.1), (0, .ref (eB E + 51)), (1, .int x1), (2, .int x2), (3, .int x3), (4, .int x4), (5, .int x5), (6, .int x6)]) dX6_bestShare_57 rfl (Nat.le_of_ble_eq_true rfl) rfl ?_
            refine s_iload (q := 61) dX6_bestShare_59 rfl 0 rfl ?_
            refine s_if_eq (q := 64) (tgt := 69) dX6_bestShare_61 rfl rfl (fun hb9 => ?_) (fun hb9 => ?_)
            · rw [if_pos hb9] at h
              refine s_iload (q := 71) dX6_bestShare_69 rfl 6 rfl ?_
              refine s_istore (q := 73) (lv' := [(4, .int x4), (8, .int 0), (7, .int q3.1), (0, .ref (eB E + 51)), (1, .int x1), (2, .int x2), (3, .int x3), (5, .int x5), (6, .int x6)]) dX6_bestShare_71 rfl (Nat.le_of_ble_eq_true rfl) rfl ?_
              refine s_iload (q := 75) dX6_bestShare_73 rfl 1 rfl ?_
              refine s_if_eq (q := 78) (tgt := 83) dX6_bestShare_75 rfl rfl (fun hb10 => ?_) (fun hb10 => ?_)
              · rw [if_pos hb10] at h
                refine s_iload (q := 85) dX6_bestShare_83 rfl 7 rfl ?_
                refine s_istore (q := 87) (lv' := [(5, .int x5), (4, .int x4), (8, .int 0), (7, .int q3.1), (0, .ref (eB E + 51)), (1, .int x1), (2, .int x2), (3, .int x3), (6, .int x6)]) dX6_bestShare_85 rfl (Nat.le_of_ble_eq_true rfl) rfl ?_
                refine s_iinc (q := 90) (j := 8) (v := (x6 + 1)) (lv' := [(6, .int (x6 + 1)), (5, .int x5), (4, .int x4), (8, .int 0), (7, .int q3.1), (0, .ref (eB E + 51)), (1, .int x1), (2, .int x2), (3, .int x3)]) dX6_bestShare_87 rfl rfl rfl (Nat.le_of_ble_eq_true rfl) rfl ?_
                refine s_goto (tgt := 9) dX6_bestShare_90 rfl ?_
                exact t_sub [5, 6, 7, 8, 2, 1, 0] rfl (ih _ _ _ _ _ _ _ _ h K)
              · rw [if_neg hb10] at h
                refine s_iload (q := 80) dX6_bestShare_78 rfl 2 rfl ?_
                refine s_goto (tgt := 85) dX6_bestShare_80 rfl ?_
                refine s_istore (q := 87) (lv' := [(5, .int q3.1), (4, .int x4), (8, .int 0), (7, .int q3.1), (0, .ref (eB E + 51)), (1, .int x1), (2, .int x2), (3, .int x3), (6, .int x6)]) dX6_bestShare_85 rfl (Nat.le_of_ble_eq_true rfl) rfl ?_
                refine s_iinc (q := 90) (j := 8) (v := (x6 + 1)) (lv' := [(6, .int (x6 + 1)), (5, .int q3.1), (4, .int x4), (8, .int 0), (7, .int q3.1), (0, .ref (eB E + 51)), (1, .int x1), (2, .int x2), (3, .int x3)]) dX6_bestShare_87 rfl rfl rfl (Nat.le_of_ble_eq_true rfl) rfl ?_
                refine s_goto (tgt := 9) dX6_bestShare_90 rfl ?_
                exact t_sub [5, 6, 7, 8, 2, 1, 0] rfl (ih _ _ _ _ _ _ _ _ h K)
            · rw [if_neg hb9] at h
              refine s_iload (q := 66) dX6_bestShare_64 rfl 8 rfl ?_
              refine s_goto (tgt := 71) dX6_bestShare_66 rfl ?_
              refine s_istore (q := 73) (lv' := [(4, .int x6), (8, .int 0), (7, .int q3.1), (0, .ref (eB E + 51)), (1, .int x1), (2, .int x2), (3, .int x3), (5, .int x5), (6, .int x6)]) dX6_bestShare_71 rfl (Nat.le_of_ble_eq_true rfl) rfl ?_
              refine s_iload (q := 75) dX6_bestShare_73 rfl 1 rfl ?_
              refine s_if_eq (q := 78) (tgt := 83) dX6_bestShare_75 rfl rfl (fun hb11 => ?_) (fun hb11 => ?_)
              · rw [if_pos hb11] at h
                refine s_iload (q := 85) dX6_bestShare_83 rfl 7 rfl ?_
                refine s_istore (q := 87) (lv' := [(5, .int x5), (4, .int x6), (8, .int 0), (7, .int q3.1), (0, .ref (eB E + 51)), (1, .int x1), (2, .int x2), (3, .int x3), (6, .int x6)]) dX6_bestShare_85 rfl (Nat.le_of_ble_eq_true rfl) rfl ?_
                refine s_iinc (q := 90) (j := 8) (v := (x6 + 1)) (lv' := [(6, .int (x6 + 1)), (5, .int x5), (4, .int x6), (8, .int 0), (7, .int q3.1), (0, .ref (eB E + 51)), (1, .int x1), (2, .int x2), (3, .int x3)]) dX6_bestShare_87 rfl rfl rfl (Nat.le_of_ble_eq_true rfl) rfl ?_
                refine s_goto (tgt := 9) dX6_bestShare_90 rfl ?_
                exact t_sub [5, 6, 7, 8, 2, 1, 0] rfl (ih _ _ _ _ _ _ _ _ h K)
              · rw [if_neg hb11] at h
                refine s_iload (q := 80) dX6_bestShare_78 rfl 2 rfl ?_
                refine s_goto (tgt := 85) dX6_bestShare_80 rfl ?_
                refine s_istore (q := 87) (lv' := [(5, .int q3.1), (4, .int x6), (8, .int 0), (7, .int q3.1), (0, .ref (eB E + 51)), (1, .int x1), (2, .int x2), (3, .int x3), (6, .int x6)]) dX6_bestShare_85 rfl (Nat.le_of_ble_eq_true rfl) rfl ?_
                refine s_iinc (q := 90) (j := 8) (v := (x6 + 1)) (lv' := [(6, .int (x6 + 1)), (5, .int q3.1), (4, .int x6), (8, .int 0), (7, .int q3.1), (0, .ref (eB E + 51)), (1, .int x1), (2, .int x2), (3, .int x3)]) dX6_bestShare_87 rfl rfl rfl (Nat.le_of_ble_eq_true rfl) rfl ?_
                refine s_goto (tgt := 9) dX6_bestShare_90 rfl ?_
                exact t_sub [5, 6, 7, 8, 2, 1, 0] rfl (ih _ _ _ _ _ _ _ _ h K)
          · rw [if_neg hb8] at h
            refine s_iconst (q := 53) (v := 1) dX6_bestShare_52 rfl rfl ?_
            refine s_goto (tgt := 57) dX6_bestShare_53 rfl ?_
            refine s_istore (q := 59) (lv' := [(8, .int 1), (7, .int q3.1), (0, .ref (eB E + 51)), (1, .int x1), (2, .int x2), (3, .int x3), (4, .int x4), (5, .int x5), (6, .int x6)]) dX6_bestShare_57 rfl (Nat.le_of_ble_eq_true rfl) rfl ?_
            refine s_iload (q := 61) dX6_bestShare_59 rfl 0 rfl ?_
            refine s_if_eq (q := 64) (tgt := 69) dX6_bestShare_61 rfl rfl (fun hb12 => ?_) (fun hb12 => ?_)
            · rw [if_pos hb12] at h
              refine s_iload (q := 71) dX6_bestShare_69 rfl 6 rfl ?_
              refine s_istore (q := 73) (lv' := [(4, .int x4), (8, .int 1), (7, .int q3.1), (0, .ref (eB E + 51)), (1, .int x1), (2, .int x2), (3, .int x3), (5, .int x5), (6, .int x6)]) dX6_bestShare_71 rfl (Nat.le_of_ble_eq_true rfl) rfl ?_
              refine s_iload (q := 75) dX6_bestShare_73 rfl 1 rfl ?_
              refine s_if_eq (q := 78) (tgt := 83) dX6_bestShare_75 rfl rfl (fun hb13 => ?_) (fun hb13 => ?_)
              · rw [if_pos hb13] at h
                refine s_iload (q := 85) dX6_bestShare_83 rfl 7 rfl ?_
                refine s_istore (q := 87) (lv' := [(5, .int x5), (4, .int x4), (8, .int 1), (7, .int q3.1), (0, .ref (eB E + 51)), (1, .int x1), (2, .int x2), (3, .int x3), (6, .int x6)]) dX6_bestShare_85 rfl (Nat.le_of_ble_eq_true rfl) rfl ?_
                refine s_iinc (q := 90) (j := 8) (v := (x6 + 1)) (lv' := [(6, .int (x6 + 1)), (5, .int x5), (4, .int x4), (8, .int 1), (7, .int q3.1), (0, .ref (eB E + 51)), (1, .int x1), (2, .int x2), (3, .int x3)]) dX6_bestShare_87 rfl rfl rfl (Nat.le_of_ble_eq_true rfl) rfl ?_
                refine s_goto (tgt := 9) dX6_bestShare_90 rfl ?_
                exact t_sub [5, 6, 7, 8, 2, 1, 0] rfl (ih _ _ _ _ _ _ _ _ h K)
              · rw [if_neg hb13] at h
                refine s_iload (q := 80) dX6_bestShare_78 rfl 2 rfl ?_
                refine s_goto (tgt := 85) dX6_bestShare_80 rfl ?_
                refine s_istore (q := 87) (lv' := [(5, .int q3.1), (4, .int x4), (8, .int 1), (7, .int q3.1), (0, .ref (eB E + 51)), (1, .int x1), (2, .int x2), (3, .int x3), (6, .int x6)]) dX6_bestShare_85 rfl (Nat.le_of_ble_eq_true rfl) rfl ?_
                refine s_iinc (q := 90) (j := 8) (v := (x6 + 1)) (lv' := [(6, .int (x6 + 1)), (5, .int q3.1), (4, .int x4), (8, .int 1), (7, .int q3.1), (0, .ref (eB E + 51)), (1, .int x1), (2, .int x2), (3, .int x3)]) dX6_bestShare_87 rfl rfl rfl (Nat.le_of_ble_eq_true rfl) rfl ?_
                refine s_goto (tgt := 9) dX6_bestShare_90 rfl ?_
                exact t_sub [5, 6, 7, 8, 2, 1, 0] rfl (ih _ _ _ _ _ _ _ _ h K)
            · rw [if_neg hb12] at h
              refine s_iload (q := 66) dX6_bestShare_64 rfl 8 rfl ?_
              refine s_goto (tgt := 71) dX6_bestShare_66 rfl ?_
              refine s_istore (q := 73) (lv' := [(4, .int x6), (8, .int 1), (7, .int q3.1), (0, .ref (eB E + 51)), (1, .int x1), (2, .int x2), (3, .int x3), (5, .int x5), (6, .int x6)]) dX6_bestShare_71 rfl (Nat.le_of_ble_eq_true rfl) rfl ?_
              refine s_iload (q := 75) dX6_bestShare_73 rfl 1 rfl ?_
              refine s_if_eq (q := 78) (tgt := 83) dX6_bestShare_75 rfl rfl (fun hb14 => ?_) (fun hb14 => ?_)
              · rw [if_pos hb14] at h
                refine s_iload (q := 85) dX6_bestShare_83 rfl 7 rfl ?_
                refine s_istore (q := 87) (lv' := [(5, .int x5), (4, .int x6), (8, .int 1), (7, .int q3.1), (0, .ref (eB E + 51)), (1, .int x1), (2, .int x2), (3, .int x3), (6, .int x6)]) dX6_bestShare_85 rfl (Nat.le_of_ble_eq_true rfl) rfl ?_
                refine s_iinc (q := 90) (j := 8) (v := (x6 + 1)) (lv' := [(6, .int (x6 + 1)), (5, .int x5), (4, .int x6), (8, .int 1), (7, .int q3.1), (0, .ref (eB E + 51)), (1, .int x1), (2, .int x2), (3, .int x3)]) dX6_bestShare_87 rfl rfl rfl (Nat.le_of_ble_eq_true rfl) rfl ?_
                refine s_goto (tgt := 9) dX6_bestShare_90 rfl ?_
                exact t_sub [5, 6, 7, 8, 2, 1, 0] rfl (ih _ _ _ _ _ _ _ _ h K)
              · rw [if_neg hb14] at h
                refine s_iload (q := 80) dX6_bestShare_78 rfl 2 rfl ?_
                refine s_goto (tgt := 85) dX6_bestShare_80 rfl ?_
                refine s_istore (q := 87) (lv' := [(5, .int q3.1), (4, .int x6), (8, .int 1), (7, .int q3.1), (0, .ref (eB E + 51)), (1, .int x1), (2, .int x2), (3, .int x3), (6, .int x6)]) dX6_bestShare_85 rfl (Nat.le_of_ble_eq_true rfl) rfl ?_
                refine s_iinc (q := 90) (j := 8) (v := (x6 + 1)) (lv' := [(6, .int (x6 + 1)), (5, .int q3.1), (4, .int x6), (8, .int 1), (7, .int q3.1), (0, .ref (eB E + 51)), (1, .int x1), (2, .int x2), (3, .int x3)]) dX6_bestShare_87 rfl rfl rfl (Nat.le_of_ble_eq_true rfl) rfl ?_
                refine s_goto (tgt := 9) dX6_bestShare_90 rfl ?_
                exact t_sub [5, 6, 7, 8, 2, 1, 0] rfl (ih _ _ _ _ _ _ _ _ h K)
def G_X6_bestShare_51 (x1 : Int32) (x2 : Int32) (x3 : Int32) (S : ST) : Option (Int32 × ST) := (G_X6_bestShare_51_9 3000 x1 x2 x3 (-1) 0 0 S).bind fun q15 => some (q15.1, q15.2)
set_option maxHeartbeats 4000000 in
set_option maxRecDepth 100000 in
theorem T_X6_bestShare_51 (E : EV) (x1 : Int32) (x2 : Int32) (x3 : Int32) {S : ST} {w : (Int32 × ST)} (h : G_X6_bestShare_51 x1 x2 x3 S = some w) : SD E mX6_bestShare 0 [(0, .ref (eB E + 51)), (1, .int x1), (2, .int x2), (3, .int x3)] [] S (some (.int w.1)) w.2 := by
  unfold G_X6_bestShare_51 at h
  refine s_iconst (q := 1) (v := (-1)) dX6_bestShare_0 rfl rfl ?_
  refine s_istore (q := 3) (lv' := [(4, .int (-1)), (0, .ref (eB E + 51)), (1, .int x1), (2, .int x2), (3, .int x3)]) dX6_bestShare_1 rfl (Nat.le_of_ble_eq_true rfl) rfl ?_
  refine s_iconst (q := 4) (v := 0) dX6_bestShare_3 rfl rfl ?_
  refine s_istore (q := 6) (lv' := [(5, .int 0), (4, .int (-1)), (0, .ref (eB E + 51)), (1, .int x1), (2, .int x2), (3, .int x3)]) dX6_bestShare_4 rfl (Nat.le_of_ble_eq_true rfl) rfl ?_
  refine s_iconst (q := 7) (v := 0) dX6_bestShare_6 rfl rfl ?_
  refine s_istore (q := 9) (lv' := [(6, .int 0), (5, .int 0), (4, .int (-1)), (0, .ref (eB E + 51)), (1, .int x1), (2, .int x2), (3, .int x3)]) dX6_bestShare_7 rfl (Nat.le_of_ble_eq_true rfl) rfl ?_
  obtain ⟨q15, hc15, h⟩ := bnd h
  try dsimp only at h
  refine t_sub [3, 4, 5, 6, 2, 1, 0] rfl (T_X6_bestShare_51_9 E _ _ _ _ _ _ _ _ _ hc15 ?_)
  refine s_iload (q := 95) dX6_bestShare_93 rfl 0 rfl ?_
  obtain rfl := Option.some.inj h
  exact t_iret dX6_bestShare_95 rfl rfl
-- X6_share
def G_X6_share_51 (x1 : Int32) (x2 : Int32) (x3 : Int32) (S : ST) : Option (Int32 × ST) := ((G_X6_canShare_51 x1 x2 x3 S).bind fun q1 => (if q1.1 = 0 then ((G_X6_no_51 0 q1.2).bind fun q3 => some (q3.1, q3.2)) else ((G_X6_bestShare_51 x1 x2 x3 q1.2).bind fun q4 => some (q4.1, q4.2))))
set_option maxHeartbeats 4000000 in
set_option maxRecDepth 100000 in
theorem T_X6_share_51 (E : EV) (x1 : Int32) (x2 : Int32) (x3 : Int32) {S : ST} {w : (Int32 × ST)} (h : G_X6_share_51 x1 x2 x3 S = some w) : SD E mX6_share 0 [(0, .ref (eB E + 51)), (1, .int x1), (2, .int x2), (3, .int x3)] [] S (some (.int w.1)) w.2 := by
  unfold G_X6_share_51 at h
  refine s_aload_n (q := 1) dX6_share_0 rfl rfl 0 rfl ?_
  refine s_iload_n (q := 2) dX6_share_1 rfl rfl 1 rfl ?_
  refine s_iload_n (q := 3) dX6_share_2 rfl rfl 2 rfl ?_
  refine s_iload_n (q := 4) dX6_share_3 rfl rfl 3 rfl ?_
  obtain ⟨q1, hc1, h⟩ := bnd h
  try dsimp only at h
  refine t_callV (q := 7) (N := mX6_canShare) (a := eB E + 51) [.int x1, .int x2, .int x3] dX6_share_4 rfl nkX6_canShare vkX6_canShare lX6_161 ⟨Nat.le_of_ble_eq_true rfl, Nat.le_of_ble_eq_true rfl⟩ (rc_obj (k := 51) rfl rfl) rfl rfl (Nat.le_of_ble_eq_true rfl) (Nat.le_of_ble_eq_true rfl) (T_X6_canShare_51 E _ _ _ hc1) ?_
  refine s_if_eq (q := 10) (tgt := 20) dX6_share_7 rfl rfl (fun hb2 => ?_) (fun hb2 => ?_)
  · rw [if_pos hb2] at h
    refine s_aload_n (q := 21) dX6_share_20 rfl rfl 0 rfl ?_
    refine s_iconst (q := 22) (v := 0) dX6_share_21 rfl rfl ?_
    obtain ⟨q3, hc3, h⟩ := bnd h
    try dsimp only at h
    refine t_callV (q := 25) (N := mX6_no) (a := eB E + 51) [.int 0] dX6_share_22 rfl nkX6_no vkX6_no lX6_94 ⟨Nat.le_of_ble_eq_true rfl, Nat.le_of_ble_eq_true rfl⟩ (rc_obj (k := 51) rfl rfl) rfl rfl (Nat.le_of_ble_eq_true rfl) (Nat.le_of_ble_eq_true rfl) (T_X6_no_51 E _ hc3) ?_
    obtain rfl := Option.some.inj h
    exact t_iret dX6_share_25 rfl rfl
  · rw [if_neg hb2] at h
    refine s_aload_n (q := 11) dX6_share_10 rfl rfl 0 rfl ?_
    refine s_iload_n (q := 12) dX6_share_11 rfl rfl 1 rfl ?_
    refine s_iload_n (q := 13) dX6_share_12 rfl rfl 2 rfl ?_
    refine s_iload_n (q := 14) dX6_share_13 rfl rfl 3 rfl ?_
    obtain ⟨q4, hc4, h⟩ := bnd h
    try dsimp only at h
    refine t_callV (q := 17) (N := mX6_bestShare) (a := eB E + 51) [.int x1, .int x2, .int x3] dX6_share_14 rfl nkX6_bestShare vkX6_bestShare lX6_164 ⟨Nat.le_of_ble_eq_true rfl, Nat.le_of_ble_eq_true rfl⟩ (rc_obj (k := 51) rfl rfl) rfl rfl (Nat.le_of_ble_eq_true rfl) (Nat.le_of_ble_eq_true rfl) (T_X6_bestShare_51 E _ _ _ hc4) ?_
    refine s_goto (tgt := 25) dX6_share_17 rfl ?_
    obtain rfl := Option.some.inj h
    exact t_iret dX6_share_25 rfl rfl
-- X5_longer
def G_X5_longer_0 (x1 : Int32) (x2 : Int32) (x3 : Int32) (S : ST) : Option (Int32 × ST) := ((G_X5_canShare_0 x1 x2 x3 S).bind fun q1 => (if q1.1 = 0 then ((G_X5_finding_0 0 q1.2).bind fun q5 => some (q5.1, q5.2)) else ((G_X5_firstShare_0 x1 x2 x3 q1.2).bind fun q3 => ((G_X5_longerWay_0 q3.1 x3 q3.2).bind fun q4 => some (q4.1, q4.2)))))
set_option maxHeartbeats 4000000 in
set_option maxRecDepth 100000 in
theorem T_X5_longer_0 (E : EV) (x1 : Int32) (x2 : Int32) (x3 : Int32) {S : ST} {w : (Int32 × ST)} (h : G_X5_longer_0 x1 x2 x3 S = some w) : SD E mX5_longer 0 [(0, .ref (eB E + 0)), (1, .int x1), (2, .int x2), (3, .int x3)] [] S (some (.int w.1)) w.2 := by
  unfold G_X5_longer_0 at h
  refine s_aload_n (q := 1) dX5_longer_0 rfl rfl 0 rfl ?_
  refine s_iload_n (q := 2) dX5_longer_1 rfl rfl 1 rfl ?_
  refine s_iload_n (q := 3) dX5_longer_2 rfl rfl 2 rfl ?_
  refine s_iload_n (q := 4) dX5_longer_3 rfl rfl 3 rfl ?_
  obtain ⟨q1, hc1, h⟩ := bnd h
  try dsimp only at h
  refine t_callV (q := 7) (N := mX5_canShare) (a := eB E + 0) [.int x1, .int x2, .int x3] dX5_longer_4 rfl nkX5_canShare vkX5_canShare lX5_184 ⟨Nat.le_of_ble_eq_true rfl, Nat.le_of_ble_eq_true rfl⟩ (rc_obj (k := 0) rfl rfl) rfl rfl (Nat.le_of_ble_eq_true rfl) (Nat.le_of_ble_eq_true rfl) (T_X5_canShare_0 E _ _ _ hc1) ?_
  refine s_if_ne (q := 10) (tgt := 16) dX5_longer_7 rfl rfl (fun hb2 => ?_) (fun hb2 => ?_)
  · rw [if_neg hb2] at h
    refine s_aload_n (q := 17) dX5_longer_16 rfl rfl 0 rfl ?_
    refine s_aload_n (q := 18) dX5_longer_17 rfl rfl 0 rfl ?_
    refine s_iload_n (q := 19) dX5_longer_18 rfl rfl 1 rfl ?_
    refine s_iload_n (q := 20) dX5_longer_19 rfl rfl 2 rfl ?_
    refine s_iload_n (q := 21) dX5_longer_20 rfl rfl 3 rfl ?_
    obtain ⟨q3, hc3, h⟩ := bnd h
    try dsimp only at h
    refine t_callV (q := 24) (N := mX5_firstShare) (a := eB E + 0) [.int x1, .int x2, .int x3] dX5_longer_21 rfl nkX5_firstShare vkX5_firstShare lX5_188 ⟨Nat.le_of_ble_eq_true rfl, Nat.le_of_ble_eq_true rfl⟩ (rc_obj (k := 0) rfl rfl) rfl rfl (Nat.le_of_ble_eq_true rfl) (Nat.le_of_ble_eq_true rfl) (T_X5_firstShare_0 E _ _ _ hc3) ?_
    refine s_iload_n (q := 25) dX5_longer_24 rfl rfl 3 rfl ?_
    obtain ⟨q4, hc4, h⟩ := bnd h
    try dsimp only at h
    refine t_callV (q := 28) (N := mX5_longerWay) (a := eB E + 0) [.int q3.1, .int x3] dX5_longer_25 rfl nkX5_longerWay vkX5_longerWay lX5_191 ⟨Nat.le_of_ble_eq_true rfl, Nat.le_of_ble_eq_true rfl⟩ (rc_obj (k := 0) rfl rfl) rfl rfl (Nat.le_of_ble_eq_true rfl) (Nat.le_of_ble_eq_true rfl) (T_X5_longerWay_0 E _ _ hc4) ?_
    obtain rfl := Option.some.inj h
    exact t_iret dX5_longer_28 rfl rfl
  · rw [if_pos hb2] at h
    refine s_aload_n (q := 11) dX5_longer_10 rfl rfl 0 rfl ?_
    refine s_iconst (q := 12) (v := 0) dX5_longer_11 rfl rfl ?_
    obtain ⟨q5, hc5, h⟩ := bnd h
    try dsimp only at h
    refine t_callV (q := 15) (N := mX5_finding) (a := eB E + 0) [.int 0] dX5_longer_12 rfl nkX5_finding vkX5_finding lX5_61 ⟨Nat.le_of_ble_eq_true rfl, Nat.le_of_ble_eq_true rfl⟩ (rc_obj (k := 0) rfl rfl) rfl rfl (Nat.le_of_ble_eq_true rfl) (Nat.le_of_ble_eq_true rfl) (T_X5_finding_0 E _ hc5) ?_
    obtain rfl := Option.some.inj h
    exact t_iret dX5_longer_15 rfl rfl
-- X6_longer
def G_X6_longer_51 (x1 : Int32) (x2 : Int32) (x3 : Int32) (S : ST) : Option (Int32 × ST) := ((G_X6_canShare_51 x1 x2 x3 S).bind fun q1 => (if q1.1 = 0 then ((G_X6_no_51 0 q1.2).bind fun q5 => some (q5.1, q5.2)) else ((G_X6_bestShare_51 x1 x2 x3 q1.2).bind fun q3 => ((G_X6_longerOf_51 x1 x2 q3.1 (x3 &&& (q3.1 ^^^ (-1))) q3.2).bind fun q4 => some (q4.1, q4.2)))))
set_option maxHeartbeats 4000000 in
set_option maxRecDepth 100000 in
theorem T_X6_longer_51 (E : EV) (x1 : Int32) (x2 : Int32) (x3 : Int32) {S : ST} {w : (Int32 × ST)} (h : G_X6_longer_51 x1 x2 x3 S = some w) : SD E mX6_longer 0 [(0, .ref (eB E + 51)), (1, .int x1), (2, .int x2), (3, .int x3)] [] S (some (.int w.1)) w.2 := by
  unfold G_X6_longer_51 at h
  refine s_aload_n (q := 1) dX6_longer_0 rfl rfl 0 rfl ?_
  refine s_iload_n (q := 2) dX6_longer_1 rfl rfl 1 rfl ?_
  refine s_iload_n (q := 3) dX6_longer_2 rfl rfl 2 rfl ?_
  refine s_iload_n (q := 4) dX6_longer_3 rfl rfl 3 rfl ?_
  obtain ⟨q1, hc1, h⟩ := bnd h
  try dsimp only at h
  refine t_callV (q := 7) (N := mX6_canShare) (a := eB E + 51) [.int x1, .int x2, .int x3] dX6_longer_4 rfl nkX6_canShare vkX6_canShare lX6_161 ⟨Nat.le_of_ble_eq_true rfl, Nat.le_of_ble_eq_true rfl⟩ (rc_obj (k := 51) rfl rfl) rfl rfl (Nat.le_of_ble_eq_true rfl) (Nat.le_of_ble_eq_true rfl) (T_X6_canShare_51 E _ _ _ hc1) ?_
  refine s_if_ne (q := 10) (tgt := 16) dX6_longer_7 rfl rfl (fun hb2 => ?_) (fun hb2 => ?_)
  · rw [if_neg hb2] at h
    refine s_aload_n (q := 17) dX6_longer_16 rfl rfl 0 rfl ?_
    refine s_iload_n (q := 18) dX6_longer_17 rfl rfl 1 rfl ?_
    refine s_iload_n (q := 19) dX6_longer_18 rfl rfl 2 rfl ?_
    refine s_iload_n (q := 20) dX6_longer_19 rfl rfl 3 rfl ?_
    obtain ⟨q3, hc3, h⟩ := bnd h
    try dsimp only at h
    refine t_callV (q := 23) (N := mX6_bestShare) (a := eB E + 51) [.int x1, .int x2, .int x3] dX6_longer_20 rfl nkX6_bestShare vkX6_bestShare lX6_164 ⟨Nat.le_of_ble_eq_true rfl, Nat.le_of_ble_eq_true rfl⟩ (rc_obj (k := 51) rfl rfl) rfl rfl (Nat.le_of_ble_eq_true rfl) (Nat.le_of_ble_eq_true rfl) (T_X6_bestShare_51 E _ _ _ hc3) ?_
    refine s_istore (q := 25) (lv' := [(4, .int q3.1), (0, .ref (eB E + 51)), (1, .int x1), (2, .int x2), (3, .int x3)]) dX6_longer_23 rfl (Nat.le_of_ble_eq_true rfl) rfl ?_
    refine s_aload_n (q := 26) dX6_longer_25 rfl rfl 1 rfl ?_
    refine s_iload_n (q := 27) dX6_longer_26 rfl rfl 2 rfl ?_
    refine s_iload_n (q := 28) dX6_longer_27 rfl rfl 3 rfl ?_
    refine s_iload (q := 30) dX6_longer_28 rfl 0 rfl ?_
    refine s_iload_n (q := 31) dX6_longer_30 rfl rfl 4 rfl ?_
    refine s_iload (q := 33) dX6_longer_31 rfl 0 rfl ?_
    refine s_iconst (q := 34) (v := (-1)) dX6_longer_33 rfl rfl ?_
    refine s_ixor (q := 35) dX6_longer_34 rfl ?_
    refine s_iand (q := 36) dX6_longer_35 rfl ?_
    obtain ⟨q4, hc4, h⟩ := bnd h
    try dsimp only at h
    refine t_callV (q := 39) (N := mX6_longerOf) (a := eB E + 51) [.int x1, .int x2, .int q3.1, .int (x3 &&& (q3.1 ^^^ (-1)))] dX6_longer_36 rfl nkX6_longerOf vkX6_longerOf lX6_157 ⟨Nat.le_of_ble_eq_true rfl, Nat.le_of_ble_eq_true rfl⟩ (rc_obj (k := 51) rfl rfl) rfl rfl (Nat.le_of_ble_eq_true rfl) (Nat.le_of_ble_eq_true rfl) (T_X6_longerOf_51 E _ _ _ _ hc4) ?_
    obtain rfl := Option.some.inj h
    exact t_iret dX6_longer_39 rfl rfl
  · rw [if_pos hb2] at h
    refine s_aload_n (q := 11) dX6_longer_10 rfl rfl 0 rfl ?_
    refine s_iconst (q := 12) (v := 0) dX6_longer_11 rfl rfl ?_
    obtain ⟨q5, hc5, h⟩ := bnd h
    try dsimp only at h
    refine t_callV (q := 15) (N := mX6_no) (a := eB E + 51) [.int 0] dX6_longer_12 rfl nkX6_no vkX6_no lX6_94 ⟨Nat.le_of_ble_eq_true rfl, Nat.le_of_ble_eq_true rfl⟩ (rc_obj (k := 51) rfl rfl) rfl rfl (Nat.le_of_ble_eq_true rfl) (Nat.le_of_ble_eq_true rfl) (T_X6_no_51 E _ hc5) ?_
    obtain rfl := Option.some.inj h
    exact t_iret dX6_longer_15 rfl rfl
-- X1_addSign
def G_X1_addSign_1 (x1 : Int32) (S : ST) : Option (Int32 × ST) := (if inB (S.1 1 9) 6 = true then some ((((S.1 1 9) + 1) - 1), (wr (wr S 9 ((S.1 1 9).toNatClampNeg) x1) 1 9 ((S.1 1 9) + 1))) else none)
set_option maxHeartbeats 4000000 in
set_option maxRecDepth 100000 in
theorem T_X1_addSign_1 (E : EV) (x1 : Int32) {S : ST} {w : (Int32 × ST)} (h : G_X1_addSign_1 x1 S = some w) : SD E mX1_addSign 0 [(0, .ref (eB E + 1)), (1, .int x1)] [] S (some (.int w.1)) w.2 := by
  unfold G_X1_addSign_1 at h
  refine s_aload_n (q := 1) dX1_addSign_0 rfl rfl 0 rfl ?_
  refine t_getR (q := 4) (k := 1) (f := 10) (t := 9) dX1_addSign_1 rfl rfl rfl rfl inX1 (Nat.le_of_ble_eq_true rfl) fX1_43 ?_
  refine s_aload_n (q := 5) dX1_addSign_4 rfl rfl 0 rfl ?_
  refine t_getI (q := 8) (k := 1) (f := 9) (v := (S.1 1 9)) dX1_addSign_5 rfl rfl rfl rfl inX1 (Nat.le_of_ble_eq_true rfl) fX1_40 rfl ?_
  refine s_iload_n (q := 9) dX1_addSign_8 rfl rfl 1 rfl ?_
  obtain ⟨hg1, h⟩ := chk_some h
  refine u_iast (q := 10) (k := 9) dX1_addSign_9 rfl rfl (inB_in hg1) rfl ?_
  refine s_aload_n (q := 11) dX1_addSign_10 rfl rfl 0 rfl ?_
  refine s_dup (q := 12) dX1_addSign_11 rfl rfl ?_
  refine t_getI (q := 15) (k := 1) (f := 9) (v := (S.1 1 9)) dX1_addSign_12 rfl rfl rfl rfl inX1 (Nat.le_of_ble_eq_true rfl) fX1_40 rfl ?_
  refine s_iconst (q := 16) (v := 1) dX1_addSign_15 rfl rfl ?_
  refine s_iadd (q := 17) dX1_addSign_16 rfl ?_
  refine t_putI (q := 20) (k := 1) (f := 9) dX1_addSign_17 rfl rfl rfl rfl inX1 tyX1_ok nmX1 (Nat.le_of_ble_eq_true rfl) fX1_40 rfl rfl rfl ?_
  refine s_aload_n (q := 21) dX1_addSign_20 rfl rfl 0 rfl ?_
  refine t_getI (q := 24) (k := 1) (f := 9) (v := ((S.1 1 9) + 1)) dX1_addSign_21 rfl rfl rfl rfl inX1 (Nat.le_of_ble_eq_true rfl) fX1_40 rfl ?_
  refine s_iconst (q := 25) (v := 1) dX1_addSign_24 rfl rfl ?_
  refine s_isub (q := 26) dX1_addSign_25 rfl ?_
  obtain rfl := Option.some.inj h
  exact t_iret dX1_addSign_26 rfl rfl
-- X5_sign
def G_X5_sign_0 (x1 : Int32) (S : ST) : Option (Int32 × ST) := (if x1 = 0 then ((G_X5_finding_0 0 S).bind fun q2 => some (q2.1, q2.2)) else ((G_X5_isSetOfStars_0 x1 S).bind fun q3 => (if q3.1 = 0 then ((G_X5_finding_0 0 q3.2).bind fun q8 => some (q8.1, q8.2)) else (if (q3.2.1 1 9) < 6 then ((G_X1_addSign_1 x1 q3.2).bind fun q6 => some (q6.1, q6.2)) else ((G_X5_finding_0 1 q3.2).bind fun q7 => some (q7.1, q7.2))))))
set_option maxHeartbeats 4000000 in
set_option maxRecDepth 100000 in
theorem T_X5_sign_0 (E : EV) (x1 : Int32) {S : ST} {w : (Int32 × ST)} (h : G_X5_sign_0 x1 S = some w) : SD E mX5_sign 0 [(0, .ref (eB E + 0)), (1, .int x1)] [] S (some (.int w.1)) w.2 := by
  unfold G_X5_sign_0 at h
  refine s_iload_n (q := 1) dX5_sign_0 rfl rfl 1 rfl ?_
  refine s_if_eq (q := 4) (tgt := 12) dX5_sign_1 rfl rfl (fun hb1 => ?_) (fun hb1 => ?_)
  · rw [if_pos hb1] at h
    refine s_aload_n (q := 13) dX5_sign_12 rfl rfl 0 rfl ?_
    refine s_iconst (q := 14) (v := 0) dX5_sign_13 rfl rfl ?_
    obtain ⟨q2, hc2, h⟩ := bnd h
    try dsimp only at h
    refine t_callV (q := 17) (N := mX5_finding) (a := eB E + 0) [.int 0] dX5_sign_14 rfl nkX5_finding vkX5_finding lX5_61 ⟨Nat.le_of_ble_eq_true rfl, Nat.le_of_ble_eq_true rfl⟩ (rc_obj (k := 0) rfl rfl) rfl rfl (Nat.le_of_ble_eq_true rfl) (Nat.le_of_ble_eq_true rfl) (T_X5_finding_0 E _ hc2) ?_
    obtain rfl := Option.some.inj h
    exact t_iret dX5_sign_17 rfl rfl
  · rw [if_neg hb1] at h
    refine s_aload_n (q := 5) dX5_sign_4 rfl rfl 0 rfl ?_
    refine s_iload_n (q := 6) dX5_sign_5 rfl rfl 1 rfl ?_
    obtain ⟨q3, hc3, h⟩ := bnd h
    try dsimp only at h
    refine t_callV (q := 9) (N := mX5_isSetOfStars) (a := eB E + 0) [.int x1] dX5_sign_6 rfl nkX5_isSetOfStars vkX5_isSetOfStars lX5_169 ⟨Nat.le_of_ble_eq_true rfl, Nat.le_of_ble_eq_true rfl⟩ (rc_obj (k := 0) rfl rfl) rfl rfl (Nat.le_of_ble_eq_true rfl) (Nat.le_of_ble_eq_true rfl) (T_X5_isSetOfStars_0 E _ hc3) ?_
    refine s_if_ne (q := 12) (tgt := 18) dX5_sign_9 rfl rfl (fun hb4 => ?_) (fun hb4 => ?_)
    · rw [if_neg hb4] at h
      refine s_aload_n (q := 19) dX5_sign_18 rfl rfl 0 rfl ?_
      refine t_getR (q := 22) (k := 0) (f := 0) (t := 1) dX5_sign_19 rfl rfl rfl rfl inX5 (Nat.le_of_ble_eq_true rfl) fX5_10 ?_
      refine t_getI (q := 25) (k := 1) (f := 9) (v := (q3.2.1 1 9)) dX5_sign_22 rfl rfl rfl rfl inX1 (Nat.le_of_ble_eq_true rfl) fX5_194 rfl ?_
      refine s_bipush (q := 27) (v := 6) dX5_sign_25 rfl rfl ?_
      refine s_icmp_lt (q := 30) (tgt := 36) dX5_sign_27 rfl rfl (fun hb5 => ?_) (fun hb5 => ?_)
      · rw [if_pos hb5] at h
        refine s_aload_n (q := 37) dX5_sign_36 rfl rfl 0 rfl ?_
        refine t_getR (q := 40) (k := 0) (f := 0) (t := 1) dX5_sign_37 rfl rfl rfl rfl inX5 (Nat.le_of_ble_eq_true rfl) fX5_10 ?_
        refine s_iload_n (q := 41) dX5_sign_40 rfl rfl 1 rfl ?_
        obtain ⟨q6, hc6, h⟩ := bnd h
        try dsimp only at h
        refine t_callV (q := 44) (N := mX1_addSign) (a := eB E + 1) [.int x1] dX5_sign_41 rfl nkX1_addSign vkX1_addSign lX5_197 ⟨Nat.le_of_ble_eq_true rfl, Nat.le_of_ble_eq_true rfl⟩ (rc_obj (k := 1) rfl rfl) rfl rfl (Nat.le_of_ble_eq_true rfl) (Nat.le_of_ble_eq_true rfl) (T_X1_addSign_1 E _ hc6) ?_
        obtain rfl := Option.some.inj h
        exact t_iret dX5_sign_44 rfl rfl
      · rw [if_neg hb5] at h
        refine s_aload_n (q := 31) dX5_sign_30 rfl rfl 0 rfl ?_
        refine s_iconst (q := 32) (v := 1) dX5_sign_31 rfl rfl ?_
        obtain ⟨q7, hc7, h⟩ := bnd h
        try dsimp only at h
        refine t_callV (q := 35) (N := mX5_finding) (a := eB E + 0) [.int 1] dX5_sign_32 rfl nkX5_finding vkX5_finding lX5_61 ⟨Nat.le_of_ble_eq_true rfl, Nat.le_of_ble_eq_true rfl⟩ (rc_obj (k := 0) rfl rfl) rfl rfl (Nat.le_of_ble_eq_true rfl) (Nat.le_of_ble_eq_true rfl) (T_X5_finding_0 E _ hc7) ?_
        obtain rfl := Option.some.inj h
        exact t_iret dX5_sign_35 rfl rfl
    · rw [if_pos hb4] at h
      refine s_aload_n (q := 13) dX5_sign_12 rfl rfl 0 rfl ?_
      refine s_iconst (q := 14) (v := 0) dX5_sign_13 rfl rfl ?_
      obtain ⟨q8, hc8, h⟩ := bnd h
      try dsimp only at h
      refine t_callV (q := 17) (N := mX5_finding) (a := eB E + 0) [.int 0] dX5_sign_14 rfl nkX5_finding vkX5_finding lX5_61 ⟨Nat.le_of_ble_eq_true rfl, Nat.le_of_ble_eq_true rfl⟩ (rc_obj (k := 0) rfl rfl) rfl rfl (Nat.le_of_ble_eq_true rfl) (Nat.le_of_ble_eq_true rfl) (T_X5_finding_0 E _ hc8) ?_
      obtain rfl := Option.some.inj h
      exact t_iret dX5_sign_17 rfl rfl
-- X6_addsSign
def G_X6_addsSign_51 (x1 : Int32) (S : ST) : Option (Unit × ST) := (if inB (56 + (S.1 52 2)) 72 = true then some ((), (wr (wr S 52 ((56 + (S.1 52 2)).toNatClampNeg) x1) 52 2 (((wr S 52 ((56 + (S.1 52 2)).toNatClampNeg) x1).1 52 2) + 1))) else none)
set_option maxHeartbeats 4000000 in
set_option maxRecDepth 100000 in
theorem T_X6_addsSign_51 (E : EV) (x1 : Int32) {S : ST} {w : (Unit × ST)} (h : G_X6_addsSign_51 x1 S = some w) : SD E mX6_addsSign 0 [(0, .ref (eB E + 51)), (1, .int x1)] [] S none w.2 := by
  unfold G_X6_addsSign_51 at h
  refine s_aload_n (q := 1) dX6_addsSign_0 rfl rfl 0 rfl ?_
  refine t_getR (q := 4) (k := 51) (f := 0) (t := 52) dX6_addsSign_1 rfl rfl rfl rfl inX6 (Nat.le_of_ble_eq_true rfl) fX6_9 ?_
  refine s_bipush (q := 6) (v := 56) dX6_addsSign_4 rfl rfl ?_
  refine s_aload_n (q := 7) dX6_addsSign_6 rfl rfl 0 rfl ?_
  refine t_getR (q := 10) (k := 51) (f := 0) (t := 52) dX6_addsSign_7 rfl rfl rfl rfl inX6 (Nat.le_of_ble_eq_true rfl) fX6_9 ?_
  refine s_iconst (q := 11) (v := 2) dX6_addsSign_10 rfl rfl ?_
  refine u_iald (q := 12) (k := 52) (j := 2) (v := (S.1 52 2)) dX6_addsSign_11 rfl rfl (inB_in (by decide)) (by decide) rfl ?_
  refine s_iadd (q := 13) dX6_addsSign_12 rfl ?_
  refine s_iload_n (q := 14) dX6_addsSign_13 rfl rfl 1 rfl ?_
  obtain ⟨hg1, h⟩ := chk_some h
  refine u_iast (q := 15) (k := 52) dX6_addsSign_14 rfl rfl (inB_in hg1) rfl ?_
  refine s_aload_n (q := 16) dX6_addsSign_15 rfl rfl 0 rfl ?_
  refine t_getR (q := 19) (k := 51) (f := 0) (t := 52) dX6_addsSign_16 rfl rfl rfl rfl inX6 (Nat.le_of_ble_eq_true rfl) fX6_9 ?_
  refine s_iconst (q := 20) (v := 2) dX6_addsSign_19 rfl rfl ?_
  refine s_dup2 (q := 21) dX6_addsSign_20 rfl rfl rfl ?_
  refine u_iald (q := 22) (k := 52) (j := 2) (v := ((wr S 52 ((56 + (S.1 52 2)).toNatClampNeg) x1).1 52 2)) dX6_addsSign_21 rfl rfl (inB_in (by decide)) (by decide) rfl ?_
  refine s_iconst (q := 23) (v := 1) dX6_addsSign_22 rfl rfl ?_
  refine s_iadd (q := 24) dX6_addsSign_23 rfl ?_
  refine u_iast (q := 25) (k := 52) (j := 2) dX6_addsSign_24 rfl rfl (inB_in (by decide)) (by decide) ?_
  obtain rfl := Option.some.inj h
  exact t_vret dX6_addsSign_25 rfl rfl
-- X6_sign
def G_X6_sign_51 (x1 : Int32) (S : ST) : Option (Int32 × ST) := ((G_X6_isSet_51 x1 S).bind fun q1 => (if q1.1 = 0 then ((G_X6_no_51 0 q1.2).bind fun q3 => some (q3.1, q3.2)) else (if x1 = 0 then ((G_X6_no_51 0 q1.2).bind fun q8 => some (q8.1, q8.2)) else (if (q1.2.1 52 2) = 6 then ((G_X6_no_51 1 q1.2).bind fun q7 => some (q7.1, q7.2)) else ((G_X6_addsSign_51 x1 q1.2).bind fun q6 => some (((q6.2.1 52 2) - 1), q6.2))))))
set_option maxHeartbeats 4000000 in
set_option maxRecDepth 100000 in
theorem T_X6_sign_51 (E : EV) (x1 : Int32) {S : ST} {w : (Int32 × ST)} (h : G_X6_sign_51 x1 S = some w) : SD E mX6_sign 0 [(0, .ref (eB E + 51)), (1, .int x1)] [] S (some (.int w.1)) w.2 := by
  unfold G_X6_sign_51 at h
  refine s_aload_n (q := 1) dX6_sign_0 rfl rfl 0 rfl ?_
  refine s_iload_n (q := 2) dX6_sign_1 rfl rfl 1 rfl ?_
  obtain ⟨q1, hc1, h⟩ := bnd h
  try dsimp only at h
  refine t_callV (q := 5) (N := mX6_isSet) (a := eB E + 51) [.int x1] dX6_sign_2 rfl nkX6_isSet vkX6_isSet lX6_145 ⟨Nat.le_of_ble_eq_true rfl, Nat.le_of_ble_eq_true rfl⟩ (rc_obj (k := 51) rfl rfl) rfl rfl (Nat.le_of_ble_eq_true rfl) (Nat.le_of_ble_eq_true rfl) (T_X6_isSet_51 E _ hc1) ?_
  refine s_if_eq (q := 8) (tgt := 12) dX6_sign_5 rfl rfl (fun hb2 => ?_) (fun hb2 => ?_)
  · rw [if_pos hb2] at h
    refine s_aload_n (q := 13) dX6_sign_12 rfl rfl 0 rfl ?_
    refine s_iconst (q := 14) (v := 0) dX6_sign_13 rfl rfl ?_
    obtain ⟨q3, hc3, h⟩ := bnd h
    try dsimp only at h
    refine t_callV (q := 17) (N := mX6_no) (a := eB E + 51) [.int 0] dX6_sign_14 rfl nkX6_no vkX6_no lX6_94 ⟨Nat.le_of_ble_eq_true rfl, Nat.le_of_ble_eq_true rfl⟩ (rc_obj (k := 51) rfl rfl) rfl rfl (Nat.le_of_ble_eq_true rfl) (Nat.le_of_ble_eq_true rfl) (T_X6_no_51 E _ hc3) ?_
    obtain rfl := Option.some.inj h
    exact t_iret dX6_sign_17 rfl rfl
  · rw [if_neg hb2] at h
    refine s_iload_n (q := 9) dX6_sign_8 rfl rfl 1 rfl ?_
    refine s_if_ne (q := 12) (tgt := 18) dX6_sign_9 rfl rfl (fun hb4 => ?_) (fun hb4 => ?_)
    · rw [if_neg hb4] at h
      refine s_aload_n (q := 19) dX6_sign_18 rfl rfl 0 rfl ?_
      refine t_getR (q := 22) (k := 51) (f := 0) (t := 52) dX6_sign_19 rfl rfl rfl rfl inX6 (Nat.le_of_ble_eq_true rfl) fX6_9 ?_
      refine s_iconst (q := 23) (v := 2) dX6_sign_22 rfl rfl ?_
      refine u_iald (q := 24) (k := 52) (j := 2) (v := (q1.2.1 52 2)) dX6_sign_23 rfl rfl (inB_in (by decide)) (by decide) rfl ?_
      refine s_bipush (q := 26) (v := 6) dX6_sign_24 rfl rfl ?_
      refine s_icmp_ne (q := 29) (tgt := 35) dX6_sign_26 rfl rfl (fun hb5 => ?_) (fun hb5 => ?_)
      · rw [if_neg hb5] at h
        refine s_aload_n (q := 36) dX6_sign_35 rfl rfl 0 rfl ?_
        refine s_iload_n (q := 37) dX6_sign_36 rfl rfl 1 rfl ?_
        obtain ⟨q6, hc6, h⟩ := bnd h
        try dsimp only at h
        refine t_callV (q := 40) (N := mX6_addsSign) (a := eB E + 51) [.int x1] dX6_sign_37 rfl nkX6_addsSign vkX6_addsSign lX6_168 ⟨Nat.le_of_ble_eq_true rfl, Nat.le_of_ble_eq_true rfl⟩ (rc_obj (k := 51) rfl rfl) rfl rfl (Nat.le_of_ble_eq_true rfl) (Nat.le_of_ble_eq_true rfl) (T_X6_addsSign_51 E _ hc6) ?_
        refine s_aload_n (q := 41) dX6_sign_40 rfl rfl 0 rfl ?_
        refine t_getR (q := 44) (k := 51) (f := 0) (t := 52) dX6_sign_41 rfl rfl rfl rfl inX6 (Nat.le_of_ble_eq_true rfl) fX6_9 ?_
        refine s_iconst (q := 45) (v := 2) dX6_sign_44 rfl rfl ?_
        refine u_iald (q := 46) (k := 52) (j := 2) (v := (q6.2.1 52 2)) dX6_sign_45 rfl rfl (inB_in (by decide)) (by decide) rfl ?_
        refine s_iconst (q := 47) (v := 1) dX6_sign_46 rfl rfl ?_
        refine s_isub (q := 48) dX6_sign_47 rfl ?_
        obtain rfl := Option.some.inj h
        exact t_iret dX6_sign_48 rfl rfl
      · rw [if_pos hb5] at h
        refine s_aload_n (q := 30) dX6_sign_29 rfl rfl 0 rfl ?_
        refine s_iconst (q := 31) (v := 1) dX6_sign_30 rfl rfl ?_
        obtain ⟨q7, hc7, h⟩ := bnd h
        try dsimp only at h
        refine t_callV (q := 34) (N := mX6_no) (a := eB E + 51) [.int 1] dX6_sign_31 rfl nkX6_no vkX6_no lX6_94 ⟨Nat.le_of_ble_eq_true rfl, Nat.le_of_ble_eq_true rfl⟩ (rc_obj (k := 51) rfl rfl) rfl rfl (Nat.le_of_ble_eq_true rfl) (Nat.le_of_ble_eq_true rfl) (T_X6_no_51 E _ hc7) ?_
        obtain rfl := Option.some.inj h
        exact t_iret dX6_sign_34 rfl rfl
    · rw [if_pos hb4] at h
      refine s_aload_n (q := 13) dX6_sign_12 rfl rfl 0 rfl ?_
      refine s_iconst (q := 14) (v := 0) dX6_sign_13 rfl rfl ?_
      obtain ⟨q8, hc8, h⟩ := bnd h
      try dsimp only at h
      refine t_callV (q := 17) (N := mX6_no) (a := eB E + 51) [.int 0] dX6_sign_14 rfl nkX6_no vkX6_no lX6_94 ⟨Nat.le_of_ble_eq_true rfl, Nat.le_of_ble_eq_true rfl⟩ (rc_obj (k := 51) rfl rfl) rfl rfl (Nat.le_of_ble_eq_true rfl) (Nat.le_of_ble_eq_true rfl) (T_X6_no_51 E _ hc8) ?_
      obtain rfl := Option.some.inj h
      exact t_iret dX6_sign_17 rfl rfl
-- X5_signOf
def G_X5_signOf_0 (x1 : Int32) (S : ST) : Option (Int32 × ST) := ((G_X5_isBelow x1 (S.1 1 9) S).bind fun q1 => (if q1.1 = 0 then ((G_X5_finding_0 0 q1.2).bind fun q4 => some (q4.1, q4.2)) else (if inB x1 6 = true then some ((q1.2.1 9 x1.toNatClampNeg), q1.2) else none)))
set_option maxHeartbeats 4000000 in
set_option maxRecDepth 100000 in
theorem T_X5_signOf_0 (E : EV) (x1 : Int32) {S : ST} {w : (Int32 × ST)} (h : G_X5_signOf_0 x1 S = some w) : SD E mX5_signOf 0 [(0, .ref (eB E + 0)), (1, .int x1)] [] S (some (.int w.1)) w.2 := by
  unfold G_X5_signOf_0 at h
  refine s_iload_n (q := 1) dX5_signOf_0 rfl rfl 1 rfl ?_
  refine s_aload_n (q := 2) dX5_signOf_1 rfl rfl 0 rfl ?_
  refine t_getR (q := 5) (k := 0) (f := 0) (t := 1) dX5_signOf_2 rfl rfl rfl rfl inX5 (Nat.le_of_ble_eq_true rfl) fX5_10 ?_
  refine t_getI (q := 8) (k := 1) (f := 9) (v := (S.1 1 9)) dX5_signOf_5 rfl rfl rfl rfl inX1 (Nat.le_of_ble_eq_true rfl) fX5_194 rfl ?_
  obtain ⟨q1, hc1, h⟩ := bnd h
  try dsimp only at h
  refine t_callS (q := 11) (N := mX5_isBelow) [.int x1, .int (S.1 1 9)] dX5_signOf_8 rfl nkX5_isBelow sX5_isBelow lX5_57 ⟨Nat.le_of_ble_eq_true rfl, Nat.le_of_ble_eq_true rfl⟩ rfl rfl (Nat.le_of_ble_eq_true rfl) (Nat.le_of_ble_eq_true rfl) (T_X5_isBelow E _ _ hc1) ?_
  refine s_if_ne (q := 14) (tgt := 20) dX5_signOf_11 rfl rfl (fun hb2 => ?_) (fun hb2 => ?_)
  · rw [if_neg hb2] at h
    refine s_aload_n (q := 21) dX5_signOf_20 rfl rfl 0 rfl ?_
    refine t_getR (q := 24) (k := 0) (f := 0) (t := 1) dX5_signOf_21 rfl rfl rfl rfl inX5 (Nat.le_of_ble_eq_true rfl) fX5_10 ?_
    refine t_getR (q := 27) (k := 1) (f := 10) (t := 9) dX5_signOf_24 rfl rfl rfl rfl inX1 (Nat.le_of_ble_eq_true rfl) fX5_200 ?_
    refine s_iload_n (q := 28) dX5_signOf_27 rfl rfl 1 rfl ?_
    obtain ⟨hg3, h⟩ := chk_some h
    refine u_iald (q := 29) (k := 9) (v := (q1.2.1 9 x1.toNatClampNeg)) dX5_signOf_28 rfl rfl (inB_in hg3) rfl rfl ?_
    obtain rfl := Option.some.inj h
    exact t_iret dX5_signOf_29 rfl rfl
  · rw [if_pos hb2] at h
    refine s_aload_n (q := 15) dX5_signOf_14 rfl rfl 0 rfl ?_
    refine s_iconst (q := 16) (v := 0) dX5_signOf_15 rfl rfl ?_
    obtain ⟨q4, hc4, h⟩ := bnd h
    try dsimp only at h
    refine t_callV (q := 19) (N := mX5_finding) (a := eB E + 0) [.int 0] dX5_signOf_16 rfl nkX5_finding vkX5_finding lX5_61 ⟨Nat.le_of_ble_eq_true rfl, Nat.le_of_ble_eq_true rfl⟩ (rc_obj (k := 0) rfl rfl) rfl rfl (Nat.le_of_ble_eq_true rfl) (Nat.le_of_ble_eq_true rfl) (T_X5_finding_0 E _ hc4) ?_
    obtain rfl := Option.some.inj h
    exact t_iret dX5_signOf_19 rfl rfl
-- X6_isSign
def G_X6_isSign_51 (x1 : Int32) (S : ST) : Option (Int32 × ST) := ((G_X6_in1 x1 0 ((S.1 52 2) - 1) S).bind fun q1 => (if bitB q1.1 = true then some (q1.1, q1.2) else none))
set_option maxHeartbeats 4000000 in
set_option maxRecDepth 100000 in
theorem T_X6_isSign_51 (E : EV) (x1 : Int32) {S : ST} {w : (Int32 × ST)} (h : G_X6_isSign_51 x1 S = some w) : SD E mX6_isSign 0 [(0, .ref (eB E + 51)), (1, .int x1)] [] S (some (.int w.1)) w.2 := by
  unfold G_X6_isSign_51 at h
  refine s_iload_n (q := 1) dX6_isSign_0 rfl rfl 1 rfl ?_
  refine s_iconst (q := 2) (v := 0) dX6_isSign_1 rfl rfl ?_
  refine s_aload_n (q := 3) dX6_isSign_2 rfl rfl 0 rfl ?_
  refine t_getR (q := 6) (k := 51) (f := 0) (t := 52) dX6_isSign_3 rfl rfl rfl rfl inX6 (Nat.le_of_ble_eq_true rfl) fX6_9 ?_
  refine s_iconst (q := 7) (v := 2) dX6_isSign_6 rfl rfl ?_
  refine u_iald (q := 8) (k := 52) (j := 2) (v := (S.1 52 2)) dX6_isSign_7 rfl rfl (inB_in (by decide)) (by decide) rfl ?_
  refine s_iconst (q := 9) (v := 1) dX6_isSign_8 rfl rfl ?_
  refine s_isub (q := 10) dX6_isSign_9 rfl ?_
  obtain ⟨q1, hc1, h⟩ := bnd h
  try dsimp only at h
  refine t_callS (q := 13) (N := mX6_in1) [.int x1, .int 0, .int ((S.1 52 2) - 1)] dX6_isSign_10 rfl nkX6_in1 sX6_in1 lX6_54 ⟨Nat.le_of_ble_eq_true rfl, Nat.le_of_ble_eq_true rfl⟩ rfl rfl (Nat.le_of_ble_eq_true rfl) (Nat.le_of_ble_eq_true rfl) (T_X6_in1 E _ _ _ hc1) ?_
  obtain ⟨hg2, h⟩ := chk_some h
  obtain rfl := Option.some.inj h
  exact t_zret dX6_isSign_13 rfl (bitB_z hg2) rfl
-- X6_signOf
def G_X6_signOf_51 (x1 : Int32) (S : ST) : Option (Int32 × ST) := ((G_X6_isSign_51 x1 S).bind fun q1 => (if q1.1 = 0 then ((G_X6_no_51 0 q1.2).bind fun q3 => some (q3.1, q3.2)) else (if inB (56 + x1) 72 = true then some ((q1.2.1 52 ((56 + x1).toNatClampNeg)), q1.2) else none)))
set_option maxHeartbeats 4000000 in
set_option maxRecDepth 100000 in
theorem T_X6_signOf_51 (E : EV) (x1 : Int32) {S : ST} {w : (Int32 × ST)} (h : G_X6_signOf_51 x1 S = some w) : SD E mX6_signOf 0 [(0, .ref (eB E + 51)), (1, .int x1)] [] S (some (.int w.1)) w.2 := by
  unfold G_X6_signOf_51 at h
  refine s_aload_n (q := 1) dX6_signOf_0 rfl rfl 0 rfl ?_
  refine s_iload_n (q := 2) dX6_signOf_1 rfl rfl 1 rfl ?_
  obtain ⟨q1, hc1, h⟩ := bnd h
  try dsimp only at h
  refine t_callV (q := 5) (N := mX6_isSign) (a := eB E + 51) [.int x1] dX6_signOf_2 rfl nkX6_isSign vkX6_isSign lX6_171 ⟨Nat.le_of_ble_eq_true rfl, Nat.le_of_ble_eq_true rfl⟩ (rc_obj (k := 51) rfl rfl) rfl rfl (Nat.le_of_ble_eq_true rfl) (Nat.le_of_ble_eq_true rfl) (T_X6_isSign_51 E _ hc1) ?_
  refine s_if_eq (q := 8) (tgt := 20) dX6_signOf_5 rfl rfl (fun hb2 => ?_) (fun hb2 => ?_)
  · rw [if_pos hb2] at h
    refine s_aload_n (q := 21) dX6_signOf_20 rfl rfl 0 rfl ?_
    refine s_iconst (q := 22) (v := 0) dX6_signOf_21 rfl rfl ?_
    obtain ⟨q3, hc3, h⟩ := bnd h
    try dsimp only at h
    refine t_callV (q := 25) (N := mX6_no) (a := eB E + 51) [.int 0] dX6_signOf_22 rfl nkX6_no vkX6_no lX6_94 ⟨Nat.le_of_ble_eq_true rfl, Nat.le_of_ble_eq_true rfl⟩ (rc_obj (k := 51) rfl rfl) rfl rfl (Nat.le_of_ble_eq_true rfl) (Nat.le_of_ble_eq_true rfl) (T_X6_no_51 E _ hc3) ?_
    obtain rfl := Option.some.inj h
    exact t_iret dX6_signOf_25 rfl rfl
  · rw [if_neg hb2] at h
    refine s_aload_n (q := 9) dX6_signOf_8 rfl rfl 0 rfl ?_
    refine t_getR (q := 12) (k := 51) (f := 0) (t := 52) dX6_signOf_9 rfl rfl rfl rfl inX6 (Nat.le_of_ble_eq_true rfl) fX6_9 ?_
    refine s_bipush (q := 14) (v := 56) dX6_signOf_12 rfl rfl ?_
    refine s_iload_n (q := 15) dX6_signOf_14 rfl rfl 1 rfl ?_
    refine s_iadd (q := 16) dX6_signOf_15 rfl ?_
    obtain ⟨hg4, h⟩ := chk_some h
    refine u_iald (q := 17) (k := 52) (v := (q1.2.1 52 ((56 + x1).toNatClampNeg))) dX6_signOf_16 rfl rfl (inB_in hg4) rfl rfl ?_
    refine s_goto (tgt := 25) dX6_signOf_17 rfl ?_
    obtain rfl := Option.some.inj h
    exact t_iret dX6_signOf_25 rfl rfl
-- X1_signsWith
def G_X1_signsWith_1_4 : Nat → Int32 → Int32 → Int32 → ST → Option (Int32 × ST)
  | 0, _, _, _, _ => none
  | n + 1, x1, x2, x3, S => (if (S.1 1 9) ≤ x3 then some (x2, S) else (if inB x3 6 = true then (if (x1 &&& ((S.1 9 x3.toNatClampNeg) ^^^ (-1))) = 0 then G_X1_signsWith_1_4 n x1 (x2 ||| (1 <<< (x3 &&& 31))) (x3 + 1) S else G_X1_signsWith_1_4 n x1 x2 (x3 + 1) S) else none))
set_option maxHeartbeats 4000000 in
set_option maxRecDepth 100000 in
theorem T_X1_signsWith_1_4 (E : EV) : ∀ (n : Nat) (x1 : Int32) (x2 : Int32) (x3 : Int32) (S : ST), ∀ (w : (Int32 × ST)), G_X1_signsWith_1_4 n x1 x2 x3 S = some w → ∀ {Q : Option Value → ST → Prop}, SS E mX1_signsWith 37 [(2, .int w.1)] [] w.2 Q → SS E mX1_signsWith 4 [(0, .ref (eB E + 1)), (1, .int x1), (2, .int x2), (3, .int x3)] [] S Q := by
  intro n
  induction n with
  | zero =>
    intro x1 x2 x3 S w h
    cases h
  | succ n ih =>
    intro x1 x2 x3 S w h Q K
    unfold G_X1_signsWith_1_4 at h
    refine s_iload_n (q := 5) dX1_signsWith_4 rfl rfl 3 rfl ?_
    refine s_aload_n (q := 6) dX1_signsWith_5 rfl rfl 0 rfl ?_
    refine t_getI (q := 9) (k := 1) (f := 9) (v := (S.1 1 9)) dX1_signsWith_6 rfl rfl rfl rfl inX1 (Nat.le_of_ble_eq_true rfl) fX1_40 rfl ?_
    refine s_icmp_ge (q := 12) (tgt := 37) dX1_signsWith_9 rfl rfl (fun hb1 => ?_) (fun hb1 => ?_)
    · rw [if_pos hb1] at h
      obtain rfl := Option.some.inj h
      exact t_sub [2] rfl K
    · rw [if_neg hb1] at h
      refine s_iload_n (q := 13) dX1_signsWith_12 rfl rfl 1 rfl ?_
      refine s_aload_n (q := 14) dX1_signsWith_13 rfl rfl 0 rfl ?_
      refine t_getR (q := 17) (k := 1) (f := 10) (t := 9) dX1_signsWith_14 rfl rfl rfl rfl inX1 (Nat.le_of_ble_eq_true rfl) fX1_43 ?_
      refine s_iload_n (q := 18) dX1_signsWith_17 rfl rfl 3 rfl ?_
      obtain ⟨hg2, h⟩ := chk_some h
      refine u_iald (q := 19) (k := 9) (v := (S.1 9 x3.toNatClampNeg)) dX1_signsWith_18 rfl rfl (inB_in hg2) rfl rfl ?_
      refine s_iconst (q := 20) (v := (-1)) dX1_signsWith_19 rfl rfl ?_
      refine s_ixor (q := 21) dX1_signsWith_20 rfl ?_
      refine s_iand (q := 22) dX1_signsWith_21 rfl ?_
      refine s_if_ne (q := 25) (tgt := 31) dX1_signsWith_22 rfl rfl (fun hb3 => ?_) (fun hb3 => ?_)
      · rw [if_neg hb3] at h
        refine s_iinc (q := 34) (j := 3) (v := (x3 + 1)) (lv' := [(3, .int (x3 + 1)), (0, .ref (eB E + 1)), (1, .int x1), (2, .int x2)]) dX1_signsWith_31 rfl rfl rfl (Nat.le_of_ble_eq_true rfl) rfl ?_
        refine s_goto (tgt := 4) dX1_signsWith_34 rfl ?_
        exact t_sub [1, 2, 3, 0] rfl (ih _ _ _ _ _ h K)
      · rw [if_pos hb3] at h
        refine s_iload_n (q := 26) dX1_signsWith_25 rfl rfl 2 rfl ?_
        refine s_iconst (q := 27) (v := 1) dX1_signsWith_26 rfl rfl ?_
        refine s_iload_n (q := 28) dX1_signsWith_27 rfl rfl 3 rfl ?_
        refine s_ishl (q := 29) dX1_signsWith_28 rfl ?_
        refine s_ior (q := 30) dX1_signsWith_29 rfl ?_
        refine s_istore_n (q := 31) (lv' := [(2, .int (x2 ||| (1 <<< (x3 &&& 31)))), (0, .ref (eB E + 1)), (1, .int x1), (3, .int x3)]) dX1_signsWith_30 rfl rfl (Nat.le_of_ble_eq_true rfl) rfl ?_
        refine s_iinc (q := 34) (j := 3) (v := (x3 + 1)) (lv' := [(3, .int (x3 + 1)), (2, .int (x2 ||| (1 <<< (x3 &&& 31)))), (0, .ref (eB E + 1)), (1, .int x1)]) dX1_signsWith_31 rfl rfl rfl (Nat.le_of_ble_eq_true rfl) rfl ?_
        refine s_goto (tgt := 4) dX1_signsWith_34 rfl ?_
        exact t_sub [2, 3, 1, 0] rfl (ih _ _ _ _ _ h K)
def G_X1_signsWith_1 (x1 : Int32) (S : ST) : Option (Int32 × ST) := (G_X1_signsWith_1_4 3000 x1 0 0 S).bind fun q4 => some (q4.1, q4.2)
set_option maxHeartbeats 4000000 in
set_option maxRecDepth 100000 in
theorem T_X1_signsWith_1 (E : EV) (x1 : Int32) {S : ST} {w : (Int32 × ST)} (h : G_X1_signsWith_1 x1 S = some w) : SD E mX1_signsWith 0 [(0, .ref (eB E + 1)), (1, .int x1)] [] S (some (.int w.1)) w.2 := by
  unfold G_X1_signsWith_1 at h
  refine s_iconst (q := 1) (v := 0) dX1_signsWith_0 rfl rfl ?_
  refine s_istore_n (q := 2) (lv' := [(2, .int 0), (0, .ref (eB E + 1)), (1, .int x1)]) dX1_signsWith_1 rfl rfl (Nat.le_of_ble_eq_true rfl) rfl ?_
  refine s_iconst (q := 3) (v := 0) dX1_signsWith_2 rfl rfl ?_
  refine s_istore_n (q := 4) (lv' := [(3, .int 0), (2, .int 0), (0, .ref (eB E + 1)), (1, .int x1)]) dX1_signsWith_3 rfl rfl (Nat.le_of_ble_eq_true rfl) rfl ?_
  obtain ⟨q4, hc4, h⟩ := bnd h
  try dsimp only at h
  refine t_sub [2, 3, 1, 0] rfl (T_X1_signsWith_1_4 E _ _ _ _ _ _ hc4 ?_)
  refine s_iload_n (q := 38) dX1_signsWith_37 rfl rfl 0 rfl ?_
  obtain rfl := Option.some.inj h
  exact t_iret dX1_signsWith_38 rfl rfl
-- X5_may
def G_X5_may_0 (x1 : Int32) (S : ST) : Option (Int32 × ST) := ((G_X5_isSetOfStars_0 x1 S).bind fun q1 => (if q1.1 = 0 then ((G_X5_finding_0 0 q1.2).bind fun q4 => some (q4.1, q4.2)) else ((G_X1_signsWith_1 x1 q1.2).bind fun q3 => some (q3.1, q3.2))))
set_option maxHeartbeats 4000000 in
set_option maxRecDepth 100000 in
theorem T_X5_may_0 (E : EV) (x1 : Int32) {S : ST} {w : (Int32 × ST)} (h : G_X5_may_0 x1 S = some w) : SD E mX5_may 0 [(0, .ref (eB E + 0)), (1, .int x1)] [] S (some (.int w.1)) w.2 := by
  unfold G_X5_may_0 at h
  refine s_aload_n (q := 1) dX5_may_0 rfl rfl 0 rfl ?_
  refine s_iload_n (q := 2) dX5_may_1 rfl rfl 1 rfl ?_
  obtain ⟨q1, hc1, h⟩ := bnd h
  try dsimp only at h
  refine t_callV (q := 5) (N := mX5_isSetOfStars) (a := eB E + 0) [.int x1] dX5_may_2 rfl nkX5_isSetOfStars vkX5_isSetOfStars lX5_169 ⟨Nat.le_of_ble_eq_true rfl, Nat.le_of_ble_eq_true rfl⟩ (rc_obj (k := 0) rfl rfl) rfl rfl (Nat.le_of_ble_eq_true rfl) (Nat.le_of_ble_eq_true rfl) (T_X5_isSetOfStars_0 E _ hc1) ?_
  refine s_if_ne (q := 8) (tgt := 14) dX5_may_5 rfl rfl (fun hb2 => ?_) (fun hb2 => ?_)
  · rw [if_neg hb2] at h
    refine s_aload_n (q := 15) dX5_may_14 rfl rfl 0 rfl ?_
    refine t_getR (q := 18) (k := 0) (f := 0) (t := 1) dX5_may_15 rfl rfl rfl rfl inX5 (Nat.le_of_ble_eq_true rfl) fX5_10 ?_
    refine s_iload_n (q := 19) dX5_may_18 rfl rfl 1 rfl ?_
    obtain ⟨q3, hc3, h⟩ := bnd h
    try dsimp only at h
    refine t_callV (q := 22) (N := mX1_signsWith) (a := eB E + 1) [.int x1] dX5_may_19 rfl nkX1_signsWith vkX1_signsWith lX5_203 ⟨Nat.le_of_ble_eq_true rfl, Nat.le_of_ble_eq_true rfl⟩ (rc_obj (k := 1) rfl rfl) rfl rfl (Nat.le_of_ble_eq_true rfl) (Nat.le_of_ble_eq_true rfl) (T_X1_signsWith_1 E _ hc3) ?_
    obtain rfl := Option.some.inj h
    exact t_iret dX5_may_22 rfl rfl
  · rw [if_pos hb2] at h
    refine s_aload_n (q := 9) dX5_may_8 rfl rfl 0 rfl ?_
    refine s_iconst (q := 10) (v := 0) dX5_may_9 rfl rfl ?_
    obtain ⟨q4, hc4, h⟩ := bnd h
    try dsimp only at h
    refine t_callV (q := 13) (N := mX5_finding) (a := eB E + 0) [.int 0] dX5_may_10 rfl nkX5_finding vkX5_finding lX5_61 ⟨Nat.le_of_ble_eq_true rfl, Nat.le_of_ble_eq_true rfl⟩ (rc_obj (k := 0) rfl rfl) rfl rfl (Nat.le_of_ble_eq_true rfl) (Nat.le_of_ble_eq_true rfl) (T_X5_finding_0 E _ hc4) ?_
    obtain rfl := Option.some.inj h
    exact t_iret dX5_may_13 rfl rfl
-- X6_mayBe
def G_X6_mayBe_51_4 : Nat → Int32 → Int32 → Int32 → ST → Option (Int32 × ST)
  | 0, _, _, _, _ => none
  | n + 1, x1, x2, x3, S => (if (S.1 52 2) ≤ x3 then some (x2, S) else (if inB (56 + x3) 72 = true then (if (x1 &&& ((S.1 52 ((56 + x3).toNatClampNeg)) ^^^ (-1))) = 0 then G_X6_mayBe_51_4 n x1 (x2 ||| (1 <<< (x3 &&& 31))) (x3 + 1) S else G_X6_mayBe_51_4 n x1 (x2 ||| 0) (x3 + 1) S) else none))
set_option maxHeartbeats 4000000 in
set_option maxRecDepth 100000 in
theorem T_X6_mayBe_51_4 (E : EV) : ∀ (n : Nat) (x1 : Int32) (x2 : Int32) (x3 : Int32) (S : ST), ∀ (w : (Int32 × ST)), G_X6_mayBe_51_4 n x1 x2 x3 S = some w → ∀ {Q : Option Value → ST → Prop}, SS E mX6_mayBe 46 [(2, .int w.1)] [] w.2 Q → SS E mX6_mayBe 4 [(0, .ref (eB E + 51)), (1, .int x1), (2, .int x2), (3, .int x3)] [] S Q := by
  intro n
  induction n with
  | zero =>
    intro x1 x2 x3 S w h
    cases h
  | succ n ih =>
    intro x1 x2 x3 S w h Q K
    unfold G_X6_mayBe_51_4 at h
    refine s_iload_n (q := 5) dX6_mayBe_4 rfl rfl 3 rfl ?_
    refine s_aload_n (q := 6) dX6_mayBe_5 rfl rfl 0 rfl ?_
    refine t_getR (q := 9) (k := 51) (f := 0) (t := 52) dX6_mayBe_6 rfl rfl rfl rfl inX6 (Nat.le_of_ble_eq_true rfl) fX6_9 ?_
    refine s_iconst (q := 10) (v := 2) dX6_mayBe_9 rfl rfl ?_
    refine u_iald (q := 11) (k := 52) (j := 2) (v := (S.1 52 2)) dX6_mayBe_10 rfl rfl (inB_in (by decide)) (by decide) rfl ?_
    refine s_icmp_ge (q := 14) (tgt := 46) dX6_mayBe_11 rfl rfl (fun hb1 => ?_) (fun hb1 => ?_)
    · rw [if_pos hb1] at h
      obtain rfl := Option.some.inj h
      exact t_sub [2] rfl K
    · rw [if_neg hb1] at h
      refine s_iload_n (q := 15) dX6_mayBe_14 rfl rfl 2 rfl ?_
      refine s_iload_n (q := 16) dX6_mayBe_15 rfl rfl 1 rfl ?_
      refine s_aload_n (q := 17) dX6_mayBe_16 rfl rfl 0 rfl ?_
      refine t_getR (q := 20) (k := 51) (f := 0) (t := 52) dX6_mayBe_17 rfl rfl rfl rfl inX6 (Nat.le_of_ble_eq_true rfl) fX6_9 ?_
      refine s_bipush (q := 22) (v := 56) dX6_mayBe_20 rfl rfl ?_
      refine s_iload_n (q := 23) dX6_mayBe_22 rfl rfl 3 rfl ?_
      refine s_iadd (q := 24) dX6_mayBe_23 rfl ?_
      obtain ⟨hg2, h⟩ := chk_some h
      refine u_iald (q := 25) (k := 52) (v := (S.1 52 ((56 + x3).toNatClampNeg))) dX6_mayBe_24 rfl rfl (inB_in hg2) rfl rfl ?_
      refine s_iconst (q := 26) (v := (-1)) dX6_mayBe_25 rfl rfl ?_
      refine s_ixor (q := 27) dX6_mayBe_26 rfl ?_
      refine s_iand (q := 28) dX6_mayBe_27 rfl ?_
      refine s_if_ne (q := 31) (tgt := 37) dX6_mayBe_28 rfl rfl (fun hb3 => ?_) (fun hb3 => ?_)
      · rw [if_neg hb3] at h
        refine s_iconst (q := 38) (v := 0) dX6_mayBe_37 rfl rfl ?_
        refine s_ior (q := 39) dX6_mayBe_38 rfl ?_
        refine s_istore_n (q := 40) (lv' := [(2, .int (x2 ||| 0)), (0, .ref (eB E + 51)), (1, .int x1), (3, .int x3)]) dX6_mayBe_39 rfl rfl (Nat.le_of_ble_eq_true rfl) rfl ?_
        refine s_iinc (q := 43) (j := 3) (v := (x3 + 1)) (lv' := [(3, .int (x3 + 1)), (2, .int (x2 ||| 0)), (0, .ref (eB E + 51)), (1, .int x1)]) dX6_mayBe_40 rfl rfl rfl (Nat.le_of_ble_eq_true rfl) rfl ?_
        refine s_goto (tgt := 4) dX6_mayBe_43 rfl ?_
        exact t_sub [2, 3, 1, 0] rfl (ih _ _ _ _ _ h K)
      · rw [if_pos hb3] at h
        refine s_iconst (q := 32) (v := 1) dX6_mayBe_31 rfl rfl ?_
        refine s_iload_n (q := 33) dX6_mayBe_32 rfl rfl 3 rfl ?_
        refine s_ishl (q := 34) dX6_mayBe_33 rfl ?_
        refine s_goto (tgt := 38) dX6_mayBe_34 rfl ?_
        refine s_ior (q := 39) dX6_mayBe_38 rfl ?_
        refine s_istore_n (q := 40) (lv' := [(2, .int (x2 ||| (1 <<< (x3 &&& 31)))), (0, .ref (eB E + 51)), (1, .int x1), (3, .int x3)]) dX6_mayBe_39 rfl rfl (Nat.le_of_ble_eq_true rfl) rfl ?_
        refine s_iinc (q := 43) (j := 3) (v := (x3 + 1)) (lv' := [(3, .int (x3 + 1)), (2, .int (x2 ||| (1 <<< (x3 &&& 31)))), (0, .ref (eB E + 51)), (1, .int x1)]) dX6_mayBe_40 rfl rfl rfl (Nat.le_of_ble_eq_true rfl) rfl ?_
        refine s_goto (tgt := 4) dX6_mayBe_43 rfl ?_
        exact t_sub [2, 3, 1, 0] rfl (ih _ _ _ _ _ h K)
def G_X6_mayBe_51 (x1 : Int32) (S : ST) : Option (Int32 × ST) := (G_X6_mayBe_51_4 3000 x1 0 0 S).bind fun q4 => some (q4.1, q4.2)
set_option maxHeartbeats 4000000 in
set_option maxRecDepth 100000 in
theorem T_X6_mayBe_51 (E : EV) (x1 : Int32) {S : ST} {w : (Int32 × ST)} (h : G_X6_mayBe_51 x1 S = some w) : SD E mX6_mayBe 0 [(0, .ref (eB E + 51)), (1, .int x1)] [] S (some (.int w.1)) w.2 := by
  unfold G_X6_mayBe_51 at h
  refine s_iconst (q := 1) (v := 0) dX6_mayBe_0 rfl rfl ?_
  refine s_istore_n (q := 2) (lv' := [(2, .int 0), (0, .ref (eB E + 51)), (1, .int x1)]) dX6_mayBe_1 rfl rfl (Nat.le_of_ble_eq_true rfl) rfl ?_
  refine s_iconst (q := 3) (v := 0) dX6_mayBe_2 rfl rfl ?_
  refine s_istore_n (q := 4) (lv' := [(3, .int 0), (2, .int 0), (0, .ref (eB E + 51)), (1, .int x1)]) dX6_mayBe_3 rfl rfl (Nat.le_of_ble_eq_true rfl) rfl ?_
  obtain ⟨q4, hc4, h⟩ := bnd h
  try dsimp only at h
  refine t_sub [2, 3, 1, 0] rfl (T_X6_mayBe_51_4 E _ _ _ _ _ _ hc4 ?_)
  refine s_iload_n (q := 47) dX6_mayBe_46 rfl rfl 0 rfl ?_
  obtain rfl := Option.some.inj h
  exact t_iret dX6_mayBe_47 rfl rfl
-- X6_may
def G_X6_may_51 (x1 : Int32) (S : ST) : Option (Int32 × ST) := ((G_X6_isSet_51 x1 S).bind fun q1 => (if q1.1 = 0 then ((G_X6_no_51 0 q1.2).bind fun q3 => some (q3.1, q3.2)) else ((G_X6_mayBe_51 x1 q1.2).bind fun q4 => some (q4.1, q4.2))))
set_option maxHeartbeats 4000000 in
set_option maxRecDepth 100000 in
theorem T_X6_may_51 (E : EV) (x1 : Int32) {S : ST} {w : (Int32 × ST)} (h : G_X6_may_51 x1 S = some w) : SD E mX6_may 0 [(0, .ref (eB E + 51)), (1, .int x1)] [] S (some (.int w.1)) w.2 := by
  unfold G_X6_may_51 at h
  refine s_aload_n (q := 1) dX6_may_0 rfl rfl 0 rfl ?_
  refine s_iload_n (q := 2) dX6_may_1 rfl rfl 1 rfl ?_
  obtain ⟨q1, hc1, h⟩ := bnd h
  try dsimp only at h
  refine t_callV (q := 5) (N := mX6_isSet) (a := eB E + 51) [.int x1] dX6_may_2 rfl nkX6_isSet vkX6_isSet lX6_145 ⟨Nat.le_of_ble_eq_true rfl, Nat.le_of_ble_eq_true rfl⟩ (rc_obj (k := 51) rfl rfl) rfl rfl (Nat.le_of_ble_eq_true rfl) (Nat.le_of_ble_eq_true rfl) (T_X6_isSet_51 E _ hc1) ?_
  refine s_if_eq (q := 8) (tgt := 16) dX6_may_5 rfl rfl (fun hb2 => ?_) (fun hb2 => ?_)
  · rw [if_pos hb2] at h
    refine s_aload_n (q := 17) dX6_may_16 rfl rfl 0 rfl ?_
    refine s_iconst (q := 18) (v := 0) dX6_may_17 rfl rfl ?_
    obtain ⟨q3, hc3, h⟩ := bnd h
    try dsimp only at h
    refine t_callV (q := 21) (N := mX6_no) (a := eB E + 51) [.int 0] dX6_may_18 rfl nkX6_no vkX6_no lX6_94 ⟨Nat.le_of_ble_eq_true rfl, Nat.le_of_ble_eq_true rfl⟩ (rc_obj (k := 51) rfl rfl) rfl rfl (Nat.le_of_ble_eq_true rfl) (Nat.le_of_ble_eq_true rfl) (T_X6_no_51 E _ hc3) ?_
    obtain rfl := Option.some.inj h
    exact t_iret dX6_may_21 rfl rfl
  · rw [if_neg hb2] at h
    refine s_aload_n (q := 9) dX6_may_8 rfl rfl 0 rfl ?_
    refine s_iload_n (q := 10) dX6_may_9 rfl rfl 1 rfl ?_
    obtain ⟨q4, hc4, h⟩ := bnd h
    try dsimp only at h
    refine t_callV (q := 13) (N := mX6_mayBe) (a := eB E + 51) [.int x1] dX6_may_10 rfl nkX6_mayBe vkX6_mayBe lX6_174 ⟨Nat.le_of_ble_eq_true rfl, Nat.le_of_ble_eq_true rfl⟩ (rc_obj (k := 51) rfl rfl) rfl rfl (Nat.le_of_ble_eq_true rfl) (Nat.le_of_ble_eq_true rfl) (T_X6_mayBe_51 E _ hc4) ?_
    refine s_goto (tgt := 21) dX6_may_13 rfl ?_
    obtain rfl := Option.some.inj h
    exact t_iret dX6_may_21 rfl rfl
-- X5_tells
def G_X5_tells_0_39 : Nat → Int32 → Int32 → Int32 → Int32 → Int32 → ST → Option (Int32 × Int32 × ST)
  | 0, _, _, _, _, _, _ => none
  | n + 1, x1, x2, x3, x4, x5, S => (if x2 < x5 then some (x3, x4, S) else (if (x5 &&& (x2 ^^^ (-1))) = 0 then (if (1 : Int32) = 0 then G_X5_tells_0_39 n x1 x2 x3 x4 (x5 + 1) S else ((G_J6_bitCount_0f7a4 x5 S).bind fun q13 => (if x3 ≤ q13.1 then G_X5_tells_0_39 n x1 x2 x3 x4 (x5 + 1) q13.2 else ((G_X1_signsWith_1 x5 q13.2).bind fun q15 => (if q15.1 = (1 <<< (x1 &&& 31)) then ((G_J6_bitCount_0f7a4 x5 q15.2).bind fun q17 => G_X5_tells_0_39 n x1 x2 q17.1 x5 (x5 + 1) q17.2) else G_X5_tells_0_39 n x1 x2 x3 x4 (x5 + 1) q15.2))))) else (if (0 : Int32) = 0 then G_X5_tells_0_39 n x1 x2 x3 x4 (x5 + 1) S else ((G_J6_bitCount_0f7a4 x5 S).bind fun q7 => (if x3 ≤ q7.1 then G_X5_tells_0_39 n x1 x2 x3 x4 (x5 + 1) q7.2 else ((G_X1_signsWith_1 x5 q7.2).bind fun q9 => (if q9.1 = (1 <<< (x1 &&& 31)) then ((G_J6_bitCount_0f7a4 x5 q9.2).bind fun q11 => G_X5_tells_0_39 n x1 x2 q11.1 x5 (x5 + 1) q11.2) else G_X5_tells_0_39 n x1 x2 x3 x4 (x5 + 1) q9.2)))))))
set_option maxHeartbeats 4000000 in
set_option maxRecDepth 100000 in
theorem T_X5_tells_0_39 (E : EV) : ∀ (n : Nat) (x1 : Int32) (x2 : Int32) (x3 : Int32) (x4 : Int32) (x5 : Int32) (S : ST), ∀ (w : (Int32 × Int32 × ST)), G_X5_tells_0_39 n x1 x2 x3 x4 x5 S = some w → ∀ {Q : Option Value → ST → Prop}, SS E mX5_tells 106 [(0, .ref (eB E + 0)), (3, .int w.1), (4, .int w.2.1)] [] w.2.2 Q → SS E mX5_tells 39 [(0, .ref (eB E + 0)), (1, .int x1), (2, .int x2), (3, .int x3), (4, .int x4), (5, .int x5)] [] S Q := by
  intro n
  induction n with
  | zero =>
    intro x1 x2 x3 x4 x5 S w h
    cases h
  | succ n ih =>
    intro x1 x2 x3 x4 x5 S w h Q K
    unfold G_X5_tells_0_39 at h
    refine s_iload (q := 41) dX5_tells_39 rfl 5 rfl ?_
    refine s_iload_n (q := 42) dX5_tells_41 rfl rfl 2 rfl ?_
    refine s_icmp_gt (q := 45) (tgt := 106) dX5_tells_42 rfl rfl (fun hb4 => ?_) (fun hb4 => ?_)
    · rw [if_pos hb4] at h
      obtain rfl := Option.some.inj h
      exact t_sub [0, 3, 4] rfl K
    · rw [if_neg hb4] at h
      refine s_iload (q := 47) dX5_tells_45 rfl 5 rfl ?_
      refine s_iload_n (q := 48) dX5_tells_47 rfl rfl 2 rfl ?_
      refine s_iconst (q := 49) (v := (-1)) dX5_tells_48 rfl rfl ?_
      refine s_ixor (q := 50) dX5_tells_49 rfl ?_
      refine s_iand (q := 51) dX5_tells_50 rfl ?_
      refine s_if_ne (q := 54) (tgt := 58) dX5_tells_51 rfl rfl (fun hb5 => ?_) (fun hb5 => ?_)
      · rw [if_neg hb5] at h
        refine s_iconst (q := 59) (v := 0) dX5_tells_58 rfl rfl ?_
        refine s_istore (q := 61) (lv' := [(6, .int 0), (0, .ref (eB E + 0)), (1, .int x1), (2, .int x2), (3, .int x3), (4, .int x4), (5, .int x5)]) dX5_tells_59 rfl (Nat.le_of_ble_eq_true rfl) rfl ?_
        refine s_iload (q := 63) dX5_tells_61 rfl 0 rfl ?_
        refine s_if_eq (q := 66) (tgt := 100) dX5_tells_63 rfl rfl (fun hb6 => ?_) (fun hb6 => ?_)
        · rw [if_pos hb6] at h
          refine s_iinc (q := 103) (j := 6) (v := (x5 + 1)) (lv' := [(5, .int (x5 + 1)), (6, .int 0), (0, .ref (eB E + 0)), (1, .int x1), (2, .int x2), (3, .int x3), (4, .int x4)]) dX5_tells_100 rfl rfl rfl (Nat.le_of_ble_eq_true rfl) rfl ?_
          refine s_goto (tgt := 39) dX5_tells_103 rfl ?_
          exact t_sub [2, 3, 4, 5, 6, 0] rfl (ih _ _ _ _ _ _ _ h K)
        · rw [if_neg hb6] at h
          refine s_iload (q := 68) dX5_tells_66 rfl 6 rfl ?_
          obtain ⟨q7, hc7, h⟩ := bnd h
          try dsimp only at h
          refine t_callS (q := 71) (N := mJ6_bitCount_0f7a4) [.int x5] dX5_tells_68 rfl nkJ6_bitCount_0f7a4 sJ6_bitCount_0f7a4 lX5_130 ⟨Nat.le_of_ble_eq_true rfl, Nat.le_of_ble_eq_true rfl⟩ rfl rfl (Nat.le_of_ble_eq_true rfl) (Nat.le_of_ble_eq_true rfl) (T_J6_bitCount_0f7a4 E _ hc7) ?_
          refine s_iload_n (q := 72) dX5_tells_71 rfl rfl 4 rfl ?_
          refine s_icmp_ge (q := 75) (tgt := 100) dX5_tells_72 rfl rfl (fun hb8 => ?_) (fun hb8 => ?_)
          · rw [if_pos hb8] at h
            refine s_iinc (q := 103) (j := 6) (v := (x5 + 1)) (lv' := [(5, .int (x5 + 1)), (6, .int 0), (0, .ref (eB E + 0)), (1, .int x1), (2, .int x2), (3, .int x3), (4, .int x4)]) dX5_tells_100 rfl rfl rfl (Nat.le_of_ble_eq_true rfl) rfl ?_
            refine s_goto (tgt := 39) dX5_tells_103 rfl ?_
            exact t_sub [2, 3, 4, 5, 6, 0] rfl (ih _ _ _ _ _ _ _ h K)
          · rw [if_neg hb8] at h
            refine s_aload_n (q := 76) dX5_tells_75 rfl rfl 1 rfl ?_
            refine t_getR (q := 79) (k := 0) (f := 0) (t := 1) dX5_tells_76 rfl rfl rfl rfl inX5 (Nat.le_of_ble_eq_true rfl) fX5_10 ?_
            refine s_iload (q := 81) dX5_tells_79 rfl 6 rfl ?_
            obtain ⟨q9, hc9, h⟩ := bnd h
            try dsimp only at h
            refine t_callV (q := 84) (N := mX1_signsWith) (a := eB E + 1) [.int x5] dX5_tells_81 rfl nkX1_signsWith vkX1_signsWith lX5_203 ⟨Nat.le_of_ble_eq_true rfl, Nat.le_of_ble_eq_true rfl⟩ (rc_obj (k := 1) rfl rfl) rfl rfl (Nat.le_of_ble_eq_true rfl) (Nat.le_of_ble_eq_true rfl) (T_X1_signsWith_1 E _ hc9) ?_
            refine s_iconst (q := 85) (v := 1) dX5_tells_84 rfl rfl ?_
            refine s_iload_n (q := 86) dX5_tells_85 rfl rfl 2 rfl ?_
            refine s_ishl (q := 87) dX5_tells_86 rfl ?_
            refine s_icmp_ne (q := 90) (tgt := 100) dX5_tells_87 rfl rfl (fun hb10 => ?_) (fun hb10 => ?_)
            · rw [if_neg hb10] at h
              refine s_iinc (q := 103) (j := 6) (v := (x5 + 1)) (lv' := [(5, .int (x5 + 1)), (6, .int 0), (0, .ref (eB E + 0)), (1, .int x1), (2, .int x2), (3, .int x3), (4, .int x4)]) dX5_tells_100 rfl rfl rfl (Nat.le_of_ble_eq_true rfl) rfl ?_
              refine s_goto (tgt := 39) dX5_tells_103 rfl ?_
              exact t_sub [2, 3, 4, 5, 6, 0] rfl (ih _ _ _ _ _ _ _ h K)
            · rw [if_pos hb10] at h
              refine s_iload (q := 92) dX5_tells_90 rfl 6 rfl ?_
              obtain ⟨q11, hc11, h⟩ := bnd h
              try dsimp only at h
              refine t_callS (q := 95) (N := mJ6_bitCount_0f7a4) [.int x5] dX5_tells_92 rfl nkJ6_bitCount_0f7a4 sJ6_bitCount_0f7a4 lX5_130 ⟨Nat.le_of_ble_eq_true rfl, Nat.le_of_ble_eq_true rfl⟩ rfl rfl (Nat.le_of_ble_eq_true rfl) (Nat.le_of_ble_eq_true rfl) (T_J6_bitCount_0f7a4 E _ hc11) ?_
              refine s_istore_n (q := 96) (lv' := [(3, .int q11.1), (6, .int 0), (0, .ref (eB E + 0)), (1, .int x1), (2, .int x2), (4, .int x4), (5, .int x5)]) dX5_tells_95 rfl rfl (Nat.le_of_ble_eq_true rfl) rfl ?_
              refine s_iload (q := 98) dX5_tells_96 rfl 6 rfl ?_
              refine s_istore (q := 100) (lv' := [(4, .int x5), (3, .int q11.1), (6, .int 0), (0, .ref (eB E + 0)), (1, .int x1), (2, .int x2), (5, .int x5)]) dX5_tells_98 rfl (Nat.le_of_ble_eq_true rfl) rfl ?_
              refine s_iinc (q := 103) (j := 6) (v := (x5 + 1)) (lv' := [(5, .int (x5 + 1)), (4, .int x5), (3, .int q11.1), (6, .int 0), (0, .ref (eB E + 0)), (1, .int x1), (2, .int x2)]) dX5_tells_100 rfl rfl rfl (Nat.le_of_ble_eq_true rfl) rfl ?_
              refine s_goto (tgt := 39) dX5_tells_103 rfl ?_
              exact t_sub [4, 5, 6, 2, 1, 0] rfl (ih _ _ _ _ _ _ _ h K)
      · rw [if_pos hb5] at h
        refine s_iconst (q := 55) (v := 1) dX5_tells_54 rfl rfl ?_
        refine s_goto (tgt := 59) dX5_tells_55 rfl ?_
        refine s_istore (q := 61) (lv' := [(6, .int 1), (0, .ref (eB E + 0)), (1, .int x1), (2, .int x2), (3, .int x3), (4, .int x4), (5, .int x5)]) dX5_tells_59 rfl (Nat.le_of_ble_eq_true rfl) rfl ?_
        refine s_iload (q := 63) dX5_tells_61 rfl 0 rfl ?_
        refine s_if_eq (q := 66) (tgt := 100) dX5_tells_63 rfl rfl (fun hb12 => ?_) (fun hb12 => ?_)
        · rw [if_pos hb12] at h
          refine s_iinc (q := 103) (j := 6) (v := (x5 + 1)) (lv' := [(5, .int (x5 + 1)), (6, .int 1), (0, .ref (eB E + 0)), (1, .int x1), (2, .int x2), (3, .int x3), (4, .int x4)]) dX5_tells_100 rfl rfl rfl (Nat.le_of_ble_eq_true rfl) rfl ?_
          refine s_goto (tgt := 39) dX5_tells_103 rfl ?_
          exact t_sub [2, 3, 4, 5, 6, 0] rfl (ih _ _ _ _ _ _ _ h K)
        · rw [if_neg hb12] at h
          refine s_iload (q := 68) dX5_tells_66 rfl 6 rfl ?_
          obtain ⟨q13, hc13, h⟩ := bnd h
          try dsimp only at h
          refine t_callS (q := 71) (N := mJ6_bitCount_0f7a4) [.int x5] dX5_tells_68 rfl nkJ6_bitCount_0f7a4 sJ6_bitCount_0f7a4 lX5_130 ⟨Nat.le_of_ble_eq_true rfl, Nat.le_of_ble_eq_true rfl⟩ rfl rfl (Nat.le_of_ble_eq_true rfl) (Nat.le_of_ble_eq_true rfl) (T_J6_bitCount_0f7a4 E _ hc13) ?_
          refine s_iload_n (q := 72) dX5_tells_71 rfl rfl 4 rfl ?_
          refine s_icmp_ge (q := 75) (tgt := 100) dX5_tells_72 rfl rfl (fun hb14 => ?_) (fun hb14 => ?_)
          · rw [if_pos hb14] at h
            refine s_iinc (q := 103) (j := 6) (v := (x5 + 1)) (lv' := [(5, .int (x5 + 1)), (6, .int 1), (0, .ref (eB E + 0)), (1, .int x1), (2, .int x2), (3, .int x3), (4, .int x4)]) dX5_tells_100 rfl rfl rfl (Nat.le_of_ble_eq_true rfl) rfl ?_
            refine s_goto (tgt := 39) dX5_tells_103 rfl ?_
            exact t_sub [2, 3, 4, 5, 6, 0] rfl (ih _ _ _ _ _ _ _ h K)
          · rw [if_neg hb14] at h
            refine s_aload_n (q := 76) dX5_tells_75 rfl rfl 1 rfl ?_
            refine t_getR (q := 79) (k := 0) (f := 0) (t := 1) dX5_tells_76 rfl rfl rfl rfl inX5 (Nat.le_of_ble_eq_true rfl) fX5_10 ?_
            refine s_iload (q := 81) dX5_tells_79 rfl 6 rfl ?_
            obtain ⟨q15, hc15, h⟩ := bnd h
            try dsimp only at h
            refine t_callV (q := 84) (N := mX1_signsWith) (a := eB E + 1) [.int x5] dX5_tells_81 rfl nkX1_signsWith vkX1_signsWith lX5_203 ⟨Nat.le_of_ble_eq_true rfl, Nat.le_of_ble_eq_true rfl⟩ (rc_obj (k := 1) rfl rfl) rfl rfl (Nat.le_of_ble_eq_true rfl) (Nat.le_of_ble_eq_true rfl) (T_X1_signsWith_1 E _ hc15) ?_
            refine s_iconst (q := 85) (v := 1) dX5_tells_84 rfl rfl ?_
            refine s_iload_n (q := 86) dX5_tells_85 rfl rfl 2 rfl ?_
            refine s_ishl (q := 87) dX5_tells_86 rfl ?_
            refine s_icmp_ne (q := 90) (tgt := 100) dX5_tells_87 rfl rfl (fun hb16 => ?_) (fun hb16 => ?_)
            · rw [if_neg hb16] at h
              refine s_iinc (q := 103) (j := 6) (v := (x5 + 1)) (lv' := [(5, .int (x5 + 1)), (6, .int 1), (0, .ref (eB E + 0)), (1, .int x1), (2, .int x2), (3, .int x3), (4, .int x4)]) dX5_tells_100 rfl rfl rfl (Nat.le_of_ble_eq_true rfl) rfl ?_
              refine s_goto (tgt := 39) dX5_tells_103 rfl ?_
              exact t_sub [2, 3, 4, 5, 6, 0] rfl (ih _ _ _ _ _ _ _ h K)
            · rw [if_pos hb16] at h
              refine s_iload (q := 92) dX5_tells_90 rfl 6 rfl ?_
              obtain ⟨q17, hc17, h⟩ := bnd h
              try dsimp only at h
              refine t_callS (q := 95) (N := mJ6_bitCount_0f7a4) [.int x5] dX5_tells_92 rfl nkJ6_bitCount_0f7a4 sJ6_bitCount_0f7a4 lX5_130 ⟨Nat.le_of_ble_eq_true rfl, Nat.le_of_ble_eq_true rfl⟩ rfl rfl (Nat.le_of_ble_eq_true rfl) (Nat.le_of_ble_eq_true rfl) (T_J6_bitCount_0f7a4 E _ hc17) ?_
              refine s_istore_n (q := 96) (lv' := [(3, .int q17.1), (6, .int 1), (0, .ref (eB E + 0)), (1, .int x1), (2, .int x2), (4, .int x4), (5, .int x5)]) dX5_tells_95 rfl rfl (Nat.le_of_ble_eq_true rfl) rfl ?_
              refine s_iload (q := 98) dX5_tells_96 rfl 6 rfl ?_
              refine s_istore (q := 100) (lv' := [(4, .int x5), (3, .int q17.1), (6, .int 1), (0, .ref (eB E + 0)), (1, .int x1), (2, .int x2), (5, .int x5)]) dX5_tells_98 rfl (Nat.le_of_ble_eq_true rfl) rfl ?_
              refine s_iinc (q := 103) (j := 6) (v := (x5 + 1)) (lv' := [(5, .int (x5 + 1)), (4, .int x5), (3, .int q17.1), (6, .int 1), (0, .ref (eB E + 0)), (1, .int x1), (2, .int x2)]) dX5_tells_100 rfl rfl rfl (Nat.le_of_ble_eq_true rfl) rfl ?_
              refine s_goto (tgt := 39) dX5_tells_103 rfl ?_
              exact t_sub [4, 5, 6, 2, 1, 0] rfl (ih _ _ _ _ _ _ _ h K)
def G_X5_tells_0 (x1 : Int32) (S : ST) : Option (Int32 × ST) := ((G_X5_isBelow x1 (S.1 1 9) S).bind fun q1 => (if q1.1 = 0 then ((G_X5_finding_0 0 q1.2).bind fun q21 => some (q21.1, q21.2)) else (if inB x1 6 = true then (G_X5_tells_0_39 3000 x1 (q1.2.1 9 x1.toNatClampNeg) 11 0 0 q1.2).bind fun q18 => (if q18.1 ≤ 10 then some (q18.2.1, q18.2.2) else ((G_X5_finding_0 3 q18.2.2).bind fun q20 => some (q20.1, q20.2))) else none)))
set_option maxHeartbeats 4000000 in
set_option maxRecDepth 100000 in
theorem T_X5_tells_0 (E : EV) (x1 : Int32) {S : ST} {w : (Int32 × ST)} (h : G_X5_tells_0 x1 S = some w) : SD E mX5_tells 0 [(0, .ref (eB E + 0)), (1, .int x1)] [] S (some (.int w.1)) w.2 := by
  unfold G_X5_tells_0 at h
  refine s_iload_n (q := 1) dX5_tells_0 rfl rfl 1 rfl ?_
  refine s_aload_n (q := 2) dX5_tells_1 rfl rfl 0 rfl ?_
  refine t_getR (q := 5) (k := 0) (f := 0) (t := 1) dX5_tells_2 rfl rfl rfl rfl inX5 (Nat.le_of_ble_eq_true rfl) fX5_10 ?_
  refine t_getI (q := 8) (k := 1) (f := 9) (v := (S.1 1 9)) dX5_tells_5 rfl rfl rfl rfl inX1 (Nat.le_of_ble_eq_true rfl) fX5_194 rfl ?_
  obtain ⟨q1, hc1, h⟩ := bnd h
  try dsimp only at h
  refine t_callS (q := 11) (N := mX5_isBelow) [.int x1, .int (S.1 1 9)] dX5_tells_8 rfl nkX5_isBelow sX5_isBelow lX5_57 ⟨Nat.le_of_ble_eq_true rfl, Nat.le_of_ble_eq_true rfl⟩ rfl rfl (Nat.le_of_ble_eq_true rfl) (Nat.le_of_ble_eq_true rfl) (T_X5_isBelow E _ _ hc1) ?_
  refine s_if_ne (q := 14) (tgt := 20) dX5_tells_11 rfl rfl (fun hb2 => ?_) (fun hb2 => ?_)
  · rw [if_neg hb2] at h
    refine s_aload_n (q := 21) dX5_tells_20 rfl rfl 0 rfl ?_
    refine t_getR (q := 24) (k := 0) (f := 0) (t := 1) dX5_tells_21 rfl rfl rfl rfl inX5 (Nat.le_of_ble_eq_true rfl) fX5_10 ?_
    refine t_getR (q := 27) (k := 1) (f := 10) (t := 9) dX5_tells_24 rfl rfl rfl rfl inX1 (Nat.le_of_ble_eq_true rfl) fX5_200 ?_
    refine s_iload_n (q := 28) dX5_tells_27 rfl rfl 1 rfl ?_
    obtain ⟨hg3, h⟩ := chk_some h
    refine u_iald (q := 29) (k := 9) (v := (q1.2.1 9 x1.toNatClampNeg)) dX5_tells_28 rfl rfl (inB_in hg3) rfl rfl ?_
    refine s_istore_n (q := 30) (lv' := [(2, .int (q1.2.1 9 x1.toNatClampNeg)), (0, .ref (eB E + 0)), (1, .int x1)]) dX5_tells_29 rfl rfl (Nat.le_of_ble_eq_true rfl) rfl ?_
    refine s_bipush (q := 32) (v := 11) dX5_tells_30 rfl rfl ?_
    refine s_istore_n (q := 33) (lv' := [(3, .int 11), (2, .int (q1.2.1 9 x1.toNatClampNeg)), (0, .ref (eB E + 0)), (1, .int x1)]) dX5_tells_32 rfl rfl (Nat.le_of_ble_eq_true rfl) rfl ?_
    refine s_iconst (q := 34) (v := 0) dX5_tells_33 rfl rfl ?_
    refine s_istore (q := 36) (lv' := [(4, .int 0), (3, .int 11), (2, .int (q1.2.1 9 x1.toNatClampNeg)), (0, .ref (eB E + 0)), (1, .int x1)]) dX5_tells_34 rfl (Nat.le_of_ble_eq_true rfl) rfl ?_
    refine s_iconst (q := 37) (v := 0) dX5_tells_36 rfl rfl ?_
    refine s_istore (q := 39) (lv' := [(5, .int 0), (4, .int 0), (3, .int 11), (2, .int (q1.2.1 9 x1.toNatClampNeg)), (0, .ref (eB E + 0)), (1, .int x1)]) dX5_tells_37 rfl (Nat.le_of_ble_eq_true rfl) rfl ?_
    obtain ⟨q18, hc18, h⟩ := bnd h
    try dsimp only at h
    refine t_sub [4, 5, 3, 2, 1, 0] rfl (T_X5_tells_0_39 E _ _ _ _ _ _ _ _ hc18 ?_)
    refine s_iload_n (q := 107) dX5_tells_106 rfl rfl 1 rfl ?_
    refine s_bipush (q := 109) (v := 10) dX5_tells_107 rfl rfl ?_
    refine s_icmp_le (q := 112) (tgt := 120) dX5_tells_109 rfl rfl (fun hb19 => ?_) (fun hb19 => ?_)
    · rw [if_pos hb19] at h
      refine s_iload (q := 122) dX5_tells_120 rfl 2 rfl ?_
      obtain rfl := Option.some.inj h
      exact t_iret dX5_tells_122 rfl rfl
    · rw [if_neg hb19] at h
      refine s_aload_n (q := 113) dX5_tells_112 rfl rfl 0 rfl ?_
      refine s_iconst (q := 114) (v := 3) dX5_tells_113 rfl rfl ?_
      obtain ⟨q20, hc20, h⟩ := bnd h
      try dsimp only at h
      refine t_callV (q := 117) (N := mX5_finding) (a := eB E + 0) [.int 3] dX5_tells_114 rfl nkX5_finding vkX5_finding lX5_61 ⟨Nat.le_of_ble_eq_true rfl, Nat.le_of_ble_eq_true rfl⟩ (rc_obj (k := 0) rfl rfl) rfl rfl (Nat.le_of_ble_eq_true rfl) (Nat.le_of_ble_eq_true rfl) (T_X5_finding_0 E _ hc20) ?_
      refine s_goto (tgt := 122) dX5_tells_117 rfl ?_
      obtain rfl := Option.some.inj h
      exact t_iret dX5_tells_122 rfl rfl
  · rw [if_pos hb2] at h
    refine s_aload_n (q := 15) dX5_tells_14 rfl rfl 0 rfl ?_
    refine s_iconst (q := 16) (v := 0) dX5_tells_15 rfl rfl ?_
    obtain ⟨q21, hc21, h⟩ := bnd h
    try dsimp only at h
    refine t_callV (q := 19) (N := mX5_finding) (a := eB E + 0) [.int 0] dX5_tells_16 rfl nkX5_finding vkX5_finding lX5_61 ⟨Nat.le_of_ble_eq_true rfl, Nat.le_of_ble_eq_true rfl⟩ (rc_obj (k := 0) rfl rfl) rfl rfl (Nat.le_of_ble_eq_true rfl) (Nat.le_of_ble_eq_true rfl) (T_X5_finding_0 E _ hc21) ?_
    obtain rfl := Option.some.inj h
    exact t_iret dX5_tells_19 rfl rfl
-- X6_tells
def G_X6_tells_51_18 : Nat → Int32 → Int32 → Int32 → ST → Option (Int32 × ST)
  | 0, _, _, _, _ => none
  | n + 1, x1, x2, x3, S => (if (1 <<< ((S.1 52 1) &&& 31)) ≤ x3 then some (x2, S) else (if x2 < 0 then (if (1 : Int32) = 0 then G_X6_tells_51_18 n x1 x2 (x3 + 1) S else ((G_X6_mayBe_51 x3 S).bind fun q6 => (if q6.1 = (1 <<< (x1 &&& 31)) then G_X6_tells_51_18 n x1 x3 (x3 + 1) q6.2 else G_X6_tells_51_18 n x1 x2 (x3 + 1) q6.2))) else ((G_X6_bits x3 S).bind fun q8 => ((G_X6_bits x2 q8.2).bind fun q9 => (if q9.1 ≤ q8.1 then (if (0 : Int32) = 0 then G_X6_tells_51_18 n x1 x2 (x3 + 1) q9.2 else ((G_X6_mayBe_51 x3 q9.2).bind fun q12 => (if q12.1 = (1 <<< (x1 &&& 31)) then G_X6_tells_51_18 n x1 x3 (x3 + 1) q12.2 else G_X6_tells_51_18 n x1 x2 (x3 + 1) q12.2))) else (if (1 : Int32) = 0 then G_X6_tells_51_18 n x1 x2 (x3 + 1) q9.2 else ((G_X6_mayBe_51 x3 q9.2).bind fun q15 => (if q15.1 = (1 <<< (x1 &&& 31)) then G_X6_tells_51_18 n x1 x3 (x3 + 1) q15.2 else G_X6_tells_51_18 n x1 x2 (x3 + 1) q15.2))))))))
set_option maxHeartbeats 4000000 in
set_option maxRecDepth 100000 in
theorem T_X6_tells_51_18 (E : EV) : ∀ (n : Nat) (x1 : Int32) (x2 : Int32) (x3 : Int32) (S : ST), ∀ (w : (Int32 × ST)), G_X6_tells_51_18 n x1 x2 x3 S = some w → ∀ {Q : Option Value → ST → Prop}, SS E mX6_tells 80 [(0, .ref (eB E + 51)), (2, .int w.1)] [] w.2 Q → SS E mX6_tells 18 [(0, .ref (eB E + 51)), (1, .int x1), (2, .int x2), (3, .int x3)] [] S Q := by
  intro n
  induction n with
  | zero =>
    intro x1 x2 x3 S w h
    cases h
  | succ n ih =>
    intro x1 x2 x3 S w h Q K
    unfold G_X6_tells_51_18 at h
    refine s_iload_n (q := 19) dX6_tells_18 rfl rfl 3 rfl ?_
    refine s_iconst (q := 20) (v := 1) dX6_tells_19 rfl rfl ?_
    refine s_aload_n (q := 21) dX6_tells_20 rfl rfl 0 rfl ?_
    refine t_getR (q := 24) (k := 51) (f := 0) (t := 52) dX6_tells_21 rfl rfl rfl rfl inX6 (Nat.le_of_ble_eq_true rfl) fX6_9 ?_
    refine s_iconst (q := 25) (v := 1) dX6_tells_24 rfl rfl ?_
    refine u_iald (q := 26) (k := 52) (j := 1) (v := (S.1 52 1)) dX6_tells_25 rfl rfl (inB_in (by decide)) (by decide) rfl ?_
    refine s_ishl (q := 27) dX6_tells_26 rfl ?_
    refine s_icmp_ge (q := 30) (tgt := 80) dX6_tells_27 rfl rfl (fun hb3 => ?_) (fun hb3 => ?_)
    · rw [if_pos hb3] at h
      obtain rfl := Option.some.inj h
      exact t_sub [0, 2] rfl K
    · rw [if_neg hb3] at h
      refine s_iload_n (q := 31) dX6_tells_30 rfl rfl 2 rfl ?_
      refine s_if_lt (q := 34) (tgt := 45) dX6_tells_31 rfl rfl (fun hb4 => ?_) (fun hb4 => ?_)
      · rw [if_pos hb4] at h
        refine s_iconst (q := 46) (v := 1) dX6_tells_45 rfl rfl ?_
        refine s_goto (tgt := 50) dX6_tells_46 rfl ?_
        refine s_istore (q := 52) (lv' := [(4, .int 1), (0, .ref (eB E + 51)), (1, .int x1), (2, .int x2), (3, .int x3)]) dX6_tells_50 rfl (Nat.le_of_ble_eq_true rfl) rfl ?_
        refine s_iload (q := 54) dX6_tells_52 rfl 0 rfl ?_
        refine s_if_eq (q := 57) (tgt := 72) dX6_tells_54 rfl rfl (fun hb5 => ?_) (fun hb5 => ?_)
        · rw [if_pos hb5] at h
          refine s_iload_n (q := 73) dX6_tells_72 rfl rfl 3 rfl ?_
          refine s_istore_n (q := 74) (lv' := [(2, .int x2), (4, .int 1), (0, .ref (eB E + 51)), (1, .int x1), (3, .int x3)]) dX6_tells_73 rfl rfl (Nat.le_of_ble_eq_true rfl) rfl ?_
          refine s_iinc (q := 77) (j := 4) (v := (x3 + 1)) (lv' := [(3, .int (x3 + 1)), (2, .int x2), (4, .int 1), (0, .ref (eB E + 51)), (1, .int x1)]) dX6_tells_74 rfl rfl rfl (Nat.le_of_ble_eq_true rfl) rfl ?_
          refine s_goto (tgt := 18) dX6_tells_77 rfl ?_
          exact t_sub [3, 4, 1, 0] rfl (ih _ _ _ _ _ h K)
        · rw [if_neg hb5] at h
          refine s_aload_n (q := 58) dX6_tells_57 rfl rfl 1 rfl ?_
          refine s_iload_n (q := 59) dX6_tells_58 rfl rfl 4 rfl ?_
          obtain ⟨q6, hc6, h⟩ := bnd h
          try dsimp only at h
          refine t_callV (q := 62) (N := mX6_mayBe) (a := eB E + 51) [.int x3] dX6_tells_59 rfl nkX6_mayBe vkX6_mayBe lX6_174 ⟨Nat.le_of_ble_eq_true rfl, Nat.le_of_ble_eq_true rfl⟩ (rc_obj (k := 51) rfl rfl) rfl rfl (Nat.le_of_ble_eq_true rfl) (Nat.le_of_ble_eq_true rfl) (T_X6_mayBe_51 E _ hc6) ?_
          refine s_iconst (q := 63) (v := 1) dX6_tells_62 rfl rfl ?_
          refine s_iload_n (q := 64) dX6_tells_63 rfl rfl 2 rfl ?_
          refine s_ishl (q := 65) dX6_tells_64 rfl ?_
          refine s_icmp_ne (q := 68) (tgt := 72) dX6_tells_65 rfl rfl (fun hb7 => ?_) (fun hb7 => ?_)
          · rw [if_neg hb7] at h
            refine s_iload_n (q := 73) dX6_tells_72 rfl rfl 3 rfl ?_
            refine s_istore_n (q := 74) (lv' := [(2, .int x2), (4, .int 1), (0, .ref (eB E + 51)), (1, .int x1), (3, .int x3)]) dX6_tells_73 rfl rfl (Nat.le_of_ble_eq_true rfl) rfl ?_
            refine s_iinc (q := 77) (j := 4) (v := (x3 + 1)) (lv' := [(3, .int (x3 + 1)), (2, .int x2), (4, .int 1), (0, .ref (eB E + 51)), (1, .int x1)]) dX6_tells_74 rfl rfl rfl (Nat.le_of_ble_eq_true rfl) rfl ?_
            refine s_goto (tgt := 18) dX6_tells_77 rfl ?_
            exact t_sub [3, 4, 1, 0] rfl (ih _ _ _ _ _ h K)
          · rw [if_pos hb7] at h
            refine s_iload_n (q := 69) dX6_tells_68 rfl rfl 4 rfl ?_
            refine s_goto (tgt := 73) dX6_tells_69 rfl ?_
            refine s_istore_n (q := 74) (lv' := [(2, .int x3), (4, .int 1), (0, .ref (eB E + 51)), (1, .int x1), (3, .int x3)]) dX6_tells_73 rfl rfl (Nat.le_of_ble_eq_true rfl) rfl ?_
            refine s_iinc (q := 77) (j := 4) (v := (x3 + 1)) (lv' := [(3, .int (x3 + 1)), (2, .int x3), (4, .int 1), (0, .ref (eB E + 51)), (1, .int x1)]) dX6_tells_74 rfl rfl rfl (Nat.le_of_ble_eq_true rfl) rfl ?_
            refine s_goto (tgt := 18) dX6_tells_77 rfl ?_
            exact t_sub [3, 4, 1, 0] rfl (ih _ _ _ _ _ h K)
      · rw [if_neg hb4] at h
        refine s_iload_n (q := 35) dX6_tells_34 rfl rfl 3 rfl ?_
        obtain ⟨q8, hc8, h⟩ := bnd h
        try dsimp only at h
        refine t_callS (q := 38) (N := mX6_bits) [.int x3] dX6_tells_35 rfl nkX6_bits sX6_bits lX6_121 ⟨Nat.le_of_ble_eq_true rfl, Nat.le_of_ble_eq_true rfl⟩ rfl rfl (Nat.le_of_ble_eq_true rfl) (Nat.le_of_ble_eq_true rfl) (T_X6_bits E _ hc8) ?_
        refine s_iload_n (q := 39) dX6_tells_38 rfl rfl 2 rfl ?_
        obtain ⟨q9, hc9, h⟩ := bnd h
        try dsimp only at h
        refine t_callS (q := 42) (N := mX6_bits) [.int x2] dX6_tells_39 rfl nkX6_bits sX6_bits lX6_121 ⟨Nat.le_of_ble_eq_true rfl, Nat.le_of_ble_eq_true rfl⟩ rfl rfl (Nat.le_of_ble_eq_true rfl) (Nat.le_of_ble_eq_true rfl) (T_X6_bits E _ hc9) ?_
        refine s_icmp_ge (q := 45) (tgt := 49) dX6_tells_42 rfl rfl (fun hb10 => ?_) (fun hb10 => ?_)
        · rw [if_pos hb10] at h
          refine s_iconst (q := 50) (v := 0) dX6_tells_49 rfl rfl ?_
          refine s_istore (q := 52) (lv' := [(4, .int 0), (0, .ref (eB E + 51)), (1, .int x1), (2, .int x2), (3, .int x3)]) dX6_tells_50 rfl (Nat.le_of_ble_eq_true rfl) rfl ?_
          refine s_iload (q := 54) dX6_tells_52 rfl 0 rfl ?_
          refine s_if_eq (q := 57) (tgt := 72) dX6_tells_54 rfl rfl (fun hb11 => ?_) (fun hb11 => ?_)
          · rw [if_pos hb11] at h
            refine s_iload_n (q := 73) dX6_tells_72 rfl rfl 3 rfl ?_
            refine s_istore_n (q := 74) (lv' := [(2, .int x2), (4, .int 0), (0, .ref (eB E + 51)), (1, .int x1), (3, .int x3)]) dX6_tells_73 rfl rfl (Nat.le_of_ble_eq_true rfl) rfl ?_
            refine s_iinc (q := 77) (j := 4) (v := (x3 + 1)) (lv' := [(3, .int (x3 + 1)), (2, .int x2), (4, .int 0), (0, .ref (eB E + 51)), (1, .int x1)]) dX6_tells_74 rfl rfl rfl (Nat.le_of_ble_eq_true rfl) rfl ?_
            refine s_goto (tgt := 18) dX6_tells_77 rfl ?_
            exact t_sub [3, 4, 1, 0] rfl (ih _ _ _ _ _ h K)
          · rw [if_neg hb11] at h
            refine s_aload_n (q := 58) dX6_tells_57 rfl rfl 1 rfl ?_
            refine s_iload_n (q := 59) dX6_tells_58 rfl rfl 4 rfl ?_
            obtain ⟨q12, hc12, h⟩ := bnd h
            try dsimp only at h
            refine t_callV (q := 62) (N := mX6_mayBe) (a := eB E + 51) [.int x3] dX6_tells_59 rfl nkX6_mayBe vkX6_mayBe lX6_174 ⟨Nat.le_of_ble_eq_true rfl, Nat.le_of_ble_eq_true rfl⟩ (rc_obj (k := 51) rfl rfl) rfl rfl (Nat.le_of_ble_eq_true rfl) (Nat.le_of_ble_eq_true rfl) (T_X6_mayBe_51 E _ hc12) ?_
            refine s_iconst (q := 63) (v := 1) dX6_tells_62 rfl rfl ?_
            refine s_iload_n (q := 64) dX6_tells_63 rfl rfl 2 rfl ?_
            refine s_ishl (q := 65) dX6_tells_64 rfl ?_
            refine s_icmp_ne (q := 68) (tgt := 72) dX6_tells_65 rfl rfl (fun hb13 => ?_) (fun hb13 => ?_)
            · rw [if_neg hb13] at h
              refine s_iload_n (q := 73) dX6_tells_72 rfl rfl 3 rfl ?_
              refine s_istore_n (q := 74) (lv' := [(2, .int x2), (4, .int 0), (0, .ref (eB E + 51)), (1, .int x1), (3, .int x3)]) dX6_tells_73 rfl rfl (Nat.le_of_ble_eq_true rfl) rfl ?_
              refine s_iinc (q := 77) (j := 4) (v := (x3 + 1)) (lv' := [(3, .int (x3 + 1)), (2, .int x2), (4, .int 0), (0, .ref (eB E + 51)), (1, .int x1)]) dX6_tells_74 rfl rfl rfl (Nat.le_of_ble_eq_true rfl) rfl ?_
              refine s_goto (tgt := 18) dX6_tells_77 rfl ?_
              exact t_sub [3, 4, 1, 0] rfl (ih _ _ _ _ _ h K)
            · rw [if_pos hb13] at h
              refine s_iload_n (q := 69) dX6_tells_68 rfl rfl 4 rfl ?_
              refine s_goto (tgt := 73) dX6_tells_69 rfl ?_
              refine s_istore_n (q := 74) (lv' := [(2, .int x3), (4, .int 0), (0, .ref (eB E + 51)), (1, .int x1), (3, .int x3)]) dX6_tells_73 rfl rfl (Nat.le_of_ble_eq_true rfl) rfl ?_
              refine s_iinc (q := 77) (j := 4) (v := (x3 + 1)) (lv' := [(3, .int (x3 + 1)), (2, .int x3), (4, .int 0), (0, .ref (eB E + 51)), (1, .int x1)]) dX6_tells_74 rfl rfl rfl (Nat.le_of_ble_eq_true rfl) rfl ?_
              refine s_goto (tgt := 18) dX6_tells_77 rfl ?_
              exact t_sub [3, 4, 1, 0] rfl (ih _ _ _ _ _ h K)
        · rw [if_neg hb10] at h
          refine s_iconst (q := 46) (v := 1) dX6_tells_45 rfl rfl ?_
          refine s_goto (tgt := 50) dX6_tells_46 rfl ?_
          refine s_istore (q := 52) (lv' := [(4, .int 1), (0, .ref (eB E + 51)), (1, .int x1), (2, .int x2), (3, .int x3)]) dX6_tells_50 rfl (Nat.le_of_ble_eq_true rfl) rfl ?_
          refine s_iload (q := 54) dX6_tells_52 rfl 0 rfl ?_
          refine s_if_eq (q := 57) (tgt := 72) dX6_tells_54 rfl rfl (fun hb14 => ?_) (fun hb14 => ?_)
          · rw [if_pos hb14] at h
            refine s_iload_n (q := 73) dX6_tells_72 rfl rfl 3 rfl ?_
            refine s_istore_n (q := 74) (lv' := [(2, .int x2), (4, .int 1), (0, .ref (eB E + 51)), (1, .int x1), (3, .int x3)]) dX6_tells_73 rfl rfl (Nat.le_of_ble_eq_true rfl) rfl ?_
            refine s_iinc (q := 77) (j := 4) (v := (x3 + 1)) (lv' := [(3, .int (x3 + 1)), (2, .int x2), (4, .int 1), (0, .ref (eB E + 51)), (1, .int x1)]) dX6_tells_74 rfl rfl rfl (Nat.le_of_ble_eq_true rfl) rfl ?_
            refine s_goto (tgt := 18) dX6_tells_77 rfl ?_
            exact t_sub [3, 4, 1, 0] rfl (ih _ _ _ _ _ h K)
          · rw [if_neg hb14] at h
            refine s_aload_n (q := 58) dX6_tells_57 rfl rfl 1 rfl ?_
            refine s_iload_n (q := 59) dX6_tells_58 rfl rfl 4 rfl ?_
            obtain ⟨q15, hc15, h⟩ := bnd h
            try dsimp only at h
            refine t_callV (q := 62) (N := mX6_mayBe) (a := eB E + 51) [.int x3] dX6_tells_59 rfl nkX6_mayBe vkX6_mayBe lX6_174 ⟨Nat.le_of_ble_eq_true rfl, Nat.le_of_ble_eq_true rfl⟩ (rc_obj (k := 51) rfl rfl) rfl rfl (Nat.le_of_ble_eq_true rfl) (Nat.le_of_ble_eq_true rfl) (T_X6_mayBe_51 E _ hc15) ?_
            refine s_iconst (q := 63) (v := 1) dX6_tells_62 rfl rfl ?_
            refine s_iload_n (q := 64) dX6_tells_63 rfl rfl 2 rfl ?_
            refine s_ishl (q := 65) dX6_tells_64 rfl ?_
            refine s_icmp_ne (q := 68) (tgt := 72) dX6_tells_65 rfl rfl (fun hb16 => ?_) (fun hb16 => ?_)
            · rw [if_neg hb16] at h
              refine s_iload_n (q := 73) dX6_tells_72 rfl rfl 3 rfl ?_
              refine s_istore_n (q := 74) (lv' := [(2, .int x2), (4, .int 1), (0, .ref (eB E + 51)), (1, .int x1), (3, .int x3)]) dX6_tells_73 rfl rfl (Nat.le_of_ble_eq_true rfl) rfl ?_
              refine s_iinc (q := 77) (j := 4) (v := (x3 + 1)) (lv' := [(3, .int (x3 + 1)), (2, .int x2), (4, .int 1), (0, .ref (eB E + 51)), (1, .int x1)]) dX6_tells_74 rfl rfl rfl (Nat.le_of_ble_eq_true rfl) rfl ?_
              refine s_goto (tgt := 18) dX6_tells_77 rfl ?_
              exact t_sub [3, 4, 1, 0] rfl (ih _ _ _ _ _ h K)
            · rw [if_pos hb16] at h
              refine s_iload_n (q := 69) dX6_tells_68 rfl rfl 4 rfl ?_
              refine s_goto (tgt := 73) dX6_tells_69 rfl ?_
              refine s_istore_n (q := 74) (lv' := [(2, .int x3), (4, .int 1), (0, .ref (eB E + 51)), (1, .int x1), (3, .int x3)]) dX6_tells_73 rfl rfl (Nat.le_of_ble_eq_true rfl) rfl ?_
              refine s_iinc (q := 77) (j := 4) (v := (x3 + 1)) (lv' := [(3, .int (x3 + 1)), (2, .int x3), (4, .int 1), (0, .ref (eB E + 51)), (1, .int x1)]) dX6_tells_74 rfl rfl rfl (Nat.le_of_ble_eq_true rfl) rfl ?_
              refine s_goto (tgt := 18) dX6_tells_77 rfl ?_
              exact t_sub [3, 4, 1, 0] rfl (ih _ _ _ _ _ h K)
def G_X6_tells_51 (x1 : Int32) (S : ST) : Option (Int32 × ST) := ((G_X6_isSign_51 x1 S).bind fun q1 => (if q1.1 = 0 then ((G_X6_no_51 0 q1.2).bind fun q20 => some (q20.1, q20.2)) else (G_X6_tells_51_18 3000 x1 (-1) 0 q1.2).bind fun q17 => (if (0 : Int32) ≤ q17.1 then some (q17.1, q17.2) else ((G_X6_no_51 3 q17.2).bind fun q19 => some (q19.1, q19.2)))))
set_option maxHeartbeats 4000000 in
set_option maxRecDepth 100000 in
theorem T_X6_tells_51 (E : EV) (x1 : Int32) {S : ST} {w : (Int32 × ST)} (h : G_X6_tells_51 x1 S = some w) : SD E mX6_tells 0 [(0, .ref (eB E + 51)), (1, .int x1)] [] S (some (.int w.1)) w.2 := by
  unfold G_X6_tells_51 at h
  refine s_aload_n (q := 1) dX6_tells_0 rfl rfl 0 rfl ?_
  refine s_iload_n (q := 2) dX6_tells_1 rfl rfl 1 rfl ?_
  obtain ⟨q1, hc1, h⟩ := bnd h
  try dsimp only at h
  refine t_callV (q := 5) (N := mX6_isSign) (a := eB E + 51) [.int x1] dX6_tells_2 rfl nkX6_isSign vkX6_isSign lX6_171 ⟨Nat.le_of_ble_eq_true rfl, Nat.le_of_ble_eq_true rfl⟩ (rc_obj (k := 51) rfl rfl) rfl rfl (Nat.le_of_ble_eq_true rfl) (Nat.le_of_ble_eq_true rfl) (T_X6_isSign_51 E _ hc1) ?_
  refine s_if_ne (q := 8) (tgt := 14) dX6_tells_5 rfl rfl (fun hb2 => ?_) (fun hb2 => ?_)
  · rw [if_neg hb2] at h
    refine s_iconst (q := 15) (v := (-1)) dX6_tells_14 rfl rfl ?_
    refine s_istore_n (q := 16) (lv' := [(2, .int (-1)), (0, .ref (eB E + 51)), (1, .int x1)]) dX6_tells_15 rfl rfl (Nat.le_of_ble_eq_true rfl) rfl ?_
    refine s_iconst (q := 17) (v := 0) dX6_tells_16 rfl rfl ?_
    refine s_istore_n (q := 18) (lv' := [(3, .int 0), (2, .int (-1)), (0, .ref (eB E + 51)), (1, .int x1)]) dX6_tells_17 rfl rfl (Nat.le_of_ble_eq_true rfl) rfl ?_
    obtain ⟨q17, hc17, h⟩ := bnd h
    try dsimp only at h
    refine t_sub [2, 3, 1, 0] rfl (T_X6_tells_51_18 E _ _ _ _ _ _ hc17 ?_)
    refine s_iload_n (q := 81) dX6_tells_80 rfl rfl 1 rfl ?_
    refine s_if_ge (q := 84) (tgt := 92) dX6_tells_81 rfl rfl (fun hb18 => ?_) (fun hb18 => ?_)
    · rw [if_pos hb18] at h
      refine s_iload_n (q := 93) dX6_tells_92 rfl rfl 1 rfl ?_
      obtain rfl := Option.some.inj h
      exact t_iret dX6_tells_93 rfl rfl
    · rw [if_neg hb18] at h
      refine s_aload_n (q := 85) dX6_tells_84 rfl rfl 0 rfl ?_
      refine s_iconst (q := 86) (v := 3) dX6_tells_85 rfl rfl ?_
      obtain ⟨q19, hc19, h⟩ := bnd h
      try dsimp only at h
      refine t_callV (q := 89) (N := mX6_no) (a := eB E + 51) [.int 3] dX6_tells_86 rfl nkX6_no vkX6_no lX6_94 ⟨Nat.le_of_ble_eq_true rfl, Nat.le_of_ble_eq_true rfl⟩ (rc_obj (k := 51) rfl rfl) rfl rfl (Nat.le_of_ble_eq_true rfl) (Nat.le_of_ble_eq_true rfl) (T_X6_no_51 E _ hc19) ?_
      refine s_goto (tgt := 93) dX6_tells_89 rfl ?_
      obtain rfl := Option.some.inj h
      exact t_iret dX6_tells_93 rfl rfl
  · rw [if_pos hb2] at h
    refine s_aload_n (q := 9) dX6_tells_8 rfl rfl 0 rfl ?_
    refine s_iconst (q := 10) (v := 0) dX6_tells_9 rfl rfl ?_
    obtain ⟨q20, hc20, h⟩ := bnd h
    try dsimp only at h
    refine t_callV (q := 13) (N := mX6_no) (a := eB E + 51) [.int 0] dX6_tells_10 rfl nkX6_no vkX6_no lX6_94 ⟨Nat.le_of_ble_eq_true rfl, Nat.le_of_ble_eq_true rfl⟩ (rc_obj (k := 51) rfl rfl) rfl rfl (Nat.le_of_ble_eq_true rfl) (Nat.le_of_ble_eq_true rfl) (T_X6_no_51 E _ hc20) ?_
    obtain rfl := Option.some.inj h
    exact t_iret dX6_tells_13 rfl rfl
-- X5_told
def G_X5_told_0_19 : Nat → Int32 → Int32 → Int32 → ST → Option (Int32 × ST)
  | 0, _, _, _, _ => none
  | n + 1, x1, x2, x3, S => (if (S.1 1 9) ≤ x3 then some (x2, S) else (if inB x3 6 = true then ((G_X1_signsWith_1 ((S.1 9 x3.toNatClampNeg) &&& x1) S).bind fun q4 => (if q4.1 = (1 <<< (x3 &&& 31)) then G_X5_told_0_19 n x1 (x2 ||| (1 <<< (x3 &&& 31))) (x3 + 1) q4.2 else G_X5_told_0_19 n x1 x2 (x3 + 1) q4.2)) else none))
set_option maxHeartbeats 4000000 in
set_option maxRecDepth 100000 in
theorem T_X5_told_0_19 (E : EV) : ∀ (n : Nat) (x1 : Int32) (x2 : Int32) (x3 : Int32) (S : ST), ∀ (w : (Int32 × ST)), G_X5_told_0_19 n x1 x2 x3 S = some w → ∀ {Q : Option Value → ST → Prop}, SS E mX5_told 66 [(2, .int w.1)] [] w.2 Q → SS E mX5_told 19 [(0, .ref (eB E + 0)), (1, .int x1), (2, .int x2), (3, .int x3)] [] S Q := by
  intro n
  induction n with
  | zero =>
    intro x1 x2 x3 S w h
    cases h
  | succ n ih =>
    intro x1 x2 x3 S w h Q K
    unfold G_X5_told_0_19 at h
    refine s_iload_n (q := 20) dX5_told_19 rfl rfl 3 rfl ?_
    refine s_aload_n (q := 21) dX5_told_20 rfl rfl 0 rfl ?_
    refine t_getR (q := 24) (k := 0) (f := 0) (t := 1) dX5_told_21 rfl rfl rfl rfl inX5 (Nat.le_of_ble_eq_true rfl) fX5_10 ?_
    refine t_getI (q := 27) (k := 1) (f := 9) (v := (S.1 1 9)) dX5_told_24 rfl rfl rfl rfl inX1 (Nat.le_of_ble_eq_true rfl) fX5_194 rfl ?_
    refine s_icmp_ge (q := 30) (tgt := 66) dX5_told_27 rfl rfl (fun hb2 => ?_) (fun hb2 => ?_)
    · rw [if_pos hb2] at h
      obtain rfl := Option.some.inj h
      exact t_sub [2] rfl K
    · rw [if_neg hb2] at h
      refine s_aload_n (q := 31) dX5_told_30 rfl rfl 0 rfl ?_
      refine t_getR (q := 34) (k := 0) (f := 0) (t := 1) dX5_told_31 rfl rfl rfl rfl inX5 (Nat.le_of_ble_eq_true rfl) fX5_10 ?_
      refine s_aload_n (q := 35) dX5_told_34 rfl rfl 0 rfl ?_
      refine t_getR (q := 38) (k := 0) (f := 0) (t := 1) dX5_told_35 rfl rfl rfl rfl inX5 (Nat.le_of_ble_eq_true rfl) fX5_10 ?_
      refine t_getR (q := 41) (k := 1) (f := 10) (t := 9) dX5_told_38 rfl rfl rfl rfl inX1 (Nat.le_of_ble_eq_true rfl) fX5_200 ?_
      refine s_iload_n (q := 42) dX5_told_41 rfl rfl 3 rfl ?_
      obtain ⟨hg3, h⟩ := chk_some h
      refine u_iald (q := 43) (k := 9) (v := (S.1 9 x3.toNatClampNeg)) dX5_told_42 rfl rfl (inB_in hg3) rfl rfl ?_
      refine s_iload_n (q := 44) dX5_told_43 rfl rfl 1 rfl ?_
      refine s_iand (q := 45) dX5_told_44 rfl ?_
      obtain ⟨q4, hc4, h⟩ := bnd h
      try dsimp only at h
      refine t_callV (q := 48) (N := mX1_signsWith) (a := eB E + 1) [.int ((S.1 9 x3.toNatClampNeg) &&& x1)] dX5_told_45 rfl nkX1_signsWith vkX1_signsWith lX5_203 ⟨Nat.le_of_ble_eq_true rfl, Nat.le_of_ble_eq_true rfl⟩ (rc_obj (k := 1) rfl rfl) rfl rfl (Nat.le_of_ble_eq_true rfl) (Nat.le_of_ble_eq_true rfl) (T_X1_signsWith_1 E _ hc4) ?_
      refine s_iconst (q := 49) (v := 1) dX5_told_48 rfl rfl ?_
      refine s_iload_n (q := 50) dX5_told_49 rfl rfl 3 rfl ?_
      refine s_ishl (q := 51) dX5_told_50 rfl ?_
      refine s_icmp_ne (q := 54) (tgt := 60) dX5_told_51 rfl rfl (fun hb5 => ?_) (fun hb5 => ?_)
      · rw [if_neg hb5] at h
        refine s_iinc (q := 63) (j := 3) (v := (x3 + 1)) (lv' := [(3, .int (x3 + 1)), (0, .ref (eB E + 0)), (1, .int x1), (2, .int x2)]) dX5_told_60 rfl rfl rfl (Nat.le_of_ble_eq_true rfl) rfl ?_
        refine s_goto (tgt := 19) dX5_told_63 rfl ?_
        exact t_sub [1, 2, 3, 0] rfl (ih _ _ _ _ _ h K)
      · rw [if_pos hb5] at h
        refine s_iload_n (q := 55) dX5_told_54 rfl rfl 2 rfl ?_
        refine s_iconst (q := 56) (v := 1) dX5_told_55 rfl rfl ?_
        refine s_iload_n (q := 57) dX5_told_56 rfl rfl 3 rfl ?_
        refine s_ishl (q := 58) dX5_told_57 rfl ?_
        refine s_ior (q := 59) dX5_told_58 rfl ?_
        refine s_istore_n (q := 60) (lv' := [(2, .int (x2 ||| (1 <<< (x3 &&& 31)))), (0, .ref (eB E + 0)), (1, .int x1), (3, .int x3)]) dX5_told_59 rfl rfl (Nat.le_of_ble_eq_true rfl) rfl ?_
        refine s_iinc (q := 63) (j := 3) (v := (x3 + 1)) (lv' := [(3, .int (x3 + 1)), (2, .int (x2 ||| (1 <<< (x3 &&& 31)))), (0, .ref (eB E + 0)), (1, .int x1)]) dX5_told_60 rfl rfl rfl (Nat.le_of_ble_eq_true rfl) rfl ?_
        refine s_goto (tgt := 19) dX5_told_63 rfl ?_
        exact t_sub [2, 3, 1, 0] rfl (ih _ _ _ _ _ h K)
def G_X5_told_0  (S : ST) : Option (Int32 × ST) := ((G_X1_brightSet_1_4  S).bind fun q1 => (G_X5_told_0_19 3000 q1.1 0 0 q1.2).bind fun q6 => some (q6.1, q6.2))
set_option maxHeartbeats 4000000 in
set_option maxRecDepth 100000 in
theorem T_X5_told_0 (E : EV)  {S : ST} {w : (Int32 × ST)} (h : G_X5_told_0  S = some w) : SD E mX5_told 0 [(0, .ref (eB E + 0))] [] S (some (.int w.1)) w.2 := by
  unfold G_X5_told_0 at h
  refine s_aload_n (q := 1) dX5_told_0 rfl rfl 0 rfl ?_
  refine t_getR (q := 4) (k := 0) (f := 0) (t := 1) dX5_told_1 rfl rfl rfl rfl inX5 (Nat.le_of_ble_eq_true rfl) fX5_10 ?_
  refine s_aload_n (q := 5) dX5_told_4 rfl rfl 0 rfl ?_
  refine t_getR (q := 8) (k := 0) (f := 0) (t := 1) dX5_told_5 rfl rfl rfl rfl inX5 (Nat.le_of_ble_eq_true rfl) fX5_10 ?_
  refine t_getR (q := 11) (k := 1) (f := 3) (t := 4) dX5_told_8 rfl rfl rfl rfl inX1 (Nat.le_of_ble_eq_true rfl) fX5_80 ?_
  obtain ⟨q1, hc1, h⟩ := bnd h
  try dsimp only at h
  refine t_callV (q := 14) (N := mX1_brightSet) (a := eB E + 1) [.ref (eB E + 4)] dX5_told_11 rfl nkX1_brightSet vkX1_brightSet lX5_126 ⟨Nat.le_of_ble_eq_true rfl, Nat.le_of_ble_eq_true rfl⟩ (rc_obj (k := 1) rfl rfl) rfl rfl (Nat.le_of_ble_eq_true rfl) (Nat.le_of_ble_eq_true rfl) (T_X1_brightSet_1_4 E  hc1) ?_
  refine s_istore_n (q := 15) (lv' := [(1, .int q1.1), (0, .ref (eB E + 0))]) dX5_told_14 rfl rfl (Nat.le_of_ble_eq_true rfl) rfl ?_
  refine s_iconst (q := 16) (v := 0) dX5_told_15 rfl rfl ?_
  refine s_istore_n (q := 17) (lv' := [(2, .int 0), (1, .int q1.1), (0, .ref (eB E + 0))]) dX5_told_16 rfl rfl (Nat.le_of_ble_eq_true rfl) rfl ?_
  refine s_iconst (q := 18) (v := 0) dX5_told_17 rfl rfl ?_
  refine s_istore_n (q := 19) (lv' := [(3, .int 0), (2, .int 0), (1, .int q1.1), (0, .ref (eB E + 0))]) dX5_told_18 rfl rfl (Nat.le_of_ble_eq_true rfl) rfl ?_
  obtain ⟨q6, hc6, h⟩ := bnd h
  try dsimp only at h
  refine t_sub [3, 2, 1, 0] rfl (T_X5_told_0_19 E _ _ _ _ _ _ hc6 ?_)
  refine s_iload_n (q := 67) dX5_told_66 rfl rfl 0 rfl ?_
  obtain rfl := Option.some.inj h
  exact t_iret dX5_told_67 rfl rfl
-- X6_told
def G_X6_told_51_9 : Nat → Int32 → Int32 → Int32 → ST → Option (Int32 × ST)
  | 0, _, _, _, _ => none
  | n + 1, x1, x2, x3, S => (if (S.1 52 2) ≤ x3 then some (x2, S) else (if inB (56 + x3) 72 = true then ((G_X6_mayBe_51 ((S.1 52 ((56 + x3).toNatClampNeg)) &&& x1) S).bind fun q4 => (if q4.1 = (1 <<< (x3 &&& 31)) then G_X6_told_51_9 n x1 (x2 ||| (1 <<< (x3 &&& 31))) (x3 + 1) q4.2 else G_X6_told_51_9 n x1 (x2 ||| 0) (x3 + 1) q4.2)) else none))
set_option maxHeartbeats 4000000 in
set_option maxRecDepth 100000 in
theorem T_X6_told_51_9 (E : EV) : ∀ (n : Nat) (x1 : Int32) (x2 : Int32) (x3 : Int32) (S : ST), ∀ (w : (Int32 × ST)), G_X6_told_51_9 n x1 x2 x3 S = some w → ∀ {Q : Option Value → ST → Prop}, SS E mX6_told 56 [(2, .int w.1)] [] w.2 Q → SS E mX6_told 9 [(0, .ref (eB E + 51)), (1, .int x1), (2, .int x2), (3, .int x3)] [] S Q := by
  intro n
  induction n with
  | zero =>
    intro x1 x2 x3 S w h
    cases h
  | succ n ih =>
    intro x1 x2 x3 S w h Q K
    unfold G_X6_told_51_9 at h
    refine s_iload_n (q := 10) dX6_told_9 rfl rfl 3 rfl ?_
    refine s_aload_n (q := 11) dX6_told_10 rfl rfl 0 rfl ?_
    refine t_getR (q := 14) (k := 51) (f := 0) (t := 52) dX6_told_11 rfl rfl rfl rfl inX6 (Nat.le_of_ble_eq_true rfl) fX6_9 ?_
    refine s_iconst (q := 15) (v := 2) dX6_told_14 rfl rfl ?_
    refine u_iald (q := 16) (k := 52) (j := 2) (v := (S.1 52 2)) dX6_told_15 rfl rfl (inB_in (by decide)) (by decide) rfl ?_
    refine s_icmp_ge (q := 19) (tgt := 56) dX6_told_16 rfl rfl (fun hb2 => ?_) (fun hb2 => ?_)
    · rw [if_pos hb2] at h
      obtain rfl := Option.some.inj h
      exact t_sub [2] rfl K
    · rw [if_neg hb2] at h
      refine s_iload_n (q := 20) dX6_told_19 rfl rfl 2 rfl ?_
      refine s_aload_n (q := 21) dX6_told_20 rfl rfl 0 rfl ?_
      refine s_aload_n (q := 22) dX6_told_21 rfl rfl 0 rfl ?_
      refine t_getR (q := 25) (k := 51) (f := 0) (t := 52) dX6_told_22 rfl rfl rfl rfl inX6 (Nat.le_of_ble_eq_true rfl) fX6_9 ?_
      refine s_bipush (q := 27) (v := 56) dX6_told_25 rfl rfl ?_
      refine s_iload_n (q := 28) dX6_told_27 rfl rfl 3 rfl ?_
      refine s_iadd (q := 29) dX6_told_28 rfl ?_
      obtain ⟨hg3, h⟩ := chk_some h
      refine u_iald (q := 30) (k := 52) (v := (S.1 52 ((56 + x3).toNatClampNeg))) dX6_told_29 rfl rfl (inB_in hg3) rfl rfl ?_
      refine s_iload_n (q := 31) dX6_told_30 rfl rfl 1 rfl ?_
      refine s_iand (q := 32) dX6_told_31 rfl ?_
      obtain ⟨q4, hc4, h⟩ := bnd h
      try dsimp only at h
      refine t_callV (q := 35) (N := mX6_mayBe) (a := eB E + 51) [.int ((S.1 52 ((56 + x3).toNatClampNeg)) &&& x1)] dX6_told_32 rfl nkX6_mayBe vkX6_mayBe lX6_174 ⟨Nat.le_of_ble_eq_true rfl, Nat.le_of_ble_eq_true rfl⟩ (rc_obj (k := 51) rfl rfl) rfl rfl (Nat.le_of_ble_eq_true rfl) (Nat.le_of_ble_eq_true rfl) (T_X6_mayBe_51 E _ hc4) ?_
      refine s_iconst (q := 36) (v := 1) dX6_told_35 rfl rfl ?_
      refine s_iload_n (q := 37) dX6_told_36 rfl rfl 3 rfl ?_
      refine s_ishl (q := 38) dX6_told_37 rfl ?_
      refine s_icmp_ne (q := 41) (tgt := 47) dX6_told_38 rfl rfl (fun hb5 => ?_) (fun hb5 => ?_)
      · rw [if_neg hb5] at h
        refine s_iconst (q := 48) (v := 0) dX6_told_47 rfl rfl ?_
        refine s_ior (q := 49) dX6_told_48 rfl ?_
        refine s_istore_n (q := 50) (lv' := [(2, .int (x2 ||| 0)), (0, .ref (eB E + 51)), (1, .int x1), (3, .int x3)]) dX6_told_49 rfl rfl (Nat.le_of_ble_eq_true rfl) rfl ?_
        refine s_iinc (q := 53) (j := 3) (v := (x3 + 1)) (lv' := [(3, .int (x3 + 1)), (2, .int (x2 ||| 0)), (0, .ref (eB E + 51)), (1, .int x1)]) dX6_told_50 rfl rfl rfl (Nat.le_of_ble_eq_true rfl) rfl ?_
        refine s_goto (tgt := 9) dX6_told_53 rfl ?_
        exact t_sub [2, 3, 1, 0] rfl (ih _ _ _ _ _ h K)
      · rw [if_pos hb5] at h
        refine s_iconst (q := 42) (v := 1) dX6_told_41 rfl rfl ?_
        refine s_iload_n (q := 43) dX6_told_42 rfl rfl 3 rfl ?_
        refine s_ishl (q := 44) dX6_told_43 rfl ?_
        refine s_goto (tgt := 48) dX6_told_44 rfl ?_
        refine s_ior (q := 49) dX6_told_48 rfl ?_
        refine s_istore_n (q := 50) (lv' := [(2, .int (x2 ||| (1 <<< (x3 &&& 31)))), (0, .ref (eB E + 51)), (1, .int x1), (3, .int x3)]) dX6_told_49 rfl rfl (Nat.le_of_ble_eq_true rfl) rfl ?_
        refine s_iinc (q := 53) (j := 3) (v := (x3 + 1)) (lv' := [(3, .int (x3 + 1)), (2, .int (x2 ||| (1 <<< (x3 &&& 31)))), (0, .ref (eB E + 51)), (1, .int x1)]) dX6_told_50 rfl rfl rfl (Nat.le_of_ble_eq_true rfl) rfl ?_
        refine s_goto (tgt := 9) dX6_told_53 rfl ?_
        exact t_sub [2, 3, 1, 0] rfl (ih _ _ _ _ _ h K)
def G_X6_told_51  (S : ST) : Option (Int32 × ST) := ((G_X6_shining_51  S).bind fun q1 => (G_X6_told_51_9 3000 q1.1 0 0 q1.2).bind fun q6 => some (q6.1, q6.2))
set_option maxHeartbeats 4000000 in
set_option maxRecDepth 100000 in
theorem T_X6_told_51 (E : EV)  {S : ST} {w : (Int32 × ST)} (h : G_X6_told_51  S = some w) : SD E mX6_told 0 [(0, .ref (eB E + 51))] [] S (some (.int w.1)) w.2 := by
  unfold G_X6_told_51 at h
  refine s_aload_n (q := 1) dX6_told_0 rfl rfl 0 rfl ?_
  obtain ⟨q1, hc1, h⟩ := bnd h
  try dsimp only at h
  refine t_callV (q := 4) (N := mX6_shining) (a := eB E + 51) [] dX6_told_1 rfl nkX6_shining vkX6_shining lX6_117 ⟨Nat.le_of_ble_eq_true rfl, Nat.le_of_ble_eq_true rfl⟩ (rc_obj (k := 51) rfl rfl) rfl rfl (Nat.le_of_ble_eq_true rfl) (Nat.le_of_ble_eq_true rfl) (T_X6_shining_51 E  hc1) ?_
  refine s_istore_n (q := 5) (lv' := [(1, .int q1.1), (0, .ref (eB E + 51))]) dX6_told_4 rfl rfl (Nat.le_of_ble_eq_true rfl) rfl ?_
  refine s_iconst (q := 6) (v := 0) dX6_told_5 rfl rfl ?_
  refine s_istore_n (q := 7) (lv' := [(2, .int 0), (1, .int q1.1), (0, .ref (eB E + 51))]) dX6_told_6 rfl rfl (Nat.le_of_ble_eq_true rfl) rfl ?_
  refine s_iconst (q := 8) (v := 0) dX6_told_7 rfl rfl ?_
  refine s_istore_n (q := 9) (lv' := [(3, .int 0), (2, .int 0), (1, .int q1.1), (0, .ref (eB E + 51))]) dX6_told_8 rfl rfl (Nat.le_of_ble_eq_true rfl) rfl ?_
  obtain ⟨q6, hc6, h⟩ := bnd h
  try dsimp only at h
  refine t_sub [3, 2, 1, 0] rfl (T_X6_told_51_9 E _ _ _ _ _ _ hc6 ?_)
  refine s_iload_n (q := 57) dX6_told_56 rfl rfl 0 rfl ?_
  obtain rfl := Option.some.inj h
  exact t_iret dX6_told_57 rfl rfl
-- X1_nearestOf
def G_X1_nearestOf_1_9 : Nat → Int32 → Int32 → Int32 → Int32 → Int32 → ST → Option (Int32 × ST)
  | 0, _, _, _, _, _, _ => none
  | n + 1, x1, x2, x3, x4, x5, S => (if (S.1 1 0) ≤ x5 then some (x4, S) else (if inB x5 10 = true then ((G_X5_stepsBetween x2 (S.1 3 x5.toNatClampNeg) S).bind fun q3 => (if ((x1 >>> (x5 &&& 31)) &&& 1) = 1 then (if x3 ≤ q3.1 then G_X1_nearestOf_1_9 n x1 x2 x3 x4 (x5 + 1) q3.2 else G_X1_nearestOf_1_9 n x1 x2 q3.1 x5 (x5 + 1) q3.2) else G_X1_nearestOf_1_9 n x1 x2 x3 x4 (x5 + 1) q3.2)) else none))
set_option maxHeartbeats 4000000 in
set_option maxRecDepth 100000 in
theorem T_X1_nearestOf_1_9 (E : EV) : ∀ (n : Nat) (x1 : Int32) (x2 : Int32) (x3 : Int32) (x4 : Int32) (x5 : Int32) (S : ST), ∀ (w : (Int32 × ST)), G_X1_nearestOf_1_9 n x1 x2 x3 x4 x5 S = some w → ∀ {Q : Option Value → ST → Prop}, SS E mX1_nearestOf 60 [(4, .int w.1)] [] w.2 Q → SS E mX1_nearestOf 9 [(0, .ref (eB E + 1)), (1, .int x1), (2, .int x2), (3, .int x3), (4, .int x4), (5, .int x5)] [] S Q := by
  intro n
  induction n with
  | zero =>
    intro x1 x2 x3 x4 x5 S w h
    cases h
  | succ n ih =>
    intro x1 x2 x3 x4 x5 S w h Q K
    unfold G_X1_nearestOf_1_9 at h
    refine s_iload (q := 11) dX1_nearestOf_9 rfl 5 rfl ?_
    refine s_aload_n (q := 12) dX1_nearestOf_11 rfl rfl 0 rfl ?_
    refine t_getI (q := 15) (k := 1) (f := 0) (v := (S.1 1 0)) dX1_nearestOf_12 rfl rfl rfl rfl inX1 (Nat.le_of_ble_eq_true rfl) fX1_9 rfl ?_
    refine s_icmp_ge (q := 18) (tgt := 60) dX1_nearestOf_15 rfl rfl (fun hb1 => ?_) (fun hb1 => ?_)
    · rw [if_pos hb1] at h
      obtain rfl := Option.some.inj h
      exact t_sub [4] rfl K
    · rw [if_neg hb1] at h
      refine s_iload_n (q := 19) dX1_nearestOf_18 rfl rfl 2 rfl ?_
      refine s_aload_n (q := 20) dX1_nearestOf_19 rfl rfl 0 rfl ?_
      refine t_getR (q := 23) (k := 1) (f := 2) (t := 3) dX1_nearestOf_20 rfl rfl rfl rfl inX1 (Nat.le_of_ble_eq_true rfl) fX1_19 ?_
      refine s_iload (q := 25) dX1_nearestOf_23 rfl 5 rfl ?_
      obtain ⟨hg2, h⟩ := chk_some h
      refine u_iald (q := 26) (k := 3) (v := (S.1 3 x5.toNatClampNeg)) dX1_nearestOf_25 rfl rfl (inB_in hg2) rfl rfl ?_
      obtain ⟨q3, hc3, h⟩ := bnd h
      try dsimp only at h
      refine t_callSN (q := 29) (N := mX5_stepsBetween) (host := "StarCrew") [.int x2, .int (S.1 3 x5.toNatClampNeg)] dX1_nearestOf_26 rfl nkX5_stepsBetween sX5_stepsBetween (by decide +kernel) ⟨Nat.le_of_ble_eq_true rfl, Nat.le_of_ble_eq_true rfl⟩ rfl rfl (Nat.le_of_ble_eq_true rfl) (Nat.le_of_ble_eq_true rfl) (T_X5_stepsBetween E _ _ hc3) ?_
      refine s_istore (q := 31) (lv' := [(6, .int q3.1), (0, .ref (eB E + 1)), (1, .int x1), (2, .int x2), (3, .int x3), (4, .int x4), (5, .int x5)]) dX1_nearestOf_29 rfl (Nat.le_of_ble_eq_true rfl) rfl ?_
      refine s_iload_n (q := 32) dX1_nearestOf_31 rfl rfl 2 rfl ?_
      refine s_iload (q := 34) dX1_nearestOf_32 rfl 6 rfl ?_
      refine s_ishr (q := 35) dX1_nearestOf_34 rfl ?_
      refine s_iconst (q := 36) (v := 1) dX1_nearestOf_35 rfl rfl ?_
      refine s_iand (q := 37) dX1_nearestOf_36 rfl ?_
      refine s_iconst (q := 38) (v := 1) dX1_nearestOf_37 rfl rfl ?_
      refine s_icmp_ne (q := 41) (tgt := 54) dX1_nearestOf_38 rfl rfl (fun hb4 => ?_) (fun hb4 => ?_)
      · rw [if_neg hb4] at h
        refine s_iinc (q := 57) (j := 6) (v := (x5 + 1)) (lv' := [(5, .int (x5 + 1)), (6, .int q3.1), (0, .ref (eB E + 1)), (1, .int x1), (2, .int x2), (3, .int x3), (4, .int x4)]) dX1_nearestOf_54 rfl rfl rfl (Nat.le_of_ble_eq_true rfl) rfl ?_
        refine s_goto (tgt := 9) dX1_nearestOf_57 rfl ?_
        exact t_sub [2, 3, 4, 5, 6, 0] rfl (ih _ _ _ _ _ _ _ h K)
      · rw [if_pos hb4] at h
        refine s_iload (q := 43) dX1_nearestOf_41 rfl 0 rfl ?_
        refine s_iload_n (q := 44) dX1_nearestOf_43 rfl rfl 4 rfl ?_
        refine s_icmp_ge (q := 47) (tgt := 54) dX1_nearestOf_44 rfl rfl (fun hb5 => ?_) (fun hb5 => ?_)
        · rw [if_pos hb5] at h
          refine s_iinc (q := 57) (j := 6) (v := (x5 + 1)) (lv' := [(5, .int (x5 + 1)), (6, .int q3.1), (0, .ref (eB E + 1)), (1, .int x1), (2, .int x2), (3, .int x3), (4, .int x4)]) dX1_nearestOf_54 rfl rfl rfl (Nat.le_of_ble_eq_true rfl) rfl ?_
          refine s_goto (tgt := 9) dX1_nearestOf_57 rfl ?_
          exact t_sub [2, 3, 4, 5, 6, 0] rfl (ih _ _ _ _ _ _ _ h K)
        · rw [if_neg hb5] at h
          refine s_iload (q := 49) dX1_nearestOf_47 rfl 0 rfl ?_
          refine s_istore_n (q := 50) (lv' := [(3, .int q3.1), (6, .int q3.1), (0, .ref (eB E + 1)), (1, .int x1), (2, .int x2), (4, .int x4), (5, .int x5)]) dX1_nearestOf_49 rfl rfl (Nat.le_of_ble_eq_true rfl) rfl ?_
          refine s_iload (q := 52) dX1_nearestOf_50 rfl 6 rfl ?_
          refine s_istore (q := 54) (lv' := [(4, .int x5), (3, .int q3.1), (6, .int q3.1), (0, .ref (eB E + 1)), (1, .int x1), (2, .int x2), (5, .int x5)]) dX1_nearestOf_52 rfl (Nat.le_of_ble_eq_true rfl) rfl ?_
          refine s_iinc (q := 57) (j := 6) (v := (x5 + 1)) (lv' := [(5, .int (x5 + 1)), (4, .int x5), (3, .int q3.1), (6, .int q3.1), (0, .ref (eB E + 1)), (1, .int x1), (2, .int x2)]) dX1_nearestOf_54 rfl rfl rfl (Nat.le_of_ble_eq_true rfl) rfl ?_
          refine s_goto (tgt := 9) dX1_nearestOf_57 rfl ?_
          exact t_sub [4, 5, 6, 2, 1, 0] rfl (ih _ _ _ _ _ _ _ h K)
def G_X1_nearestOf_1 (x1 : Int32) (x2 : Int32) (S : ST) : Option (Int32 × ST) := (G_X1_nearestOf_1_9 3000 x1 x2 1000000 (-1) 0 S).bind fun q6 => some (q6.1, q6.2)
set_option maxHeartbeats 4000000 in
set_option maxRecDepth 100000 in
theorem T_X1_nearestOf_1 (E : EV) (x1 : Int32) (x2 : Int32) {S : ST} {w : (Int32 × ST)} (h : G_X1_nearestOf_1 x1 x2 S = some w) : SD E mX1_nearestOf 0 [(0, .ref (eB E + 1)), (1, .int x1), (2, .int x2)] [] S (some (.int w.1)) w.2 := by
  unfold G_X1_nearestOf_1 at h
  refine s_ldc (q := 2) (v := 1000000) dX1_nearestOf_0 rfl kX1_89 ?_
  refine s_istore_n (q := 3) (lv' := [(3, .int 1000000), (0, .ref (eB E + 1)), (1, .int x1), (2, .int x2)]) dX1_nearestOf_2 rfl rfl (Nat.le_of_ble_eq_true rfl) rfl ?_
  refine s_iconst (q := 4) (v := (-1)) dX1_nearestOf_3 rfl rfl ?_
  refine s_istore (q := 6) (lv' := [(4, .int (-1)), (3, .int 1000000), (0, .ref (eB E + 1)), (1, .int x1), (2, .int x2)]) dX1_nearestOf_4 rfl (Nat.le_of_ble_eq_true rfl) rfl ?_
  refine s_iconst (q := 7) (v := 0) dX1_nearestOf_6 rfl rfl ?_
  refine s_istore (q := 9) (lv' := [(5, .int 0), (4, .int (-1)), (3, .int 1000000), (0, .ref (eB E + 1)), (1, .int x1), (2, .int x2)]) dX1_nearestOf_7 rfl (Nat.le_of_ble_eq_true rfl) rfl ?_
  obtain ⟨q6, hc6, h⟩ := bnd h
  try dsimp only at h
  refine t_sub [3, 4, 5, 2, 1, 0] rfl (T_X1_nearestOf_1_9 E _ _ _ _ _ _ _ _ hc6 ?_)
  refine s_iload (q := 62) dX1_nearestOf_60 rfl 0 rfl ?_
  obtain rfl := Option.some.inj h
  exact t_iret dX1_nearestOf_62 rfl rfl
-- X5_steers
def G_X5_steers_0 (x1 : Int32) (S : ST) : Option (Int32 × ST) := ((G_X5_isBelow x1 100 S).bind fun q1 => (if q1.1 = 0 then ((G_X5_finding_0 0 q1.2).bind fun q7 => some (q7.1, q7.2)) else ((G_X1_brightSet_1_4  q1.2).bind fun q3 => ((G_X1_nearestOf_1 q3.1 x1 q3.2).bind fun q4 => (if (0 : Int32) ≤ q4.1 then some (q4.1, q4.2) else ((G_X5_finding_0 3 q4.2).bind fun q6 => some (q6.1, q6.2)))))))
set_option maxHeartbeats 4000000 in
set_option maxRecDepth 100000 in
theorem T_X5_steers_0 (E : EV) (x1 : Int32) {S : ST} {w : (Int32 × ST)} (h : G_X5_steers_0 x1 S = some w) : SD E mX5_steers 0 [(0, .ref (eB E + 0)), (1, .int x1)] [] S (some (.int w.1)) w.2 := by
  unfold G_X5_steers_0 at h
  refine s_iload_n (q := 1) dX5_steers_0 rfl rfl 1 rfl ?_
  refine s_bipush (q := 3) (v := 100) dX5_steers_1 rfl rfl ?_
  obtain ⟨q1, hc1, h⟩ := bnd h
  try dsimp only at h
  refine t_callS (q := 6) (N := mX5_isBelow) [.int x1, .int 100] dX5_steers_3 rfl nkX5_isBelow sX5_isBelow lX5_57 ⟨Nat.le_of_ble_eq_true rfl, Nat.le_of_ble_eq_true rfl⟩ rfl rfl (Nat.le_of_ble_eq_true rfl) (Nat.le_of_ble_eq_true rfl) (T_X5_isBelow E _ _ hc1) ?_
  refine s_if_ne (q := 9) (tgt := 15) dX5_steers_6 rfl rfl (fun hb2 => ?_) (fun hb2 => ?_)
  · rw [if_neg hb2] at h
    refine s_aload_n (q := 16) dX5_steers_15 rfl rfl 0 rfl ?_
    refine t_getR (q := 19) (k := 0) (f := 0) (t := 1) dX5_steers_16 rfl rfl rfl rfl inX5 (Nat.le_of_ble_eq_true rfl) fX5_10 ?_
    refine s_aload_n (q := 20) dX5_steers_19 rfl rfl 0 rfl ?_
    refine t_getR (q := 23) (k := 0) (f := 0) (t := 1) dX5_steers_20 rfl rfl rfl rfl inX5 (Nat.le_of_ble_eq_true rfl) fX5_10 ?_
    refine s_aload_n (q := 24) dX5_steers_23 rfl rfl 0 rfl ?_
    refine t_getR (q := 27) (k := 0) (f := 0) (t := 1) dX5_steers_24 rfl rfl rfl rfl inX5 (Nat.le_of_ble_eq_true rfl) fX5_10 ?_
    refine t_getR (q := 30) (k := 1) (f := 3) (t := 4) dX5_steers_27 rfl rfl rfl rfl inX1 (Nat.le_of_ble_eq_true rfl) fX5_80 ?_
    obtain ⟨q3, hc3, h⟩ := bnd h
    try dsimp only at h
    refine t_callV (q := 33) (N := mX1_brightSet) (a := eB E + 1) [.ref (eB E + 4)] dX5_steers_30 rfl nkX1_brightSet vkX1_brightSet lX5_126 ⟨Nat.le_of_ble_eq_true rfl, Nat.le_of_ble_eq_true rfl⟩ (rc_obj (k := 1) rfl rfl) rfl rfl (Nat.le_of_ble_eq_true rfl) (Nat.le_of_ble_eq_true rfl) (T_X1_brightSet_1_4 E  hc3) ?_
    refine s_iload_n (q := 34) dX5_steers_33 rfl rfl 1 rfl ?_
    obtain ⟨q4, hc4, h⟩ := bnd h
    try dsimp only at h
    refine t_callV (q := 37) (N := mX1_nearestOf) (a := eB E + 1) [.int q3.1, .int x1] dX5_steers_34 rfl nkX1_nearestOf vkX1_nearestOf lX5_206 ⟨Nat.le_of_ble_eq_true rfl, Nat.le_of_ble_eq_true rfl⟩ (rc_obj (k := 1) rfl rfl) rfl rfl (Nat.le_of_ble_eq_true rfl) (Nat.le_of_ble_eq_true rfl) (T_X1_nearestOf_1 E _ _ hc4) ?_
    refine s_istore_n (q := 38) (lv' := [(2, .int q4.1), (0, .ref (eB E + 0)), (1, .int x1)]) dX5_steers_37 rfl rfl (Nat.le_of_ble_eq_true rfl) rfl ?_
    refine s_iload_n (q := 39) dX5_steers_38 rfl rfl 0 rfl ?_
    refine s_if_ge (q := 42) (tgt := 50) dX5_steers_39 rfl rfl (fun hb5 => ?_) (fun hb5 => ?_)
    · rw [if_pos hb5] at h
      refine s_iload_n (q := 51) dX5_steers_50 rfl rfl 0 rfl ?_
      obtain rfl := Option.some.inj h
      exact t_iret dX5_steers_51 rfl rfl
    · rw [if_neg hb5] at h
      refine s_aload_n (q := 43) dX5_steers_42 rfl rfl 1 rfl ?_
      refine s_iconst (q := 44) (v := 3) dX5_steers_43 rfl rfl ?_
      obtain ⟨q6, hc6, h⟩ := bnd h
      try dsimp only at h
      refine t_callV (q := 47) (N := mX5_finding) (a := eB E + 0) [.int 3] dX5_steers_44 rfl nkX5_finding vkX5_finding lX5_61 ⟨Nat.le_of_ble_eq_true rfl, Nat.le_of_ble_eq_true rfl⟩ (rc_obj (k := 0) rfl rfl) rfl rfl (Nat.le_of_ble_eq_true rfl) (Nat.le_of_ble_eq_true rfl) (T_X5_finding_0 E _ hc6) ?_
      refine s_goto (tgt := 51) dX5_steers_47 rfl ?_
      obtain rfl := Option.some.inj h
      exact t_iret dX5_steers_51 rfl rfl
  · rw [if_pos hb2] at h
    refine s_aload_n (q := 10) dX5_steers_9 rfl rfl 0 rfl ?_
    refine s_iconst (q := 11) (v := 0) dX5_steers_10 rfl rfl ?_
    obtain ⟨q7, hc7, h⟩ := bnd h
    try dsimp only at h
    refine t_callV (q := 14) (N := mX5_finding) (a := eB E + 0) [.int 0] dX5_steers_11 rfl nkX5_finding vkX5_finding lX5_61 ⟨Nat.le_of_ble_eq_true rfl, Nat.le_of_ble_eq_true rfl⟩ (rc_obj (k := 0) rfl rfl) rfl rfl (Nat.le_of_ble_eq_true rfl) (Nat.le_of_ble_eq_true rfl) (T_X5_finding_0 E _ hc7) ?_
    obtain rfl := Option.some.inj h
    exact t_iret dX5_steers_14 rfl rfl
