-- X5_seed
def G_X5_seed_0 (x1 : Int32) (S : ST) : Option (Int32 × ST) := some ((S.1 1 12), (wr S 1 12 x1))
set_option maxHeartbeats 4000000 in
set_option maxRecDepth 100000 in
theorem T_X5_seed_0 (E : EV) (x1 : Int32) {S : ST} {w : (Int32 × ST)} (h : G_X5_seed_0 x1 S = some w) : SD E mX5_seed 0 [(0, .ref (eB E + 0)), (1, .int x1)] [] S (some (.int w.1)) w.2 := by
  unfold G_X5_seed_0 at h
  refine s_aload_n (q := 1) dX5_seed_0 rfl rfl 0 rfl ?_
  refine t_getR (q := 4) (k := 0) (f := 0) (t := 1) dX5_seed_1 rfl rfl rfl rfl inX5 (Nat.le_of_ble_eq_true rfl) fX5_10 ?_
  refine t_getI (q := 7) (k := 1) (f := 12) (v := (S.1 1 12)) dX5_seed_4 rfl rfl rfl rfl inX1 (Nat.le_of_ble_eq_true rfl) fX5_223 rfl ?_
  refine s_istore_n (q := 8) (lv' := [(2, .int (S.1 1 12)), (0, .ref (eB E + 0)), (1, .int x1)]) dX5_seed_7 rfl rfl (Nat.le_of_ble_eq_true rfl) rfl ?_
  refine s_aload_n (q := 9) dX5_seed_8 rfl rfl 1 rfl ?_
  refine t_getR (q := 12) (k := 0) (f := 0) (t := 1) dX5_seed_9 rfl rfl rfl rfl inX5 (Nat.le_of_ble_eq_true rfl) fX5_10 ?_
  refine s_iload_n (q := 13) dX5_seed_12 rfl rfl 2 rfl ?_
  refine t_putI (q := 16) (k := 1) (f := 12) dX5_seed_13 rfl rfl rfl rfl inX1 tyX1_ok nmX1 (Nat.le_of_ble_eq_true rfl) fX5_223 rfl rfl rfl ?_
  refine s_iload_n (q := 17) dX5_seed_16 rfl rfl 0 rfl ?_
  obtain rfl := Option.some.inj h
  exact t_iret dX5_seed_17 rfl rfl
-- X6_seed
def G_X6_seed_51 (x1 : Int32) (S : ST) : Option (Int32 × ST) := some ((S.1 52 3), (wr S 52 3 x1))
set_option maxHeartbeats 4000000 in
set_option maxRecDepth 100000 in
theorem T_X6_seed_51 (E : EV) (x1 : Int32) {S : ST} {w : (Int32 × ST)} (h : G_X6_seed_51 x1 S = some w) : SD E mX6_seed 0 [(0, .ref (eB E + 51)), (1, .int x1)] [] S (some (.int w.1)) w.2 := by
  unfold G_X6_seed_51 at h
  refine s_aload_n (q := 1) dX6_seed_0 rfl rfl 0 rfl ?_
  refine t_getR (q := 4) (k := 51) (f := 0) (t := 52) dX6_seed_1 rfl rfl rfl rfl inX6 (Nat.le_of_ble_eq_true rfl) fX6_9 ?_
  refine s_iconst (q := 5) (v := 3) dX6_seed_4 rfl rfl ?_
  refine u_iald (q := 6) (k := 52) (j := 3) (v := (S.1 52 3)) dX6_seed_5 rfl rfl (inB_in (by decide)) (by decide) rfl ?_
  refine s_istore_n (q := 7) (lv' := [(2, .int (S.1 52 3)), (0, .ref (eB E + 51)), (1, .int x1)]) dX6_seed_6 rfl rfl (Nat.le_of_ble_eq_true rfl) rfl ?_
  refine s_aload_n (q := 8) dX6_seed_7 rfl rfl 1 rfl ?_
  refine t_getR (q := 11) (k := 51) (f := 0) (t := 52) dX6_seed_8 rfl rfl rfl rfl inX6 (Nat.le_of_ble_eq_true rfl) fX6_9 ?_
  refine s_iconst (q := 12) (v := 3) dX6_seed_11 rfl rfl ?_
  refine s_iload_n (q := 13) dX6_seed_12 rfl rfl 2 rfl ?_
  refine u_iast (q := 14) (k := 52) (j := 3) dX6_seed_13 rfl rfl (inB_in (by decide)) (by decide) ?_
  refine s_iload_n (q := 15) dX6_seed_14 rfl rfl 0 rfl ?_
  obtain rfl := Option.some.inj h
  exact t_iret dX6_seed_15 rfl rfl
-- X2_append
def G_X2_append_32_4 : Nat → Int32 → Int32 → ST → Option (ST)
  | 0, _, _, _ => none
  | n + 1, x1, x3, S => (if x3 < 0 then some (S) else (if inB (S.1 32 1) 120 = true then G_X2_append_32_4 n x1 (x3 + (-1)) (wr (wr S 33 ((S.1 32 1).toNatClampNeg) (vp_nar .byte ((x1 >>> ((8 * x3) &&& 31)).toInt8.toInt32))) 32 1 ((S.1 32 1) + 1)) else none))
set_option maxHeartbeats 4000000 in
set_option maxRecDepth 100000 in
theorem T_X2_append_32_4 (E : EV) : ∀ (n : Nat) (x1 : Int32) (x3 : Int32) (S : ST), ∀ (w : (ST)), G_X2_append_32_4 n x1 x3 S = some w → ∀ {Q : Option Value → ST → Prop}, SS E mX2_append 40 [] [] w Q → SS E mX2_append 4 [(0, .ref (eB E + 32)), (1, .int x1), (3, .int x3)] [] S Q := by
  intro n
  induction n with
  | zero =>
    intro x1 x3 S w h
    cases h
  | succ n ih =>
    intro x1 x3 S w h Q K
    unfold G_X2_append_32_4 at h
    refine s_iload_n (q := 5) dX2_append_4 rfl rfl 2 rfl ?_
    refine s_if_lt (q := 8) (tgt := 40) dX2_append_5 rfl rfl (fun hb1 => ?_) (fun hb1 => ?_)
    · rw [if_pos hb1] at h
      obtain rfl := Option.some.inj h
      exact t_sub [] rfl K
    · rw [if_neg hb1] at h
      refine s_aload_n (q := 9) dX2_append_8 rfl rfl 0 rfl ?_
      refine t_getR (q := 12) (k := 32) (f := 0) (t := 33) dX2_append_9 rfl rfl rfl rfl inX2 (Nat.le_of_ble_eq_true rfl) fX2_9 ?_
      refine s_aload_n (q := 13) dX2_append_12 rfl rfl 0 rfl ?_
      refine t_getI (q := 16) (k := 32) (f := 1) (v := (S.1 32 1)) dX2_append_13 rfl rfl rfl rfl inX2 (Nat.le_of_ble_eq_true rfl) fX2_15 rfl ?_
      refine s_iload_n (q := 17) dX2_append_16 rfl rfl 1 rfl ?_
      refine s_bipush (q := 19) (v := 8) dX2_append_17 rfl rfl ?_
      refine s_iload_n (q := 20) dX2_append_19 rfl rfl 2 rfl ?_
      refine s_imul (q := 21) dX2_append_20 rfl ?_
      refine s_ishr (q := 22) dX2_append_21 rfl ?_
      refine s_i2b (q := 23) dX2_append_22 rfl ?_
      obtain ⟨hg2, h⟩ := chk_some h
      refine u_bast (q := 24) (k := 33) dX2_append_23 rfl rfl (inB_in hg2) rfl ?_
      refine s_aload_n (q := 25) dX2_append_24 rfl rfl 0 rfl ?_
      refine s_dup (q := 26) dX2_append_25 rfl rfl ?_
      refine t_getI (q := 29) (k := 32) (f := 1) (v := (S.1 32 1)) dX2_append_26 rfl rfl rfl rfl inX2 (Nat.le_of_ble_eq_true rfl) fX2_15 rfl ?_
      refine s_iconst (q := 30) (v := 1) dX2_append_29 rfl rfl ?_
      refine s_iadd (q := 31) dX2_append_30 rfl ?_
      refine t_putI (q := 34) (k := 32) (f := 1) dX2_append_31 rfl rfl rfl rfl inX2 tyX2_ok nmX2 (Nat.le_of_ble_eq_true rfl) fX2_15 rfl rfl rfl ?_
      refine s_iinc (q := 37) (j := 2) (v := (x3 + (-1))) (lv' := [(3, .int (x3 + (-1))), (0, .ref (eB E + 32)), (1, .int x1)]) dX2_append_34 rfl rfl rfl (Nat.le_of_ble_eq_true rfl) rfl ?_
      refine s_goto (tgt := 4) dX2_append_37 rfl ?_
      exact t_sub [1, 2, 0] rfl (ih _ _ _ _ h K)
def G_X2_append_32 (x1 : Int32) (x2 : Int32) (S : ST) : Option (Unit × ST) := (G_X2_append_32_4 3000 x1 (x2 - 1) S).bind fun q3 => some ((), q3)
set_option maxHeartbeats 4000000 in
set_option maxRecDepth 100000 in
theorem T_X2_append_32 (E : EV) (x1 : Int32) (x2 : Int32) {S : ST} {w : (Unit × ST)} (h : G_X2_append_32 x1 x2 S = some w) : SD E mX2_append 0 [(0, .ref (eB E + 32)), (1, .int x1), (2, .int x2)] [] S none w.2 := by
  unfold G_X2_append_32 at h
  refine s_iload_n (q := 1) dX2_append_0 rfl rfl 2 rfl ?_
  refine s_iconst (q := 2) (v := 1) dX2_append_1 rfl rfl ?_
  refine s_isub (q := 3) dX2_append_2 rfl ?_
  refine s_istore_n (q := 4) (lv' := [(3, .int (x2 - 1)), (0, .ref (eB E + 32)), (1, .int x1), (2, .int x2)]) dX2_append_3 rfl rfl (Nat.le_of_ble_eq_true rfl) rfl ?_
  obtain ⟨q3, hc3, h⟩ := bnd h
  try dsimp only at h
  refine t_sub [1, 2, 0] rfl (T_X2_append_32_4 E _ _ _ _ _ hc3 ?_)
  obtain rfl := Option.some.inj h
  exact t_vret dX2_append_40 rfl rfl
-- X5_feed
def G_X5_feed_0 (x1 : Int32) (x2 : Int32) (S : ST) : Option (Int32 × ST) := (if x2 < 1 then ((G_X5_finding_0 0 S).bind fun q2 => some (q2.1, q2.2)) else (if x2 ≤ 4 then (if ((S.1 32 1) + x2) ≤ 120 then ((G_X2_append_32 x1 x2 S).bind fun q5 => some ((q5.2.1 32 1), q5.2)) else ((G_X5_finding_0 1 S).bind fun q6 => some (q6.1, q6.2))) else ((G_X5_finding_0 0 S).bind fun q7 => some (q7.1, q7.2))))
set_option maxHeartbeats 4000000 in
set_option maxRecDepth 100000 in
theorem T_X5_feed_0 (E : EV) (x1 : Int32) (x2 : Int32) {S : ST} {w : (Int32 × ST)} (h : G_X5_feed_0 x1 x2 S = some w) : SD E mX5_feed 0 [(0, .ref (eB E + 0)), (1, .int x1), (2, .int x2)] [] S (some (.int w.1)) w.2 := by
  unfold G_X5_feed_0 at h
  refine s_iload_n (q := 1) dX5_feed_0 rfl rfl 2 rfl ?_
  refine s_iconst (q := 2) (v := 1) dX5_feed_1 rfl rfl ?_
  refine s_icmp_lt (q := 5) (tgt := 10) dX5_feed_2 rfl rfl (fun hb1 => ?_) (fun hb1 => ?_)
  · rw [if_pos hb1] at h
    refine s_aload_n (q := 11) dX5_feed_10 rfl rfl 0 rfl ?_
    refine s_iconst (q := 12) (v := 0) dX5_feed_11 rfl rfl ?_
    obtain ⟨q2, hc2, h⟩ := bnd h
    try dsimp only at h
    refine t_callV (q := 15) (N := mX5_finding) (a := eB E + 0) [.int 0] dX5_feed_12 rfl nkX5_finding vkX5_finding lX5_61 ⟨Nat.le_of_ble_eq_true rfl, Nat.le_of_ble_eq_true rfl⟩ (rc_obj (k := 0) rfl rfl) rfl rfl (Nat.le_of_ble_eq_true rfl) (Nat.le_of_ble_eq_true rfl) (T_X5_finding_0 E _ hc2) ?_
    obtain rfl := Option.some.inj h
    exact t_iret dX5_feed_15 rfl rfl
  · rw [if_neg hb1] at h
    refine s_iload_n (q := 6) dX5_feed_5 rfl rfl 2 rfl ?_
    refine s_iconst (q := 7) (v := 4) dX5_feed_6 rfl rfl ?_
    refine s_icmp_le (q := 10) (tgt := 16) dX5_feed_7 rfl rfl (fun hb3 => ?_) (fun hb3 => ?_)
    · rw [if_pos hb3] at h
      refine s_aload_n (q := 17) dX5_feed_16 rfl rfl 0 rfl ?_
      refine t_getR (q := 20) (k := 0) (f := 4) (t := 31) dX5_feed_17 rfl rfl rfl rfl inX5 (Nat.le_of_ble_eq_true rfl) fX5_29 ?_
      refine t_getR (q := 23) (k := 31) (f := 0) (t := 32) dX5_feed_20 rfl rfl rfl rfl inX3 (Nat.le_of_ble_eq_true rfl) fX5_226 ?_
      refine t_getI (q := 26) (k := 32) (f := 1) (v := (S.1 32 1)) dX5_feed_23 rfl rfl rfl rfl inX2 (Nat.le_of_ble_eq_true rfl) fX5_230 rfl ?_
      refine s_iload_n (q := 27) dX5_feed_26 rfl rfl 2 rfl ?_
      refine s_iadd (q := 28) dX5_feed_27 rfl ?_
      refine s_bipush (q := 30) (v := 120) dX5_feed_28 rfl rfl ?_
      refine s_icmp_le (q := 33) (tgt := 39) dX5_feed_30 rfl rfl (fun hb4 => ?_) (fun hb4 => ?_)
      · rw [if_pos hb4] at h
        refine s_aload_n (q := 40) dX5_feed_39 rfl rfl 0 rfl ?_
        refine t_getR (q := 43) (k := 0) (f := 4) (t := 31) dX5_feed_40 rfl rfl rfl rfl inX5 (Nat.le_of_ble_eq_true rfl) fX5_29 ?_
        refine t_getR (q := 46) (k := 31) (f := 0) (t := 32) dX5_feed_43 rfl rfl rfl rfl inX3 (Nat.le_of_ble_eq_true rfl) fX5_226 ?_
        refine s_iload_n (q := 47) dX5_feed_46 rfl rfl 1 rfl ?_
        refine s_iload_n (q := 48) dX5_feed_47 rfl rfl 2 rfl ?_
        obtain ⟨q5, hc5, h⟩ := bnd h
        try dsimp only at h
        refine t_callV (q := 51) (N := mX2_append) (a := eB E + 32) [.int x1, .int x2] dX5_feed_48 rfl nkX2_append vkX2_append lX5_235 ⟨Nat.le_of_ble_eq_true rfl, Nat.le_of_ble_eq_true rfl⟩ (rc_obj (k := 32) rfl rfl) rfl rfl (Nat.le_of_ble_eq_true rfl) (Nat.le_of_ble_eq_true rfl) (T_X2_append_32 E _ _ hc5) ?_
        refine s_aload_n (q := 52) dX5_feed_51 rfl rfl 0 rfl ?_
        refine t_getR (q := 55) (k := 0) (f := 4) (t := 31) dX5_feed_52 rfl rfl rfl rfl inX5 (Nat.le_of_ble_eq_true rfl) fX5_29 ?_
        refine t_getR (q := 58) (k := 31) (f := 0) (t := 32) dX5_feed_55 rfl rfl rfl rfl inX3 (Nat.le_of_ble_eq_true rfl) fX5_226 ?_
        refine t_getI (q := 61) (k := 32) (f := 1) (v := (q5.2.1 32 1)) dX5_feed_58 rfl rfl rfl rfl inX2 (Nat.le_of_ble_eq_true rfl) fX5_230 rfl ?_
        obtain rfl := Option.some.inj h
        exact t_iret dX5_feed_61 rfl rfl
      · rw [if_neg hb4] at h
        refine s_aload_n (q := 34) dX5_feed_33 rfl rfl 0 rfl ?_
        refine s_iconst (q := 35) (v := 1) dX5_feed_34 rfl rfl ?_
        obtain ⟨q6, hc6, h⟩ := bnd h
        try dsimp only at h
        refine t_callV (q := 38) (N := mX5_finding) (a := eB E + 0) [.int 1] dX5_feed_35 rfl nkX5_finding vkX5_finding lX5_61 ⟨Nat.le_of_ble_eq_true rfl, Nat.le_of_ble_eq_true rfl⟩ (rc_obj (k := 0) rfl rfl) rfl rfl (Nat.le_of_ble_eq_true rfl) (Nat.le_of_ble_eq_true rfl) (T_X5_finding_0 E _ hc6) ?_
        obtain rfl := Option.some.inj h
        exact t_iret dX5_feed_38 rfl rfl
    · rw [if_neg hb3] at h
      refine s_aload_n (q := 11) dX5_feed_10 rfl rfl 0 rfl ?_
      refine s_iconst (q := 12) (v := 0) dX5_feed_11 rfl rfl ?_
      obtain ⟨q7, hc7, h⟩ := bnd h
      try dsimp only at h
      refine t_callV (q := 15) (N := mX5_finding) (a := eB E + 0) [.int 0] dX5_feed_12 rfl nkX5_finding vkX5_finding lX5_61 ⟨Nat.le_of_ble_eq_true rfl, Nat.le_of_ble_eq_true rfl⟩ (rc_obj (k := 0) rfl rfl) rfl rfl (Nat.le_of_ble_eq_true rfl) (Nat.le_of_ble_eq_true rfl) (T_X5_finding_0 E _ hc7) ?_
      obtain rfl := Option.some.inj h
      exact t_iret dX5_feed_15 rfl rfl
-- X6_feed
def G_X6_feed_51_36 : Nat → Int32 → Int32 → ST → Option (ST)
  | 0, _, _, _ => none
  | n + 1, x1, x3, S => (if x3 < 0 then some (S) else (if inB (S.1 51 7) 120 = true then G_X6_feed_51_36 n x1 (x3 + (-1)) (wr (wr S 57 ((S.1 51 7).toNatClampNeg) ((x1 >>> ((8 * x3) &&& 31)) &&& 255)) 51 7 ((S.1 51 7) + 1)) else none))
set_option maxHeartbeats 4000000 in
set_option maxRecDepth 100000 in
theorem T_X6_feed_51_36 (E : EV) : ∀ (n : Nat) (x1 : Int32) (x3 : Int32) (S : ST), ∀ (w : (ST)), G_X6_feed_51_36 n x1 x3 S = some w → ∀ {Q : Option Value → ST → Prop}, SS E mX6_feed 75 [(0, .ref (eB E + 51))] [] w Q → SS E mX6_feed 36 [(0, .ref (eB E + 51)), (1, .int x1), (3, .int x3)] [] S Q := by
  intro n
  induction n with
  | zero =>
    intro x1 x3 S w h
    cases h
  | succ n ih =>
    intro x1 x3 S w h Q K
    unfold G_X6_feed_51_36 at h
    refine s_iload_n (q := 37) dX6_feed_36 rfl rfl 2 rfl ?_
    refine s_if_lt (q := 40) (tgt := 75) dX6_feed_37 rfl rfl (fun hb4 => ?_) (fun hb4 => ?_)
    · rw [if_pos hb4] at h
      obtain rfl := Option.some.inj h
      exact t_sub [0] rfl K
    · rw [if_neg hb4] at h
      refine s_aload_n (q := 41) dX6_feed_40 rfl rfl 0 rfl ?_
      refine t_getR (q := 44) (k := 51) (f := 6) (t := 57) dX6_feed_41 rfl rfl rfl rfl inX6 (Nat.le_of_ble_eq_true rfl) fX6_25 ?_
      refine s_aload_n (q := 45) dX6_feed_44 rfl rfl 0 rfl ?_
      refine t_getI (q := 48) (k := 51) (f := 7) (v := (S.1 51 7)) dX6_feed_45 rfl rfl rfl rfl inX6 (Nat.le_of_ble_eq_true rfl) fX6_198 rfl ?_
      refine s_iload_n (q := 49) dX6_feed_48 rfl rfl 1 rfl ?_
      refine s_bipush (q := 51) (v := 8) dX6_feed_49 rfl rfl ?_
      refine s_iload_n (q := 52) dX6_feed_51 rfl rfl 2 rfl ?_
      refine s_imul (q := 53) dX6_feed_52 rfl ?_
      refine s_ishr (q := 54) dX6_feed_53 rfl ?_
      refine s_sipush (q := 57) (v := 255) dX6_feed_54 rfl rfl ?_
      refine s_iand (q := 58) dX6_feed_57 rfl ?_
      obtain ⟨hg5, h⟩ := chk_some h
      refine u_iast (q := 59) (k := 57) dX6_feed_58 rfl rfl (inB_in hg5) rfl ?_
      refine s_aload_n (q := 60) dX6_feed_59 rfl rfl 0 rfl ?_
      refine s_dup (q := 61) dX6_feed_60 rfl rfl ?_
      refine t_getI (q := 64) (k := 51) (f := 7) (v := (S.1 51 7)) dX6_feed_61 rfl rfl rfl rfl inX6 (Nat.le_of_ble_eq_true rfl) fX6_198 rfl ?_
      refine s_iconst (q := 65) (v := 1) dX6_feed_64 rfl rfl ?_
      refine s_iadd (q := 66) dX6_feed_65 rfl ?_
      refine t_putI (q := 69) (k := 51) (f := 7) dX6_feed_66 rfl rfl rfl rfl inX6 tyX6_ok nmX6 (Nat.le_of_ble_eq_true rfl) fX6_198 rfl rfl rfl ?_
      refine s_iinc (q := 72) (j := 2) (v := (x3 + (-1))) (lv' := [(3, .int (x3 + (-1))), (0, .ref (eB E + 51)), (1, .int x1)]) dX6_feed_69 rfl rfl rfl (Nat.le_of_ble_eq_true rfl) rfl ?_
      refine s_goto (tgt := 36) dX6_feed_72 rfl ?_
      exact t_sub [1, 2, 0] rfl (ih _ _ _ _ h K)
def G_X6_feed_51 (x1 : Int32) (x2 : Int32) (S : ST) : Option (Int32 × ST) := ((G_X6_in1 x2 1 4 S).bind fun q1 => (if q1.1 = 0 then ((G_X6_no_51 0 q1.2).bind fun q8 => some (q8.1, q8.2)) else (if ((q1.2.1 51 7) + x2) ≤ 120 then (G_X6_feed_51_36 3000 x1 (x2 - 1) q1.2).bind fun q6 => some ((q6.1 51 7), q6) else ((G_X6_no_51 1 q1.2).bind fun q7 => some (q7.1, q7.2)))))
set_option maxHeartbeats 4000000 in
set_option maxRecDepth 100000 in
theorem T_X6_feed_51 (E : EV) (x1 : Int32) (x2 : Int32) {S : ST} {w : (Int32 × ST)} (h : G_X6_feed_51 x1 x2 S = some w) : SD E mX6_feed 0 [(0, .ref (eB E + 51)), (1, .int x1), (2, .int x2)] [] S (some (.int w.1)) w.2 := by
  unfold G_X6_feed_51 at h
  refine s_iload_n (q := 1) dX6_feed_0 rfl rfl 2 rfl ?_
  refine s_iconst (q := 2) (v := 1) dX6_feed_1 rfl rfl ?_
  refine s_iconst (q := 3) (v := 4) dX6_feed_2 rfl rfl ?_
  obtain ⟨q1, hc1, h⟩ := bnd h
  try dsimp only at h
  refine t_callS (q := 6) (N := mX6_in1) [.int x2, .int 1, .int 4] dX6_feed_3 rfl nkX6_in1 sX6_in1 lX6_54 ⟨Nat.le_of_ble_eq_true rfl, Nat.le_of_ble_eq_true rfl⟩ rfl rfl (Nat.le_of_ble_eq_true rfl) (Nat.le_of_ble_eq_true rfl) (T_X6_in1 E _ _ _ hc1) ?_
  refine s_if_ne (q := 9) (tgt := 15) dX6_feed_6 rfl rfl (fun hb2 => ?_) (fun hb2 => ?_)
  · rw [if_neg hb2] at h
    refine s_aload_n (q := 16) dX6_feed_15 rfl rfl 0 rfl ?_
    refine t_getI (q := 19) (k := 51) (f := 7) (v := (q1.2.1 51 7)) dX6_feed_16 rfl rfl rfl rfl inX6 (Nat.le_of_ble_eq_true rfl) fX6_198 rfl ?_
    refine s_iload_n (q := 20) dX6_feed_19 rfl rfl 2 rfl ?_
    refine s_iadd (q := 21) dX6_feed_20 rfl ?_
    refine s_bipush (q := 23) (v := 120) dX6_feed_21 rfl rfl ?_
    refine s_icmp_le (q := 26) (tgt := 32) dX6_feed_23 rfl rfl (fun hb3 => ?_) (fun hb3 => ?_)
    · rw [if_pos hb3] at h
      refine s_iload_n (q := 33) dX6_feed_32 rfl rfl 2 rfl ?_
      refine s_iconst (q := 34) (v := 1) dX6_feed_33 rfl rfl ?_
      refine s_isub (q := 35) dX6_feed_34 rfl ?_
      refine s_istore_n (q := 36) (lv' := [(3, .int (x2 - 1)), (0, .ref (eB E + 51)), (1, .int x1), (2, .int x2)]) dX6_feed_35 rfl rfl (Nat.le_of_ble_eq_true rfl) rfl ?_
      obtain ⟨q6, hc6, h⟩ := bnd h
      try dsimp only at h
      refine t_sub [1, 2, 0] rfl (T_X6_feed_51_36 E _ _ _ _ _ hc6 ?_)
      refine s_aload_n (q := 76) dX6_feed_75 rfl rfl 0 rfl ?_
      refine t_getI (q := 79) (k := 51) (f := 7) (v := (q6.1 51 7)) dX6_feed_76 rfl rfl rfl rfl inX6 (Nat.le_of_ble_eq_true rfl) fX6_198 rfl ?_
      obtain rfl := Option.some.inj h
      exact t_iret dX6_feed_79 rfl rfl
    · rw [if_neg hb3] at h
      refine s_aload_n (q := 27) dX6_feed_26 rfl rfl 0 rfl ?_
      refine s_iconst (q := 28) (v := 1) dX6_feed_27 rfl rfl ?_
      obtain ⟨q7, hc7, h⟩ := bnd h
      try dsimp only at h
      refine t_callV (q := 31) (N := mX6_no) (a := eB E + 51) [.int 1] dX6_feed_28 rfl nkX6_no vkX6_no lX6_94 ⟨Nat.le_of_ble_eq_true rfl, Nat.le_of_ble_eq_true rfl⟩ (rc_obj (k := 51) rfl rfl) rfl rfl (Nat.le_of_ble_eq_true rfl) (Nat.le_of_ble_eq_true rfl) (T_X6_no_51 E _ hc7) ?_
      obtain rfl := Option.some.inj h
      exact t_iret dX6_feed_31 rfl rfl
  · rw [if_pos hb2] at h
    refine s_aload_n (q := 10) dX6_feed_9 rfl rfl 0 rfl ?_
    refine s_iconst (q := 11) (v := 0) dX6_feed_10 rfl rfl ?_
    obtain ⟨q8, hc8, h⟩ := bnd h
    try dsimp only at h
    refine t_callV (q := 14) (N := mX6_no) (a := eB E + 51) [.int 0] dX6_feed_11 rfl nkX6_no vkX6_no lX6_94 ⟨Nat.le_of_ble_eq_true rfl, Nat.le_of_ble_eq_true rfl⟩ (rc_obj (k := 51) rfl rfl) rfl rfl (Nat.le_of_ble_eq_true rfl) (Nat.le_of_ble_eq_true rfl) (T_X6_no_51 E _ hc8) ?_
    obtain rfl := Option.some.inj h
    exact t_iret dX6_feed_14 rfl rfl
-- X5_wipe
def G_X5_wipe_0  (S : ST) : Option (Int32 × ST) := some ((S.1 32 1), (wr S 32 1 0))
set_option maxHeartbeats 4000000 in
set_option maxRecDepth 100000 in
theorem T_X5_wipe_0 (E : EV)  {S : ST} {w : (Int32 × ST)} (h : G_X5_wipe_0  S = some w) : SD E mX5_wipe 0 [(0, .ref (eB E + 0))] [] S (some (.int w.1)) w.2 := by
  unfold G_X5_wipe_0 at h
  refine s_aload_n (q := 1) dX5_wipe_0 rfl rfl 0 rfl ?_
  refine t_getR (q := 4) (k := 0) (f := 4) (t := 31) dX5_wipe_1 rfl rfl rfl rfl inX5 (Nat.le_of_ble_eq_true rfl) fX5_29 ?_
  refine t_getR (q := 7) (k := 31) (f := 0) (t := 32) dX5_wipe_4 rfl rfl rfl rfl inX3 (Nat.le_of_ble_eq_true rfl) fX5_226 ?_
  refine t_getI (q := 10) (k := 32) (f := 1) (v := (S.1 32 1)) dX5_wipe_7 rfl rfl rfl rfl inX2 (Nat.le_of_ble_eq_true rfl) fX5_230 rfl ?_
  refine s_istore_n (q := 11) (lv' := [(1, .int (S.1 32 1)), (0, .ref (eB E + 0))]) dX5_wipe_10 rfl rfl (Nat.le_of_ble_eq_true rfl) rfl ?_
  refine s_aload_n (q := 12) dX5_wipe_11 rfl rfl 1 rfl ?_
  refine t_getR (q := 15) (k := 0) (f := 4) (t := 31) dX5_wipe_12 rfl rfl rfl rfl inX5 (Nat.le_of_ble_eq_true rfl) fX5_29 ?_
  refine t_getR (q := 18) (k := 31) (f := 0) (t := 32) dX5_wipe_15 rfl rfl rfl rfl inX3 (Nat.le_of_ble_eq_true rfl) fX5_226 ?_
  refine s_iconst (q := 19) (v := 0) dX5_wipe_18 rfl rfl ?_
  refine t_putI (q := 22) (k := 32) (f := 1) dX5_wipe_19 rfl rfl rfl rfl inX2 tyX2_ok nmX2 (Nat.le_of_ble_eq_true rfl) fX5_230 rfl rfl rfl ?_
  refine s_iload_n (q := 23) dX5_wipe_22 rfl rfl 0 rfl ?_
  obtain rfl := Option.some.inj h
  exact t_iret dX5_wipe_23 rfl rfl
-- X6_wipe
def G_X6_wipe_51  (S : ST) : Option (Int32 × ST) := some ((S.1 51 7), (wr S 51 7 0))
set_option maxHeartbeats 4000000 in
set_option maxRecDepth 100000 in
theorem T_X6_wipe_51 (E : EV)  {S : ST} {w : (Int32 × ST)} (h : G_X6_wipe_51  S = some w) : SD E mX6_wipe 0 [(0, .ref (eB E + 51))] [] S (some (.int w.1)) w.2 := by
  unfold G_X6_wipe_51 at h
  refine s_aload_n (q := 1) dX6_wipe_0 rfl rfl 0 rfl ?_
  refine t_getI (q := 4) (k := 51) (f := 7) (v := (S.1 51 7)) dX6_wipe_1 rfl rfl rfl rfl inX6 (Nat.le_of_ble_eq_true rfl) fX6_198 rfl ?_
  refine s_istore_n (q := 5) (lv' := [(1, .int (S.1 51 7)), (0, .ref (eB E + 51))]) dX6_wipe_4 rfl rfl (Nat.le_of_ble_eq_true rfl) rfl ?_
  refine s_aload_n (q := 6) dX6_wipe_5 rfl rfl 1 rfl ?_
  refine s_iconst (q := 7) (v := 0) dX6_wipe_6 rfl rfl ?_
  refine t_putI (q := 10) (k := 51) (f := 7) dX6_wipe_7 rfl rfl rfl rfl inX6 tyX6_ok nmX6 (Nat.le_of_ble_eq_true rfl) fX6_198 rfl rfl rfl ?_
  refine s_iload_n (q := 11) dX6_wipe_10 rfl rfl 0 rfl ?_
  obtain rfl := Option.some.inj h
  exact t_iret dX6_wipe_11 rfl rfl
-- X1_become
def G_X1_become_21_1  (S : ST) : Option (Unit × ST) := some ((), (wr (cpS (cpS (wr (wr (cpS (cpS (cpS (cpS (cpS (cpS (cpS (wr S 21 0 (S.1 1 0)) 2 22 0 0 10) 3 23 0 0 10) 4 24 0 0 10) 5 25 0 0 10) 6 26 0 0 4) 7 27 0 0 4) 8 28 0 0 4) 21 8 (S.1 1 8)) 21 9 (S.1 1 9)) 9 29 0 0 6) 10 30 0 0 10) 21 12 (S.1 1 12)))
set_option maxHeartbeats 4000000 in
set_option maxRecDepth 100000 in
theorem T_X1_become_21_1 (E : EV)  {S : ST} {w : (Unit × ST)} (h : G_X1_become_21_1  S = some w) : SD E mX1_become 0 [(0, .ref (eB E + 21)), (1, .ref (eB E + 1))] [] S none w.2 := by
  unfold G_X1_become_21_1 at h
  refine s_aload_n (q := 1) dX1_become_0 rfl rfl 0 rfl ?_
  refine s_aload_n (q := 2) dX1_become_1 rfl rfl 1 rfl ?_
  refine t_getI (q := 5) (k := 1) (f := 0) (v := (S.1 1 0)) dX1_become_2 rfl rfl rfl rfl inX1 (Nat.le_of_ble_eq_true rfl) fX1_9 rfl ?_
  refine t_putI (q := 8) (k := 21) (f := 0) dX1_become_5 rfl rfl rfl rfl inX1 tyX1_ok nmX1 (Nat.le_of_ble_eq_true rfl) fX1_9 rfl rfl rfl ?_
  refine s_aload_n (q := 9) dX1_become_8 rfl rfl 1 rfl ?_
  refine t_getR (q := 12) (k := 1) (f := 1) (t := 2) dX1_become_9 rfl rfl rfl rfl inX1 (Nat.le_of_ble_eq_true rfl) fX1_15 ?_
  refine s_iconst (q := 13) (v := 0) dX1_become_12 rfl rfl ?_
  refine s_aload_n (q := 14) dX1_become_13 rfl rfl 0 rfl ?_
  refine t_getR (q := 17) (k := 21) (f := 1) (t := 22) dX1_become_14 rfl rfl rfl rfl inX1 (Nat.le_of_ble_eq_true rfl) fX1_15 ?_
  refine s_iconst (q := 18) (v := 0) dX1_become_17 rfl rfl ?_
  refine s_bipush (q := 20) (v := 10) dX1_become_18 rfl rfl ?_
  refine u_copy (q := 23) (k0 := 2) (k1 := 22) (js := 0) (jd := 0) (jw := 10) dX1_become_20 rfl lX1_58 rfl rfl (by decide) (by decide) (by decide) (by decide) (Nat.le_of_ble_eq_true rfl) (Nat.le_of_ble_eq_true rfl) ?_
  refine s_aload_n (q := 24) dX1_become_23 rfl rfl 1 rfl ?_
  refine t_getR (q := 27) (k := 1) (f := 2) (t := 3) dX1_become_24 rfl rfl rfl rfl inX1 (Nat.le_of_ble_eq_true rfl) fX1_19 ?_
  refine s_iconst (q := 28) (v := 0) dX1_become_27 rfl rfl ?_
  refine s_aload_n (q := 29) dX1_become_28 rfl rfl 0 rfl ?_
  refine t_getR (q := 32) (k := 21) (f := 2) (t := 23) dX1_become_29 rfl rfl rfl rfl inX1 (Nat.le_of_ble_eq_true rfl) fX1_19 ?_
  refine s_iconst (q := 33) (v := 0) dX1_become_32 rfl rfl ?_
  refine s_bipush (q := 35) (v := 10) dX1_become_33 rfl rfl ?_
  refine u_copy (q := 38) (k0 := 3) (k1 := 23) (js := 0) (jd := 0) (jw := 10) dX1_become_35 rfl lX1_58 rfl rfl (by decide) (by decide) (by decide) (by decide) (Nat.le_of_ble_eq_true rfl) (Nat.le_of_ble_eq_true rfl) ?_
  refine s_aload_n (q := 39) dX1_become_38 rfl rfl 1 rfl ?_
  refine t_getR (q := 42) (k := 1) (f := 3) (t := 4) dX1_become_39 rfl rfl rfl rfl inX1 (Nat.le_of_ble_eq_true rfl) fX1_22 ?_
  refine s_iconst (q := 43) (v := 0) dX1_become_42 rfl rfl ?_
  refine s_aload_n (q := 44) dX1_become_43 rfl rfl 0 rfl ?_
  refine t_getR (q := 47) (k := 21) (f := 3) (t := 24) dX1_become_44 rfl rfl rfl rfl inX1 (Nat.le_of_ble_eq_true rfl) fX1_22 ?_
  refine s_iconst (q := 48) (v := 0) dX1_become_47 rfl rfl ?_
  refine s_bipush (q := 50) (v := 10) dX1_become_48 rfl rfl ?_
  refine u_copy (q := 53) (k0 := 4) (k1 := 24) (js := 0) (jd := 0) (jw := 10) dX1_become_50 rfl lX1_58 rfl rfl (by decide) (by decide) (by decide) (by decide) (Nat.le_of_ble_eq_true rfl) (Nat.le_of_ble_eq_true rfl) ?_
  refine s_aload_n (q := 54) dX1_become_53 rfl rfl 1 rfl ?_
  refine t_getR (q := 57) (k := 1) (f := 4) (t := 5) dX1_become_54 rfl rfl rfl rfl inX1 (Nat.le_of_ble_eq_true rfl) fX1_25 ?_
  refine s_iconst (q := 58) (v := 0) dX1_become_57 rfl rfl ?_
  refine s_aload_n (q := 59) dX1_become_58 rfl rfl 0 rfl ?_
  refine t_getR (q := 62) (k := 21) (f := 4) (t := 25) dX1_become_59 rfl rfl rfl rfl inX1 (Nat.le_of_ble_eq_true rfl) fX1_25 ?_
  refine s_iconst (q := 63) (v := 0) dX1_become_62 rfl rfl ?_
  refine s_bipush (q := 65) (v := 10) dX1_become_63 rfl rfl ?_
  refine u_copy (q := 68) (k0 := 5) (k1 := 25) (js := 0) (jd := 0) (jw := 10) dX1_become_65 rfl lX1_58 rfl rfl (by decide) (by decide) (by decide) (by decide) (Nat.le_of_ble_eq_true rfl) (Nat.le_of_ble_eq_true rfl) ?_
  refine s_aload_n (q := 69) dX1_become_68 rfl rfl 1 rfl ?_
  refine t_getR (q := 72) (k := 1) (f := 5) (t := 6) dX1_become_69 rfl rfl rfl rfl inX1 (Nat.le_of_ble_eq_true rfl) fX1_28 ?_
  refine s_iconst (q := 73) (v := 0) dX1_become_72 rfl rfl ?_
  refine s_aload_n (q := 74) dX1_become_73 rfl rfl 0 rfl ?_
  refine t_getR (q := 77) (k := 21) (f := 5) (t := 26) dX1_become_74 rfl rfl rfl rfl inX1 (Nat.le_of_ble_eq_true rfl) fX1_28 ?_
  refine s_iconst (q := 78) (v := 0) dX1_become_77 rfl rfl ?_
  refine s_iconst (q := 79) (v := 4) dX1_become_78 rfl rfl ?_
  refine u_copy (q := 82) (k0 := 6) (k1 := 26) (js := 0) (jd := 0) (jw := 4) dX1_become_79 rfl lX1_58 rfl rfl (by decide) (by decide) (by decide) (by decide) (Nat.le_of_ble_eq_true rfl) (Nat.le_of_ble_eq_true rfl) ?_
  refine s_aload_n (q := 83) dX1_become_82 rfl rfl 1 rfl ?_
  refine t_getR (q := 86) (k := 1) (f := 6) (t := 7) dX1_become_83 rfl rfl rfl rfl inX1 (Nat.le_of_ble_eq_true rfl) fX1_31 ?_
  refine s_iconst (q := 87) (v := 0) dX1_become_86 rfl rfl ?_
  refine s_aload_n (q := 88) dX1_become_87 rfl rfl 0 rfl ?_
  refine t_getR (q := 91) (k := 21) (f := 6) (t := 27) dX1_become_88 rfl rfl rfl rfl inX1 (Nat.le_of_ble_eq_true rfl) fX1_31 ?_
  refine s_iconst (q := 92) (v := 0) dX1_become_91 rfl rfl ?_
  refine s_iconst (q := 93) (v := 4) dX1_become_92 rfl rfl ?_
  refine u_copy (q := 96) (k0 := 7) (k1 := 27) (js := 0) (jd := 0) (jw := 4) dX1_become_93 rfl lX1_58 rfl rfl (by decide) (by decide) (by decide) (by decide) (Nat.le_of_ble_eq_true rfl) (Nat.le_of_ble_eq_true rfl) ?_
  refine s_aload_n (q := 97) dX1_become_96 rfl rfl 1 rfl ?_
  refine t_getR (q := 100) (k := 1) (f := 7) (t := 8) dX1_become_97 rfl rfl rfl rfl inX1 (Nat.le_of_ble_eq_true rfl) fX1_34 ?_
  refine s_iconst (q := 101) (v := 0) dX1_become_100 rfl rfl ?_
  refine s_aload_n (q := 102) dX1_become_101 rfl rfl 0 rfl ?_
  refine t_getR (q := 105) (k := 21) (f := 7) (t := 28) dX1_become_102 rfl rfl rfl rfl inX1 (Nat.le_of_ble_eq_true rfl) fX1_34 ?_
  refine s_iconst (q := 106) (v := 0) dX1_become_105 rfl rfl ?_
  refine s_iconst (q := 107) (v := 4) dX1_become_106 rfl rfl ?_
  refine u_copy (q := 110) (k0 := 8) (k1 := 28) (js := 0) (jd := 0) (jw := 4) dX1_become_107 rfl lX1_58 rfl rfl (by decide) (by decide) (by decide) (by decide) (Nat.le_of_ble_eq_true rfl) (Nat.le_of_ble_eq_true rfl) ?_
  refine s_aload_n (q := 111) dX1_become_110 rfl rfl 0 rfl ?_
  refine s_aload_n (q := 112) dX1_become_111 rfl rfl 1 rfl ?_
  refine t_getI (q := 115) (k := 1) (f := 8) (v := (S.1 1 8)) dX1_become_112 rfl rfl rfl rfl inX1 (Nat.le_of_ble_eq_true rfl) fX1_37 rfl ?_
  refine t_putI (q := 118) (k := 21) (f := 8) dX1_become_115 rfl rfl rfl rfl inX1 tyX1_ok nmX1 (Nat.le_of_ble_eq_true rfl) fX1_37 rfl rfl rfl ?_
  refine s_aload_n (q := 119) dX1_become_118 rfl rfl 0 rfl ?_
  refine s_aload_n (q := 120) dX1_become_119 rfl rfl 1 rfl ?_
  refine t_getI (q := 123) (k := 1) (f := 9) (v := (S.1 1 9)) dX1_become_120 rfl rfl rfl rfl inX1 (Nat.le_of_ble_eq_true rfl) fX1_40 rfl ?_
  refine t_putI (q := 126) (k := 21) (f := 9) dX1_become_123 rfl rfl rfl rfl inX1 tyX1_ok nmX1 (Nat.le_of_ble_eq_true rfl) fX1_40 rfl rfl rfl ?_
  refine s_aload_n (q := 127) dX1_become_126 rfl rfl 1 rfl ?_
  refine t_getR (q := 130) (k := 1) (f := 10) (t := 9) dX1_become_127 rfl rfl rfl rfl inX1 (Nat.le_of_ble_eq_true rfl) fX1_43 ?_
  refine s_iconst (q := 131) (v := 0) dX1_become_130 rfl rfl ?_
  refine s_aload_n (q := 132) dX1_become_131 rfl rfl 0 rfl ?_
  refine t_getR (q := 135) (k := 21) (f := 10) (t := 29) dX1_become_132 rfl rfl rfl rfl inX1 (Nat.le_of_ble_eq_true rfl) fX1_43 ?_
  refine s_iconst (q := 136) (v := 0) dX1_become_135 rfl rfl ?_
  refine s_bipush (q := 138) (v := 6) dX1_become_136 rfl rfl ?_
  refine u_copy (q := 141) (k0 := 9) (k1 := 29) (js := 0) (jd := 0) (jw := 6) dX1_become_138 rfl lX1_58 rfl rfl (by decide) (by decide) (by decide) (by decide) (Nat.le_of_ble_eq_true rfl) (Nat.le_of_ble_eq_true rfl) ?_
  refine s_aload_n (q := 142) dX1_become_141 rfl rfl 1 rfl ?_
  refine t_getR (q := 145) (k := 1) (f := 11) (t := 10) dX1_become_142 rfl rfl rfl rfl inX1 (Nat.le_of_ble_eq_true rfl) fX1_46 ?_
  refine s_iconst (q := 146) (v := 0) dX1_become_145 rfl rfl ?_
  refine s_aload_n (q := 147) dX1_become_146 rfl rfl 0 rfl ?_
  refine t_getR (q := 150) (k := 21) (f := 11) (t := 30) dX1_become_147 rfl rfl rfl rfl inX1 (Nat.le_of_ble_eq_true rfl) fX1_46 ?_
  refine s_iconst (q := 151) (v := 0) dX1_become_150 rfl rfl ?_
  refine s_bipush (q := 153) (v := 10) dX1_become_151 rfl rfl ?_
  refine u_copy (q := 156) (k0 := 10) (k1 := 30) (js := 0) (jd := 0) (jw := 10) dX1_become_153 rfl lX1_58 rfl rfl (by decide) (by decide) (by decide) (by decide) (Nat.le_of_ble_eq_true rfl) (Nat.le_of_ble_eq_true rfl) ?_
  refine s_aload_n (q := 157) dX1_become_156 rfl rfl 0 rfl ?_
  refine s_aload_n (q := 158) dX1_become_157 rfl rfl 1 rfl ?_
  refine t_getI (q := 161) (k := 1) (f := 12) (v := (S.1 1 12)) dX1_become_158 rfl rfl rfl rfl inX1 (Nat.le_of_ble_eq_true rfl) fX1_49 rfl ?_
  refine t_putI (q := 164) (k := 21) (f := 12) dX1_become_161 rfl rfl rfl rfl inX1 tyX1_ok nmX1 (Nat.le_of_ble_eq_true rfl) fX1_49 rfl rfl rfl ?_
  obtain rfl := Option.some.inj h
  exact t_vret dX1_become_164 rfl rfl
-- X2_advance
def G_X2_advance_32_0 : Nat → ST → Option (ST)
  | 0, _ => none
  | n + 1, S => (if (S.1 32 1) ≤ (S.1 32 5) then some (S) else (if inB (S.1 32 5) 120 = true then (if (S.1 33 ((S.1 32 5).toNatClampNeg)) = 32 then G_X2_advance_32_0 n  (wr S 32 5 ((S.1 32 5) + 1)) else some (S)) else none))
set_option maxHeartbeats 4000000 in
set_option maxRecDepth 100000 in
theorem T_X2_advance_32_0 (E : EV) : ∀ (n : Nat) (S : ST), ∀ (w : (ST)), G_X2_advance_32_0 n S = some w → ∀ {Q : Option Value → ST → Prop}, SS E mX2_advance 38 [(0, .ref (eB E + 32))] [] w Q → SS E mX2_advance 0 [(0, .ref (eB E + 32))] [] S Q := by
  intro n
  induction n with
  | zero =>
    intro  S w h
    cases h
  | succ n ih =>
    intro  S w h Q K
    unfold G_X2_advance_32_0 at h
    refine s_aload_n (q := 1) dX2_advance_0 rfl rfl 0 rfl ?_
    refine t_getI (q := 4) (k := 32) (f := 5) (v := (S.1 32 5)) dX2_advance_1 rfl rfl rfl rfl inX2 (Nat.le_of_ble_eq_true rfl) fX2_28 rfl ?_
    refine s_aload_n (q := 5) dX2_advance_4 rfl rfl 0 rfl ?_
    refine t_getI (q := 8) (k := 32) (f := 1) (v := (S.1 32 1)) dX2_advance_5 rfl rfl rfl rfl inX2 (Nat.le_of_ble_eq_true rfl) fX2_15 rfl ?_
    refine s_icmp_ge (q := 11) (tgt := 38) dX2_advance_8 rfl rfl (fun hb1 => ?_) (fun hb1 => ?_)
    · rw [if_pos hb1] at h
      obtain rfl := Option.some.inj h
      exact t_sub [0] rfl K
    · rw [if_neg hb1] at h
      refine s_aload_n (q := 12) dX2_advance_11 rfl rfl 0 rfl ?_
      refine t_getR (q := 15) (k := 32) (f := 0) (t := 33) dX2_advance_12 rfl rfl rfl rfl inX2 (Nat.le_of_ble_eq_true rfl) fX2_9 ?_
      refine s_aload_n (q := 16) dX2_advance_15 rfl rfl 0 rfl ?_
      refine t_getI (q := 19) (k := 32) (f := 5) (v := (S.1 32 5)) dX2_advance_16 rfl rfl rfl rfl inX2 (Nat.le_of_ble_eq_true rfl) fX2_28 rfl ?_
      obtain ⟨hg2, h⟩ := chk_some h
      refine u_bald (q := 20) (k := 33) (v := (S.1 33 ((S.1 32 5).toNatClampNeg))) dX2_advance_19 rfl rfl (inB_in hg2) rfl rfl ?_
      refine s_bipush (q := 22) (v := 32) dX2_advance_20 rfl rfl ?_
      refine s_icmp_ne (q := 25) (tgt := 38) dX2_advance_22 rfl rfl (fun hb3 => ?_) (fun hb3 => ?_)
      · rw [if_neg hb3] at h
        obtain rfl := Option.some.inj h
        exact t_sub [0] rfl K
      · rw [if_pos hb3] at h
        refine s_aload_n (q := 26) dX2_advance_25 rfl rfl 0 rfl ?_
        refine s_dup (q := 27) dX2_advance_26 rfl rfl ?_
        refine t_getI (q := 30) (k := 32) (f := 5) (v := (S.1 32 5)) dX2_advance_27 rfl rfl rfl rfl inX2 (Nat.le_of_ble_eq_true rfl) fX2_28 rfl ?_
        refine s_iconst (q := 31) (v := 1) dX2_advance_30 rfl rfl ?_
        refine s_iadd (q := 32) dX2_advance_31 rfl ?_
        refine t_putI (q := 35) (k := 32) (f := 5) dX2_advance_32 rfl rfl rfl rfl inX2 tyX2_ok nmX2 (Nat.le_of_ble_eq_true rfl) fX2_28 rfl rfl rfl ?_
        refine s_goto (tgt := 0) dX2_advance_35 rfl ?_
        exact t_sub [0] rfl (ih  _ _ h K)
def G_X2_advance_32_298 (y0 : Int32) (S : ST) : Option (Unit × ST) := some ((), (wr (wr S 32 2 y0) 32 5 ((S.1 32 5) + 1)))
set_option maxHeartbeats 4000000 in
set_option maxRecDepth 100000 in
theorem T_X2_advance_32_298 (E : EV) (y0 : Int32) {S : ST} {w : (Unit × ST)} (h : G_X2_advance_32_298 y0 S = some w) : SD E mX2_advance 298 [(0, .ref (eB E + 32))] [.int y0, .ref (eB E + 32)] S none w.2 := by
  unfold G_X2_advance_32_298 at h
  refine t_putI (q := 301) (k := 32) (f := 2) dX2_advance_298 rfl rfl rfl rfl inX2 tyX2_ok nmX2 (Nat.le_of_ble_eq_true rfl) fX2_19 rfl rfl rfl ?_
  refine s_aload_n (q := 302) dX2_advance_301 rfl rfl 0 rfl ?_
  refine s_dup (q := 303) dX2_advance_302 rfl rfl ?_
  refine t_getI (q := 306) (k := 32) (f := 5) (v := (S.1 32 5)) dX2_advance_303 rfl rfl rfl rfl inX2 (Nat.le_of_ble_eq_true rfl) fX2_28 rfl ?_
  refine s_iconst (q := 307) (v := 1) dX2_advance_306 rfl rfl ?_
  refine s_iadd (q := 308) dX2_advance_307 rfl ?_
  refine t_putI (q := 311) (k := 32) (f := 5) dX2_advance_308 rfl rfl rfl rfl inX2 tyX2_ok nmX2 (Nat.le_of_ble_eq_true rfl) fX2_28 rfl rfl rfl ?_
  obtain rfl := Option.some.inj h
  exact t_vret dX2_advance_311 rfl rfl
def G_X2_advance_32_278  (S : ST) : Option (Unit × ST) := (if inB (S.1 32 3) 120 = true then (if (S.1 33 ((S.1 32 3).toNatClampNeg)) = 59 then G_X2_advance_32_298 3 S else G_X2_advance_32_298 4 S) else none)
set_option maxHeartbeats 4000000 in
set_option maxRecDepth 100000 in
theorem T_X2_advance_32_278 (E : EV)  {S : ST} {w : (Unit × ST)} (h : G_X2_advance_32_278  S = some w) : SD E mX2_advance 278 [(0, .ref (eB E + 32))] [] S none w.2 := by
  unfold G_X2_advance_32_278 at h
  refine s_aload_n (q := 279) dX2_advance_278 rfl rfl 0 rfl ?_
  refine s_aload_n (q := 280) dX2_advance_279 rfl rfl 0 rfl ?_
  refine t_getR (q := 283) (k := 32) (f := 0) (t := 33) dX2_advance_280 rfl rfl rfl rfl inX2 (Nat.le_of_ble_eq_true rfl) fX2_9 ?_
  refine s_aload_n (q := 284) dX2_advance_283 rfl rfl 0 rfl ?_
  refine t_getI (q := 287) (k := 32) (f := 3) (v := (S.1 32 3)) dX2_advance_284 rfl rfl rfl rfl inX2 (Nat.le_of_ble_eq_true rfl) fX2_22 rfl ?_
  obtain ⟨hg10, h⟩ := chk_some h
  refine u_bald (q := 288) (k := 33) (v := (S.1 33 ((S.1 32 3).toNatClampNeg))) dX2_advance_287 rfl rfl (inB_in hg10) rfl rfl ?_
  refine s_bipush (q := 290) (v := 59) dX2_advance_288 rfl rfl ?_
  refine s_icmp_ne (q := 293) (tgt := 297) dX2_advance_290 rfl rfl (fun hb11 => ?_) (fun hb11 => ?_)
  · rw [if_neg hb11] at h
    refine s_iconst (q := 298) (v := 4) dX2_advance_297 rfl rfl ?_
    exact t_sub [0] rfl (T_X2_advance_32_298 E _ h)
  · rw [if_pos hb11] at h
    refine s_iconst (q := 294) (v := 3) dX2_advance_293 rfl rfl ?_
    refine s_goto (tgt := 298) dX2_advance_294 rfl ?_
    exact t_sub [0] rfl (T_X2_advance_32_298 E _ h)
def G_X2_advance_32_188 : Nat → ST → Option (ST)
  | 0, _ => none
  | n + 1, S => (if (S.1 32 1) ≤ (S.1 32 5) then some (S) else (if inB (S.1 32 5) 120 = true then (if (S.1 33 ((S.1 32 5).toNatClampNeg)) < 48 then some (S) else (if inB (S.1 32 5) 120 = true then (if (57 : Int32) < (S.1 33 ((S.1 32 5).toNatClampNeg)) then some (S) else (if (S.1 32 4) < 100000 then (if inB (S.1 32 5) 120 = true then G_X2_advance_32_188 n  (wr (wr S 32 4 ((((S.1 32 4) * 10) + (S.1 33 ((S.1 32 5).toNatClampNeg))) - 48)) 32 5 ((S.1 32 5) + 1)) else none) else G_X2_advance_32_188 n  (wr (wr S 32 4 100000) 32 5 ((S.1 32 5) + 1)))) else none)) else none))
set_option maxHeartbeats 4000000 in
set_option maxRecDepth 100000 in
theorem T_X2_advance_32_188 (E : EV) : ∀ (n : Nat) (S : ST), ∀ (w : (ST)), G_X2_advance_32_188 n S = some w → ∀ {Q : Option Value → ST → Prop}, SS E mX2_advance 311 [] [] w Q → SS E mX2_advance 188 [(0, .ref (eB E + 32))] [] S Q := by
  intro n
  induction n with
  | zero =>
    intro  S w h
    cases h
  | succ n ih =>
    intro  S w h Q K
    unfold G_X2_advance_32_188 at h
    refine s_aload_n (q := 189) dX2_advance_188 rfl rfl 0 rfl ?_
    refine t_getI (q := 192) (k := 32) (f := 5) (v := (S.1 32 5)) dX2_advance_189 rfl rfl rfl rfl inX2 (Nat.le_of_ble_eq_true rfl) fX2_28 rfl ?_
    refine s_aload_n (q := 193) dX2_advance_192 rfl rfl 0 rfl ?_
    refine t_getI (q := 196) (k := 32) (f := 1) (v := (S.1 32 1)) dX2_advance_193 rfl rfl rfl rfl inX2 (Nat.le_of_ble_eq_true rfl) fX2_15 rfl ?_
    refine s_icmp_ge (q := 199) (tgt := 311) dX2_advance_196 rfl rfl (fun hb14 => ?_) (fun hb14 => ?_)
    · rw [if_pos hb14] at h
      obtain rfl := Option.some.inj h
      exact t_sub [] rfl K
    · rw [if_neg hb14] at h
      refine s_aload_n (q := 200) dX2_advance_199 rfl rfl 0 rfl ?_
      refine t_getR (q := 203) (k := 32) (f := 0) (t := 33) dX2_advance_200 rfl rfl rfl rfl inX2 (Nat.le_of_ble_eq_true rfl) fX2_9 ?_
      refine s_aload_n (q := 204) dX2_advance_203 rfl rfl 0 rfl ?_
      refine t_getI (q := 207) (k := 32) (f := 5) (v := (S.1 32 5)) dX2_advance_204 rfl rfl rfl rfl inX2 (Nat.le_of_ble_eq_true rfl) fX2_28 rfl ?_
      obtain ⟨hg15, h⟩ := chk_some h
      refine u_bald (q := 208) (k := 33) (v := (S.1 33 ((S.1 32 5).toNatClampNeg))) dX2_advance_207 rfl rfl (inB_in hg15) rfl rfl ?_
      refine s_bipush (q := 210) (v := 48) dX2_advance_208 rfl rfl ?_
      refine s_icmp_lt (q := 213) (tgt := 311) dX2_advance_210 rfl rfl (fun hb16 => ?_) (fun hb16 => ?_)
      · rw [if_pos hb16] at h
        obtain rfl := Option.some.inj h
        exact t_sub [] rfl K
      · rw [if_neg hb16] at h
        refine s_aload_n (q := 214) dX2_advance_213 rfl rfl 0 rfl ?_
        refine t_getR (q := 217) (k := 32) (f := 0) (t := 33) dX2_advance_214 rfl rfl rfl rfl inX2 (Nat.le_of_ble_eq_true rfl) fX2_9 ?_
        refine s_aload_n (q := 218) dX2_advance_217 rfl rfl 0 rfl ?_
        refine t_getI (q := 221) (k := 32) (f := 5) (v := (S.1 32 5)) dX2_advance_218 rfl rfl rfl rfl inX2 (Nat.le_of_ble_eq_true rfl) fX2_28 rfl ?_
        obtain ⟨hg17, h⟩ := chk_some h
        refine u_bald (q := 222) (k := 33) (v := (S.1 33 ((S.1 32 5).toNatClampNeg))) dX2_advance_221 rfl rfl (inB_in hg17) rfl rfl ?_
        refine s_bipush (q := 224) (v := 57) dX2_advance_222 rfl rfl ?_
        refine s_icmp_gt (q := 227) (tgt := 311) dX2_advance_224 rfl rfl (fun hb18 => ?_) (fun hb18 => ?_)
        · rw [if_pos hb18] at h
          obtain rfl := Option.some.inj h
          exact t_sub [] rfl K
        · rw [if_neg hb18] at h
          refine s_aload_n (q := 228) dX2_advance_227 rfl rfl 0 rfl ?_
          refine s_aload_n (q := 229) dX2_advance_228 rfl rfl 0 rfl ?_
          refine t_getI (q := 232) (k := 32) (f := 4) (v := (S.1 32 4)) dX2_advance_229 rfl rfl rfl rfl inX2 (Nat.le_of_ble_eq_true rfl) fX2_25 rfl ?_
          refine s_ldc (q := 234) (v := 100000) dX2_advance_232 rfl kX2_34 ?_
          refine s_icmp_lt (q := 237) (tgt := 242) dX2_advance_234 rfl rfl (fun hb19 => ?_) (fun hb19 => ?_)
          · rw [if_pos hb19] at h
            refine s_aload_n (q := 243) dX2_advance_242 rfl rfl 0 rfl ?_
            refine t_getI (q := 246) (k := 32) (f := 4) (v := (S.1 32 4)) dX2_advance_243 rfl rfl rfl rfl inX2 (Nat.le_of_ble_eq_true rfl) fX2_25 rfl ?_
            refine s_bipush (q := 248) (v := 10) dX2_advance_246 rfl rfl ?_
            refine s_imul (q := 249) dX2_advance_248 rfl ?_
            refine s_aload_n (q := 250) dX2_advance_249 rfl rfl 0 rfl ?_
            refine t_getR (q := 253) (k := 32) (f := 0) (t := 33) dX2_advance_250 rfl rfl rfl rfl inX2 (Nat.le_of_ble_eq_true rfl) fX2_9 ?_
            refine s_aload_n (q := 254) dX2_advance_253 rfl rfl 0 rfl ?_
            refine t_getI (q := 257) (k := 32) (f := 5) (v := (S.1 32 5)) dX2_advance_254 rfl rfl rfl rfl inX2 (Nat.le_of_ble_eq_true rfl) fX2_28 rfl ?_
            obtain ⟨hg20, h⟩ := chk_some h
            refine u_bald (q := 258) (k := 33) (v := (S.1 33 ((S.1 32 5).toNatClampNeg))) dX2_advance_257 rfl rfl (inB_in hg20) rfl rfl ?_
            refine s_iadd (q := 259) dX2_advance_258 rfl ?_
            refine s_bipush (q := 261) (v := 48) dX2_advance_259 rfl rfl ?_
            refine s_isub (q := 262) dX2_advance_261 rfl ?_
            refine t_putI (q := 265) (k := 32) (f := 4) dX2_advance_262 rfl rfl rfl rfl inX2 tyX2_ok nmX2 (Nat.le_of_ble_eq_true rfl) fX2_25 rfl rfl rfl ?_
            refine s_aload_n (q := 266) dX2_advance_265 rfl rfl 0 rfl ?_
            refine s_dup (q := 267) dX2_advance_266 rfl rfl ?_
            refine t_getI (q := 270) (k := 32) (f := 5) (v := (S.1 32 5)) dX2_advance_267 rfl rfl rfl rfl inX2 (Nat.le_of_ble_eq_true rfl) fX2_28 rfl ?_
            refine s_iconst (q := 271) (v := 1) dX2_advance_270 rfl rfl ?_
            refine s_iadd (q := 272) dX2_advance_271 rfl ?_
            refine t_putI (q := 275) (k := 32) (f := 5) dX2_advance_272 rfl rfl rfl rfl inX2 tyX2_ok nmX2 (Nat.le_of_ble_eq_true rfl) fX2_28 rfl rfl rfl ?_
            refine s_goto (tgt := 188) dX2_advance_275 rfl ?_
            exact t_sub [0] rfl (ih  _ _ h K)
          · rw [if_neg hb19] at h
            refine s_ldc (q := 239) (v := 100000) dX2_advance_237 rfl kX2_34 ?_
            refine s_goto (tgt := 262) dX2_advance_239 rfl ?_
            refine t_putI (q := 265) (k := 32) (f := 4) dX2_advance_262 rfl rfl rfl rfl inX2 tyX2_ok nmX2 (Nat.le_of_ble_eq_true rfl) fX2_25 rfl rfl rfl ?_
            refine s_aload_n (q := 266) dX2_advance_265 rfl rfl 0 rfl ?_
            refine s_dup (q := 267) dX2_advance_266 rfl rfl ?_
            refine t_getI (q := 270) (k := 32) (f := 5) (v := (S.1 32 5)) dX2_advance_267 rfl rfl rfl rfl inX2 (Nat.le_of_ble_eq_true rfl) fX2_28 rfl ?_
            refine s_iconst (q := 271) (v := 1) dX2_advance_270 rfl rfl ?_
            refine s_iadd (q := 272) dX2_advance_271 rfl ?_
            refine t_putI (q := 275) (k := 32) (f := 5) dX2_advance_272 rfl rfl rfl rfl inX2 tyX2_ok nmX2 (Nat.le_of_ble_eq_true rfl) fX2_28 rfl rfl rfl ?_
            refine s_goto (tgt := 188) dX2_advance_275 rfl ?_
            exact t_sub [0] rfl (ih  _ _ h K)
def G_X2_advance_32_150  (S : ST) : Option (Unit × ST) := (if inB (S.1 32 3) 120 = true then (if (S.1 33 ((S.1 32 3).toNatClampNeg)) < 48 then G_X2_advance_32_278  S else (if inB (S.1 32 3) 120 = true then (if (57 : Int32) < (S.1 33 ((S.1 32 3).toNatClampNeg)) then G_X2_advance_32_278  S else (G_X2_advance_32_188 3000  (wr (wr S 32 2 2) 32 4 0)).bind fun q21 => some ((), q21)) else none)) else none)
set_option maxHeartbeats 4000000 in
set_option maxRecDepth 100000 in
theorem T_X2_advance_32_150 (E : EV)  {S : ST} {w : (Unit × ST)} (h : G_X2_advance_32_150  S = some w) : SD E mX2_advance 150 [(0, .ref (eB E + 32))] [] S none w.2 := by
  unfold G_X2_advance_32_150 at h
  refine s_aload_n (q := 151) dX2_advance_150 rfl rfl 0 rfl ?_
  refine t_getR (q := 154) (k := 32) (f := 0) (t := 33) dX2_advance_151 rfl rfl rfl rfl inX2 (Nat.le_of_ble_eq_true rfl) fX2_9 ?_
  refine s_aload_n (q := 155) dX2_advance_154 rfl rfl 0 rfl ?_
  refine t_getI (q := 158) (k := 32) (f := 3) (v := (S.1 32 3)) dX2_advance_155 rfl rfl rfl rfl inX2 (Nat.le_of_ble_eq_true rfl) fX2_22 rfl ?_
  obtain ⟨hg8, h⟩ := chk_some h
  refine u_bald (q := 159) (k := 33) (v := (S.1 33 ((S.1 32 3).toNatClampNeg))) dX2_advance_158 rfl rfl (inB_in hg8) rfl rfl ?_
  refine s_bipush (q := 161) (v := 48) dX2_advance_159 rfl rfl ?_
  refine s_icmp_lt (q := 164) (tgt := 278) dX2_advance_161 rfl rfl (fun hb9 => ?_) (fun hb9 => ?_)
  · rw [if_pos hb9] at h
    exact t_sub [0] rfl (T_X2_advance_32_278 E  h)
  · rw [if_neg hb9] at h
    refine s_aload_n (q := 165) dX2_advance_164 rfl rfl 0 rfl ?_
    refine t_getR (q := 168) (k := 32) (f := 0) (t := 33) dX2_advance_165 rfl rfl rfl rfl inX2 (Nat.le_of_ble_eq_true rfl) fX2_9 ?_
    refine s_aload_n (q := 169) dX2_advance_168 rfl rfl 0 rfl ?_
    refine t_getI (q := 172) (k := 32) (f := 3) (v := (S.1 32 3)) dX2_advance_169 rfl rfl rfl rfl inX2 (Nat.le_of_ble_eq_true rfl) fX2_22 rfl ?_
    obtain ⟨hg12, h⟩ := chk_some h
    refine u_bald (q := 173) (k := 33) (v := (S.1 33 ((S.1 32 3).toNatClampNeg))) dX2_advance_172 rfl rfl (inB_in hg12) rfl rfl ?_
    refine s_bipush (q := 175) (v := 57) dX2_advance_173 rfl rfl ?_
    refine s_icmp_gt (q := 178) (tgt := 278) dX2_advance_175 rfl rfl (fun hb13 => ?_) (fun hb13 => ?_)
    · rw [if_pos hb13] at h
      exact t_sub [0] rfl (T_X2_advance_32_278 E  h)
    · rw [if_neg hb13] at h
      refine s_aload_n (q := 179) dX2_advance_178 rfl rfl 0 rfl ?_
      refine s_iconst (q := 180) (v := 2) dX2_advance_179 rfl rfl ?_
      refine t_putI (q := 183) (k := 32) (f := 2) dX2_advance_180 rfl rfl rfl rfl inX2 tyX2_ok nmX2 (Nat.le_of_ble_eq_true rfl) fX2_19 rfl rfl rfl ?_
      refine s_aload_n (q := 184) dX2_advance_183 rfl rfl 0 rfl ?_
      refine s_iconst (q := 185) (v := 0) dX2_advance_184 rfl rfl ?_
      refine t_putI (q := 188) (k := 32) (f := 4) dX2_advance_185 rfl rfl rfl rfl inX2 tyX2_ok nmX2 (Nat.le_of_ble_eq_true rfl) fX2_25 rfl rfl rfl ?_
      obtain ⟨q21, hc21, h⟩ := bnd h
      try dsimp only at h
      refine t_sub [0] rfl (T_X2_advance_32_188 E _  _ _ hc21 ?_)
      obtain rfl := Option.some.inj h
      exact t_vret dX2_advance_311 rfl rfl
def G_X2_advance_32_98 : Nat → ST → Option (ST)
  | 0, _ => none
  | n + 1, S => (if (S.1 32 1) ≤ (S.1 32 5) then some (S) else (if inB (S.1 32 5) 120 = true then (if (S.1 33 ((S.1 32 5).toNatClampNeg)) < 97 then some (S) else (if inB (S.1 32 5) 120 = true then (if (122 : Int32) < (S.1 33 ((S.1 32 5).toNatClampNeg)) then some (S) else G_X2_advance_32_98 n  (wr S 32 5 ((S.1 32 5) + 1))) else none)) else none))
set_option maxHeartbeats 4000000 in
set_option maxRecDepth 100000 in
theorem T_X2_advance_32_98 (E : EV) : ∀ (n : Nat) (S : ST), ∀ (w : (ST)), G_X2_advance_32_98 n S = some w → ∀ {Q : Option Value → ST → Prop}, SS E mX2_advance 311 [] [] w Q → SS E mX2_advance 98 [(0, .ref (eB E + 32))] [] S Q := by
  intro n
  induction n with
  | zero =>
    intro  S w h
    cases h
  | succ n ih =>
    intro  S w h Q K
    unfold G_X2_advance_32_98 at h
    refine s_aload_n (q := 99) dX2_advance_98 rfl rfl 0 rfl ?_
    refine t_getI (q := 102) (k := 32) (f := 5) (v := (S.1 32 5)) dX2_advance_99 rfl rfl rfl rfl inX2 (Nat.le_of_ble_eq_true rfl) fX2_28 rfl ?_
    refine s_aload_n (q := 103) dX2_advance_102 rfl rfl 0 rfl ?_
    refine t_getI (q := 106) (k := 32) (f := 1) (v := (S.1 32 1)) dX2_advance_103 rfl rfl rfl rfl inX2 (Nat.le_of_ble_eq_true rfl) fX2_15 rfl ?_
    refine s_icmp_ge (q := 109) (tgt := 311) dX2_advance_106 rfl rfl (fun hb24 => ?_) (fun hb24 => ?_)
    · rw [if_pos hb24] at h
      obtain rfl := Option.some.inj h
      exact t_sub [] rfl K
    · rw [if_neg hb24] at h
      refine s_aload_n (q := 110) dX2_advance_109 rfl rfl 0 rfl ?_
      refine t_getR (q := 113) (k := 32) (f := 0) (t := 33) dX2_advance_110 rfl rfl rfl rfl inX2 (Nat.le_of_ble_eq_true rfl) fX2_9 ?_
      refine s_aload_n (q := 114) dX2_advance_113 rfl rfl 0 rfl ?_
      refine t_getI (q := 117) (k := 32) (f := 5) (v := (S.1 32 5)) dX2_advance_114 rfl rfl rfl rfl inX2 (Nat.le_of_ble_eq_true rfl) fX2_28 rfl ?_
      obtain ⟨hg25, h⟩ := chk_some h
      refine u_bald (q := 118) (k := 33) (v := (S.1 33 ((S.1 32 5).toNatClampNeg))) dX2_advance_117 rfl rfl (inB_in hg25) rfl rfl ?_
      refine s_bipush (q := 120) (v := 97) dX2_advance_118 rfl rfl ?_
      refine s_icmp_lt (q := 123) (tgt := 311) dX2_advance_120 rfl rfl (fun hb26 => ?_) (fun hb26 => ?_)
      · rw [if_pos hb26] at h
        obtain rfl := Option.some.inj h
        exact t_sub [] rfl K
      · rw [if_neg hb26] at h
        refine s_aload_n (q := 124) dX2_advance_123 rfl rfl 0 rfl ?_
        refine t_getR (q := 127) (k := 32) (f := 0) (t := 33) dX2_advance_124 rfl rfl rfl rfl inX2 (Nat.le_of_ble_eq_true rfl) fX2_9 ?_
        refine s_aload_n (q := 128) dX2_advance_127 rfl rfl 0 rfl ?_
        refine t_getI (q := 131) (k := 32) (f := 5) (v := (S.1 32 5)) dX2_advance_128 rfl rfl rfl rfl inX2 (Nat.le_of_ble_eq_true rfl) fX2_28 rfl ?_
        obtain ⟨hg27, h⟩ := chk_some h
        refine u_bald (q := 132) (k := 33) (v := (S.1 33 ((S.1 32 5).toNatClampNeg))) dX2_advance_131 rfl rfl (inB_in hg27) rfl rfl ?_
        refine s_bipush (q := 134) (v := 122) dX2_advance_132 rfl rfl ?_
        refine s_icmp_gt (q := 137) (tgt := 311) dX2_advance_134 rfl rfl (fun hb28 => ?_) (fun hb28 => ?_)
        · rw [if_pos hb28] at h
          obtain rfl := Option.some.inj h
          exact t_sub [] rfl K
        · rw [if_neg hb28] at h
          refine s_aload_n (q := 138) dX2_advance_137 rfl rfl 0 rfl ?_
          refine s_dup (q := 139) dX2_advance_138 rfl rfl ?_
          refine t_getI (q := 142) (k := 32) (f := 5) (v := (S.1 32 5)) dX2_advance_139 rfl rfl rfl rfl inX2 (Nat.le_of_ble_eq_true rfl) fX2_28 rfl ?_
          refine s_iconst (q := 143) (v := 1) dX2_advance_142 rfl rfl ?_
          refine s_iadd (q := 144) dX2_advance_143 rfl ?_
          refine t_putI (q := 147) (k := 32) (f := 5) dX2_advance_144 rfl rfl rfl rfl inX2 tyX2_ok nmX2 (Nat.le_of_ble_eq_true rfl) fX2_28 rfl rfl rfl ?_
          refine s_goto (tgt := 98) dX2_advance_147 rfl ?_
          exact t_sub [0] rfl (ih  _ _ h K)
def G_X2_advance_32_38  (S : ST) : Option (Unit × ST) := (if (S.1 32 5) < (S.1 32 1) then (if inB (S.1 32 5) 120 = true then (if (S.1 33 ((S.1 32 5).toNatClampNeg)) < 97 then G_X2_advance_32_150  (wr S 32 3 (S.1 32 5)) else (if inB (S.1 32 5) 120 = true then (if (122 : Int32) < (S.1 33 ((S.1 32 5).toNatClampNeg)) then G_X2_advance_32_150  (wr S 32 3 (S.1 32 5)) else (G_X2_advance_32_98 3000  (wr (wr S 32 3 (S.1 32 5)) 32 2 1)).bind fun q29 => some ((), q29)) else none)) else none) else some ((), (wr (wr S 32 3 (S.1 32 5)) 32 2 0)))
set_option maxHeartbeats 4000000 in
set_option maxRecDepth 100000 in
theorem T_X2_advance_32_38 (E : EV)  {S : ST} {w : (Unit × ST)} (h : G_X2_advance_32_38  S = some w) : SD E mX2_advance 38 [(0, .ref (eB E + 32))] [] S none w.2 := by
  unfold G_X2_advance_32_38 at h
  refine s_aload_n (q := 39) dX2_advance_38 rfl rfl 0 rfl ?_
  refine s_aload_n (q := 40) dX2_advance_39 rfl rfl 0 rfl ?_
  refine t_getI (q := 43) (k := 32) (f := 5) (v := (S.1 32 5)) dX2_advance_40 rfl rfl rfl rfl inX2 (Nat.le_of_ble_eq_true rfl) fX2_28 rfl ?_
  refine t_putI (q := 46) (k := 32) (f := 3) dX2_advance_43 rfl rfl rfl rfl inX2 tyX2_ok nmX2 (Nat.le_of_ble_eq_true rfl) fX2_22 rfl rfl rfl ?_
  refine s_aload_n (q := 47) dX2_advance_46 rfl rfl 0 rfl ?_
  refine t_getI (q := 50) (k := 32) (f := 3) (v := (S.1 32 5)) dX2_advance_47 rfl rfl rfl rfl inX2 (Nat.le_of_ble_eq_true rfl) fX2_22 rfl ?_
  refine s_aload_n (q := 51) dX2_advance_50 rfl rfl 0 rfl ?_
  refine t_getI (q := 54) (k := 32) (f := 1) (v := (S.1 32 1)) dX2_advance_51 rfl rfl rfl rfl inX2 (Nat.le_of_ble_eq_true rfl) fX2_15 rfl ?_
  refine s_icmp_lt (q := 57) (tgt := 65) dX2_advance_54 rfl rfl (fun hb5 => ?_) (fun hb5 => ?_)
  · rw [if_pos hb5] at h
    refine s_aload_n (q := 66) dX2_advance_65 rfl rfl 0 rfl ?_
    refine t_getR (q := 69) (k := 32) (f := 0) (t := 33) dX2_advance_66 rfl rfl rfl rfl inX2 (Nat.le_of_ble_eq_true rfl) fX2_9 ?_
    refine s_aload_n (q := 70) dX2_advance_69 rfl rfl 0 rfl ?_
    refine t_getI (q := 73) (k := 32) (f := 3) (v := (S.1 32 5)) dX2_advance_70 rfl rfl rfl rfl inX2 (Nat.le_of_ble_eq_true rfl) fX2_22 rfl ?_
    obtain ⟨hg6, h⟩ := chk_some h
    refine u_bald (q := 74) (k := 33) (v := (S.1 33 ((S.1 32 5).toNatClampNeg))) dX2_advance_73 rfl rfl (inB_in hg6) rfl rfl ?_
    refine s_bipush (q := 76) (v := 97) dX2_advance_74 rfl rfl ?_
    refine s_icmp_lt (q := 79) (tgt := 150) dX2_advance_76 rfl rfl (fun hb7 => ?_) (fun hb7 => ?_)
    · rw [if_pos hb7] at h
      exact t_sub [0] rfl (T_X2_advance_32_150 E  h)
    · rw [if_neg hb7] at h
      refine s_aload_n (q := 80) dX2_advance_79 rfl rfl 0 rfl ?_
      refine t_getR (q := 83) (k := 32) (f := 0) (t := 33) dX2_advance_80 rfl rfl rfl rfl inX2 (Nat.le_of_ble_eq_true rfl) fX2_9 ?_
      refine s_aload_n (q := 84) dX2_advance_83 rfl rfl 0 rfl ?_
      refine t_getI (q := 87) (k := 32) (f := 3) (v := (S.1 32 5)) dX2_advance_84 rfl rfl rfl rfl inX2 (Nat.le_of_ble_eq_true rfl) fX2_22 rfl ?_
      obtain ⟨hg22, h⟩ := chk_some h
      refine u_bald (q := 88) (k := 33) (v := (S.1 33 ((S.1 32 5).toNatClampNeg))) dX2_advance_87 rfl rfl (inB_in hg22) rfl rfl ?_
      refine s_bipush (q := 90) (v := 122) dX2_advance_88 rfl rfl ?_
      refine s_icmp_gt (q := 93) (tgt := 150) dX2_advance_90 rfl rfl (fun hb23 => ?_) (fun hb23 => ?_)
      · rw [if_pos hb23] at h
        exact t_sub [0] rfl (T_X2_advance_32_150 E  h)
      · rw [if_neg hb23] at h
        refine s_aload_n (q := 94) dX2_advance_93 rfl rfl 0 rfl ?_
        refine s_iconst (q := 95) (v := 1) dX2_advance_94 rfl rfl ?_
        refine t_putI (q := 98) (k := 32) (f := 2) dX2_advance_95 rfl rfl rfl rfl inX2 tyX2_ok nmX2 (Nat.le_of_ble_eq_true rfl) fX2_19 rfl rfl rfl ?_
        obtain ⟨q29, hc29, h⟩ := bnd h
        try dsimp only at h
        refine t_sub [0] rfl (T_X2_advance_32_98 E _  _ _ hc29 ?_)
        obtain rfl := Option.some.inj h
        exact t_vret dX2_advance_311 rfl rfl
  · rw [if_neg hb5] at h
    refine s_aload_n (q := 58) dX2_advance_57 rfl rfl 0 rfl ?_
    refine s_iconst (q := 59) (v := 0) dX2_advance_58 rfl rfl ?_
    refine t_putI (q := 62) (k := 32) (f := 2) dX2_advance_59 rfl rfl rfl rfl inX2 tyX2_ok nmX2 (Nat.le_of_ble_eq_true rfl) fX2_19 rfl rfl rfl ?_
    refine s_goto (tgt := 311) dX2_advance_62 rfl ?_
    obtain rfl := Option.some.inj h
    exact t_vret dX2_advance_311 rfl rfl
def G_X2_advance_32  (S : ST) : Option (Unit × ST) := (G_X2_advance_32_0 3000  S).bind fun q4 => G_X2_advance_32_38  q4
set_option maxHeartbeats 4000000 in
set_option maxRecDepth 100000 in
theorem T_X2_advance_32 (E : EV)  {S : ST} {w : (Unit × ST)} (h : G_X2_advance_32  S = some w) : SD E mX2_advance 0 [(0, .ref (eB E + 32))] [] S none w.2 := by
  unfold G_X2_advance_32 at h
  obtain ⟨q4, hc4, h⟩ := bnd h
  try dsimp only at h
  refine t_sub [0] rfl (T_X2_advance_32_0 E _  _ _ hc4 ?_)
  exact t_sub [0] rfl (T_X2_advance_32_38 E  h)
-- X2_rewind
def G_X2_rewind_32  (S : ST) : Option (Unit × ST) := ((G_X2_advance_32  (wr S 32 5 0)).bind fun q1 => some ((), q1.2))
set_option maxHeartbeats 4000000 in
set_option maxRecDepth 100000 in
theorem T_X2_rewind_32 (E : EV)  {S : ST} {w : (Unit × ST)} (h : G_X2_rewind_32  S = some w) : SD E mX2_rewind 0 [(0, .ref (eB E + 32))] [] S none w.2 := by
  unfold G_X2_rewind_32 at h
  refine s_aload_n (q := 1) dX2_rewind_0 rfl rfl 0 rfl ?_
  refine s_iconst (q := 2) (v := 0) dX2_rewind_1 rfl rfl ?_
  refine t_putI (q := 5) (k := 32) (f := 5) dX2_rewind_2 rfl rfl rfl rfl inX2 tyX2_ok nmX2 (Nat.le_of_ble_eq_true rfl) fX2_28 rfl rfl rfl ?_
  refine s_aload_n (q := 6) dX2_rewind_5 rfl rfl 0 rfl ?_
  obtain ⟨q1, hc1, h⟩ := bnd h
  try dsimp only at h
  refine t_callV (q := 9) (N := mX2_advance) (a := eB E + 32) [] dX2_rewind_6 rfl nkX2_advance vkX2_advance lX2_31 ⟨Nat.le_of_ble_eq_true rfl, Nat.le_of_ble_eq_true rfl⟩ (rc_obj (k := 32) rfl rfl) rfl rfl (Nat.le_of_ble_eq_true rfl) (Nat.le_of_ble_eq_true rfl) (T_X2_advance_32 E  hc1) ?_
  obtain rfl := Option.some.inj h
  exact t_vret dX2_rewind_9 rfl rfl
-- X2_isWord
def G_X2_isWord_32_28 : Nat → Nat → Int32 → ST → Option (Int32 × ST)
  | 0, _, _, _ => none
  | n + 1, x1, x2, S => (if strB x1 = true then (if (strN x1) ≤ x2 then some (1, S) else (if inB ((S.1 32 3) + x2) 120 = true then (if strB x1 = true then (if strI x1 x2 = true then (if (S.1 33 (((S.1 32 3) + x2).toNatClampNeg)) = (strC x1 x2) then G_X2_isWord_32_28 n x1 (x2 + 1) S else some (0, S)) else none) else none) else none)) else none)
set_option maxHeartbeats 4000000 in
set_option maxRecDepth 100000 in
theorem T_X2_isWord_32_28 (E : EV) : ∀ (n : Nat) (x1 : Nat) (x2 : Int32) (S : ST) (w : (Int32 × ST)), G_X2_isWord_32_28 n x1 x2 S = some w → SD E mX2_isWord 28 [(0, .ref (eB E + 32)), (1, .ref (eK E x1)), (2, .int x2)] [] S (some (.int w.1)) w.2 := by
  intro n
  induction n with
  | zero =>
    intro x1 x2 S w h
    cases h
  | succ n ih =>
    intro x1 x2 S w h
    unfold G_X2_isWord_32_28 at h
    refine s_iload_n (q := 29) dX2_isWord_28 rfl rfl 2 rfl ?_
    refine s_aload_n (q := 30) dX2_isWord_29 rfl rfl 1 rfl ?_
    obtain ⟨hg4, h⟩ := chk_some h
    refine t_callV (q := 33) (N := mJ0_length_8abf5) (a := eK E x1) [] dX2_isWord_30 rfl nkJ0_length_8abf5 vkJ0_length_8abf5 lX2_35 ⟨Nat.le_of_ble_eq_true rfl, Nat.le_of_ble_eq_true rfl⟩ (rc_str hg4) rfl rfl (Nat.le_of_ble_eq_true rfl) (Nat.le_of_ble_eq_true rfl) (T_strlen E hg4) ?_
    refine s_icmp_ge (q := 36) (tgt := 63) dX2_isWord_33 rfl rfl (fun hb5 => ?_) (fun hb5 => ?_)
    · rw [if_pos hb5] at h
      refine s_iconst (q := 64) (v := 1) dX2_isWord_63 rfl rfl ?_
      obtain rfl := Option.some.inj h
      exact t_zret dX2_isWord_64 rfl rfl rfl
    · rw [if_neg hb5] at h
      refine s_aload_n (q := 37) dX2_isWord_36 rfl rfl 0 rfl ?_
      refine t_getR (q := 40) (k := 32) (f := 0) (t := 33) dX2_isWord_37 rfl rfl rfl rfl inX2 (Nat.le_of_ble_eq_true rfl) fX2_9 ?_
      refine s_aload_n (q := 41) dX2_isWord_40 rfl rfl 0 rfl ?_
      refine t_getI (q := 44) (k := 32) (f := 3) (v := (S.1 32 3)) dX2_isWord_41 rfl rfl rfl rfl inX2 (Nat.le_of_ble_eq_true rfl) fX2_22 rfl ?_
      refine s_iload_n (q := 45) dX2_isWord_44 rfl rfl 2 rfl ?_
      refine s_iadd (q := 46) dX2_isWord_45 rfl ?_
      obtain ⟨hg6, h⟩ := chk_some h
      refine u_bald (q := 47) (k := 33) (v := (S.1 33 (((S.1 32 3) + x2).toNatClampNeg))) dX2_isWord_46 rfl rfl (inB_in hg6) rfl rfl ?_
      refine s_aload_n (q := 48) dX2_isWord_47 rfl rfl 1 rfl ?_
      refine s_iload_n (q := 49) dX2_isWord_48 rfl rfl 2 rfl ?_
      obtain ⟨hg7, h⟩ := chk_some h
      obtain ⟨hg8, h⟩ := chk_some h
      refine t_callV (q := 52) (N := mJ0_charAt_5068e) (a := eK E x1) [.int x2] dX2_isWord_49 rfl nkJ0_charAt_5068e vkJ0_charAt_5068e lX2_40 ⟨Nat.le_of_ble_eq_true rfl, Nat.le_of_ble_eq_true rfl⟩ (rc_str hg7) rfl rfl (Nat.le_of_ble_eq_true rfl) (Nat.le_of_ble_eq_true rfl) (T_strchar E hg7 hg8) ?_
      refine s_icmp_eq (q := 55) (tgt := 57) dX2_isWord_52 rfl rfl (fun hb9 => ?_) (fun hb9 => ?_)
      · rw [if_pos hb9] at h
        refine s_iinc (q := 60) (j := 2) (v := (x2 + 1)) (lv' := [(2, .int (x2 + 1)), (0, .ref (eB E + 32)), (1, .ref (eK E x1))]) dX2_isWord_57 rfl rfl rfl (Nat.le_of_ble_eq_true rfl) rfl ?_
        refine s_goto (tgt := 28) dX2_isWord_60 rfl ?_
        exact t_sub [1, 2, 0] rfl (ih _ _ _ _ h)
      · rw [if_neg hb9] at h
        refine s_iconst (q := 56) (v := 0) dX2_isWord_55 rfl rfl ?_
        obtain rfl := Option.some.inj h
        exact t_zret dX2_isWord_56 rfl rfl rfl
def G_X2_isWord_32 (x1 : Nat) (S : ST) : Option (Int32 × ST) := (if (S.1 32 2) = 1 then (if strB x1 = true then (if ((S.1 32 5) - (S.1 32 3)) = (strN x1) then G_X2_isWord_32_28 3000 x1 0 S else some (0, S)) else none) else some (0, S))
set_option maxHeartbeats 4000000 in
set_option maxRecDepth 100000 in
theorem T_X2_isWord_32 (E : EV) (x1 : Nat) {S : ST} {w : (Int32 × ST)} (h : G_X2_isWord_32 x1 S = some w) : SD E mX2_isWord 0 [(0, .ref (eB E + 32)), (1, .ref (eK E x1))] [] S (some (.int w.1)) w.2 := by
  unfold G_X2_isWord_32 at h
  refine s_aload_n (q := 1) dX2_isWord_0 rfl rfl 0 rfl ?_
  refine t_getI (q := 4) (k := 32) (f := 2) (v := (S.1 32 2)) dX2_isWord_1 rfl rfl rfl rfl inX2 (Nat.le_of_ble_eq_true rfl) fX2_19 rfl ?_
  refine s_iconst (q := 5) (v := 1) dX2_isWord_4 rfl rfl ?_
  refine s_icmp_ne (q := 8) (tgt := 24) dX2_isWord_5 rfl rfl (fun hb1 => ?_) (fun hb1 => ?_)
  · rw [if_neg hb1] at h
    refine s_iconst (q := 25) (v := 0) dX2_isWord_24 rfl rfl ?_
    obtain rfl := Option.some.inj h
    exact t_zret dX2_isWord_25 rfl rfl rfl
  · rw [if_pos hb1] at h
    refine s_aload_n (q := 9) dX2_isWord_8 rfl rfl 0 rfl ?_
    refine t_getI (q := 12) (k := 32) (f := 5) (v := (S.1 32 5)) dX2_isWord_9 rfl rfl rfl rfl inX2 (Nat.le_of_ble_eq_true rfl) fX2_28 rfl ?_
    refine s_aload_n (q := 13) dX2_isWord_12 rfl rfl 0 rfl ?_
    refine t_getI (q := 16) (k := 32) (f := 3) (v := (S.1 32 3)) dX2_isWord_13 rfl rfl rfl rfl inX2 (Nat.le_of_ble_eq_true rfl) fX2_22 rfl ?_
    refine s_isub (q := 17) dX2_isWord_16 rfl ?_
    refine s_aload_n (q := 18) dX2_isWord_17 rfl rfl 1 rfl ?_
    obtain ⟨hg2, h⟩ := chk_some h
    refine t_callV (q := 21) (N := mJ0_length_8abf5) (a := eK E x1) [] dX2_isWord_18 rfl nkJ0_length_8abf5 vkJ0_length_8abf5 lX2_35 ⟨Nat.le_of_ble_eq_true rfl, Nat.le_of_ble_eq_true rfl⟩ (rc_str hg2) rfl rfl (Nat.le_of_ble_eq_true rfl) (Nat.le_of_ble_eq_true rfl) (T_strlen E hg2) ?_
    refine s_icmp_eq (q := 24) (tgt := 26) dX2_isWord_21 rfl rfl (fun hb3 => ?_) (fun hb3 => ?_)
    · rw [if_pos hb3] at h
      refine s_iconst (q := 27) (v := 0) dX2_isWord_26 rfl rfl ?_
      refine s_istore_n (q := 28) (lv' := [(2, .int 0), (0, .ref (eB E + 32)), (1, .ref (eK E x1))]) dX2_isWord_27 rfl rfl (Nat.le_of_ble_eq_true rfl) rfl ?_
      exact t_sub [1, 2, 0] rfl (T_X2_isWord_32_28 E _ _ _ _ _ h)
    · rw [if_neg hb3] at h
      refine s_iconst (q := 25) (v := 0) dX2_isWord_24 rfl rfl ?_
      obtain rfl := Option.some.inj h
      exact t_zret dX2_isWord_25 rfl rfl rfl
-- X3_kindNamed
def G_X3_kindNamed_31  (S : ST) : Option (Int32 × ST) := ((G_X2_isWord_32 4 S).bind fun q1 => (if q1.1 = 0 then ((G_X2_isWord_32 5 q1.2).bind fun q3 => (if q3.1 = 0 then ((G_X2_isWord_32 6 q3.2).bind fun q5 => (if q5.1 = 0 then ((G_X2_isWord_32 7 q5.2).bind fun q7 => (if q7.1 = 0 then ((G_X2_isWord_32 8 q7.2).bind fun q9 => (if q9.1 = 0 then ((G_X2_isWord_32 9 q9.2).bind fun q11 => (if q11.1 = 0 then ((G_X2_isWord_32 10 q11.2).bind fun q13 => (if q13.1 = 0 then some ((-1), q13.2) else some (6, q13.2))) else some (5, q11.2))) else some (4, q9.2))) else some (3, q7.2))) else some (2, q5.2))) else some (1, q3.2))) else some (0, q1.2)))
set_option maxHeartbeats 4000000 in
set_option maxRecDepth 100000 in
theorem T_X3_kindNamed_31 (E : EV)  {S : ST} {w : (Int32 × ST)} (h : G_X3_kindNamed_31  S = some w) : SD E mX3_kindNamed 0 [(0, .ref (eB E + 31))] [] S (some (.int w.1)) w.2 := by
  unfold G_X3_kindNamed_31 at h
  refine s_aload_n (q := 1) dX3_kindNamed_0 rfl rfl 0 rfl ?_
  refine t_getR (q := 4) (k := 31) (f := 0) (t := 32) dX3_kindNamed_1 rfl rfl rfl rfl inX3 (Nat.le_of_ble_eq_true rfl) fX3_12 ?_
  refine s_ldcS (q := 6) (j := 4) dX3_kindNamed_4 rfl rfl rfl ?_
  obtain ⟨q1, hc1, h⟩ := bnd h
  try dsimp only at h
  refine t_callV (q := 9) (N := mX2_isWord) (a := eB E + 32) [.ref (eK E 4)] dX3_kindNamed_6 rfl nkX2_isWord vkX2_isWord lX3_37 ⟨Nat.le_of_ble_eq_true rfl, Nat.le_of_ble_eq_true rfl⟩ (rc_obj (k := 32) rfl rfl) rfl rfl (Nat.le_of_ble_eq_true rfl) (Nat.le_of_ble_eq_true rfl) (T_X2_isWord_32 E _ hc1) ?_
  refine s_if_eq (q := 12) (tgt := 14) dX3_kindNamed_9 rfl rfl (fun hb2 => ?_) (fun hb2 => ?_)
  · rw [if_pos hb2] at h
    refine s_aload_n (q := 15) dX3_kindNamed_14 rfl rfl 0 rfl ?_
    refine t_getR (q := 18) (k := 31) (f := 0) (t := 32) dX3_kindNamed_15 rfl rfl rfl rfl inX3 (Nat.le_of_ble_eq_true rfl) fX3_12 ?_
    refine s_ldcS (q := 20) (j := 5) dX3_kindNamed_18 rfl rfl rfl ?_
    obtain ⟨q3, hc3, h⟩ := bnd h
    try dsimp only at h
    refine t_callV (q := 23) (N := mX2_isWord) (a := eB E + 32) [.ref (eK E 5)] dX3_kindNamed_20 rfl nkX2_isWord vkX2_isWord lX3_37 ⟨Nat.le_of_ble_eq_true rfl, Nat.le_of_ble_eq_true rfl⟩ (rc_obj (k := 32) rfl rfl) rfl rfl (Nat.le_of_ble_eq_true rfl) (Nat.le_of_ble_eq_true rfl) (T_X2_isWord_32 E _ hc3) ?_
    refine s_if_eq (q := 26) (tgt := 28) dX3_kindNamed_23 rfl rfl (fun hb4 => ?_) (fun hb4 => ?_)
    · rw [if_pos hb4] at h
      refine s_aload_n (q := 29) dX3_kindNamed_28 rfl rfl 0 rfl ?_
      refine t_getR (q := 32) (k := 31) (f := 0) (t := 32) dX3_kindNamed_29 rfl rfl rfl rfl inX3 (Nat.le_of_ble_eq_true rfl) fX3_12 ?_
      refine s_ldcS (q := 34) (j := 6) dX3_kindNamed_32 rfl rfl rfl ?_
      obtain ⟨q5, hc5, h⟩ := bnd h
      try dsimp only at h
      refine t_callV (q := 37) (N := mX2_isWord) (a := eB E + 32) [.ref (eK E 6)] dX3_kindNamed_34 rfl nkX2_isWord vkX2_isWord lX3_37 ⟨Nat.le_of_ble_eq_true rfl, Nat.le_of_ble_eq_true rfl⟩ (rc_obj (k := 32) rfl rfl) rfl rfl (Nat.le_of_ble_eq_true rfl) (Nat.le_of_ble_eq_true rfl) (T_X2_isWord_32 E _ hc5) ?_
      refine s_if_eq (q := 40) (tgt := 42) dX3_kindNamed_37 rfl rfl (fun hb6 => ?_) (fun hb6 => ?_)
      · rw [if_pos hb6] at h
        refine s_aload_n (q := 43) dX3_kindNamed_42 rfl rfl 0 rfl ?_
        refine t_getR (q := 46) (k := 31) (f := 0) (t := 32) dX3_kindNamed_43 rfl rfl rfl rfl inX3 (Nat.le_of_ble_eq_true rfl) fX3_12 ?_
        refine s_ldcS (q := 48) (j := 7) dX3_kindNamed_46 rfl rfl rfl ?_
        obtain ⟨q7, hc7, h⟩ := bnd h
        try dsimp only at h
        refine t_callV (q := 51) (N := mX2_isWord) (a := eB E + 32) [.ref (eK E 7)] dX3_kindNamed_48 rfl nkX2_isWord vkX2_isWord lX3_37 ⟨Nat.le_of_ble_eq_true rfl, Nat.le_of_ble_eq_true rfl⟩ (rc_obj (k := 32) rfl rfl) rfl rfl (Nat.le_of_ble_eq_true rfl) (Nat.le_of_ble_eq_true rfl) (T_X2_isWord_32 E _ hc7) ?_
        refine s_if_eq (q := 54) (tgt := 56) dX3_kindNamed_51 rfl rfl (fun hb8 => ?_) (fun hb8 => ?_)
        · rw [if_pos hb8] at h
          refine s_aload_n (q := 57) dX3_kindNamed_56 rfl rfl 0 rfl ?_
          refine t_getR (q := 60) (k := 31) (f := 0) (t := 32) dX3_kindNamed_57 rfl rfl rfl rfl inX3 (Nat.le_of_ble_eq_true rfl) fX3_12 ?_
          refine s_ldcS (q := 62) (j := 8) dX3_kindNamed_60 rfl rfl rfl ?_
          obtain ⟨q9, hc9, h⟩ := bnd h
          try dsimp only at h
          refine t_callV (q := 65) (N := mX2_isWord) (a := eB E + 32) [.ref (eK E 8)] dX3_kindNamed_62 rfl nkX2_isWord vkX2_isWord lX3_37 ⟨Nat.le_of_ble_eq_true rfl, Nat.le_of_ble_eq_true rfl⟩ (rc_obj (k := 32) rfl rfl) rfl rfl (Nat.le_of_ble_eq_true rfl) (Nat.le_of_ble_eq_true rfl) (T_X2_isWord_32 E _ hc9) ?_
          refine s_if_eq (q := 68) (tgt := 70) dX3_kindNamed_65 rfl rfl (fun hb10 => ?_) (fun hb10 => ?_)
          · rw [if_pos hb10] at h
            refine s_aload_n (q := 71) dX3_kindNamed_70 rfl rfl 0 rfl ?_
            refine t_getR (q := 74) (k := 31) (f := 0) (t := 32) dX3_kindNamed_71 rfl rfl rfl rfl inX3 (Nat.le_of_ble_eq_true rfl) fX3_12 ?_
            refine s_ldcS (q := 76) (j := 9) dX3_kindNamed_74 rfl rfl rfl ?_
            obtain ⟨q11, hc11, h⟩ := bnd h
            try dsimp only at h
            refine t_callV (q := 79) (N := mX2_isWord) (a := eB E + 32) [.ref (eK E 9)] dX3_kindNamed_76 rfl nkX2_isWord vkX2_isWord lX3_37 ⟨Nat.le_of_ble_eq_true rfl, Nat.le_of_ble_eq_true rfl⟩ (rc_obj (k := 32) rfl rfl) rfl rfl (Nat.le_of_ble_eq_true rfl) (Nat.le_of_ble_eq_true rfl) (T_X2_isWord_32 E _ hc11) ?_
            refine s_if_eq (q := 82) (tgt := 84) dX3_kindNamed_79 rfl rfl (fun hb12 => ?_) (fun hb12 => ?_)
            · rw [if_pos hb12] at h
              refine s_aload_n (q := 85) dX3_kindNamed_84 rfl rfl 0 rfl ?_
              refine t_getR (q := 88) (k := 31) (f := 0) (t := 32) dX3_kindNamed_85 rfl rfl rfl rfl inX3 (Nat.le_of_ble_eq_true rfl) fX3_12 ?_
              refine s_ldcS (q := 90) (j := 10) dX3_kindNamed_88 rfl rfl rfl ?_
              obtain ⟨q13, hc13, h⟩ := bnd h
              try dsimp only at h
              refine t_callV (q := 93) (N := mX2_isWord) (a := eB E + 32) [.ref (eK E 10)] dX3_kindNamed_90 rfl nkX2_isWord vkX2_isWord lX3_37 ⟨Nat.le_of_ble_eq_true rfl, Nat.le_of_ble_eq_true rfl⟩ (rc_obj (k := 32) rfl rfl) rfl rfl (Nat.le_of_ble_eq_true rfl) (Nat.le_of_ble_eq_true rfl) (T_X2_isWord_32 E _ hc13) ?_
              refine s_if_eq (q := 96) (tgt := 101) dX3_kindNamed_93 rfl rfl (fun hb14 => ?_) (fun hb14 => ?_)
              · rw [if_pos hb14] at h
                refine s_iconst (q := 102) (v := (-1)) dX3_kindNamed_101 rfl rfl ?_
                obtain rfl := Option.some.inj h
                exact t_iret dX3_kindNamed_102 rfl rfl
              · rw [if_neg hb14] at h
                refine s_bipush (q := 98) (v := 6) dX3_kindNamed_96 rfl rfl ?_
                refine s_goto (tgt := 102) dX3_kindNamed_98 rfl ?_
                obtain rfl := Option.some.inj h
                exact t_iret dX3_kindNamed_102 rfl rfl
            · rw [if_neg hb12] at h
              refine s_iconst (q := 83) (v := 5) dX3_kindNamed_82 rfl rfl ?_
              obtain rfl := Option.some.inj h
              exact t_iret dX3_kindNamed_83 rfl rfl
          · rw [if_neg hb10] at h
            refine s_iconst (q := 69) (v := 4) dX3_kindNamed_68 rfl rfl ?_
            obtain rfl := Option.some.inj h
            exact t_iret dX3_kindNamed_69 rfl rfl
        · rw [if_neg hb8] at h
          refine s_iconst (q := 55) (v := 3) dX3_kindNamed_54 rfl rfl ?_
          obtain rfl := Option.some.inj h
          exact t_iret dX3_kindNamed_55 rfl rfl
      · rw [if_neg hb6] at h
        refine s_iconst (q := 41) (v := 2) dX3_kindNamed_40 rfl rfl ?_
        obtain rfl := Option.some.inj h
        exact t_iret dX3_kindNamed_41 rfl rfl
    · rw [if_neg hb4] at h
      refine s_iconst (q := 27) (v := 1) dX3_kindNamed_26 rfl rfl ?_
      obtain rfl := Option.some.inj h
      exact t_iret dX3_kindNamed_27 rfl rfl
  · rw [if_neg hb2] at h
    refine s_iconst (q := 13) (v := 0) dX3_kindNamed_12 rfl rfl ?_
    obtain rfl := Option.some.inj h
    exact t_iret dX3_kindNamed_13 rfl rfl
-- X3_settingNamed
def G_X3_settingNamed_31  (S : ST) : Option (Int32 × ST) := ((G_X2_isWord_32 13 S).bind fun q1 => (if q1.1 = 0 then ((G_X2_isWord_32 14 q1.2).bind fun q3 => (if q3.1 = 0 then ((G_X2_isWord_32 15 q3.2).bind fun q5 => (if q5.1 = 0 then ((G_X2_isWord_32 16 q5.2).bind fun q7 => (if q7.1 = 0 then some ((-1), q7.2) else some (3, q7.2))) else some (2, q5.2))) else some (1, q3.2))) else some (0, q1.2)))
set_option maxHeartbeats 4000000 in
set_option maxRecDepth 100000 in
theorem T_X3_settingNamed_31 (E : EV)  {S : ST} {w : (Int32 × ST)} (h : G_X3_settingNamed_31  S = some w) : SD E mX3_settingNamed 0 [(0, .ref (eB E + 31))] [] S (some (.int w.1)) w.2 := by
  unfold G_X3_settingNamed_31 at h
  refine s_aload_n (q := 1) dX3_settingNamed_0 rfl rfl 0 rfl ?_
  refine t_getR (q := 4) (k := 31) (f := 0) (t := 32) dX3_settingNamed_1 rfl rfl rfl rfl inX3 (Nat.le_of_ble_eq_true rfl) fX3_12 ?_
  refine s_ldcS (q := 6) (j := 13) dX3_settingNamed_4 rfl rfl rfl ?_
  obtain ⟨q1, hc1, h⟩ := bnd h
  try dsimp only at h
  refine t_callV (q := 9) (N := mX2_isWord) (a := eB E + 32) [.ref (eK E 13)] dX3_settingNamed_6 rfl nkX2_isWord vkX2_isWord lX3_37 ⟨Nat.le_of_ble_eq_true rfl, Nat.le_of_ble_eq_true rfl⟩ (rc_obj (k := 32) rfl rfl) rfl rfl (Nat.le_of_ble_eq_true rfl) (Nat.le_of_ble_eq_true rfl) (T_X2_isWord_32 E _ hc1) ?_
  refine s_if_eq (q := 12) (tgt := 14) dX3_settingNamed_9 rfl rfl (fun hb2 => ?_) (fun hb2 => ?_)
  · rw [if_pos hb2] at h
    refine s_aload_n (q := 15) dX3_settingNamed_14 rfl rfl 0 rfl ?_
    refine t_getR (q := 18) (k := 31) (f := 0) (t := 32) dX3_settingNamed_15 rfl rfl rfl rfl inX3 (Nat.le_of_ble_eq_true rfl) fX3_12 ?_
    refine s_ldcS (q := 20) (j := 14) dX3_settingNamed_18 rfl rfl rfl ?_
    obtain ⟨q3, hc3, h⟩ := bnd h
    try dsimp only at h
    refine t_callV (q := 23) (N := mX2_isWord) (a := eB E + 32) [.ref (eK E 14)] dX3_settingNamed_20 rfl nkX2_isWord vkX2_isWord lX3_37 ⟨Nat.le_of_ble_eq_true rfl, Nat.le_of_ble_eq_true rfl⟩ (rc_obj (k := 32) rfl rfl) rfl rfl (Nat.le_of_ble_eq_true rfl) (Nat.le_of_ble_eq_true rfl) (T_X2_isWord_32 E _ hc3) ?_
    refine s_if_eq (q := 26) (tgt := 28) dX3_settingNamed_23 rfl rfl (fun hb4 => ?_) (fun hb4 => ?_)
    · rw [if_pos hb4] at h
      refine s_aload_n (q := 29) dX3_settingNamed_28 rfl rfl 0 rfl ?_
      refine t_getR (q := 32) (k := 31) (f := 0) (t := 32) dX3_settingNamed_29 rfl rfl rfl rfl inX3 (Nat.le_of_ble_eq_true rfl) fX3_12 ?_
      refine s_ldcS (q := 34) (j := 15) dX3_settingNamed_32 rfl rfl rfl ?_
      obtain ⟨q5, hc5, h⟩ := bnd h
      try dsimp only at h
      refine t_callV (q := 37) (N := mX2_isWord) (a := eB E + 32) [.ref (eK E 15)] dX3_settingNamed_34 rfl nkX2_isWord vkX2_isWord lX3_37 ⟨Nat.le_of_ble_eq_true rfl, Nat.le_of_ble_eq_true rfl⟩ (rc_obj (k := 32) rfl rfl) rfl rfl (Nat.le_of_ble_eq_true rfl) (Nat.le_of_ble_eq_true rfl) (T_X2_isWord_32 E _ hc5) ?_
      refine s_if_eq (q := 40) (tgt := 42) dX3_settingNamed_37 rfl rfl (fun hb6 => ?_) (fun hb6 => ?_)
      · rw [if_pos hb6] at h
        refine s_aload_n (q := 43) dX3_settingNamed_42 rfl rfl 0 rfl ?_
        refine t_getR (q := 46) (k := 31) (f := 0) (t := 32) dX3_settingNamed_43 rfl rfl rfl rfl inX3 (Nat.le_of_ble_eq_true rfl) fX3_12 ?_
        refine s_ldcS (q := 48) (j := 16) dX3_settingNamed_46 rfl rfl rfl ?_
        obtain ⟨q7, hc7, h⟩ := bnd h
        try dsimp only at h
        refine t_callV (q := 51) (N := mX2_isWord) (a := eB E + 32) [.ref (eK E 16)] dX3_settingNamed_48 rfl nkX2_isWord vkX2_isWord lX3_37 ⟨Nat.le_of_ble_eq_true rfl, Nat.le_of_ble_eq_true rfl⟩ (rc_obj (k := 32) rfl rfl) rfl rfl (Nat.le_of_ble_eq_true rfl) (Nat.le_of_ble_eq_true rfl) (T_X2_isWord_32 E _ hc7) ?_
        refine s_if_eq (q := 54) (tgt := 58) dX3_settingNamed_51 rfl rfl (fun hb8 => ?_) (fun hb8 => ?_)
        · rw [if_pos hb8] at h
          refine s_iconst (q := 59) (v := (-1)) dX3_settingNamed_58 rfl rfl ?_
          obtain rfl := Option.some.inj h
          exact t_iret dX3_settingNamed_59 rfl rfl
        · rw [if_neg hb8] at h
          refine s_iconst (q := 55) (v := 3) dX3_settingNamed_54 rfl rfl ?_
          refine s_goto (tgt := 59) dX3_settingNamed_55 rfl ?_
          obtain rfl := Option.some.inj h
          exact t_iret dX3_settingNamed_59 rfl rfl
      · rw [if_neg hb6] at h
        refine s_iconst (q := 41) (v := 2) dX3_settingNamed_40 rfl rfl ?_
        obtain rfl := Option.some.inj h
        exact t_iret dX3_settingNamed_41 rfl rfl
    · rw [if_neg hb4] at h
      refine s_iconst (q := 27) (v := 1) dX3_settingNamed_26 rfl rfl ?_
      obtain rfl := Option.some.inj h
      exact t_iret dX3_settingNamed_27 rfl rfl
  · rw [if_neg hb2] at h
    refine s_iconst (q := 13) (v := 0) dX3_settingNamed_12 rfl rfl ?_
    obtain rfl := Option.some.inj h
    exact t_iret dX3_settingNamed_13 rfl rfl
-- X3_number
def G_X3_number_31 (x1 : Int32) (x2 : Int32) (S : ST) : Option (Int32 × ST) := (if (S.1 32 2) = 2 then (if (S.1 32 4) < x1 then some ((-1), S) else (if (S.1 32 4) ≤ x2 then ((G_X2_advance_32  S).bind fun q4 => some ((S.1 32 4), q4.2)) else some ((-1), S))) else some ((-1), S))
set_option maxHeartbeats 4000000 in
set_option maxRecDepth 100000 in
theorem T_X3_number_31 (E : EV) (x1 : Int32) (x2 : Int32) {S : ST} {w : (Int32 × ST)} (h : G_X3_number_31 x1 x2 S = some w) : SD E mX3_number 0 [(0, .ref (eB E + 31)), (1, .int x1), (2, .int x2)] [] S (some (.int w.1)) w.2 := by
  unfold G_X3_number_31 at h
  refine s_aload_n (q := 1) dX3_number_0 rfl rfl 0 rfl ?_
  refine t_getR (q := 4) (k := 31) (f := 0) (t := 32) dX3_number_1 rfl rfl rfl rfl inX3 (Nat.le_of_ble_eq_true rfl) fX3_12 ?_
  refine t_getI (q := 7) (k := 32) (f := 4) (v := (S.1 32 4)) dX3_number_4 rfl rfl rfl rfl inX2 (Nat.le_of_ble_eq_true rfl) fX3_130 rfl ?_
  refine s_istore_n (q := 8) (lv' := [(3, .int (S.1 32 4)), (0, .ref (eB E + 31)), (1, .int x1), (2, .int x2)]) dX3_number_7 rfl rfl (Nat.le_of_ble_eq_true rfl) rfl ?_
  refine s_aload_n (q := 9) dX3_number_8 rfl rfl 1 rfl ?_
  refine t_getR (q := 12) (k := 31) (f := 0) (t := 32) dX3_number_9 rfl rfl rfl rfl inX3 (Nat.le_of_ble_eq_true rfl) fX3_12 ?_
  refine t_getI (q := 15) (k := 32) (f := 2) (v := (S.1 32 2)) dX3_number_12 rfl rfl rfl rfl inX2 (Nat.le_of_ble_eq_true rfl) fX3_25 rfl ?_
  refine s_iconst (q := 16) (v := 2) dX3_number_15 rfl rfl ?_
  refine s_icmp_ne (q := 19) (tgt := 29) dX3_number_16 rfl rfl (fun hb1 => ?_) (fun hb1 => ?_)
  · rw [if_neg hb1] at h
    refine s_iconst (q := 30) (v := (-1)) dX3_number_29 rfl rfl ?_
    obtain rfl := Option.some.inj h
    exact t_iret dX3_number_30 rfl rfl
  · rw [if_pos hb1] at h
    refine s_iload_n (q := 20) dX3_number_19 rfl rfl 0 rfl ?_
    refine s_iload_n (q := 21) dX3_number_20 rfl rfl 2 rfl ?_
    refine s_icmp_lt (q := 24) (tgt := 29) dX3_number_21 rfl rfl (fun hb2 => ?_) (fun hb2 => ?_)
    · rw [if_pos hb2] at h
      refine s_iconst (q := 30) (v := (-1)) dX3_number_29 rfl rfl ?_
      obtain rfl := Option.some.inj h
      exact t_iret dX3_number_30 rfl rfl
    · rw [if_neg hb2] at h
      refine s_iload_n (q := 25) dX3_number_24 rfl rfl 0 rfl ?_
      refine s_iload_n (q := 26) dX3_number_25 rfl rfl 3 rfl ?_
      refine s_icmp_le (q := 29) (tgt := 31) dX3_number_26 rfl rfl (fun hb3 => ?_) (fun hb3 => ?_)
      · rw [if_pos hb3] at h
        refine s_aload_n (q := 32) dX3_number_31 rfl rfl 1 rfl ?_
        refine t_getR (q := 35) (k := 31) (f := 0) (t := 32) dX3_number_32 rfl rfl rfl rfl inX3 (Nat.le_of_ble_eq_true rfl) fX3_12 ?_
        obtain ⟨q4, hc4, h⟩ := bnd h
        try dsimp only at h
        refine t_callV (q := 38) (N := mX2_advance) (a := eB E + 32) [] dX3_number_35 rfl nkX2_advance vkX2_advance lX3_29 ⟨Nat.le_of_ble_eq_true rfl, Nat.le_of_ble_eq_true rfl⟩ (rc_obj (k := 32) rfl rfl) rfl rfl (Nat.le_of_ble_eq_true rfl) (Nat.le_of_ble_eq_true rfl) (T_X2_advance_32 E  hc4) ?_
        refine s_iload_n (q := 39) dX3_number_38 rfl rfl 0 rfl ?_
        obtain rfl := Option.some.inj h
        exact t_iret dX3_number_39 rfl rfl
      · rw [if_neg hb3] at h
        refine s_iconst (q := 30) (v := (-1)) dX3_number_29 rfl rfl ?_
        obtain rfl := Option.some.inj h
        exact t_iret dX3_number_30 rfl rfl
-- X3_readSetting
def G_X3_readSetting_31_21 (x2 : Int32) (S : ST) : Option (Int32 × ST) := ((G_X2_advance_32  S).bind fun q1 => (if inB x2 4 = true then ((G_X3_number_31 0 (tabS x2) q1.2).bind fun q3 => (if q3.1 = (-1) then some (0, q3.2) else (if inB x2 4 = true then some (1, (wr q3.2 28 x2.toNatClampNeg q3.1)) else none))) else none))
set_option maxHeartbeats 4000000 in
set_option maxRecDepth 100000 in
theorem T_X3_readSetting_31_21 (E : EV) (x2 : Int32) {S : ST} {w : (Int32 × ST)} (h : G_X3_readSetting_31_21 x2 S = some w) : SD E mX3_readSetting 0 [(0, .ref (eB E + 31)), (1, .ref (eB E + 21)), (2, .int x2)] [] S (some (.int w.1)) w.2 := by
  unfold G_X3_readSetting_31_21 at h
  refine s_aload_n (q := 1) dX3_readSetting_0 rfl rfl 0 rfl ?_
  refine t_getR (q := 4) (k := 31) (f := 0) (t := 32) dX3_readSetting_1 rfl rfl rfl rfl inX3 (Nat.le_of_ble_eq_true rfl) fX3_12 ?_
  obtain ⟨q1, hc1, h⟩ := bnd h
  try dsimp only at h
  refine t_callV (q := 7) (N := mX2_advance) (a := eB E + 32) [] dX3_readSetting_4 rfl nkX2_advance vkX2_advance lX3_29 ⟨Nat.le_of_ble_eq_true rfl, Nat.le_of_ble_eq_true rfl⟩ (rc_obj (k := 32) rfl rfl) rfl rfl (Nat.le_of_ble_eq_true rfl) (Nat.le_of_ble_eq_true rfl) (T_X2_advance_32 E  hc1) ?_
  refine s_aload_n (q := 8) dX3_readSetting_7 rfl rfl 0 rfl ?_
  refine s_iconst (q := 9) (v := 0) dX3_readSetting_8 rfl rfl ?_
  refine s_tableN (q := 12) (host := "StarCrew") dX3_readSetting_9 rfl (by decide +kernel) ?_
  refine s_iload_n (q := 13) dX3_readSetting_12 rfl rfl 2 rfl ?_
  obtain ⟨hg2, h⟩ := chk_some h
  refine t_tab (q := 14) dX3_readSetting_13 rfl (inB_in hg2) ?_
  obtain ⟨q3, hc3, h⟩ := bnd h
  try dsimp only at h
  refine t_callV (q := 17) (N := mX3_number) (a := eB E + 31) [.int 0, .int (tabS x2)] dX3_readSetting_14 rfl nkX3_number vkX3_number lX3_104 ⟨Nat.le_of_ble_eq_true rfl, Nat.le_of_ble_eq_true rfl⟩ (rc_obj (k := 31) rfl rfl) rfl rfl (Nat.le_of_ble_eq_true rfl) (Nat.le_of_ble_eq_true rfl) (T_X3_number_31 E _ _ hc3) ?_
  refine s_istore_n (q := 18) (lv' := [(3, .int q3.1), (0, .ref (eB E + 31)), (1, .ref (eB E + 21)), (2, .int x2)]) dX3_readSetting_17 rfl rfl (Nat.le_of_ble_eq_true rfl) rfl ?_
  refine s_iload_n (q := 19) dX3_readSetting_18 rfl rfl 0 rfl ?_
  refine s_iconst (q := 20) (v := (-1)) dX3_readSetting_19 rfl rfl ?_
  refine s_icmp_ne (q := 23) (tgt := 25) dX3_readSetting_20 rfl rfl (fun hb4 => ?_) (fun hb4 => ?_)
  · rw [if_neg hb4] at h
    refine s_aload_n (q := 26) dX3_readSetting_25 rfl rfl 2 rfl ?_
    refine t_getR (q := 29) (k := 21) (f := 7) (t := 28) dX3_readSetting_26 rfl rfl rfl rfl inX1 (Nat.le_of_ble_eq_true rfl) fX3_127 ?_
    refine s_iload_n (q := 30) dX3_readSetting_29 rfl rfl 3 rfl ?_
    refine s_iload_n (q := 31) dX3_readSetting_30 rfl rfl 0 rfl ?_
    obtain ⟨hg5, h⟩ := chk_some h
    refine u_iast (q := 32) (k := 28) dX3_readSetting_31 rfl rfl (inB_in hg5) rfl ?_
    refine s_iconst (q := 33) (v := 1) dX3_readSetting_32 rfl rfl ?_
    obtain rfl := Option.some.inj h
    exact t_zret dX3_readSetting_33 rfl rfl rfl
  · rw [if_pos hb4] at h
    refine s_iconst (q := 24) (v := 0) dX3_readSetting_23 rfl rfl ?_
    obtain rfl := Option.some.inj h
    exact t_zret dX3_readSetting_24 rfl rfl rfl
-- X3_numberBehind
def G_X3_numberBehind_31 (x1 : Nat) (x2 : Int32) (x3 : Int32) (S : ST) : Option (Int32 × ST) := ((G_X2_isWord_32 x1 S).bind fun q1 => (if q1.1 = 0 then some (x3, q1.2) else ((G_X2_advance_32  q1.2).bind fun q3 => ((G_X3_number_31 0 x2 q3.2).bind fun q4 => some (q4.1, q4.2)))))
set_option maxHeartbeats 4000000 in
set_option maxRecDepth 100000 in
theorem T_X3_numberBehind_31 (E : EV) (x1 : Nat) (x2 : Int32) (x3 : Int32) {S : ST} {w : (Int32 × ST)} (h : G_X3_numberBehind_31 x1 x2 x3 S = some w) : SD E mX3_numberBehind 0 [(0, .ref (eB E + 31)), (1, .ref (eK E x1)), (2, .int x2), (3, .int x3)] [] S (some (.int w.1)) w.2 := by
  unfold G_X3_numberBehind_31 at h
  refine s_aload_n (q := 1) dX3_numberBehind_0 rfl rfl 0 rfl ?_
  refine t_getR (q := 4) (k := 31) (f := 0) (t := 32) dX3_numberBehind_1 rfl rfl rfl rfl inX3 (Nat.le_of_ble_eq_true rfl) fX3_12 ?_
  refine s_aload_n (q := 5) dX3_numberBehind_4 rfl rfl 1 rfl ?_
  obtain ⟨q1, hc1, h⟩ := bnd h
  try dsimp only at h
  refine t_callV (q := 8) (N := mX2_isWord) (a := eB E + 32) [.ref (eK E x1)] dX3_numberBehind_5 rfl nkX2_isWord vkX2_isWord lX3_37 ⟨Nat.le_of_ble_eq_true rfl, Nat.le_of_ble_eq_true rfl⟩ (rc_obj (k := 32) rfl rfl) rfl rfl (Nat.le_of_ble_eq_true rfl) (Nat.le_of_ble_eq_true rfl) (T_X2_isWord_32 E _ hc1) ?_
  refine s_if_ne (q := 11) (tgt := 13) dX3_numberBehind_8 rfl rfl (fun hb2 => ?_) (fun hb2 => ?_)
  · rw [if_neg hb2] at h
    refine s_aload_n (q := 14) dX3_numberBehind_13 rfl rfl 0 rfl ?_
    refine t_getR (q := 17) (k := 31) (f := 0) (t := 32) dX3_numberBehind_14 rfl rfl rfl rfl inX3 (Nat.le_of_ble_eq_true rfl) fX3_12 ?_
    obtain ⟨q3, hc3, h⟩ := bnd h
    try dsimp only at h
    refine t_callV (q := 20) (N := mX2_advance) (a := eB E + 32) [] dX3_numberBehind_17 rfl nkX2_advance vkX2_advance lX3_29 ⟨Nat.le_of_ble_eq_true rfl, Nat.le_of_ble_eq_true rfl⟩ (rc_obj (k := 32) rfl rfl) rfl rfl (Nat.le_of_ble_eq_true rfl) (Nat.le_of_ble_eq_true rfl) (T_X2_advance_32 E  hc3) ?_
    refine s_aload_n (q := 21) dX3_numberBehind_20 rfl rfl 0 rfl ?_
    refine s_iconst (q := 22) (v := 0) dX3_numberBehind_21 rfl rfl ?_
    refine s_iload_n (q := 23) dX3_numberBehind_22 rfl rfl 2 rfl ?_
    obtain ⟨q4, hc4, h⟩ := bnd h
    try dsimp only at h
    refine t_callV (q := 26) (N := mX3_number) (a := eB E + 31) [.int 0, .int x2] dX3_numberBehind_23 rfl nkX3_number vkX3_number lX3_104 ⟨Nat.le_of_ble_eq_true rfl, Nat.le_of_ble_eq_true rfl⟩ (rc_obj (k := 31) rfl rfl) rfl rfl (Nat.le_of_ble_eq_true rfl) (Nat.le_of_ble_eq_true rfl) (T_X3_number_31 E _ _ hc4) ?_
    obtain rfl := Option.some.inj h
    exact t_iret dX3_numberBehind_26 rfl rfl
  · rw [if_pos hb2] at h
    refine s_iload_n (q := 12) dX3_numberBehind_11 rfl rfl 3 rfl ?_
    obtain rfl := Option.some.inj h
    exact t_iret dX3_numberBehind_12 rfl rfl
-- X1_addStar
def G_X1_addStar_21 (x1 : Int32) (x2 : Int32) (x3 : Int32) (x4 : Int32) (S : ST) : Option (Int32 × ST) := (if inB (S.1 21 0) 10 = true then (if inB (S.1 21 0) 10 = true then (if inB (S.1 21 0) 10 = true then (if inB (S.1 21 0) 10 = true then some ((((S.1 21 0) + 1) - 1), (wr (wr (wr (wr (wr S 22 ((S.1 21 0).toNatClampNeg) x1) 23 ((S.1 21 0).toNatClampNeg) x2) 24 ((S.1 21 0).toNatClampNeg) x3) 25 ((S.1 21 0).toNatClampNeg) x4) 21 0 ((S.1 21 0) + 1))) else none) else none) else none) else none)
set_option maxHeartbeats 4000000 in
set_option maxRecDepth 100000 in
theorem T_X1_addStar_21 (E : EV) (x1 : Int32) (x2 : Int32) (x3 : Int32) (x4 : Int32) {S : ST} {w : (Int32 × ST)} (h : G_X1_addStar_21 x1 x2 x3 x4 S = some w) : SD E mX1_addStar 0 [(0, .ref (eB E + 21)), (1, .int x1), (2, .int x2), (3, .int x3), (4, .int x4)] [] S (some (.int w.1)) w.2 := by
  unfold G_X1_addStar_21 at h
  refine s_aload_n (q := 1) dX1_addStar_0 rfl rfl 0 rfl ?_
  refine t_getR (q := 4) (k := 21) (f := 1) (t := 22) dX1_addStar_1 rfl rfl rfl rfl inX1 (Nat.le_of_ble_eq_true rfl) fX1_15 ?_
  refine s_aload_n (q := 5) dX1_addStar_4 rfl rfl 0 rfl ?_
  refine t_getI (q := 8) (k := 21) (f := 0) (v := (S.1 21 0)) dX1_addStar_5 rfl rfl rfl rfl inX1 (Nat.le_of_ble_eq_true rfl) fX1_9 rfl ?_
  refine s_iload_n (q := 9) dX1_addStar_8 rfl rfl 1 rfl ?_
  obtain ⟨hg1, h⟩ := chk_some h
  refine u_iast (q := 10) (k := 22) dX1_addStar_9 rfl rfl (inB_in hg1) rfl ?_
  refine s_aload_n (q := 11) dX1_addStar_10 rfl rfl 0 rfl ?_
  refine t_getR (q := 14) (k := 21) (f := 2) (t := 23) dX1_addStar_11 rfl rfl rfl rfl inX1 (Nat.le_of_ble_eq_true rfl) fX1_19 ?_
  refine s_aload_n (q := 15) dX1_addStar_14 rfl rfl 0 rfl ?_
  refine t_getI (q := 18) (k := 21) (f := 0) (v := (S.1 21 0)) dX1_addStar_15 rfl rfl rfl rfl inX1 (Nat.le_of_ble_eq_true rfl) fX1_9 rfl ?_
  refine s_iload_n (q := 19) dX1_addStar_18 rfl rfl 2 rfl ?_
  obtain ⟨hg2, h⟩ := chk_some h
  refine u_iast (q := 20) (k := 23) dX1_addStar_19 rfl rfl (inB_in hg2) rfl ?_
  refine s_aload_n (q := 21) dX1_addStar_20 rfl rfl 0 rfl ?_
  refine t_getR (q := 24) (k := 21) (f := 3) (t := 24) dX1_addStar_21 rfl rfl rfl rfl inX1 (Nat.le_of_ble_eq_true rfl) fX1_22 ?_
  refine s_aload_n (q := 25) dX1_addStar_24 rfl rfl 0 rfl ?_
  refine t_getI (q := 28) (k := 21) (f := 0) (v := (S.1 21 0)) dX1_addStar_25 rfl rfl rfl rfl inX1 (Nat.le_of_ble_eq_true rfl) fX1_9 rfl ?_
  refine s_iload_n (q := 29) dX1_addStar_28 rfl rfl 3 rfl ?_
  obtain ⟨hg3, h⟩ := chk_some h
  refine u_iast (q := 30) (k := 24) dX1_addStar_29 rfl rfl (inB_in hg3) rfl ?_
  refine s_aload_n (q := 31) dX1_addStar_30 rfl rfl 0 rfl ?_
  refine t_getR (q := 34) (k := 21) (f := 4) (t := 25) dX1_addStar_31 rfl rfl rfl rfl inX1 (Nat.le_of_ble_eq_true rfl) fX1_25 ?_
  refine s_aload_n (q := 35) dX1_addStar_34 rfl rfl 0 rfl ?_
  refine t_getI (q := 38) (k := 21) (f := 0) (v := (S.1 21 0)) dX1_addStar_35 rfl rfl rfl rfl inX1 (Nat.le_of_ble_eq_true rfl) fX1_9 rfl ?_
  refine s_iload (q := 40) dX1_addStar_38 rfl 4 rfl ?_
  obtain ⟨hg4, h⟩ := chk_some h
  refine u_iast (q := 41) (k := 25) dX1_addStar_40 rfl rfl (inB_in hg4) rfl ?_
  refine s_aload_n (q := 42) dX1_addStar_41 rfl rfl 0 rfl ?_
  refine s_dup (q := 43) dX1_addStar_42 rfl rfl ?_
  refine t_getI (q := 46) (k := 21) (f := 0) (v := (S.1 21 0)) dX1_addStar_43 rfl rfl rfl rfl inX1 (Nat.le_of_ble_eq_true rfl) fX1_9 rfl ?_
  refine s_iconst (q := 47) (v := 1) dX1_addStar_46 rfl rfl ?_
  refine s_iadd (q := 48) dX1_addStar_47 rfl ?_
  refine t_putI (q := 51) (k := 21) (f := 0) dX1_addStar_48 rfl rfl rfl rfl inX1 tyX1_ok nmX1 (Nat.le_of_ble_eq_true rfl) fX1_9 rfl rfl rfl ?_
  refine s_aload_n (q := 52) dX1_addStar_51 rfl rfl 0 rfl ?_
  refine t_getI (q := 55) (k := 21) (f := 0) (v := ((S.1 21 0) + 1)) dX1_addStar_52 rfl rfl rfl rfl inX1 (Nat.le_of_ble_eq_true rfl) fX1_9 rfl ?_
  refine s_iconst (q := 56) (v := 1) dX1_addStar_55 rfl rfl ?_
  refine s_isub (q := 57) dX1_addStar_56 rfl ?_
  obtain rfl := Option.some.inj h
  exact t_iret dX1_addStar_57 rfl rfl
-- X3_readStar
def G_X3_readStar_31_21 (x2 : Int32) (S : ST) : Option (Int32 × ST) := (if (S.1 21 0) < 10 then ((G_X2_advance_32  S).bind fun q2 => ((G_X3_numberBehind_31 1 99 0 q2.2).bind fun q3 => (if q3.1 = (-1) then some (0, q3.2) else ((G_X3_numberBehind_31 11 99 50 q3.2).bind fun q5 => (if q5.1 = (-1) then some (0, q5.2) else ((G_X3_numberBehind_31 12 99 1 q5.2).bind fun q7 => (if q7.1 = (-1) then some (0, q7.2) else ((G_X1_addStar_21 x2 q3.1 q5.1 q7.1 q7.2).bind fun q9 => some (1, q9.2))))))))) else some (0, S))
set_option maxHeartbeats 4000000 in
set_option maxRecDepth 100000 in
theorem T_X3_readStar_31_21 (E : EV) (x2 : Int32) {S : ST} {w : (Int32 × ST)} (h : G_X3_readStar_31_21 x2 S = some w) : SD E mX3_readStar 0 [(0, .ref (eB E + 31)), (1, .ref (eB E + 21)), (2, .int x2)] [] S (some (.int w.1)) w.2 := by
  unfold G_X3_readStar_31_21 at h
  refine s_aload_n (q := 1) dX3_readStar_0 rfl rfl 1 rfl ?_
  refine t_getI (q := 4) (k := 21) (f := 0) (v := (S.1 21 0)) dX3_readStar_1 rfl rfl rfl rfl inX1 (Nat.le_of_ble_eq_true rfl) fX3_85 rfl ?_
  refine s_bipush (q := 6) (v := 10) dX3_readStar_4 rfl rfl ?_
  refine s_icmp_lt (q := 9) (tgt := 11) dX3_readStar_6 rfl rfl (fun hb1 => ?_) (fun hb1 => ?_)
  · rw [if_pos hb1] at h
    refine s_aload_n (q := 12) dX3_readStar_11 rfl rfl 0 rfl ?_
    refine t_getR (q := 15) (k := 31) (f := 0) (t := 32) dX3_readStar_12 rfl rfl rfl rfl inX3 (Nat.le_of_ble_eq_true rfl) fX3_12 ?_
    obtain ⟨q2, hc2, h⟩ := bnd h
    try dsimp only at h
    refine t_callV (q := 18) (N := mX2_advance) (a := eB E + 32) [] dX3_readStar_15 rfl nkX2_advance vkX2_advance lX3_29 ⟨Nat.le_of_ble_eq_true rfl, Nat.le_of_ble_eq_true rfl⟩ (rc_obj (k := 32) rfl rfl) rfl rfl (Nat.le_of_ble_eq_true rfl) (Nat.le_of_ble_eq_true rfl) (T_X2_advance_32 E  hc2) ?_
    refine s_aload_n (q := 19) dX3_readStar_18 rfl rfl 0 rfl ?_
    refine s_ldcS (q := 21) (j := 1) dX3_readStar_19 rfl rfl rfl ?_
    refine s_bipush (q := 23) (v := 99) dX3_readStar_21 rfl rfl ?_
    refine s_iconst (q := 24) (v := 0) dX3_readStar_23 rfl rfl ?_
    obtain ⟨q3, hc3, h⟩ := bnd h
    try dsimp only at h
    refine t_callV (q := 27) (N := mX3_numberBehind) (a := eB E + 31) [.ref (eK E 1), .int 99, .int 0] dX3_readStar_24 rfl nkX3_numberBehind vkX3_numberBehind lX3_92 ⟨Nat.le_of_ble_eq_true rfl, Nat.le_of_ble_eq_true rfl⟩ (rc_obj (k := 31) rfl rfl) rfl rfl (Nat.le_of_ble_eq_true rfl) (Nat.le_of_ble_eq_true rfl) (T_X3_numberBehind_31 E _ _ _ hc3) ?_
    refine s_istore_n (q := 28) (lv' := [(3, .int q3.1), (0, .ref (eB E + 31)), (1, .ref (eB E + 21)), (2, .int x2)]) dX3_readStar_27 rfl rfl (Nat.le_of_ble_eq_true rfl) rfl ?_
    refine s_iload_n (q := 29) dX3_readStar_28 rfl rfl 0 rfl ?_
    refine s_iconst (q := 30) (v := (-1)) dX3_readStar_29 rfl rfl ?_
    refine s_icmp_ne (q := 33) (tgt := 35) dX3_readStar_30 rfl rfl (fun hb4 => ?_) (fun hb4 => ?_)
    · rw [if_neg hb4] at h
      refine s_aload_n (q := 36) dX3_readStar_35 rfl rfl 1 rfl ?_
      refine s_ldcS (q := 38) (j := 11) dX3_readStar_36 rfl rfl rfl ?_
      refine s_bipush (q := 40) (v := 99) dX3_readStar_38 rfl rfl ?_
      refine s_bipush (q := 42) (v := 50) dX3_readStar_40 rfl rfl ?_
      obtain ⟨q5, hc5, h⟩ := bnd h
      try dsimp only at h
      refine t_callV (q := 45) (N := mX3_numberBehind) (a := eB E + 31) [.ref (eK E 11), .int 99, .int 50] dX3_readStar_42 rfl nkX3_numberBehind vkX3_numberBehind lX3_92 ⟨Nat.le_of_ble_eq_true rfl, Nat.le_of_ble_eq_true rfl⟩ (rc_obj (k := 31) rfl rfl) rfl rfl (Nat.le_of_ble_eq_true rfl) (Nat.le_of_ble_eq_true rfl) (T_X3_numberBehind_31 E _ _ _ hc5) ?_
      refine s_istore (q := 47) (lv' := [(4, .int q5.1), (3, .int q3.1), (0, .ref (eB E + 31)), (1, .ref (eB E + 21)), (2, .int x2)]) dX3_readStar_45 rfl (Nat.le_of_ble_eq_true rfl) rfl ?_
      refine s_iload (q := 49) dX3_readStar_47 rfl 0 rfl ?_
      refine s_iconst (q := 50) (v := (-1)) dX3_readStar_49 rfl rfl ?_
      refine s_icmp_ne (q := 53) (tgt := 55) dX3_readStar_50 rfl rfl (fun hb6 => ?_) (fun hb6 => ?_)
      · rw [if_neg hb6] at h
        refine s_aload_n (q := 56) dX3_readStar_55 rfl rfl 2 rfl ?_
        refine s_ldcS (q := 58) (j := 12) dX3_readStar_56 rfl rfl rfl ?_
        refine s_bipush (q := 60) (v := 99) dX3_readStar_58 rfl rfl ?_
        refine s_iconst (q := 61) (v := 1) dX3_readStar_60 rfl rfl ?_
        obtain ⟨q7, hc7, h⟩ := bnd h
        try dsimp only at h
        refine t_callV (q := 64) (N := mX3_numberBehind) (a := eB E + 31) [.ref (eK E 12), .int 99, .int 1] dX3_readStar_61 rfl nkX3_numberBehind vkX3_numberBehind lX3_92 ⟨Nat.le_of_ble_eq_true rfl, Nat.le_of_ble_eq_true rfl⟩ (rc_obj (k := 31) rfl rfl) rfl rfl (Nat.le_of_ble_eq_true rfl) (Nat.le_of_ble_eq_true rfl) (T_X3_numberBehind_31 E _ _ _ hc7) ?_
        refine s_istore (q := 66) (lv' := [(5, .int q7.1), (4, .int q5.1), (3, .int q3.1), (0, .ref (eB E + 31)), (1, .ref (eB E + 21)), (2, .int x2)]) dX3_readStar_64 rfl (Nat.le_of_ble_eq_true rfl) rfl ?_
        refine s_iload (q := 68) dX3_readStar_66 rfl 0 rfl ?_
        refine s_iconst (q := 69) (v := (-1)) dX3_readStar_68 rfl rfl ?_
        refine s_icmp_ne (q := 72) (tgt := 74) dX3_readStar_69 rfl rfl (fun hb8 => ?_) (fun hb8 => ?_)
        · rw [if_neg hb8] at h
          refine s_aload_n (q := 75) dX3_readStar_74 rfl rfl 4 rfl ?_
          refine s_iload_n (q := 76) dX3_readStar_75 rfl rfl 5 rfl ?_
          refine s_iload_n (q := 77) dX3_readStar_76 rfl rfl 2 rfl ?_
          refine s_iload (q := 79) dX3_readStar_77 rfl 1 rfl ?_
          refine s_iload (q := 81) dX3_readStar_79 rfl 0 rfl ?_
          obtain ⟨q9, hc9, h⟩ := bnd h
          try dsimp only at h
          refine t_callV (q := 84) (N := mX1_addStar) (a := eB E + 21) [.int x2, .int q3.1, .int q5.1, .int q7.1] dX3_readStar_81 rfl nkX1_addStar vkX1_addStar lX3_100 ⟨Nat.le_of_ble_eq_true rfl, Nat.le_of_ble_eq_true rfl⟩ (rc_obj (k := 21) rfl rfl) rfl rfl (Nat.le_of_ble_eq_true rfl) (Nat.le_of_ble_eq_true rfl) (T_X1_addStar_21 E _ _ _ _ hc9) ?_
          refine s_pop (q := 85) dX3_readStar_84 rfl rfl ?_
          refine s_iconst (q := 86) (v := 1) dX3_readStar_85 rfl rfl ?_
          obtain rfl := Option.some.inj h
          exact t_zret dX3_readStar_86 rfl rfl rfl
        · rw [if_pos hb8] at h
          refine s_iconst (q := 73) (v := 0) dX3_readStar_72 rfl rfl ?_
          obtain rfl := Option.some.inj h
          exact t_zret dX3_readStar_73 rfl rfl rfl
      · rw [if_pos hb6] at h
        refine s_iconst (q := 54) (v := 0) dX3_readStar_53 rfl rfl ?_
        obtain rfl := Option.some.inj h
        exact t_zret dX3_readStar_54 rfl rfl rfl
    · rw [if_pos hb4] at h
      refine s_iconst (q := 34) (v := 0) dX3_readStar_33 rfl rfl ?_
      obtain rfl := Option.some.inj h
      exact t_zret dX3_readStar_34 rfl rfl rfl
  · rw [if_neg hb1] at h
    refine s_iconst (q := 10) (v := 0) dX3_readStar_9 rfl rfl ?_
    obtain rfl := Option.some.inj h
    exact t_zret dX3_readStar_10 rfl rfl rfl
-- X1_addSign
def G_X1_addSign_21 (x1 : Int32) (S : ST) : Option (Int32 × ST) := (if inB (S.1 21 9) 6 = true then some ((((S.1 21 9) + 1) - 1), (wr (wr S 29 ((S.1 21 9).toNatClampNeg) x1) 21 9 ((S.1 21 9) + 1))) else none)
set_option maxHeartbeats 4000000 in
set_option maxRecDepth 100000 in
theorem T_X1_addSign_21 (E : EV) (x1 : Int32) {S : ST} {w : (Int32 × ST)} (h : G_X1_addSign_21 x1 S = some w) : SD E mX1_addSign 0 [(0, .ref (eB E + 21)), (1, .int x1)] [] S (some (.int w.1)) w.2 := by
  unfold G_X1_addSign_21 at h
  refine s_aload_n (q := 1) dX1_addSign_0 rfl rfl 0 rfl ?_
  refine t_getR (q := 4) (k := 21) (f := 10) (t := 29) dX1_addSign_1 rfl rfl rfl rfl inX1 (Nat.le_of_ble_eq_true rfl) fX1_43 ?_
  refine s_aload_n (q := 5) dX1_addSign_4 rfl rfl 0 rfl ?_
  refine t_getI (q := 8) (k := 21) (f := 9) (v := (S.1 21 9)) dX1_addSign_5 rfl rfl rfl rfl inX1 (Nat.le_of_ble_eq_true rfl) fX1_40 rfl ?_
  refine s_iload_n (q := 9) dX1_addSign_8 rfl rfl 1 rfl ?_
  obtain ⟨hg1, h⟩ := chk_some h
  refine u_iast (q := 10) (k := 29) dX1_addSign_9 rfl rfl (inB_in hg1) rfl ?_
  refine s_aload_n (q := 11) dX1_addSign_10 rfl rfl 0 rfl ?_
  refine s_dup (q := 12) dX1_addSign_11 rfl rfl ?_
  refine t_getI (q := 15) (k := 21) (f := 9) (v := (S.1 21 9)) dX1_addSign_12 rfl rfl rfl rfl inX1 (Nat.le_of_ble_eq_true rfl) fX1_40 rfl ?_
  refine s_iconst (q := 16) (v := 1) dX1_addSign_15 rfl rfl ?_
  refine s_iadd (q := 17) dX1_addSign_16 rfl ?_
  refine t_putI (q := 20) (k := 21) (f := 9) dX1_addSign_17 rfl rfl rfl rfl inX1 tyX1_ok nmX1 (Nat.le_of_ble_eq_true rfl) fX1_40 rfl rfl rfl ?_
  refine s_aload_n (q := 21) dX1_addSign_20 rfl rfl 0 rfl ?_
  refine t_getI (q := 24) (k := 21) (f := 9) (v := ((S.1 21 9) + 1)) dX1_addSign_21 rfl rfl rfl rfl inX1 (Nat.le_of_ble_eq_true rfl) fX1_40 rfl ?_
  refine s_iconst (q := 25) (v := 1) dX1_addSign_24 rfl rfl ?_
  refine s_isub (q := 26) dX1_addSign_25 rfl ?_
  obtain rfl := Option.some.inj h
  exact t_iret dX1_addSign_26 rfl rfl
-- X3_readSign
def G_X3_readSign_31_21  (S : ST) : Option (Int32 × ST) := (if (S.1 21 9) < 6 then ((G_X2_advance_32  S).bind fun q2 => ((G_X3_number_31 1 ((1 <<< ((q2.2.1 21 0) &&& 31)) - 1) q2.2).bind fun q3 => (if q3.1 = (-1) then some (0, q3.2) else ((G_X1_addSign_21 q3.1 q3.2).bind fun q5 => some (1, q5.2))))) else some (0, S))
set_option maxHeartbeats 4000000 in
set_option maxRecDepth 100000 in
theorem T_X3_readSign_31_21 (E : EV)  {S : ST} {w : (Int32 × ST)} (h : G_X3_readSign_31_21  S = some w) : SD E mX3_readSign 0 [(0, .ref (eB E + 31)), (1, .ref (eB E + 21))] [] S (some (.int w.1)) w.2 := by
  unfold G_X3_readSign_31_21 at h
  refine s_aload_n (q := 1) dX3_readSign_0 rfl rfl 1 rfl ?_
  refine t_getI (q := 4) (k := 21) (f := 9) (v := (S.1 21 9)) dX3_readSign_1 rfl rfl rfl rfl inX1 (Nat.le_of_ble_eq_true rfl) fX3_117 rfl ?_
  refine s_bipush (q := 6) (v := 6) dX3_readSign_4 rfl rfl ?_
  refine s_icmp_lt (q := 9) (tgt := 11) dX3_readSign_6 rfl rfl (fun hb1 => ?_) (fun hb1 => ?_)
  · rw [if_pos hb1] at h
    refine s_aload_n (q := 12) dX3_readSign_11 rfl rfl 0 rfl ?_
    refine t_getR (q := 15) (k := 31) (f := 0) (t := 32) dX3_readSign_12 rfl rfl rfl rfl inX3 (Nat.le_of_ble_eq_true rfl) fX3_12 ?_
    obtain ⟨q2, hc2, h⟩ := bnd h
    try dsimp only at h
    refine t_callV (q := 18) (N := mX2_advance) (a := eB E + 32) [] dX3_readSign_15 rfl nkX2_advance vkX2_advance lX3_29 ⟨Nat.le_of_ble_eq_true rfl, Nat.le_of_ble_eq_true rfl⟩ (rc_obj (k := 32) rfl rfl) rfl rfl (Nat.le_of_ble_eq_true rfl) (Nat.le_of_ble_eq_true rfl) (T_X2_advance_32 E  hc2) ?_
    refine s_aload_n (q := 19) dX3_readSign_18 rfl rfl 0 rfl ?_
    refine s_iconst (q := 20) (v := 1) dX3_readSign_19 rfl rfl ?_
    refine s_iconst (q := 21) (v := 1) dX3_readSign_20 rfl rfl ?_
    refine s_aload_n (q := 22) dX3_readSign_21 rfl rfl 1 rfl ?_
    refine t_getI (q := 25) (k := 21) (f := 0) (v := (q2.2.1 21 0)) dX3_readSign_22 rfl rfl rfl rfl inX1 (Nat.le_of_ble_eq_true rfl) fX3_85 rfl ?_
    refine s_ishl (q := 26) dX3_readSign_25 rfl ?_
    refine s_iconst (q := 27) (v := 1) dX3_readSign_26 rfl rfl ?_
    refine s_isub (q := 28) dX3_readSign_27 rfl ?_
    obtain ⟨q3, hc3, h⟩ := bnd h
    try dsimp only at h
    refine t_callV (q := 31) (N := mX3_number) (a := eB E + 31) [.int 1, .int ((1 <<< ((q2.2.1 21 0) &&& 31)) - 1)] dX3_readSign_28 rfl nkX3_number vkX3_number lX3_104 ⟨Nat.le_of_ble_eq_true rfl, Nat.le_of_ble_eq_true rfl⟩ (rc_obj (k := 31) rfl rfl) rfl rfl (Nat.le_of_ble_eq_true rfl) (Nat.le_of_ble_eq_true rfl) (T_X3_number_31 E _ _ hc3) ?_
    refine s_istore_n (q := 32) (lv' := [(2, .int q3.1), (0, .ref (eB E + 31)), (1, .ref (eB E + 21))]) dX3_readSign_31 rfl rfl (Nat.le_of_ble_eq_true rfl) rfl ?_
    refine s_iload_n (q := 33) dX3_readSign_32 rfl rfl 0 rfl ?_
    refine s_iconst (q := 34) (v := (-1)) dX3_readSign_33 rfl rfl ?_
    refine s_icmp_ne (q := 37) (tgt := 39) dX3_readSign_34 rfl rfl (fun hb4 => ?_) (fun hb4 => ?_)
    · rw [if_neg hb4] at h
      refine s_aload_n (q := 40) dX3_readSign_39 rfl rfl 2 rfl ?_
      refine s_iload_n (q := 41) dX3_readSign_40 rfl rfl 0 rfl ?_
      obtain ⟨q5, hc5, h⟩ := bnd h
      try dsimp only at h
      refine t_callV (q := 44) (N := mX1_addSign) (a := eB E + 21) [.int q3.1] dX3_readSign_41 rfl nkX1_addSign vkX1_addSign lX3_120 ⟨Nat.le_of_ble_eq_true rfl, Nat.le_of_ble_eq_true rfl⟩ (rc_obj (k := 21) rfl rfl) rfl rfl (Nat.le_of_ble_eq_true rfl) (Nat.le_of_ble_eq_true rfl) (T_X1_addSign_21 E _ hc5) ?_
      refine s_pop (q := 45) dX3_readSign_44 rfl rfl ?_
      refine s_iconst (q := 46) (v := 1) dX3_readSign_45 rfl rfl ?_
      obtain rfl := Option.some.inj h
      exact t_zret dX3_readSign_46 rfl rfl rfl
    · rw [if_pos hb4] at h
      refine s_iconst (q := 38) (v := 0) dX3_readSign_37 rfl rfl ?_
      obtain rfl := Option.some.inj h
      exact t_zret dX3_readSign_38 rfl rfl rfl
  · rw [if_neg hb1] at h
    refine s_iconst (q := 10) (v := 0) dX3_readSign_9 rfl rfl ?_
    obtain rfl := Option.some.inj h
    exact t_zret dX3_readSign_10 rfl rfl rfl
-- X3_readCrew
def G_X3_readCrew_31_21  (S : ST) : Option (Int32 × ST) := ((G_X2_advance_32  S).bind fun q1 => ((G_X3_number_31 0 3 q1.2).bind fun q2 => (if q2.1 = (-1) then some (0, q2.2) else (if inB q2.1 4 = true then ((G_X3_numberBehind_31 1 99 (q2.2.1 26 q2.1.toNatClampNeg) q2.2).bind fun q5 => (if q5.1 = (-1) then some (0, q5.2) else (if inB q2.1 4 = true then ((G_X3_numberBehind_31 2 999 (q5.2.1 27 q2.1.toNatClampNeg) q5.2).bind fun q8 => (if q8.1 = (-1) then some (0, q8.2) else (if inB q2.1 4 = true then (if inB q2.1 4 = true then some (1, (wr (wr q8.2 26 q2.1.toNatClampNeg q5.1) 27 q2.1.toNatClampNeg q8.1)) else none) else none))) else none))) else none))))
set_option maxHeartbeats 4000000 in
set_option maxRecDepth 100000 in
theorem T_X3_readCrew_31_21 (E : EV)  {S : ST} {w : (Int32 × ST)} (h : G_X3_readCrew_31_21  S = some w) : SD E mX3_readCrew 0 [(0, .ref (eB E + 31)), (1, .ref (eB E + 21))] [] S (some (.int w.1)) w.2 := by
  unfold G_X3_readCrew_31_21 at h
  refine s_aload_n (q := 1) dX3_readCrew_0 rfl rfl 0 rfl ?_
  refine t_getR (q := 4) (k := 31) (f := 0) (t := 32) dX3_readCrew_1 rfl rfl rfl rfl inX3 (Nat.le_of_ble_eq_true rfl) fX3_12 ?_
  obtain ⟨q1, hc1, h⟩ := bnd h
  try dsimp only at h
  refine t_callV (q := 7) (N := mX2_advance) (a := eB E + 32) [] dX3_readCrew_4 rfl nkX2_advance vkX2_advance lX3_29 ⟨Nat.le_of_ble_eq_true rfl, Nat.le_of_ble_eq_true rfl⟩ (rc_obj (k := 32) rfl rfl) rfl rfl (Nat.le_of_ble_eq_true rfl) (Nat.le_of_ble_eq_true rfl) (T_X2_advance_32 E  hc1) ?_
  refine s_aload_n (q := 8) dX3_readCrew_7 rfl rfl 0 rfl ?_
  refine s_iconst (q := 9) (v := 0) dX3_readCrew_8 rfl rfl ?_
  refine s_iconst (q := 10) (v := 3) dX3_readCrew_9 rfl rfl ?_
  obtain ⟨q2, hc2, h⟩ := bnd h
  try dsimp only at h
  refine t_callV (q := 13) (N := mX3_number) (a := eB E + 31) [.int 0, .int 3] dX3_readCrew_10 rfl nkX3_number vkX3_number lX3_104 ⟨Nat.le_of_ble_eq_true rfl, Nat.le_of_ble_eq_true rfl⟩ (rc_obj (k := 31) rfl rfl) rfl rfl (Nat.le_of_ble_eq_true rfl) (Nat.le_of_ble_eq_true rfl) (T_X3_number_31 E _ _ hc2) ?_
  refine s_istore_n (q := 14) (lv' := [(2, .int q2.1), (0, .ref (eB E + 31)), (1, .ref (eB E + 21))]) dX3_readCrew_13 rfl rfl (Nat.le_of_ble_eq_true rfl) rfl ?_
  refine s_iload_n (q := 15) dX3_readCrew_14 rfl rfl 0 rfl ?_
  refine s_iconst (q := 16) (v := (-1)) dX3_readCrew_15 rfl rfl ?_
  refine s_icmp_ne (q := 19) (tgt := 21) dX3_readCrew_16 rfl rfl (fun hb3 => ?_) (fun hb3 => ?_)
  · rw [if_neg hb3] at h
    refine s_aload_n (q := 22) dX3_readCrew_21 rfl rfl 1 rfl ?_
    refine s_ldcS (q := 24) (j := 1) dX3_readCrew_22 rfl rfl rfl ?_
    refine s_bipush (q := 26) (v := 99) dX3_readCrew_24 rfl rfl ?_
    refine s_aload_n (q := 27) dX3_readCrew_26 rfl rfl 2 rfl ?_
    refine t_getR (q := 30) (k := 21) (f := 5) (t := 26) dX3_readCrew_27 rfl rfl rfl rfl inX1 (Nat.le_of_ble_eq_true rfl) fX3_108 ?_
    refine s_iload_n (q := 31) dX3_readCrew_30 rfl rfl 0 rfl ?_
    obtain ⟨hg4, h⟩ := chk_some h
    refine u_iald (q := 32) (k := 26) (v := (q2.2.1 26 q2.1.toNatClampNeg)) dX3_readCrew_31 rfl rfl (inB_in hg4) rfl rfl ?_
    obtain ⟨q5, hc5, h⟩ := bnd h
    try dsimp only at h
    refine t_callV (q := 35) (N := mX3_numberBehind) (a := eB E + 31) [.ref (eK E 1), .int 99, .int (q2.2.1 26 q2.1.toNatClampNeg)] dX3_readCrew_32 rfl nkX3_numberBehind vkX3_numberBehind lX3_92 ⟨Nat.le_of_ble_eq_true rfl, Nat.le_of_ble_eq_true rfl⟩ (rc_obj (k := 31) rfl rfl) rfl rfl (Nat.le_of_ble_eq_true rfl) (Nat.le_of_ble_eq_true rfl) (T_X3_numberBehind_31 E _ _ _ hc5) ?_
    refine s_istore_n (q := 36) (lv' := [(3, .int q5.1), (2, .int q2.1), (0, .ref (eB E + 31)), (1, .ref (eB E + 21))]) dX3_readCrew_35 rfl rfl (Nat.le_of_ble_eq_true rfl) rfl ?_
    refine s_iload_n (q := 37) dX3_readCrew_36 rfl rfl 0 rfl ?_
    refine s_iconst (q := 38) (v := (-1)) dX3_readCrew_37 rfl rfl ?_
    refine s_icmp_ne (q := 41) (tgt := 43) dX3_readCrew_38 rfl rfl (fun hb6 => ?_) (fun hb6 => ?_)
    · rw [if_neg hb6] at h
      refine s_aload_n (q := 44) dX3_readCrew_43 rfl rfl 2 rfl ?_
      refine s_ldcS (q := 46) (j := 2) dX3_readCrew_44 rfl rfl rfl ?_
      refine s_sipush (q := 49) (v := 999) dX3_readCrew_46 rfl rfl ?_
      refine s_aload_n (q := 50) dX3_readCrew_49 rfl rfl 3 rfl ?_
      refine t_getR (q := 53) (k := 21) (f := 6) (t := 27) dX3_readCrew_50 rfl rfl rfl rfl inX1 (Nat.le_of_ble_eq_true rfl) fX3_114 ?_
      refine s_iload_n (q := 54) dX3_readCrew_53 rfl rfl 1 rfl ?_
      obtain ⟨hg7, h⟩ := chk_some h
      refine u_iald (q := 55) (k := 27) (v := (q5.2.1 27 q2.1.toNatClampNeg)) dX3_readCrew_54 rfl rfl (inB_in hg7) rfl rfl ?_
      obtain ⟨q8, hc8, h⟩ := bnd h
      try dsimp only at h
      refine t_callV (q := 58) (N := mX3_numberBehind) (a := eB E + 31) [.ref (eK E 2), .int 999, .int (q5.2.1 27 q2.1.toNatClampNeg)] dX3_readCrew_55 rfl nkX3_numberBehind vkX3_numberBehind lX3_92 ⟨Nat.le_of_ble_eq_true rfl, Nat.le_of_ble_eq_true rfl⟩ (rc_obj (k := 31) rfl rfl) rfl rfl (Nat.le_of_ble_eq_true rfl) (Nat.le_of_ble_eq_true rfl) (T_X3_numberBehind_31 E _ _ _ hc8) ?_
      refine s_istore (q := 60) (lv' := [(4, .int q8.1), (3, .int q5.1), (2, .int q2.1), (0, .ref (eB E + 31)), (1, .ref (eB E + 21))]) dX3_readCrew_58 rfl (Nat.le_of_ble_eq_true rfl) rfl ?_
      refine s_iload (q := 62) dX3_readCrew_60 rfl 0 rfl ?_
      refine s_iconst (q := 63) (v := (-1)) dX3_readCrew_62 rfl rfl ?_
      refine s_icmp_ne (q := 66) (tgt := 68) dX3_readCrew_63 rfl rfl (fun hb9 => ?_) (fun hb9 => ?_)
      · rw [if_neg hb9] at h
        refine s_aload_n (q := 69) dX3_readCrew_68 rfl rfl 4 rfl ?_
        refine t_getR (q := 72) (k := 21) (f := 5) (t := 26) dX3_readCrew_69 rfl rfl rfl rfl inX1 (Nat.le_of_ble_eq_true rfl) fX3_108 ?_
        refine s_iload_n (q := 73) dX3_readCrew_72 rfl rfl 2 rfl ?_
        refine s_iload_n (q := 74) dX3_readCrew_73 rfl rfl 1 rfl ?_
        obtain ⟨hg10, h⟩ := chk_some h
        refine u_iast (q := 75) (k := 26) dX3_readCrew_74 rfl rfl (inB_in hg10) rfl ?_
        refine s_aload_n (q := 76) dX3_readCrew_75 rfl rfl 4 rfl ?_
        refine t_getR (q := 79) (k := 21) (f := 6) (t := 27) dX3_readCrew_76 rfl rfl rfl rfl inX1 (Nat.le_of_ble_eq_true rfl) fX3_114 ?_
        refine s_iload_n (q := 80) dX3_readCrew_79 rfl rfl 2 rfl ?_
        refine s_iload (q := 82) dX3_readCrew_80 rfl 0 rfl ?_
        obtain ⟨hg11, h⟩ := chk_some h
        refine u_iast (q := 83) (k := 27) dX3_readCrew_82 rfl rfl (inB_in hg11) rfl ?_
        refine s_iconst (q := 84) (v := 1) dX3_readCrew_83 rfl rfl ?_
        obtain rfl := Option.some.inj h
        exact t_zret dX3_readCrew_84 rfl rfl rfl
      · rw [if_pos hb9] at h
        refine s_iconst (q := 67) (v := 0) dX3_readCrew_66 rfl rfl ?_
        obtain rfl := Option.some.inj h
        exact t_zret dX3_readCrew_67 rfl rfl rfl
    · rw [if_pos hb6] at h
      refine s_iconst (q := 42) (v := 0) dX3_readCrew_41 rfl rfl ?_
      obtain rfl := Option.some.inj h
      exact t_zret dX3_readCrew_42 rfl rfl rfl
  · rw [if_pos hb3] at h
    refine s_iconst (q := 20) (v := 0) dX3_readCrew_19 rfl rfl ?_
    obtain rfl := Option.some.inj h
    exact t_zret dX3_readCrew_20 rfl rfl rfl
-- X3_readItem
def G_X3_readItem_31_21  (S : ST) : Option (Int32 × ST) := ((G_X2_isWord_32 0 S).bind fun q1 => (if q1.1 = 0 then ((G_X2_isWord_32 3 q1.2).bind fun q3 => (if q3.1 = 0 then ((G_X3_kindNamed_31  q3.2).bind fun q5 => (if q5.1 < 0 then ((G_X3_settingNamed_31  q5.2).bind fun q7 => (if q7.1 < 0 then some (0, q7.2) else ((G_X3_readSetting_31_21 q7.1 q7.2).bind fun q9 => (if q9.1 = 0 then some (0, q9.2) else some (1, q9.2))))) else ((G_X3_readStar_31_21 q5.1 q5.2).bind fun q11 => (if bitB q11.1 = true then some (q11.1, q11.2) else none)))) else ((G_X3_readSign_31_21  q3.2).bind fun q13 => (if bitB q13.1 = true then some (q13.1, q13.2) else none)))) else ((G_X3_readCrew_31_21  q1.2).bind fun q15 => (if bitB q15.1 = true then some (q15.1, q15.2) else none))))
set_option maxHeartbeats 4000000 in
set_option maxRecDepth 100000 in
theorem T_X3_readItem_31_21 (E : EV)  {S : ST} {w : (Int32 × ST)} (h : G_X3_readItem_31_21  S = some w) : SD E mX3_readItem 0 [(0, .ref (eB E + 31)), (1, .ref (eB E + 21))] [] S (some (.int w.1)) w.2 := by
  unfold G_X3_readItem_31_21 at h
  refine s_aload_n (q := 1) dX3_readItem_0 rfl rfl 0 rfl ?_
  refine t_getR (q := 4) (k := 31) (f := 0) (t := 32) dX3_readItem_1 rfl rfl rfl rfl inX3 (Nat.le_of_ble_eq_true rfl) fX3_12 ?_
  refine s_ldcS (q := 6) (j := 0) dX3_readItem_4 rfl rfl rfl ?_
  obtain ⟨q1, hc1, h⟩ := bnd h
  try dsimp only at h
  refine t_callV (q := 9) (N := mX2_isWord) (a := eB E + 32) [.ref (eK E 0)] dX3_readItem_6 rfl nkX2_isWord vkX2_isWord lX3_37 ⟨Nat.le_of_ble_eq_true rfl, Nat.le_of_ble_eq_true rfl⟩ (rc_obj (k := 32) rfl rfl) rfl rfl (Nat.le_of_ble_eq_true rfl) (Nat.le_of_ble_eq_true rfl) (T_X2_isWord_32 E _ hc1) ?_
  refine s_if_eq (q := 12) (tgt := 18) dX3_readItem_9 rfl rfl (fun hb2 => ?_) (fun hb2 => ?_)
  · rw [if_pos hb2] at h
    refine s_aload_n (q := 19) dX3_readItem_18 rfl rfl 0 rfl ?_
    refine t_getR (q := 22) (k := 31) (f := 0) (t := 32) dX3_readItem_19 rfl rfl rfl rfl inX3 (Nat.le_of_ble_eq_true rfl) fX3_12 ?_
    refine s_ldcS (q := 24) (j := 3) dX3_readItem_22 rfl rfl rfl ?_
    obtain ⟨q3, hc3, h⟩ := bnd h
    try dsimp only at h
    refine t_callV (q := 27) (N := mX2_isWord) (a := eB E + 32) [.ref (eK E 3)] dX3_readItem_24 rfl nkX2_isWord vkX2_isWord lX3_37 ⟨Nat.le_of_ble_eq_true rfl, Nat.le_of_ble_eq_true rfl⟩ (rc_obj (k := 32) rfl rfl) rfl rfl (Nat.le_of_ble_eq_true rfl) (Nat.le_of_ble_eq_true rfl) (T_X2_isWord_32 E _ hc3) ?_
    refine s_if_eq (q := 30) (tgt := 36) dX3_readItem_27 rfl rfl (fun hb4 => ?_) (fun hb4 => ?_)
    · rw [if_pos hb4] at h
      refine s_aload_n (q := 37) dX3_readItem_36 rfl rfl 0 rfl ?_
      obtain ⟨q5, hc5, h⟩ := bnd h
      try dsimp only at h
      refine t_callV (q := 40) (N := mX3_kindNamed) (a := eB E + 31) [] dX3_readItem_37 rfl nkX3_kindNamed vkX3_kindNamed lX3_49 ⟨Nat.le_of_ble_eq_true rfl, Nat.le_of_ble_eq_true rfl⟩ (rc_obj (k := 31) rfl rfl) rfl rfl (Nat.le_of_ble_eq_true rfl) (Nat.le_of_ble_eq_true rfl) (T_X3_kindNamed_31 E  hc5) ?_
      refine s_istore_n (q := 41) (lv' := [(2, .int q5.1), (0, .ref (eB E + 31)), (1, .ref (eB E + 21))]) dX3_readItem_40 rfl rfl (Nat.le_of_ble_eq_true rfl) rfl ?_
      refine s_iload_n (q := 42) dX3_readItem_41 rfl rfl 0 rfl ?_
      refine s_if_lt (q := 45) (tgt := 52) dX3_readItem_42 rfl rfl (fun hb6 => ?_) (fun hb6 => ?_)
      · rw [if_pos hb6] at h
        refine s_aload_n (q := 53) dX3_readItem_52 rfl rfl 1 rfl ?_
        obtain ⟨q7, hc7, h⟩ := bnd h
        try dsimp only at h
        refine t_callV (q := 56) (N := mX3_settingNamed) (a := eB E + 31) [] dX3_readItem_53 rfl nkX3_settingNamed vkX3_settingNamed lX3_57 ⟨Nat.le_of_ble_eq_true rfl, Nat.le_of_ble_eq_true rfl⟩ (rc_obj (k := 31) rfl rfl) rfl rfl (Nat.le_of_ble_eq_true rfl) (Nat.le_of_ble_eq_true rfl) (T_X3_settingNamed_31 E  hc7) ?_
        refine s_istore_n (q := 57) (lv' := [(3, .int q7.1), (2, .int q5.1), (0, .ref (eB E + 31)), (1, .ref (eB E + 21))]) dX3_readItem_56 rfl rfl (Nat.le_of_ble_eq_true rfl) rfl ?_
        refine s_iload_n (q := 58) dX3_readItem_57 rfl rfl 0 rfl ?_
        refine s_if_lt (q := 61) (tgt := 74) dX3_readItem_58 rfl rfl (fun hb8 => ?_) (fun hb8 => ?_)
        · rw [if_pos hb8] at h
          refine s_iconst (q := 75) (v := 0) dX3_readItem_74 rfl rfl ?_
          obtain rfl := Option.some.inj h
          exact t_zret dX3_readItem_75 rfl rfl rfl
        · rw [if_neg hb8] at h
          refine s_aload_n (q := 62) dX3_readItem_61 rfl rfl 2 rfl ?_
          refine s_aload_n (q := 63) dX3_readItem_62 rfl rfl 3 rfl ?_
          refine s_iload_n (q := 64) dX3_readItem_63 rfl rfl 0 rfl ?_
          obtain ⟨q9, hc9, h⟩ := bnd h
          try dsimp only at h
          refine t_callV (q := 67) (N := mX3_readSetting) (a := eB E + 31) [.ref (eB E + 21), .int q7.1] dX3_readItem_64 rfl nkX3_readSetting vkX3_readSetting lX3_60 ⟨Nat.le_of_ble_eq_true rfl, Nat.le_of_ble_eq_true rfl⟩ (rc_obj (k := 31) rfl rfl) rfl rfl (Nat.le_of_ble_eq_true rfl) (Nat.le_of_ble_eq_true rfl) (T_X3_readSetting_31_21 E _ hc9) ?_
          refine s_if_eq (q := 70) (tgt := 74) dX3_readItem_67 rfl rfl (fun hb10 => ?_) (fun hb10 => ?_)
          · rw [if_pos hb10] at h
            refine s_iconst (q := 75) (v := 0) dX3_readItem_74 rfl rfl ?_
            obtain rfl := Option.some.inj h
            exact t_zret dX3_readItem_75 rfl rfl rfl
          · rw [if_neg hb10] at h
            refine s_iconst (q := 71) (v := 1) dX3_readItem_70 rfl rfl ?_
            refine s_goto (tgt := 75) dX3_readItem_71 rfl ?_
            obtain rfl := Option.some.inj h
            exact t_zret dX3_readItem_75 rfl rfl rfl
      · rw [if_neg hb6] at h
        refine s_aload_n (q := 46) dX3_readItem_45 rfl rfl 1 rfl ?_
        refine s_aload_n (q := 47) dX3_readItem_46 rfl rfl 2 rfl ?_
        refine s_iload_n (q := 48) dX3_readItem_47 rfl rfl 0 rfl ?_
        obtain ⟨q11, hc11, h⟩ := bnd h
        try dsimp only at h
        refine t_callV (q := 51) (N := mX3_readStar) (a := eB E + 31) [.ref (eB E + 21), .int q5.1] dX3_readItem_48 rfl nkX3_readStar vkX3_readStar lX3_53 ⟨Nat.le_of_ble_eq_true rfl, Nat.le_of_ble_eq_true rfl⟩ (rc_obj (k := 31) rfl rfl) rfl rfl (Nat.le_of_ble_eq_true rfl) (Nat.le_of_ble_eq_true rfl) (T_X3_readStar_31_21 E _ hc11) ?_
        obtain ⟨hg12, h⟩ := chk_some h
        obtain rfl := Option.some.inj h
        exact t_zret dX3_readItem_51 rfl (bitB_z hg12) rfl
    · rw [if_neg hb4] at h
      refine s_aload_n (q := 31) dX3_readItem_30 rfl rfl 0 rfl ?_
      refine s_aload_n (q := 32) dX3_readItem_31 rfl rfl 1 rfl ?_
      obtain ⟨q13, hc13, h⟩ := bnd h
      try dsimp only at h
      refine t_callV (q := 35) (N := mX3_readSign) (a := eB E + 31) [.ref (eB E + 21)] dX3_readItem_32 rfl nkX3_readSign vkX3_readSign lX3_46 ⟨Nat.le_of_ble_eq_true rfl, Nat.le_of_ble_eq_true rfl⟩ (rc_obj (k := 31) rfl rfl) rfl rfl (Nat.le_of_ble_eq_true rfl) (Nat.le_of_ble_eq_true rfl) (T_X3_readSign_31_21 E  hc13) ?_
      obtain ⟨hg14, h⟩ := chk_some h
      obtain rfl := Option.some.inj h
      exact t_zret dX3_readItem_35 rfl (bitB_z hg14) rfl
  · rw [if_neg hb2] at h
    refine s_aload_n (q := 13) dX3_readItem_12 rfl rfl 0 rfl ?_
    refine s_aload_n (q := 14) dX3_readItem_13 rfl rfl 1 rfl ?_
    obtain ⟨q15, hc15, h⟩ := bnd h
    try dsimp only at h
    refine t_callV (q := 17) (N := mX3_readCrew) (a := eB E + 31) [.ref (eB E + 21)] dX3_readItem_14 rfl nkX3_readCrew vkX3_readCrew lX3_41 ⟨Nat.le_of_ble_eq_true rfl, Nat.le_of_ble_eq_true rfl⟩ (rc_obj (k := 31) rfl rfl) rfl rfl (Nat.le_of_ble_eq_true rfl) (Nat.le_of_ble_eq_true rfl) (T_X3_readCrew_31_21 E  hc15) ?_
    obtain ⟨hg16, h⟩ := chk_some h
    obtain rfl := Option.some.inj h
    exact t_zret dX3_readItem_17 rfl (bitB_z hg16) rfl
-- X3_readInto
def G_X3_readInto_31_21_65  (S : ST) : Option (Int32 × ST) := some (((-1) - (S.1 32 3)), S)
set_option maxHeartbeats 4000000 in
set_option maxRecDepth 100000 in
theorem T_X3_readInto_31_21_65 (E : EV)  {S : ST} {w : (Int32 × ST)} (h : G_X3_readInto_31_21_65  S = some w) : SD E mX3_readInto 65 [(0, .ref (eB E + 31))] [] S (some (.int w.1)) w.2 := by
  unfold G_X3_readInto_31_21_65 at h
  refine s_iconst (q := 66) (v := (-1)) dX3_readInto_65 rfl rfl ?_
  refine s_aload_n (q := 67) dX3_readInto_66 rfl rfl 0 rfl ?_
  refine t_getR (q := 70) (k := 31) (f := 0) (t := 32) dX3_readInto_67 rfl rfl rfl rfl inX3 (Nat.le_of_ble_eq_true rfl) fX3_12 ?_
  refine t_getI (q := 73) (k := 32) (f := 3) (v := (S.1 32 3)) dX3_readInto_70 rfl rfl rfl rfl inX2 (Nat.le_of_ble_eq_true rfl) fX3_32 rfl ?_
  refine s_isub (q := 74) dX3_readInto_73 rfl ?_
  obtain rfl := Option.some.inj h
  exact t_iret dX3_readInto_74 rfl rfl
def G_X3_readInto_31_21_9 : Nat → Int32 → ST → Option (Int32 × ST)
  | 0, _, _ => none
  | n + 1, x2, S => (if (120 : Int32) < x2 then G_X3_readInto_31_21_65  S else ((G_X3_readItem_31_21  S).bind fun q3 => (if q3.1 = 0 then G_X3_readInto_31_21_65  q3.2 else (if (q3.2.1 32 2) = 0 then some (x2, q3.2) else (if (q3.2.1 32 2) = 3 then ((G_X2_advance_32  q3.2).bind fun q7 => G_X3_readInto_31_21_9 n (x2 + 1) q7.2) else G_X3_readInto_31_21_65  q3.2)))))
set_option maxHeartbeats 4000000 in
set_option maxRecDepth 100000 in
theorem T_X3_readInto_31_21_9 (E : EV) : ∀ (n : Nat) (x2 : Int32) (S : ST) (w : (Int32 × ST)), G_X3_readInto_31_21_9 n x2 S = some w → SD E mX3_readInto 9 [(0, .ref (eB E + 31)), (1, .ref (eB E + 21)), (2, .int x2)] [] S (some (.int w.1)) w.2 := by
  intro n
  induction n with
  | zero =>
    intro x2 S w h
    cases h
  | succ n ih =>
    intro x2 S w h
    unfold G_X3_readInto_31_21_9 at h
    refine s_iload_n (q := 10) dX3_readInto_9 rfl rfl 2 rfl ?_
    refine s_bipush (q := 12) (v := 120) dX3_readInto_10 rfl rfl ?_
    refine s_icmp_gt (q := 15) (tgt := 65) dX3_readInto_12 rfl rfl (fun hb2 => ?_) (fun hb2 => ?_)
    · rw [if_pos hb2] at h
      exact t_sub [0] rfl (T_X3_readInto_31_21_65 E  h)
    · rw [if_neg hb2] at h
      refine s_aload_n (q := 16) dX3_readInto_15 rfl rfl 0 rfl ?_
      refine s_aload_n (q := 17) dX3_readInto_16 rfl rfl 1 rfl ?_
      obtain ⟨q3, hc3, h⟩ := bnd h
      try dsimp only at h
      refine t_callV (q := 20) (N := mX3_readItem) (a := eB E + 31) [.ref (eB E + 21)] dX3_readInto_17 rfl nkX3_readItem vkX3_readItem lX3_21 ⟨Nat.le_of_ble_eq_true rfl, Nat.le_of_ble_eq_true rfl⟩ (rc_obj (k := 31) rfl rfl) rfl rfl (Nat.le_of_ble_eq_true rfl) (Nat.le_of_ble_eq_true rfl) (T_X3_readItem_31_21 E  hc3) ?_
      refine s_if_ne (q := 23) (tgt := 26) dX3_readInto_20 rfl rfl (fun hb4 => ?_) (fun hb4 => ?_)
      · rw [if_neg hb4] at h
        refine s_aload_n (q := 27) dX3_readInto_26 rfl rfl 0 rfl ?_
        refine t_getR (q := 30) (k := 31) (f := 0) (t := 32) dX3_readInto_27 rfl rfl rfl rfl inX3 (Nat.le_of_ble_eq_true rfl) fX3_12 ?_
        refine t_getI (q := 33) (k := 32) (f := 2) (v := (q3.2.1 32 2)) dX3_readInto_30 rfl rfl rfl rfl inX2 (Nat.le_of_ble_eq_true rfl) fX3_25 rfl ?_
        refine s_if_ne (q := 36) (tgt := 38) dX3_readInto_33 rfl rfl (fun hb5 => ?_) (fun hb5 => ?_)
        · rw [if_neg hb5] at h
          refine s_aload_n (q := 39) dX3_readInto_38 rfl rfl 0 rfl ?_
          refine t_getR (q := 42) (k := 31) (f := 0) (t := 32) dX3_readInto_39 rfl rfl rfl rfl inX3 (Nat.le_of_ble_eq_true rfl) fX3_12 ?_
          refine t_getI (q := 45) (k := 32) (f := 2) (v := (q3.2.1 32 2)) dX3_readInto_42 rfl rfl rfl rfl inX2 (Nat.le_of_ble_eq_true rfl) fX3_25 rfl ?_
          refine s_iconst (q := 46) (v := 3) dX3_readInto_45 rfl rfl ?_
          refine s_icmp_eq (q := 49) (tgt := 52) dX3_readInto_46 rfl rfl (fun hb6 => ?_) (fun hb6 => ?_)
          · rw [if_pos hb6] at h
            refine s_aload_n (q := 53) dX3_readInto_52 rfl rfl 0 rfl ?_
            refine t_getR (q := 56) (k := 31) (f := 0) (t := 32) dX3_readInto_53 rfl rfl rfl rfl inX3 (Nat.le_of_ble_eq_true rfl) fX3_12 ?_
            obtain ⟨q7, hc7, h⟩ := bnd h
            try dsimp only at h
            refine t_callV (q := 59) (N := mX2_advance) (a := eB E + 32) [] dX3_readInto_56 rfl nkX2_advance vkX2_advance lX3_29 ⟨Nat.le_of_ble_eq_true rfl, Nat.le_of_ble_eq_true rfl⟩ (rc_obj (k := 32) rfl rfl) rfl rfl (Nat.le_of_ble_eq_true rfl) (Nat.le_of_ble_eq_true rfl) (T_X2_advance_32 E  hc7) ?_
            refine s_iinc (q := 62) (j := 2) (v := (x2 + 1)) (lv' := [(2, .int (x2 + 1)), (0, .ref (eB E + 31)), (1, .ref (eB E + 21))]) dX3_readInto_59 rfl rfl rfl (Nat.le_of_ble_eq_true rfl) rfl ?_
            refine s_goto (tgt := 9) dX3_readInto_62 rfl ?_
            exact t_sub [1, 2, 0] rfl (ih _ _ _ h)
          · rw [if_neg hb6] at h
            refine s_goto (tgt := 65) dX3_readInto_49 rfl ?_
            exact t_sub [0] rfl (T_X3_readInto_31_21_65 E  h)
        · rw [if_pos hb5] at h
          refine s_iload_n (q := 37) dX3_readInto_36 rfl rfl 2 rfl ?_
          obtain rfl := Option.some.inj h
          exact t_iret dX3_readInto_37 rfl rfl
      · rw [if_pos hb4] at h
        refine s_goto (tgt := 65) dX3_readInto_23 rfl ?_
        exact t_sub [0] rfl (T_X3_readInto_31_21_65 E  h)
def G_X3_readInto_31_21  (S : ST) : Option (Int32 × ST) := ((G_X2_rewind_32  S).bind fun q1 => G_X3_readInto_31_21_9 3000 1 q1.2)
set_option maxHeartbeats 4000000 in
set_option maxRecDepth 100000 in
theorem T_X3_readInto_31_21 (E : EV)  {S : ST} {w : (Int32 × ST)} (h : G_X3_readInto_31_21  S = some w) : SD E mX3_readInto 0 [(0, .ref (eB E + 31)), (1, .ref (eB E + 21))] [] S (some (.int w.1)) w.2 := by
  unfold G_X3_readInto_31_21 at h
  refine s_aload_n (q := 1) dX3_readInto_0 rfl rfl 0 rfl ?_
  refine t_getR (q := 4) (k := 31) (f := 0) (t := 32) dX3_readInto_1 rfl rfl rfl rfl inX3 (Nat.le_of_ble_eq_true rfl) fX3_12 ?_
  obtain ⟨q1, hc1, h⟩ := bnd h
  try dsimp only at h
  refine t_callV (q := 7) (N := mX2_rewind) (a := eB E + 32) [] dX3_readInto_4 rfl nkX2_rewind vkX2_rewind lX3_18 ⟨Nat.le_of_ble_eq_true rfl, Nat.le_of_ble_eq_true rfl⟩ (rc_obj (k := 32) rfl rfl) rfl rfl (Nat.le_of_ble_eq_true rfl) (Nat.le_of_ble_eq_true rfl) (T_X2_rewind_32 E  hc1) ?_
  refine s_iconst (q := 8) (v := 1) dX3_readInto_7 rfl rfl ?_
  refine s_istore_n (q := 9) (lv' := [(2, .int 1), (0, .ref (eB E + 31)), (1, .ref (eB E + 21))]) dX3_readInto_8 rfl rfl (Nat.le_of_ble_eq_true rfl) rfl ?_
  exact t_sub [1, 2, 0] rfl (T_X3_readInto_31_21_9 E _ _ _ _ h)
-- X1_become
def G_X1_become_1_21  (S : ST) : Option (Unit × ST) := some ((), (wr (cpS (cpS (wr (wr (cpS (cpS (cpS (cpS (cpS (cpS (cpS (wr S 1 0 (S.1 21 0)) 22 2 0 0 10) 23 3 0 0 10) 24 4 0 0 10) 25 5 0 0 10) 26 6 0 0 4) 27 7 0 0 4) 28 8 0 0 4) 1 8 (S.1 21 8)) 1 9 (S.1 21 9)) 29 9 0 0 6) 30 10 0 0 10) 1 12 (S.1 21 12)))
set_option maxHeartbeats 4000000 in
set_option maxRecDepth 100000 in
theorem T_X1_become_1_21 (E : EV)  {S : ST} {w : (Unit × ST)} (h : G_X1_become_1_21  S = some w) : SD E mX1_become 0 [(0, .ref (eB E + 1)), (1, .ref (eB E + 21))] [] S none w.2 := by
  unfold G_X1_become_1_21 at h
  refine s_aload_n (q := 1) dX1_become_0 rfl rfl 0 rfl ?_
  refine s_aload_n (q := 2) dX1_become_1 rfl rfl 1 rfl ?_
  refine t_getI (q := 5) (k := 21) (f := 0) (v := (S.1 21 0)) dX1_become_2 rfl rfl rfl rfl inX1 (Nat.le_of_ble_eq_true rfl) fX1_9 rfl ?_
  refine t_putI (q := 8) (k := 1) (f := 0) dX1_become_5 rfl rfl rfl rfl inX1 tyX1_ok nmX1 (Nat.le_of_ble_eq_true rfl) fX1_9 rfl rfl rfl ?_
  refine s_aload_n (q := 9) dX1_become_8 rfl rfl 1 rfl ?_
  refine t_getR (q := 12) (k := 21) (f := 1) (t := 22) dX1_become_9 rfl rfl rfl rfl inX1 (Nat.le_of_ble_eq_true rfl) fX1_15 ?_
  refine s_iconst (q := 13) (v := 0) dX1_become_12 rfl rfl ?_
  refine s_aload_n (q := 14) dX1_become_13 rfl rfl 0 rfl ?_
  refine t_getR (q := 17) (k := 1) (f := 1) (t := 2) dX1_become_14 rfl rfl rfl rfl inX1 (Nat.le_of_ble_eq_true rfl) fX1_15 ?_
  refine s_iconst (q := 18) (v := 0) dX1_become_17 rfl rfl ?_
  refine s_bipush (q := 20) (v := 10) dX1_become_18 rfl rfl ?_
  refine u_copy (q := 23) (k0 := 22) (k1 := 2) (js := 0) (jd := 0) (jw := 10) dX1_become_20 rfl lX1_58 rfl rfl (by decide) (by decide) (by decide) (by decide) (Nat.le_of_ble_eq_true rfl) (Nat.le_of_ble_eq_true rfl) ?_
  refine s_aload_n (q := 24) dX1_become_23 rfl rfl 1 rfl ?_
  refine t_getR (q := 27) (k := 21) (f := 2) (t := 23) dX1_become_24 rfl rfl rfl rfl inX1 (Nat.le_of_ble_eq_true rfl) fX1_19 ?_
  refine s_iconst (q := 28) (v := 0) dX1_become_27 rfl rfl ?_
  refine s_aload_n (q := 29) dX1_become_28 rfl rfl 0 rfl ?_
  refine t_getR (q := 32) (k := 1) (f := 2) (t := 3) dX1_become_29 rfl rfl rfl rfl inX1 (Nat.le_of_ble_eq_true rfl) fX1_19 ?_
  refine s_iconst (q := 33) (v := 0) dX1_become_32 rfl rfl ?_
  refine s_bipush (q := 35) (v := 10) dX1_become_33 rfl rfl ?_
  refine u_copy (q := 38) (k0 := 23) (k1 := 3) (js := 0) (jd := 0) (jw := 10) dX1_become_35 rfl lX1_58 rfl rfl (by decide) (by decide) (by decide) (by decide) (Nat.le_of_ble_eq_true rfl) (Nat.le_of_ble_eq_true rfl) ?_
  refine s_aload_n (q := 39) dX1_become_38 rfl rfl 1 rfl ?_
  refine t_getR (q := 42) (k := 21) (f := 3) (t := 24) dX1_become_39 rfl rfl rfl rfl inX1 (Nat.le_of_ble_eq_true rfl) fX1_22 ?_
  refine s_iconst (q := 43) (v := 0) dX1_become_42 rfl rfl ?_
  refine s_aload_n (q := 44) dX1_become_43 rfl rfl 0 rfl ?_
  refine t_getR (q := 47) (k := 1) (f := 3) (t := 4) dX1_become_44 rfl rfl rfl rfl inX1 (Nat.le_of_ble_eq_true rfl) fX1_22 ?_
  refine s_iconst (q := 48) (v := 0) dX1_become_47 rfl rfl ?_
  refine s_bipush (q := 50) (v := 10) dX1_become_48 rfl rfl ?_
  refine u_copy (q := 53) (k0 := 24) (k1 := 4) (js := 0) (jd := 0) (jw := 10) dX1_become_50 rfl lX1_58 rfl rfl (by decide) (by decide) (by decide) (by decide) (Nat.le_of_ble_eq_true rfl) (Nat.le_of_ble_eq_true rfl) ?_
  refine s_aload_n (q := 54) dX1_become_53 rfl rfl 1 rfl ?_
  refine t_getR (q := 57) (k := 21) (f := 4) (t := 25) dX1_become_54 rfl rfl rfl rfl inX1 (Nat.le_of_ble_eq_true rfl) fX1_25 ?_
  refine s_iconst (q := 58) (v := 0) dX1_become_57 rfl rfl ?_
  refine s_aload_n (q := 59) dX1_become_58 rfl rfl 0 rfl ?_
  refine t_getR (q := 62) (k := 1) (f := 4) (t := 5) dX1_become_59 rfl rfl rfl rfl inX1 (Nat.le_of_ble_eq_true rfl) fX1_25 ?_
  refine s_iconst (q := 63) (v := 0) dX1_become_62 rfl rfl ?_
  refine s_bipush (q := 65) (v := 10) dX1_become_63 rfl rfl ?_
  refine u_copy (q := 68) (k0 := 25) (k1 := 5) (js := 0) (jd := 0) (jw := 10) dX1_become_65 rfl lX1_58 rfl rfl (by decide) (by decide) (by decide) (by decide) (Nat.le_of_ble_eq_true rfl) (Nat.le_of_ble_eq_true rfl) ?_
  refine s_aload_n (q := 69) dX1_become_68 rfl rfl 1 rfl ?_
  refine t_getR (q := 72) (k := 21) (f := 5) (t := 26) dX1_become_69 rfl rfl rfl rfl inX1 (Nat.le_of_ble_eq_true rfl) fX1_28 ?_
  refine s_iconst (q := 73) (v := 0) dX1_become_72 rfl rfl ?_
  refine s_aload_n (q := 74) dX1_become_73 rfl rfl 0 rfl ?_
  refine t_getR (q := 77) (k := 1) (f := 5) (t := 6) dX1_become_74 rfl rfl rfl rfl inX1 (Nat.le_of_ble_eq_true rfl) fX1_28 ?_
  refine s_iconst (q := 78) (v := 0) dX1_become_77 rfl rfl ?_
  refine s_iconst (q := 79) (v := 4) dX1_become_78 rfl rfl ?_
  refine u_copy (q := 82) (k0 := 26) (k1 := 6) (js := 0) (jd := 0) (jw := 4) dX1_become_79 rfl lX1_58 rfl rfl (by decide) (by decide) (by decide) (by decide) (Nat.le_of_ble_eq_true rfl) (Nat.le_of_ble_eq_true rfl) ?_
  refine s_aload_n (q := 83) dX1_become_82 rfl rfl 1 rfl ?_
  refine t_getR (q := 86) (k := 21) (f := 6) (t := 27) dX1_become_83 rfl rfl rfl rfl inX1 (Nat.le_of_ble_eq_true rfl) fX1_31 ?_
  refine s_iconst (q := 87) (v := 0) dX1_become_86 rfl rfl ?_
  refine s_aload_n (q := 88) dX1_become_87 rfl rfl 0 rfl ?_
  refine t_getR (q := 91) (k := 1) (f := 6) (t := 7) dX1_become_88 rfl rfl rfl rfl inX1 (Nat.le_of_ble_eq_true rfl) fX1_31 ?_
  refine s_iconst (q := 92) (v := 0) dX1_become_91 rfl rfl ?_
  refine s_iconst (q := 93) (v := 4) dX1_become_92 rfl rfl ?_
  refine u_copy (q := 96) (k0 := 27) (k1 := 7) (js := 0) (jd := 0) (jw := 4) dX1_become_93 rfl lX1_58 rfl rfl (by decide) (by decide) (by decide) (by decide) (Nat.le_of_ble_eq_true rfl) (Nat.le_of_ble_eq_true rfl) ?_
  refine s_aload_n (q := 97) dX1_become_96 rfl rfl 1 rfl ?_
  refine t_getR (q := 100) (k := 21) (f := 7) (t := 28) dX1_become_97 rfl rfl rfl rfl inX1 (Nat.le_of_ble_eq_true rfl) fX1_34 ?_
  refine s_iconst (q := 101) (v := 0) dX1_become_100 rfl rfl ?_
  refine s_aload_n (q := 102) dX1_become_101 rfl rfl 0 rfl ?_
  refine t_getR (q := 105) (k := 1) (f := 7) (t := 8) dX1_become_102 rfl rfl rfl rfl inX1 (Nat.le_of_ble_eq_true rfl) fX1_34 ?_
  refine s_iconst (q := 106) (v := 0) dX1_become_105 rfl rfl ?_
  refine s_iconst (q := 107) (v := 4) dX1_become_106 rfl rfl ?_
  refine u_copy (q := 110) (k0 := 28) (k1 := 8) (js := 0) (jd := 0) (jw := 4) dX1_become_107 rfl lX1_58 rfl rfl (by decide) (by decide) (by decide) (by decide) (Nat.le_of_ble_eq_true rfl) (Nat.le_of_ble_eq_true rfl) ?_
  refine s_aload_n (q := 111) dX1_become_110 rfl rfl 0 rfl ?_
  refine s_aload_n (q := 112) dX1_become_111 rfl rfl 1 rfl ?_
  refine t_getI (q := 115) (k := 21) (f := 8) (v := (S.1 21 8)) dX1_become_112 rfl rfl rfl rfl inX1 (Nat.le_of_ble_eq_true rfl) fX1_37 rfl ?_
  refine t_putI (q := 118) (k := 1) (f := 8) dX1_become_115 rfl rfl rfl rfl inX1 tyX1_ok nmX1 (Nat.le_of_ble_eq_true rfl) fX1_37 rfl rfl rfl ?_
  refine s_aload_n (q := 119) dX1_become_118 rfl rfl 0 rfl ?_
  refine s_aload_n (q := 120) dX1_become_119 rfl rfl 1 rfl ?_
  refine t_getI (q := 123) (k := 21) (f := 9) (v := (S.1 21 9)) dX1_become_120 rfl rfl rfl rfl inX1 (Nat.le_of_ble_eq_true rfl) fX1_40 rfl ?_
  refine t_putI (q := 126) (k := 1) (f := 9) dX1_become_123 rfl rfl rfl rfl inX1 tyX1_ok nmX1 (Nat.le_of_ble_eq_true rfl) fX1_40 rfl rfl rfl ?_
  refine s_aload_n (q := 127) dX1_become_126 rfl rfl 1 rfl ?_
  refine t_getR (q := 130) (k := 21) (f := 10) (t := 29) dX1_become_127 rfl rfl rfl rfl inX1 (Nat.le_of_ble_eq_true rfl) fX1_43 ?_
  refine s_iconst (q := 131) (v := 0) dX1_become_130 rfl rfl ?_
  refine s_aload_n (q := 132) dX1_become_131 rfl rfl 0 rfl ?_
  refine t_getR (q := 135) (k := 1) (f := 10) (t := 9) dX1_become_132 rfl rfl rfl rfl inX1 (Nat.le_of_ble_eq_true rfl) fX1_43 ?_
  refine s_iconst (q := 136) (v := 0) dX1_become_135 rfl rfl ?_
  refine s_bipush (q := 138) (v := 6) dX1_become_136 rfl rfl ?_
  refine u_copy (q := 141) (k0 := 29) (k1 := 9) (js := 0) (jd := 0) (jw := 6) dX1_become_138 rfl lX1_58 rfl rfl (by decide) (by decide) (by decide) (by decide) (Nat.le_of_ble_eq_true rfl) (Nat.le_of_ble_eq_true rfl) ?_
  refine s_aload_n (q := 142) dX1_become_141 rfl rfl 1 rfl ?_
  refine t_getR (q := 145) (k := 21) (f := 11) (t := 30) dX1_become_142 rfl rfl rfl rfl inX1 (Nat.le_of_ble_eq_true rfl) fX1_46 ?_
  refine s_iconst (q := 146) (v := 0) dX1_become_145 rfl rfl ?_
  refine s_aload_n (q := 147) dX1_become_146 rfl rfl 0 rfl ?_
  refine t_getR (q := 150) (k := 1) (f := 11) (t := 10) dX1_become_147 rfl rfl rfl rfl inX1 (Nat.le_of_ble_eq_true rfl) fX1_46 ?_
  refine s_iconst (q := 151) (v := 0) dX1_become_150 rfl rfl ?_
  refine s_bipush (q := 153) (v := 10) dX1_become_151 rfl rfl ?_
  refine u_copy (q := 156) (k0 := 30) (k1 := 10) (js := 0) (jd := 0) (jw := 10) dX1_become_153 rfl lX1_58 rfl rfl (by decide) (by decide) (by decide) (by decide) (Nat.le_of_ble_eq_true rfl) (Nat.le_of_ble_eq_true rfl) ?_
  refine s_aload_n (q := 157) dX1_become_156 rfl rfl 0 rfl ?_
  refine s_aload_n (q := 158) dX1_become_157 rfl rfl 1 rfl ?_
  refine t_getI (q := 161) (k := 21) (f := 12) (v := (S.1 21 12)) dX1_become_158 rfl rfl rfl rfl inX1 (Nat.le_of_ble_eq_true rfl) fX1_49 rfl ?_
  refine t_putI (q := 164) (k := 1) (f := 12) dX1_become_161 rfl rfl rfl rfl inX1 tyX1_ok nmX1 (Nat.le_of_ble_eq_true rfl) fX1_49 rfl rfl rfl ?_
  obtain rfl := Option.some.inj h
  exact t_vret dX1_become_164 rfl rfl
