-- X6_nearest
def G_X6_nearest_51_4 : Nat → Int32 → Int32 → Int32 → ST → Option (Int32 × ST)
  | 0, _, _, _, _ => none
  | n + 1, x1, x2, x3, S => (if (S.1 52 1) ≤ x3 then some (x2, S) else (if x2 < 0 then ((G_X6_shines_51 x3 S).bind fun q3 => (if q3.1 = 0 then G_X6_nearest_51_4 n x1 x2 (x3 + 1) q3.2 else (if (1 : Int32) = 0 then G_X6_nearest_51_4 n x1 x2 (x3 + 1) q3.2 else G_X6_nearest_51_4 n x1 x3 (x3 + 1) q3.2))) else ((G_X6_get_51 x3 1 S).bind fun q6 => ((G_X6_apartOf x1 q6.1 q6.2).bind fun q7 => ((G_X6_get_51 x2 1 q7.2).bind fun q8 => ((G_X6_apartOf x1 q8.1 q8.2).bind fun q9 => (if q9.1 ≤ q7.1 then ((G_X6_shines_51 x3 q9.2).bind fun q11 => (if q11.1 = 0 then G_X6_nearest_51_4 n x1 x2 (x3 + 1) q11.2 else (if (0 : Int32) = 0 then G_X6_nearest_51_4 n x1 x2 (x3 + 1) q11.2 else G_X6_nearest_51_4 n x1 x3 (x3 + 1) q11.2))) else ((G_X6_shines_51 x3 q9.2).bind fun q14 => (if q14.1 = 0 then G_X6_nearest_51_4 n x1 x2 (x3 + 1) q14.2 else (if (1 : Int32) = 0 then G_X6_nearest_51_4 n x1 x2 (x3 + 1) q14.2 else G_X6_nearest_51_4 n x1 x3 (x3 + 1) q14.2))))))))))
set_option maxHeartbeats 4000000 in
set_option maxRecDepth 100000 in
theorem T_X6_nearest_51_4 (E : EV) : ∀ (n : Nat) (x1 : Int32) (x2 : Int32) (x3 : Int32) (S : ST), ∀ (w : (Int32 × ST)), G_X6_nearest_51_4 n x1 x2 x3 S = some w → ∀ {Q : Option Value → ST → Prop}, SS E mX6_nearest 73 [(2, .int w.1)] [] w.2 Q → SS E mX6_nearest 4 [(0, .ref (eB E + 51)), (1, .int x1), (2, .int x2), (3, .int x3)] [] S Q := by
  intro n
  induction n with
  | zero =>
    intro x1 x2 x3 S w h
    cases h
  | succ n ih =>
    intro x1 x2 x3 S w h Q K
    unfold G_X6_nearest_51_4 at h
    refine s_iload_n (q := 5) dX6_nearest_4 rfl rfl 3 rfl ?_
    refine s_aload_n (q := 6) dX6_nearest_5 rfl rfl 0 rfl ?_
    refine t_getR (q := 9) (k := 51) (f := 0) (t := 52) dX6_nearest_6 rfl rfl rfl rfl inX6 (Nat.le_of_ble_eq_true rfl) fX6_9 ?_
    refine s_iconst (q := 10) (v := 1) dX6_nearest_9 rfl rfl ?_
    refine u_iald (q := 11) (k := 52) (j := 1) (v := (S.1 52 1)) dX6_nearest_10 rfl rfl (inB_in (by decide)) (by decide) rfl ?_
    refine s_icmp_ge (q := 14) (tgt := 73) dX6_nearest_11 rfl rfl (fun hb1 => ?_) (fun hb1 => ?_)
    · rw [if_pos hb1] at h
      obtain rfl := Option.some.inj h
      exact t_sub [2] rfl K
    · rw [if_neg hb1] at h
      refine s_iload_n (q := 15) dX6_nearest_14 rfl rfl 2 rfl ?_
      refine s_if_lt (q := 18) (tgt := 41) dX6_nearest_15 rfl rfl (fun hb2 => ?_) (fun hb2 => ?_)
      · rw [if_pos hb2] at h
        refine s_iconst (q := 42) (v := 1) dX6_nearest_41 rfl rfl ?_
        refine s_goto (tgt := 46) dX6_nearest_42 rfl ?_
        refine s_istore (q := 48) (lv' := [(4, .int 1), (0, .ref (eB E + 51)), (1, .int x1), (2, .int x2), (3, .int x3)]) dX6_nearest_46 rfl (Nat.le_of_ble_eq_true rfl) rfl ?_
        refine s_aload_n (q := 49) dX6_nearest_48 rfl rfl 1 rfl ?_
        refine s_iload_n (q := 50) dX6_nearest_49 rfl rfl 4 rfl ?_
        obtain ⟨q3, hc3, h⟩ := bnd h
        try dsimp only at h
        refine t_callV (q := 53) (N := mX6_shines) (a := eB E + 51) [.int x3] dX6_nearest_50 rfl nkX6_shines vkX6_shines lX6_66 ⟨Nat.le_of_ble_eq_true rfl, Nat.le_of_ble_eq_true rfl⟩ (rc_obj (k := 51) rfl rfl) rfl rfl (Nat.le_of_ble_eq_true rfl) (Nat.le_of_ble_eq_true rfl) (T_X6_shines_51 E _ hc3) ?_
        refine s_if_eq (q := 56) (tgt := 65) dX6_nearest_53 rfl rfl (fun hb4 => ?_) (fun hb4 => ?_)
        · rw [if_pos hb4] at h
          refine s_iload_n (q := 66) dX6_nearest_65 rfl rfl 3 rfl ?_
          refine s_istore_n (q := 67) (lv' := [(2, .int x2), (4, .int 1), (0, .ref (eB E + 51)), (1, .int x1), (3, .int x3)]) dX6_nearest_66 rfl rfl (Nat.le_of_ble_eq_true rfl) rfl ?_
          refine s_iinc (q := 70) (j := 4) (v := (x3 + 1)) (lv' := [(3, .int (x3 + 1)), (2, .int x2), (4, .int 1), (0, .ref (eB E + 51)), (1, .int x1)]) dX6_nearest_67 rfl rfl rfl (Nat.le_of_ble_eq_true rfl) rfl ?_
          refine s_goto (tgt := 4) dX6_nearest_70 rfl ?_
          exact t_sub [3, 4, 1, 0] rfl (ih _ _ _ _ _ h K)
        · rw [if_neg hb4] at h
          refine s_iload (q := 58) dX6_nearest_56 rfl 0 rfl ?_
          refine s_if_eq (q := 61) (tgt := 65) dX6_nearest_58 rfl rfl (fun hb5 => ?_) (fun hb5 => ?_)
          · rw [if_pos hb5] at h
            refine s_iload_n (q := 66) dX6_nearest_65 rfl rfl 3 rfl ?_
            refine s_istore_n (q := 67) (lv' := [(2, .int x2), (4, .int 1), (0, .ref (eB E + 51)), (1, .int x1), (3, .int x3)]) dX6_nearest_66 rfl rfl (Nat.le_of_ble_eq_true rfl) rfl ?_
            refine s_iinc (q := 70) (j := 4) (v := (x3 + 1)) (lv' := [(3, .int (x3 + 1)), (2, .int x2), (4, .int 1), (0, .ref (eB E + 51)), (1, .int x1)]) dX6_nearest_67 rfl rfl rfl (Nat.le_of_ble_eq_true rfl) rfl ?_
            refine s_goto (tgt := 4) dX6_nearest_70 rfl ?_
            exact t_sub [3, 4, 1, 0] rfl (ih _ _ _ _ _ h K)
          · rw [if_neg hb5] at h
            refine s_iload_n (q := 62) dX6_nearest_61 rfl rfl 4 rfl ?_
            refine s_goto (tgt := 66) dX6_nearest_62 rfl ?_
            refine s_istore_n (q := 67) (lv' := [(2, .int x3), (4, .int 1), (0, .ref (eB E + 51)), (1, .int x1), (3, .int x3)]) dX6_nearest_66 rfl rfl (Nat.le_of_ble_eq_true rfl) rfl ?_
            refine s_iinc (q := 70) (j := 4) (v := (x3 + 1)) (lv' := [(3, .int (x3 + 1)), (2, .int x3), (4, .int 1), (0, .ref (eB E + 51)), (1, .int x1)]) dX6_nearest_67 rfl rfl rfl (Nat.le_of_ble_eq_true rfl) rfl ?_
            refine s_goto (tgt := 4) dX6_nearest_70 rfl ?_
            exact t_sub [3, 4, 1, 0] rfl (ih _ _ _ _ _ h K)
      · rw [if_neg hb2] at h
        refine s_iload_n (q := 19) dX6_nearest_18 rfl rfl 1 rfl ?_
        refine s_aload_n (q := 20) dX6_nearest_19 rfl rfl 0 rfl ?_
        refine s_iload_n (q := 21) dX6_nearest_20 rfl rfl 3 rfl ?_
        refine s_iconst (q := 22) (v := 1) dX6_nearest_21 rfl rfl ?_
        obtain ⟨q6, hc6, h⟩ := bnd h
        try dsimp only at h
        refine t_callV (q := 25) (N := mX6_get) (a := eB E + 51) [.int x3, .int 1] dX6_nearest_22 rfl nkX6_get vkX6_get lX6_58 ⟨Nat.le_of_ble_eq_true rfl, Nat.le_of_ble_eq_true rfl⟩ (rc_obj (k := 51) rfl rfl) rfl rfl (Nat.le_of_ble_eq_true rfl) (Nat.le_of_ble_eq_true rfl) (T_X6_get_51 E _ _ hc6) ?_
        obtain ⟨q7, hc7, h⟩ := bnd h
        try dsimp only at h
        refine t_callS (q := 28) (N := mX6_apartOf) [.int x1, .int q6.1] dX6_nearest_25 rfl nkX6_apartOf sX6_apartOf lX6_110 ⟨Nat.le_of_ble_eq_true rfl, Nat.le_of_ble_eq_true rfl⟩ rfl rfl (Nat.le_of_ble_eq_true rfl) (Nat.le_of_ble_eq_true rfl) (T_X6_apartOf E _ _ hc7) ?_
        refine s_iload_n (q := 29) dX6_nearest_28 rfl rfl 1 rfl ?_
        refine s_aload_n (q := 30) dX6_nearest_29 rfl rfl 0 rfl ?_
        refine s_iload_n (q := 31) dX6_nearest_30 rfl rfl 2 rfl ?_
        refine s_iconst (q := 32) (v := 1) dX6_nearest_31 rfl rfl ?_
        obtain ⟨q8, hc8, h⟩ := bnd h
        try dsimp only at h
        refine t_callV (q := 35) (N := mX6_get) (a := eB E + 51) [.int x2, .int 1] dX6_nearest_32 rfl nkX6_get vkX6_get lX6_58 ⟨Nat.le_of_ble_eq_true rfl, Nat.le_of_ble_eq_true rfl⟩ (rc_obj (k := 51) rfl rfl) rfl rfl (Nat.le_of_ble_eq_true rfl) (Nat.le_of_ble_eq_true rfl) (T_X6_get_51 E _ _ hc8) ?_
        obtain ⟨q9, hc9, h⟩ := bnd h
        try dsimp only at h
        refine t_callS (q := 38) (N := mX6_apartOf) [.int x1, .int q8.1] dX6_nearest_35 rfl nkX6_apartOf sX6_apartOf lX6_110 ⟨Nat.le_of_ble_eq_true rfl, Nat.le_of_ble_eq_true rfl⟩ rfl rfl (Nat.le_of_ble_eq_true rfl) (Nat.le_of_ble_eq_true rfl) (T_X6_apartOf E _ _ hc9) ?_
        refine s_icmp_ge (q := 41) (tgt := 45) dX6_nearest_38 rfl rfl (fun hb10 => ?_) (fun hb10 => ?_)
        · rw [if_pos hb10] at h
          refine s_iconst (q := 46) (v := 0) dX6_nearest_45 rfl rfl ?_
          refine s_istore (q := 48) (lv' := [(4, .int 0), (0, .ref (eB E + 51)), (1, .int x1), (2, .int x2), (3, .int x3)]) dX6_nearest_46 rfl (Nat.le_of_ble_eq_true rfl) rfl ?_
          refine s_aload_n (q := 49) dX6_nearest_48 rfl rfl 1 rfl ?_
          refine s_iload_n (q := 50) dX6_nearest_49 rfl rfl 4 rfl ?_
          obtain ⟨q11, hc11, h⟩ := bnd h
          try dsimp only at h
          refine t_callV (q := 53) (N := mX6_shines) (a := eB E + 51) [.int x3] dX6_nearest_50 rfl nkX6_shines vkX6_shines lX6_66 ⟨Nat.le_of_ble_eq_true rfl, Nat.le_of_ble_eq_true rfl⟩ (rc_obj (k := 51) rfl rfl) rfl rfl (Nat.le_of_ble_eq_true rfl) (Nat.le_of_ble_eq_true rfl) (T_X6_shines_51 E _ hc11) ?_
          refine s_if_eq (q := 56) (tgt := 65) dX6_nearest_53 rfl rfl (fun hb12 => ?_) (fun hb12 => ?_)
          · rw [if_pos hb12] at h
            refine s_iload_n (q := 66) dX6_nearest_65 rfl rfl 3 rfl ?_
            refine s_istore_n (q := 67) (lv' := [(2, .int x2), (4, .int 0), (0, .ref (eB E + 51)), (1, .int x1), (3, .int x3)]) dX6_nearest_66 rfl rfl (Nat.le_of_ble_eq_true rfl) rfl ?_
            refine s_iinc (q := 70) (j := 4) (v := (x3 + 1)) (lv' := [(3, .int (x3 + 1)), (2, .int x2), (4, .int 0), (0, .ref (eB E + 51)), (1, .int x1)]) dX6_nearest_67 rfl rfl rfl (Nat.le_of_ble_eq_true rfl) rfl ?_
            refine s_goto (tgt := 4) dX6_nearest_70 rfl ?_
            exact t_sub [3, 4, 1, 0] rfl (ih _ _ _ _ _ h K)
          · rw [if_neg hb12] at h
            refine s_iload (q := 58) dX6_nearest_56 rfl 0 rfl ?_
            refine s_if_eq (q := 61) (tgt := 65) dX6_nearest_58 rfl rfl (fun hb13 => ?_) (fun hb13 => ?_)
            · rw [if_pos hb13] at h
              refine s_iload_n (q := 66) dX6_nearest_65 rfl rfl 3 rfl ?_
              refine s_istore_n (q := 67) (lv' := [(2, .int x2), (4, .int 0), (0, .ref (eB E + 51)), (1, .int x1), (3, .int x3)]) dX6_nearest_66 rfl rfl (Nat.le_of_ble_eq_true rfl) rfl ?_
              refine s_iinc (q := 70) (j := 4) (v := (x3 + 1)) (lv' := [(3, .int (x3 + 1)), (2, .int x2), (4, .int 0), (0, .ref (eB E + 51)), (1, .int x1)]) dX6_nearest_67 rfl rfl rfl (Nat.le_of_ble_eq_true rfl) rfl ?_
              refine s_goto (tgt := 4) dX6_nearest_70 rfl ?_
              exact t_sub [3, 4, 1, 0] rfl (ih _ _ _ _ _ h K)
            · rw [if_neg hb13] at h
              refine s_iload_n (q := 62) dX6_nearest_61 rfl rfl 4 rfl ?_
              refine s_goto (tgt := 66) dX6_nearest_62 rfl ?_
              refine s_istore_n (q := 67) (lv' := [(2, .int x3), (4, .int 0), (0, .ref (eB E + 51)), (1, .int x1), (3, .int x3)]) dX6_nearest_66 rfl rfl (Nat.le_of_ble_eq_true rfl) rfl ?_
              refine s_iinc (q := 70) (j := 4) (v := (x3 + 1)) (lv' := [(3, .int (x3 + 1)), (2, .int x3), (4, .int 0), (0, .ref (eB E + 51)), (1, .int x1)]) dX6_nearest_67 rfl rfl rfl (Nat.le_of_ble_eq_true rfl) rfl ?_
              refine s_goto (tgt := 4) dX6_nearest_70 rfl ?_
              exact t_sub [3, 4, 1, 0] rfl (ih _ _ _ _ _ h K)
        · rw [if_neg hb10] at h
          refine s_iconst (q := 42) (v := 1) dX6_nearest_41 rfl rfl ?_
          refine s_goto (tgt := 46) dX6_nearest_42 rfl ?_
          refine s_istore (q := 48) (lv' := [(4, .int 1), (0, .ref (eB E + 51)), (1, .int x1), (2, .int x2), (3, .int x3)]) dX6_nearest_46 rfl (Nat.le_of_ble_eq_true rfl) rfl ?_
          refine s_aload_n (q := 49) dX6_nearest_48 rfl rfl 1 rfl ?_
          refine s_iload_n (q := 50) dX6_nearest_49 rfl rfl 4 rfl ?_
          obtain ⟨q14, hc14, h⟩ := bnd h
          try dsimp only at h
          refine t_callV (q := 53) (N := mX6_shines) (a := eB E + 51) [.int x3] dX6_nearest_50 rfl nkX6_shines vkX6_shines lX6_66 ⟨Nat.le_of_ble_eq_true rfl, Nat.le_of_ble_eq_true rfl⟩ (rc_obj (k := 51) rfl rfl) rfl rfl (Nat.le_of_ble_eq_true rfl) (Nat.le_of_ble_eq_true rfl) (T_X6_shines_51 E _ hc14) ?_
          refine s_if_eq (q := 56) (tgt := 65) dX6_nearest_53 rfl rfl (fun hb15 => ?_) (fun hb15 => ?_)
          · rw [if_pos hb15] at h
            refine s_iload_n (q := 66) dX6_nearest_65 rfl rfl 3 rfl ?_
            refine s_istore_n (q := 67) (lv' := [(2, .int x2), (4, .int 1), (0, .ref (eB E + 51)), (1, .int x1), (3, .int x3)]) dX6_nearest_66 rfl rfl (Nat.le_of_ble_eq_true rfl) rfl ?_
            refine s_iinc (q := 70) (j := 4) (v := (x3 + 1)) (lv' := [(3, .int (x3 + 1)), (2, .int x2), (4, .int 1), (0, .ref (eB E + 51)), (1, .int x1)]) dX6_nearest_67 rfl rfl rfl (Nat.le_of_ble_eq_true rfl) rfl ?_
            refine s_goto (tgt := 4) dX6_nearest_70 rfl ?_
            exact t_sub [3, 4, 1, 0] rfl (ih _ _ _ _ _ h K)
          · rw [if_neg hb15] at h
            refine s_iload (q := 58) dX6_nearest_56 rfl 0 rfl ?_
            refine s_if_eq (q := 61) (tgt := 65) dX6_nearest_58 rfl rfl (fun hb16 => ?_) (fun hb16 => ?_)
            · rw [if_pos hb16] at h
              refine s_iload_n (q := 66) dX6_nearest_65 rfl rfl 3 rfl ?_
              refine s_istore_n (q := 67) (lv' := [(2, .int x2), (4, .int 1), (0, .ref (eB E + 51)), (1, .int x1), (3, .int x3)]) dX6_nearest_66 rfl rfl (Nat.le_of_ble_eq_true rfl) rfl ?_
              refine s_iinc (q := 70) (j := 4) (v := (x3 + 1)) (lv' := [(3, .int (x3 + 1)), (2, .int x2), (4, .int 1), (0, .ref (eB E + 51)), (1, .int x1)]) dX6_nearest_67 rfl rfl rfl (Nat.le_of_ble_eq_true rfl) rfl ?_
              refine s_goto (tgt := 4) dX6_nearest_70 rfl ?_
              exact t_sub [3, 4, 1, 0] rfl (ih _ _ _ _ _ h K)
            · rw [if_neg hb16] at h
              refine s_iload_n (q := 62) dX6_nearest_61 rfl rfl 4 rfl ?_
              refine s_goto (tgt := 66) dX6_nearest_62 rfl ?_
              refine s_istore_n (q := 67) (lv' := [(2, .int x3), (4, .int 1), (0, .ref (eB E + 51)), (1, .int x1), (3, .int x3)]) dX6_nearest_66 rfl rfl (Nat.le_of_ble_eq_true rfl) rfl ?_
              refine s_iinc (q := 70) (j := 4) (v := (x3 + 1)) (lv' := [(3, .int (x3 + 1)), (2, .int x3), (4, .int 1), (0, .ref (eB E + 51)), (1, .int x1)]) dX6_nearest_67 rfl rfl rfl (Nat.le_of_ble_eq_true rfl) rfl ?_
              refine s_goto (tgt := 4) dX6_nearest_70 rfl ?_
              exact t_sub [3, 4, 1, 0] rfl (ih _ _ _ _ _ h K)
def G_X6_nearest_51 (x1 : Int32) (S : ST) : Option (Int32 × ST) := (G_X6_nearest_51_4 3000 x1 (-1) 0 S).bind fun q17 => some (q17.1, q17.2)
set_option maxHeartbeats 4000000 in
set_option maxRecDepth 100000 in
theorem T_X6_nearest_51 (E : EV) (x1 : Int32) {S : ST} {w : (Int32 × ST)} (h : G_X6_nearest_51 x1 S = some w) : SD E mX6_nearest 0 [(0, .ref (eB E + 51)), (1, .int x1)] [] S (some (.int w.1)) w.2 := by
  unfold G_X6_nearest_51 at h
  refine s_iconst (q := 1) (v := (-1)) dX6_nearest_0 rfl rfl ?_
  refine s_istore_n (q := 2) (lv' := [(2, .int (-1)), (0, .ref (eB E + 51)), (1, .int x1)]) dX6_nearest_1 rfl rfl (Nat.le_of_ble_eq_true rfl) rfl ?_
  refine s_iconst (q := 3) (v := 0) dX6_nearest_2 rfl rfl ?_
  refine s_istore_n (q := 4) (lv' := [(3, .int 0), (2, .int (-1)), (0, .ref (eB E + 51)), (1, .int x1)]) dX6_nearest_3 rfl rfl (Nat.le_of_ble_eq_true rfl) rfl ?_
  obtain ⟨q17, hc17, h⟩ := bnd h
  try dsimp only at h
  refine t_sub [2, 3, 1, 0] rfl (T_X6_nearest_51_4 E _ _ _ _ _ _ hc17 ?_)
  refine s_iload_n (q := 74) dX6_nearest_73 rfl rfl 0 rfl ?_
  obtain rfl := Option.some.inj h
  exact t_iret dX6_nearest_74 rfl rfl
-- X6_steers
def G_X6_steers_51 (x1 : Int32) (S : ST) : Option (Int32 × ST) := ((G_X6_isPlace x1 S).bind fun q1 => (if q1.1 = 0 then ((G_X6_no_51 0 q1.2).bind fun q6 => some (q6.1, q6.2)) else ((G_X6_nearest_51 x1 q1.2).bind fun q3 => (if (0 : Int32) ≤ q3.1 then some (q3.1, q3.2) else ((G_X6_no_51 3 q3.2).bind fun q5 => some (q5.1, q5.2))))))
set_option maxHeartbeats 4000000 in
set_option maxRecDepth 100000 in
theorem T_X6_steers_51 (E : EV) (x1 : Int32) {S : ST} {w : (Int32 × ST)} (h : G_X6_steers_51 x1 S = some w) : SD E mX6_steers 0 [(0, .ref (eB E + 51)), (1, .int x1)] [] S (some (.int w.1)) w.2 := by
  unfold G_X6_steers_51 at h
  refine s_iload_n (q := 1) dX6_steers_0 rfl rfl 1 rfl ?_
  obtain ⟨q1, hc1, h⟩ := bnd h
  try dsimp only at h
  refine t_callS (q := 4) (N := mX6_isPlace) [.int x1] dX6_steers_1 rfl nkX6_isPlace sX6_isPlace lX6_91 ⟨Nat.le_of_ble_eq_true rfl, Nat.le_of_ble_eq_true rfl⟩ rfl rfl (Nat.le_of_ble_eq_true rfl) (Nat.le_of_ble_eq_true rfl) (T_X6_isPlace E _ hc1) ?_
  refine s_if_ne (q := 7) (tgt := 13) dX6_steers_4 rfl rfl (fun hb2 => ?_) (fun hb2 => ?_)
  · rw [if_neg hb2] at h
    refine s_aload_n (q := 14) dX6_steers_13 rfl rfl 0 rfl ?_
    refine s_iload_n (q := 15) dX6_steers_14 rfl rfl 1 rfl ?_
    obtain ⟨q3, hc3, h⟩ := bnd h
    try dsimp only at h
    refine t_callV (q := 18) (N := mX6_nearest) (a := eB E + 51) [.int x1] dX6_steers_15 rfl nkX6_nearest vkX6_nearest lX6_177 ⟨Nat.le_of_ble_eq_true rfl, Nat.le_of_ble_eq_true rfl⟩ (rc_obj (k := 51) rfl rfl) rfl rfl (Nat.le_of_ble_eq_true rfl) (Nat.le_of_ble_eq_true rfl) (T_X6_nearest_51 E _ hc3) ?_
    refine s_istore_n (q := 19) (lv' := [(2, .int q3.1), (0, .ref (eB E + 51)), (1, .int x1)]) dX6_steers_18 rfl rfl (Nat.le_of_ble_eq_true rfl) rfl ?_
    refine s_iload_n (q := 20) dX6_steers_19 rfl rfl 0 rfl ?_
    refine s_if_ge (q := 23) (tgt := 31) dX6_steers_20 rfl rfl (fun hb4 => ?_) (fun hb4 => ?_)
    · rw [if_pos hb4] at h
      refine s_iload_n (q := 32) dX6_steers_31 rfl rfl 0 rfl ?_
      obtain rfl := Option.some.inj h
      exact t_iret dX6_steers_32 rfl rfl
    · rw [if_neg hb4] at h
      refine s_aload_n (q := 24) dX6_steers_23 rfl rfl 1 rfl ?_
      refine s_iconst (q := 25) (v := 3) dX6_steers_24 rfl rfl ?_
      obtain ⟨q5, hc5, h⟩ := bnd h
      try dsimp only at h
      refine t_callV (q := 28) (N := mX6_no) (a := eB E + 51) [.int 3] dX6_steers_25 rfl nkX6_no vkX6_no lX6_94 ⟨Nat.le_of_ble_eq_true rfl, Nat.le_of_ble_eq_true rfl⟩ (rc_obj (k := 51) rfl rfl) rfl rfl (Nat.le_of_ble_eq_true rfl) (Nat.le_of_ble_eq_true rfl) (T_X6_no_51 E _ hc5) ?_
      refine s_goto (tgt := 32) dX6_steers_28 rfl ?_
      obtain rfl := Option.some.inj h
      exact t_iret dX6_steers_32 rfl rfl
  · rw [if_pos hb2] at h
    refine s_aload_n (q := 8) dX6_steers_7 rfl rfl 0 rfl ?_
    refine s_iconst (q := 9) (v := 0) dX6_steers_8 rfl rfl ?_
    obtain ⟨q6, hc6, h⟩ := bnd h
    try dsimp only at h
    refine t_callV (q := 12) (N := mX6_no) (a := eB E + 51) [.int 0] dX6_steers_9 rfl nkX6_no vkX6_no lX6_94 ⟨Nat.le_of_ble_eq_true rfl, Nat.le_of_ble_eq_true rfl⟩ (rc_obj (k := 51) rfl rfl) rfl rfl (Nat.le_of_ble_eq_true rfl) (Nat.le_of_ble_eq_true rfl) (T_X6_no_51 E _ hc6) ?_
    obtain rfl := Option.some.inj h
    exact t_iret dX6_steers_12 rfl rfl
-- X5_sees
def G_X5_sees_0_40 : Nat → Int32 → Int32 → Int32 → Int32 → ST → Option (Int32 × ST)
  | 0, _, _, _, _, _ => none
  | n + 1, x1, x2, x3, x4, S => (if (100 : Int32) ≤ x4 then some (x3, S) else ((G_X1_nearestOf_1 x2 x4 S).bind fun q5 => (if q5.1 = x1 then G_X5_sees_0_40 n x1 x2 (x3 + 1) (x4 + 1) q5.2 else G_X5_sees_0_40 n x1 x2 x3 (x4 + 1) q5.2)))
set_option maxHeartbeats 4000000 in
set_option maxRecDepth 100000 in
theorem T_X5_sees_0_40 (E : EV) : ∀ (n : Nat) (x1 : Int32) (x2 : Int32) (x3 : Int32) (x4 : Int32) (S : ST), ∀ (w : (Int32 × ST)), G_X5_sees_0_40 n x1 x2 x3 x4 S = some w → ∀ {Q : Option Value → ST → Prop}, SS E mX5_sees 70 [(3, .int w.1)] [] w.2 Q → SS E mX5_sees 40 [(0, .ref (eB E + 0)), (1, .int x1), (2, .int x2), (3, .int x3), (4, .int x4)] [] S Q := by
  intro n
  induction n with
  | zero =>
    intro x1 x2 x3 x4 S w h
    cases h
  | succ n ih =>
    intro x1 x2 x3 x4 S w h Q K
    unfold G_X5_sees_0_40 at h
    refine s_iload (q := 42) dX5_sees_40 rfl 4 rfl ?_
    refine s_bipush (q := 44) (v := 100) dX5_sees_42 rfl rfl ?_
    refine s_icmp_ge (q := 47) (tgt := 70) dX5_sees_44 rfl rfl (fun hb4 => ?_) (fun hb4 => ?_)
    · rw [if_pos hb4] at h
      obtain rfl := Option.some.inj h
      exact t_sub [3] rfl K
    · rw [if_neg hb4] at h
      refine s_aload_n (q := 48) dX5_sees_47 rfl rfl 0 rfl ?_
      refine t_getR (q := 51) (k := 0) (f := 0) (t := 1) dX5_sees_48 rfl rfl rfl rfl inX5 (Nat.le_of_ble_eq_true rfl) fX5_10 ?_
      refine s_iload_n (q := 52) dX5_sees_51 rfl rfl 2 rfl ?_
      refine s_iload (q := 54) dX5_sees_52 rfl 4 rfl ?_
      obtain ⟨q5, hc5, h⟩ := bnd h
      try dsimp only at h
      refine t_callV (q := 57) (N := mX1_nearestOf) (a := eB E + 1) [.int x2, .int x4] dX5_sees_54 rfl nkX1_nearestOf vkX1_nearestOf lX5_206 ⟨Nat.le_of_ble_eq_true rfl, Nat.le_of_ble_eq_true rfl⟩ (rc_obj (k := 1) rfl rfl) rfl rfl (Nat.le_of_ble_eq_true rfl) (Nat.le_of_ble_eq_true rfl) (T_X1_nearestOf_1 E _ _ hc5) ?_
      refine s_iload_n (q := 58) dX5_sees_57 rfl rfl 1 rfl ?_
      refine s_icmp_ne (q := 61) (tgt := 64) dX5_sees_58 rfl rfl (fun hb6 => ?_) (fun hb6 => ?_)
      · rw [if_neg hb6] at h
        refine s_iinc (q := 67) (j := 4) (v := (x4 + 1)) (lv' := [(4, .int (x4 + 1)), (0, .ref (eB E + 0)), (1, .int x1), (2, .int x2), (3, .int x3)]) dX5_sees_64 rfl rfl rfl (Nat.le_of_ble_eq_true rfl) rfl ?_
        refine s_goto (tgt := 40) dX5_sees_67 rfl ?_
        exact t_sub [1, 2, 3, 4, 0] rfl (ih _ _ _ _ _ _ h K)
      · rw [if_pos hb6] at h
        refine s_iinc (q := 64) (j := 3) (v := (x3 + 1)) (lv' := [(3, .int (x3 + 1)), (0, .ref (eB E + 0)), (1, .int x1), (2, .int x2), (4, .int x4)]) dX5_sees_61 rfl rfl rfl (Nat.le_of_ble_eq_true rfl) rfl ?_
        refine s_iinc (q := 67) (j := 4) (v := (x4 + 1)) (lv' := [(4, .int (x4 + 1)), (3, .int (x3 + 1)), (0, .ref (eB E + 0)), (1, .int x1), (2, .int x2)]) dX5_sees_64 rfl rfl rfl (Nat.le_of_ble_eq_true rfl) rfl ?_
        refine s_goto (tgt := 40) dX5_sees_67 rfl ?_
        exact t_sub [2, 3, 4, 1, 0] rfl (ih _ _ _ _ _ _ h K)
def G_X5_sees_0 (x1 : Int32) (S : ST) : Option (Int32 × ST) := ((G_X5_isBelow x1 (S.1 1 0) S).bind fun q1 => (if q1.1 = 0 then ((G_X5_finding_0 0 q1.2).bind fun q8 => some (q8.1, q8.2)) else ((G_X1_brightSet_1_4  q1.2).bind fun q3 => (G_X5_sees_0_40 3000 x1 q3.1 0 0 q3.2).bind fun q7 => some (q7.1, q7.2))))
set_option maxHeartbeats 4000000 in
set_option maxRecDepth 100000 in
theorem T_X5_sees_0 (E : EV) (x1 : Int32) {S : ST} {w : (Int32 × ST)} (h : G_X5_sees_0 x1 S = some w) : SD E mX5_sees 0 [(0, .ref (eB E + 0)), (1, .int x1)] [] S (some (.int w.1)) w.2 := by
  unfold G_X5_sees_0 at h
  refine s_iload_n (q := 1) dX5_sees_0 rfl rfl 1 rfl ?_
  refine s_aload_n (q := 2) dX5_sees_1 rfl rfl 0 rfl ?_
  refine t_getR (q := 5) (k := 0) (f := 0) (t := 1) dX5_sees_2 rfl rfl rfl rfl inX5 (Nat.le_of_ble_eq_true rfl) fX5_10 ?_
  refine t_getI (q := 8) (k := 1) (f := 0) (v := (S.1 1 0)) dX5_sees_5 rfl rfl rfl rfl inX1 (Nat.le_of_ble_eq_true rfl) fX5_65 rfl ?_
  obtain ⟨q1, hc1, h⟩ := bnd h
  try dsimp only at h
  refine t_callS (q := 11) (N := mX5_isBelow) [.int x1, .int (S.1 1 0)] dX5_sees_8 rfl nkX5_isBelow sX5_isBelow lX5_57 ⟨Nat.le_of_ble_eq_true rfl, Nat.le_of_ble_eq_true rfl⟩ rfl rfl (Nat.le_of_ble_eq_true rfl) (Nat.le_of_ble_eq_true rfl) (T_X5_isBelow E _ _ hc1) ?_
  refine s_if_ne (q := 14) (tgt := 20) dX5_sees_11 rfl rfl (fun hb2 => ?_) (fun hb2 => ?_)
  · rw [if_neg hb2] at h
    refine s_aload_n (q := 21) dX5_sees_20 rfl rfl 0 rfl ?_
    refine t_getR (q := 24) (k := 0) (f := 0) (t := 1) dX5_sees_21 rfl rfl rfl rfl inX5 (Nat.le_of_ble_eq_true rfl) fX5_10 ?_
    refine s_aload_n (q := 25) dX5_sees_24 rfl rfl 0 rfl ?_
    refine t_getR (q := 28) (k := 0) (f := 0) (t := 1) dX5_sees_25 rfl rfl rfl rfl inX5 (Nat.le_of_ble_eq_true rfl) fX5_10 ?_
    refine t_getR (q := 31) (k := 1) (f := 3) (t := 4) dX5_sees_28 rfl rfl rfl rfl inX1 (Nat.le_of_ble_eq_true rfl) fX5_80 ?_
    obtain ⟨q3, hc3, h⟩ := bnd h
    try dsimp only at h
    refine t_callV (q := 34) (N := mX1_brightSet) (a := eB E + 1) [.ref (eB E + 4)] dX5_sees_31 rfl nkX1_brightSet vkX1_brightSet lX5_126 ⟨Nat.le_of_ble_eq_true rfl, Nat.le_of_ble_eq_true rfl⟩ (rc_obj (k := 1) rfl rfl) rfl rfl (Nat.le_of_ble_eq_true rfl) (Nat.le_of_ble_eq_true rfl) (T_X1_brightSet_1_4 E  hc3) ?_
    refine s_istore_n (q := 35) (lv' := [(2, .int q3.1), (0, .ref (eB E + 0)), (1, .int x1)]) dX5_sees_34 rfl rfl (Nat.le_of_ble_eq_true rfl) rfl ?_
    refine s_iconst (q := 36) (v := 0) dX5_sees_35 rfl rfl ?_
    refine s_istore_n (q := 37) (lv' := [(3, .int 0), (2, .int q3.1), (0, .ref (eB E + 0)), (1, .int x1)]) dX5_sees_36 rfl rfl (Nat.le_of_ble_eq_true rfl) rfl ?_
    refine s_iconst (q := 38) (v := 0) dX5_sees_37 rfl rfl ?_
    refine s_istore (q := 40) (lv' := [(4, .int 0), (3, .int 0), (2, .int q3.1), (0, .ref (eB E + 0)), (1, .int x1)]) dX5_sees_38 rfl (Nat.le_of_ble_eq_true rfl) rfl ?_
    obtain ⟨q7, hc7, h⟩ := bnd h
    try dsimp only at h
    refine t_sub [3, 4, 2, 1, 0] rfl (T_X5_sees_0_40 E _ _ _ _ _ _ _ hc7 ?_)
    refine s_iload_n (q := 71) dX5_sees_70 rfl rfl 0 rfl ?_
    obtain rfl := Option.some.inj h
    exact t_iret dX5_sees_71 rfl rfl
  · rw [if_pos hb2] at h
    refine s_aload_n (q := 15) dX5_sees_14 rfl rfl 0 rfl ?_
    refine s_iconst (q := 16) (v := 0) dX5_sees_15 rfl rfl ?_
    obtain ⟨q8, hc8, h⟩ := bnd h
    try dsimp only at h
    refine t_callV (q := 19) (N := mX5_finding) (a := eB E + 0) [.int 0] dX5_sees_16 rfl nkX5_finding vkX5_finding lX5_61 ⟨Nat.le_of_ble_eq_true rfl, Nat.le_of_ble_eq_true rfl⟩ (rc_obj (k := 0) rfl rfl) rfl rfl (Nat.le_of_ble_eq_true rfl) (Nat.le_of_ble_eq_true rfl) (T_X5_finding_0 E _ hc8) ?_
    obtain rfl := Option.some.inj h
    exact t_iret dX5_sees_19 rfl rfl
-- X6_sees
def G_X6_sees_51_18 : Nat → Int32 → Int32 → Int32 → ST → Option (Int32 × ST)
  | 0, _, _, _, _ => none
  | n + 1, x1, x2, x3, S => (if (100 : Int32) ≤ x3 then some (x2, S) else ((G_X6_nearest_51 x3 S).bind fun q4 => (if q4.1 = x1 then G_X6_sees_51_18 n x1 (x2 + 1) (x3 + 1) q4.2 else G_X6_sees_51_18 n x1 (x2 + 0) (x3 + 1) q4.2)))
set_option maxHeartbeats 4000000 in
set_option maxRecDepth 100000 in
theorem T_X6_sees_51_18 (E : EV) : ∀ (n : Nat) (x1 : Int32) (x2 : Int32) (x3 : Int32) (S : ST), ∀ (w : (Int32 × ST)), G_X6_sees_51_18 n x1 x2 x3 S = some w → ∀ {Q : Option Value → ST → Prop}, SS E mX6_sees 47 [(2, .int w.1)] [] w.2 Q → SS E mX6_sees 18 [(0, .ref (eB E + 51)), (1, .int x1), (2, .int x2), (3, .int x3)] [] S Q := by
  intro n
  induction n with
  | zero =>
    intro x1 x2 x3 S w h
    cases h
  | succ n ih =>
    intro x1 x2 x3 S w h Q K
    unfold G_X6_sees_51_18 at h
    refine s_iload_n (q := 19) dX6_sees_18 rfl rfl 3 rfl ?_
    refine s_bipush (q := 21) (v := 100) dX6_sees_19 rfl rfl ?_
    refine s_icmp_ge (q := 24) (tgt := 47) dX6_sees_21 rfl rfl (fun hb3 => ?_) (fun hb3 => ?_)
    · rw [if_pos hb3] at h
      obtain rfl := Option.some.inj h
      exact t_sub [2] rfl K
    · rw [if_neg hb3] at h
      refine s_iload_n (q := 25) dX6_sees_24 rfl rfl 2 rfl ?_
      refine s_aload_n (q := 26) dX6_sees_25 rfl rfl 0 rfl ?_
      refine s_iload_n (q := 27) dX6_sees_26 rfl rfl 3 rfl ?_
      obtain ⟨q4, hc4, h⟩ := bnd h
      try dsimp only at h
      refine t_callV (q := 30) (N := mX6_nearest) (a := eB E + 51) [.int x3] dX6_sees_27 rfl nkX6_nearest vkX6_nearest lX6_177 ⟨Nat.le_of_ble_eq_true rfl, Nat.le_of_ble_eq_true rfl⟩ (rc_obj (k := 51) rfl rfl) rfl rfl (Nat.le_of_ble_eq_true rfl) (Nat.le_of_ble_eq_true rfl) (T_X6_nearest_51 E _ hc4) ?_
      refine s_iload_n (q := 31) dX6_sees_30 rfl rfl 1 rfl ?_
      refine s_icmp_ne (q := 34) (tgt := 38) dX6_sees_31 rfl rfl (fun hb5 => ?_) (fun hb5 => ?_)
      · rw [if_neg hb5] at h
        refine s_iconst (q := 39) (v := 0) dX6_sees_38 rfl rfl ?_
        refine s_iadd (q := 40) dX6_sees_39 rfl ?_
        refine s_istore_n (q := 41) (lv' := [(2, .int (x2 + 0)), (0, .ref (eB E + 51)), (1, .int x1), (3, .int x3)]) dX6_sees_40 rfl rfl (Nat.le_of_ble_eq_true rfl) rfl ?_
        refine s_iinc (q := 44) (j := 3) (v := (x3 + 1)) (lv' := [(3, .int (x3 + 1)), (2, .int (x2 + 0)), (0, .ref (eB E + 51)), (1, .int x1)]) dX6_sees_41 rfl rfl rfl (Nat.le_of_ble_eq_true rfl) rfl ?_
        refine s_goto (tgt := 18) dX6_sees_44 rfl ?_
        exact t_sub [2, 3, 1, 0] rfl (ih _ _ _ _ _ h K)
      · rw [if_pos hb5] at h
        refine s_iconst (q := 35) (v := 1) dX6_sees_34 rfl rfl ?_
        refine s_goto (tgt := 39) dX6_sees_35 rfl ?_
        refine s_iadd (q := 40) dX6_sees_39 rfl ?_
        refine s_istore_n (q := 41) (lv' := [(2, .int (x2 + 1)), (0, .ref (eB E + 51)), (1, .int x1), (3, .int x3)]) dX6_sees_40 rfl rfl (Nat.le_of_ble_eq_true rfl) rfl ?_
        refine s_iinc (q := 44) (j := 3) (v := (x3 + 1)) (lv' := [(3, .int (x3 + 1)), (2, .int (x2 + 1)), (0, .ref (eB E + 51)), (1, .int x1)]) dX6_sees_41 rfl rfl rfl (Nat.le_of_ble_eq_true rfl) rfl ?_
        refine s_goto (tgt := 18) dX6_sees_44 rfl ?_
        exact t_sub [2, 3, 1, 0] rfl (ih _ _ _ _ _ h K)
def G_X6_sees_51 (x1 : Int32) (S : ST) : Option (Int32 × ST) := ((G_X6_isStar_51 x1 S).bind fun q1 => (if q1.1 = 0 then ((G_X6_no_51 0 q1.2).bind fun q7 => some (q7.1, q7.2)) else (G_X6_sees_51_18 3000 x1 0 0 q1.2).bind fun q6 => some (q6.1, q6.2)))
set_option maxHeartbeats 4000000 in
set_option maxRecDepth 100000 in
theorem T_X6_sees_51 (E : EV) (x1 : Int32) {S : ST} {w : (Int32 × ST)} (h : G_X6_sees_51 x1 S = some w) : SD E mX6_sees 0 [(0, .ref (eB E + 51)), (1, .int x1)] [] S (some (.int w.1)) w.2 := by
  unfold G_X6_sees_51 at h
  refine s_aload_n (q := 1) dX6_sees_0 rfl rfl 0 rfl ?_
  refine s_iload_n (q := 2) dX6_sees_1 rfl rfl 1 rfl ?_
  obtain ⟨q1, hc1, h⟩ := bnd h
  try dsimp only at h
  refine t_callV (q := 5) (N := mX6_isStar) (a := eB E + 51) [.int x1] dX6_sees_2 rfl nkX6_isStar vkX6_isStar lX6_101 ⟨Nat.le_of_ble_eq_true rfl, Nat.le_of_ble_eq_true rfl⟩ (rc_obj (k := 51) rfl rfl) rfl rfl (Nat.le_of_ble_eq_true rfl) (Nat.le_of_ble_eq_true rfl) (T_X6_isStar_51 E _ hc1) ?_
  refine s_if_ne (q := 8) (tgt := 14) dX6_sees_5 rfl rfl (fun hb2 => ?_) (fun hb2 => ?_)
  · rw [if_neg hb2] at h
    refine s_iconst (q := 15) (v := 0) dX6_sees_14 rfl rfl ?_
    refine s_istore_n (q := 16) (lv' := [(2, .int 0), (0, .ref (eB E + 51)), (1, .int x1)]) dX6_sees_15 rfl rfl (Nat.le_of_ble_eq_true rfl) rfl ?_
    refine s_iconst (q := 17) (v := 0) dX6_sees_16 rfl rfl ?_
    refine s_istore_n (q := 18) (lv' := [(3, .int 0), (2, .int 0), (0, .ref (eB E + 51)), (1, .int x1)]) dX6_sees_17 rfl rfl (Nat.le_of_ble_eq_true rfl) rfl ?_
    obtain ⟨q6, hc6, h⟩ := bnd h
    try dsimp only at h
    refine t_sub [2, 3, 1, 0] rfl (T_X6_sees_51_18 E _ _ _ _ _ _ hc6 ?_)
    refine s_iload_n (q := 48) dX6_sees_47 rfl rfl 0 rfl ?_
    obtain rfl := Option.some.inj h
    exact t_iret dX6_sees_48 rfl rfl
  · rw [if_pos hb2] at h
    refine s_aload_n (q := 9) dX6_sees_8 rfl rfl 0 rfl ?_
    refine s_iconst (q := 10) (v := 0) dX6_sees_9 rfl rfl ?_
    obtain ⟨q7, hc7, h⟩ := bnd h
    try dsimp only at h
    refine t_callV (q := 13) (N := mX6_no) (a := eB E + 51) [.int 0] dX6_sees_10 rfl nkX6_no vkX6_no lX6_94 ⟨Nat.le_of_ble_eq_true rfl, Nat.le_of_ble_eq_true rfl⟩ (rc_obj (k := 51) rfl rfl) rfl rfl (Nat.le_of_ble_eq_true rfl) (Nat.le_of_ble_eq_true rfl) (T_X6_no_51 E _ hc7) ?_
    obtain rfl := Option.some.inj h
    exact t_iret dX6_sees_13 rfl rfl
-- X5_lackOfSheet
def G_X5_lackOfSheet_0 (x1 : Int32) (S : ST) : Option (Int32 × ST) := ((G_X5_isBelow x1 4 S).bind fun q1 => (if q1.1 = 0 then ((G_X5_finding_0 0 q1.2).bind fun q6 => some (q6.1, q6.2)) else (if inB x1 4 = true then (if (q1.2.1 (shO x1) 0) = 0 then ((G_X5_finding_0 5 q1.2).bind fun q5 => some (q5.1, q5.2)) else some (0, q1.2)) else none)))
set_option maxHeartbeats 4000000 in
set_option maxRecDepth 100000 in
theorem T_X5_lackOfSheet_0 (E : EV) (x1 : Int32) {S : ST} {w : (Int32 × ST)} (h : G_X5_lackOfSheet_0 x1 S = some w) : SD E mX5_lackOfSheet 0 [(0, .ref (eB E + 0)), (1, .int x1)] [] S (some (.int w.1)) w.2 := by
  unfold G_X5_lackOfSheet_0 at h
  refine s_iload_n (q := 1) dX5_lackOfSheet_0 rfl rfl 1 rfl ?_
  refine s_iconst (q := 2) (v := 4) dX5_lackOfSheet_1 rfl rfl ?_
  obtain ⟨q1, hc1, h⟩ := bnd h
  try dsimp only at h
  refine t_callS (q := 5) (N := mX5_isBelow) [.int x1, .int 4] dX5_lackOfSheet_2 rfl nkX5_isBelow sX5_isBelow lX5_57 ⟨Nat.le_of_ble_eq_true rfl, Nat.le_of_ble_eq_true rfl⟩ rfl rfl (Nat.le_of_ble_eq_true rfl) (Nat.le_of_ble_eq_true rfl) (T_X5_isBelow E _ _ hc1) ?_
  refine s_if_ne (q := 8) (tgt := 14) dX5_lackOfSheet_5 rfl rfl (fun hb2 => ?_) (fun hb2 => ?_)
  · rw [if_neg hb2] at h
    refine s_aload_n (q := 15) dX5_lackOfSheet_14 rfl rfl 0 rfl ?_
    refine t_getR (q := 18) (k := 0) (f := 5) (t := 34) dX5_lackOfSheet_15 rfl rfl rfl rfl inX5 (Nat.le_of_ble_eq_true rfl) fX5_35 ?_
    refine s_iload_n (q := 19) dX5_lackOfSheet_18 rfl rfl 1 rfl ?_
    obtain ⟨hg3, h⟩ := chk_some h
    refine t_aald (q := 20) dX5_lackOfSheet_19 rfl (inB_in hg3) ?_
    refine t_getI (q := 23) (k := (shO x1)) (f := 0) (v := (q1.2.1 (shO x1) 0)) dX5_lackOfSheet_20 rfl (sh_obj (sh_of (inB_in hg3))) rfl rfl inX0 (Nat.le_of_ble_eq_true rfl) fX5_260 rfl ?_
    refine s_if_ne (q := 26) (tgt := 34) dX5_lackOfSheet_23 rfl rfl (fun hb4 => ?_) (fun hb4 => ?_)
    · rw [if_neg hb4] at h
      refine s_iconst (q := 35) (v := 0) dX5_lackOfSheet_34 rfl rfl ?_
      obtain rfl := Option.some.inj h
      exact t_iret dX5_lackOfSheet_35 rfl rfl
    · rw [if_pos hb4] at h
      refine s_aload_n (q := 27) dX5_lackOfSheet_26 rfl rfl 0 rfl ?_
      refine s_iconst (q := 28) (v := 5) dX5_lackOfSheet_27 rfl rfl ?_
      obtain ⟨q5, hc5, h⟩ := bnd h
      try dsimp only at h
      refine t_callV (q := 31) (N := mX5_finding) (a := eB E + 0) [.int 5] dX5_lackOfSheet_28 rfl nkX5_finding vkX5_finding lX5_61 ⟨Nat.le_of_ble_eq_true rfl, Nat.le_of_ble_eq_true rfl⟩ (rc_obj (k := 0) rfl rfl) rfl rfl (Nat.le_of_ble_eq_true rfl) (Nat.le_of_ble_eq_true rfl) (T_X5_finding_0 E _ hc5) ?_
      refine s_goto (tgt := 35) dX5_lackOfSheet_31 rfl ?_
      obtain rfl := Option.some.inj h
      exact t_iret dX5_lackOfSheet_35 rfl rfl
  · rw [if_pos hb2] at h
    refine s_aload_n (q := 9) dX5_lackOfSheet_8 rfl rfl 0 rfl ?_
    refine s_iconst (q := 10) (v := 0) dX5_lackOfSheet_9 rfl rfl ?_
    obtain ⟨q6, hc6, h⟩ := bnd h
    try dsimp only at h
    refine t_callV (q := 13) (N := mX5_finding) (a := eB E + 0) [.int 0] dX5_lackOfSheet_10 rfl nkX5_finding vkX5_finding lX5_61 ⟨Nat.le_of_ble_eq_true rfl, Nat.le_of_ble_eq_true rfl⟩ (rc_obj (k := 0) rfl rfl) rfl rfl (Nat.le_of_ble_eq_true rfl) (Nat.le_of_ble_eq_true rfl) (T_X5_finding_0 E _ hc6) ?_
    obtain rfl := Option.some.inj h
    exact t_iret dX5_lackOfSheet_13 rfl rfl
-- X5_isAsSheet
def G_X5_isAsSheet_0_d_14 : Nat → Nat → Int32 → Int32 → Int32 → ST → Option (Int32 × ST)
  | 0, _, _, _, _, _ => none
  | n + 1, x1, x3, x4, x5, S => if isSh x1 = true then (if (S.1 x1 1) ≤ x5 then some (1, S) else (if inB x5 40 = true then (if (S.1 (x1 + 1) x5.toNatClampNeg) = (-1) then ((G_X1_lifeNext_1 x3 x4 (S.1 8 0) S).bind fun q5 => G_X5_isAsSheet_0_d_14 n x1 x3 q5.1 (x5 + 1) q5.2) else (if (S.1 (x1 + 1) x5.toNatClampNeg) = x4 then ((G_X1_lifeNext_1 x3 x4 (S.1 8 0) S).bind fun q7 => G_X5_isAsSheet_0_d_14 n x1 x3 q7.1 (x5 + 1) q7.2) else some (0, S))) else none)) else none
set_option maxHeartbeats 4000000 in
set_option maxRecDepth 100000 in
theorem T_X5_isAsSheet_0_d_14 (E : EV) : ∀ (n : Nat) (x1 : Nat) (x3 : Int32) (x4 : Int32) (x5 : Int32) (S : ST) (w : (Int32 × ST)), G_X5_isAsSheet_0_d_14 n x1 x3 x4 x5 S = some w → SD E mX5_isAsSheet 14 [(0, .ref (eB E + 0)), (1, .ref (eB E + x1)), (3, .int x3), (4, .int x4), (5, .int x5)] [] S (some (.int w.1)) w.2 := by
  intro n
  induction n with
  | zero =>
    intro x1 x3 x4 x5 S w h
    cases h
  | succ n ih =>
    intro x1 x3 x4 x5 S w h
    unfold G_X5_isAsSheet_0_d_14 at h
    obtain ⟨hx1, h⟩ := chk_some h
    refine s_iload (q := 16) dX5_isAsSheet_14 rfl 4 rfl ?_
    refine s_aload_n (q := 17) dX5_isAsSheet_16 rfl rfl 1 rfl ?_
    refine t_getI (q := 20) (k := x1) (f := 1) (v := (S.1 x1 1)) dX5_isAsSheet_17 rfl (sh_obj hx1) rfl rfl inX0 (Nat.le_of_ble_eq_true rfl) fX5_256 rfl ?_
    refine s_icmp_ge (q := 23) (tgt := 74) dX5_isAsSheet_20 rfl rfl (fun hb2 => ?_) (fun hb2 => ?_)
    · rw [if_pos hb2] at h
      refine s_iconst (q := 75) (v := 1) dX5_isAsSheet_74 rfl rfl ?_
      obtain rfl := Option.some.inj h
      exact t_zret dX5_isAsSheet_75 rfl rfl rfl
    · rw [if_neg hb2] at h
      refine s_aload_n (q := 24) dX5_isAsSheet_23 rfl rfl 1 rfl ?_
      refine t_getR (q := 27) (k := x1) (f := 2) (t := x1 + 1) dX5_isAsSheet_24 rfl (sh_obj hx1) rfl rfl inX0 (Nat.le_of_ble_eq_true rfl) fX5_266 ?_
      refine s_iload (q := 29) dX5_isAsSheet_27 rfl 4 rfl ?_
      obtain ⟨hg3, h⟩ := chk_some h
      refine u_iald (q := 30) (k := (x1 + 1)) (v := (S.1 (x1 + 1) x5.toNatClampNeg)) dX5_isAsSheet_29 rfl (sh_num hx1) (inB_in hg3) rfl rfl ?_
      refine s_istore (q := 32) (lv' := [(6, .int (S.1 (x1 + 1) x5.toNatClampNeg)), (0, .ref (eB E + 0)), (1, .ref (eB E + x1)), (3, .int x3), (4, .int x4), (5, .int x5)]) dX5_isAsSheet_30 rfl (Nat.le_of_ble_eq_true rfl) rfl ?_
      refine s_iload (q := 34) dX5_isAsSheet_32 rfl 0 rfl ?_
      refine s_iconst (q := 35) (v := (-1)) dX5_isAsSheet_34 rfl rfl ?_
      refine s_icmp_eq (q := 38) (tgt := 47) dX5_isAsSheet_35 rfl rfl (fun hb4 => ?_) (fun hb4 => ?_)
      · rw [if_pos hb4] at h
        refine s_aload_n (q := 48) dX5_isAsSheet_47 rfl rfl 1 rfl ?_
        refine t_getR (q := 51) (k := 0) (f := 0) (t := 1) dX5_isAsSheet_48 rfl rfl rfl rfl inX5 (Nat.le_of_ble_eq_true rfl) fX5_10 ?_
        refine s_iload_n (q := 52) dX5_isAsSheet_51 rfl rfl 3 rfl ?_
        refine s_iload (q := 54) dX5_isAsSheet_52 rfl 4 rfl ?_
        refine s_aload_n (q := 55) dX5_isAsSheet_54 rfl rfl 1 rfl ?_
        refine t_getR (q := 58) (k := 0) (f := 0) (t := 1) dX5_isAsSheet_55 rfl rfl rfl rfl inX5 (Nat.le_of_ble_eq_true rfl) fX5_10 ?_
        refine t_getR (q := 61) (k := 1) (f := 7) (t := 8) dX5_isAsSheet_58 rfl rfl rfl rfl inX1 (Nat.le_of_ble_eq_true rfl) fX5_83 ?_
        refine s_iconst (q := 62) (v := 0) dX5_isAsSheet_61 rfl rfl ?_
        refine u_iald (q := 63) (k := 8) (j := 0) (v := (S.1 8 0)) dX5_isAsSheet_62 rfl rfl (inB_in (by decide)) (by decide) rfl ?_
        obtain ⟨q5, hc5, h⟩ := bnd h
        try dsimp only at h
        refine t_callV (q := 66) (N := mX1_lifeNext) (a := eB E + 1) [.int x3, .int x4, .int (S.1 8 0)] dX5_isAsSheet_63 rfl nkX1_lifeNext vkX1_lifeNext lX5_291 ⟨Nat.le_of_ble_eq_true rfl, Nat.le_of_ble_eq_true rfl⟩ (rc_obj (k := 1) rfl rfl) rfl rfl (Nat.le_of_ble_eq_true rfl) (Nat.le_of_ble_eq_true rfl) (T_X1_lifeNext_1 E _ _ _ hc5) ?_
        refine s_istore (q := 68) (lv' := [(4, .int q5.1), (6, .int (S.1 (x1 + 1) x5.toNatClampNeg)), (0, .ref (eB E + 0)), (1, .ref (eB E + x1)), (3, .int x3), (5, .int x5)]) dX5_isAsSheet_66 rfl (Nat.le_of_ble_eq_true rfl) rfl ?_
        refine s_iinc (q := 71) (j := 5) (v := (x5 + 1)) (lv' := [(5, .int (x5 + 1)), (4, .int q5.1), (6, .int (S.1 (x1 + 1) x5.toNatClampNeg)), (0, .ref (eB E + 0)), (1, .ref (eB E + x1)), (3, .int x3)]) dX5_isAsSheet_68 rfl rfl rfl (Nat.le_of_ble_eq_true rfl) rfl ?_
        refine s_goto (tgt := 14) dX5_isAsSheet_71 rfl ?_
        exact t_sub [3, 4, 5, 1, 0] rfl (ih _ _ _ _ _ _ h)
      · rw [if_neg hb4] at h
        refine s_iload (q := 40) dX5_isAsSheet_38 rfl 0 rfl ?_
        refine s_iload (q := 42) dX5_isAsSheet_40 rfl 4 rfl ?_
        refine s_icmp_eq (q := 45) (tgt := 47) dX5_isAsSheet_42 rfl rfl (fun hb6 => ?_) (fun hb6 => ?_)
        · rw [if_pos hb6] at h
          refine s_aload_n (q := 48) dX5_isAsSheet_47 rfl rfl 1 rfl ?_
          refine t_getR (q := 51) (k := 0) (f := 0) (t := 1) dX5_isAsSheet_48 rfl rfl rfl rfl inX5 (Nat.le_of_ble_eq_true rfl) fX5_10 ?_
          refine s_iload_n (q := 52) dX5_isAsSheet_51 rfl rfl 3 rfl ?_
          refine s_iload (q := 54) dX5_isAsSheet_52 rfl 4 rfl ?_
          refine s_aload_n (q := 55) dX5_isAsSheet_54 rfl rfl 1 rfl ?_
          refine t_getR (q := 58) (k := 0) (f := 0) (t := 1) dX5_isAsSheet_55 rfl rfl rfl rfl inX5 (Nat.le_of_ble_eq_true rfl) fX5_10 ?_
          refine t_getR (q := 61) (k := 1) (f := 7) (t := 8) dX5_isAsSheet_58 rfl rfl rfl rfl inX1 (Nat.le_of_ble_eq_true rfl) fX5_83 ?_
          refine s_iconst (q := 62) (v := 0) dX5_isAsSheet_61 rfl rfl ?_
          refine u_iald (q := 63) (k := 8) (j := 0) (v := (S.1 8 0)) dX5_isAsSheet_62 rfl rfl (inB_in (by decide)) (by decide) rfl ?_
          obtain ⟨q7, hc7, h⟩ := bnd h
          try dsimp only at h
          refine t_callV (q := 66) (N := mX1_lifeNext) (a := eB E + 1) [.int x3, .int x4, .int (S.1 8 0)] dX5_isAsSheet_63 rfl nkX1_lifeNext vkX1_lifeNext lX5_291 ⟨Nat.le_of_ble_eq_true rfl, Nat.le_of_ble_eq_true rfl⟩ (rc_obj (k := 1) rfl rfl) rfl rfl (Nat.le_of_ble_eq_true rfl) (Nat.le_of_ble_eq_true rfl) (T_X1_lifeNext_1 E _ _ _ hc7) ?_
          refine s_istore (q := 68) (lv' := [(4, .int q7.1), (6, .int (S.1 (x1 + 1) x5.toNatClampNeg)), (0, .ref (eB E + 0)), (1, .ref (eB E + x1)), (3, .int x3), (5, .int x5)]) dX5_isAsSheet_66 rfl (Nat.le_of_ble_eq_true rfl) rfl ?_
          refine s_iinc (q := 71) (j := 5) (v := (x5 + 1)) (lv' := [(5, .int (x5 + 1)), (4, .int q7.1), (6, .int (S.1 (x1 + 1) x5.toNatClampNeg)), (0, .ref (eB E + 0)), (1, .ref (eB E + x1)), (3, .int x3)]) dX5_isAsSheet_68 rfl rfl rfl (Nat.le_of_ble_eq_true rfl) rfl ?_
          refine s_goto (tgt := 14) dX5_isAsSheet_71 rfl ?_
          exact t_sub [3, 4, 5, 1, 0] rfl (ih _ _ _ _ _ _ h)
        · rw [if_neg hb6] at h
          refine s_iconst (q := 46) (v := 0) dX5_isAsSheet_45 rfl rfl ?_
          obtain rfl := Option.some.inj h
          exact t_zret dX5_isAsSheet_46 rfl rfl rfl
def G_X5_isAsSheet_0_d (x1 : Nat) (x2 : Int32) (x3 : Int32) (S : ST) : Option (Int32 × ST) := if isSh x1 = true then (if inB x2 10 = true then G_X5_isAsSheet_0_d_14 3000 x1 x3 (S.1 4 x2.toNatClampNeg) 0 S else none) else none
set_option maxHeartbeats 4000000 in
set_option maxRecDepth 100000 in
theorem T_X5_isAsSheet_0_d (E : EV) (x1 : Nat) (x2 : Int32) (x3 : Int32) {S : ST} {w : (Int32 × ST)} (h : G_X5_isAsSheet_0_d x1 x2 x3 S = some w) : SD E mX5_isAsSheet 0 [(0, .ref (eB E + 0)), (1, .ref (eB E + x1)), (2, .int x2), (3, .int x3)] [] S (some (.int w.1)) w.2 := by
  unfold G_X5_isAsSheet_0_d at h
  obtain ⟨hx1, h⟩ := chk_some h
  refine s_aload_n (q := 1) dX5_isAsSheet_0 rfl rfl 0 rfl ?_
  refine t_getR (q := 4) (k := 0) (f := 0) (t := 1) dX5_isAsSheet_1 rfl rfl rfl rfl inX5 (Nat.le_of_ble_eq_true rfl) fX5_10 ?_
  refine t_getR (q := 7) (k := 1) (f := 3) (t := 4) dX5_isAsSheet_4 rfl rfl rfl rfl inX1 (Nat.le_of_ble_eq_true rfl) fX5_80 ?_
  refine s_iload_n (q := 8) dX5_isAsSheet_7 rfl rfl 2 rfl ?_
  obtain ⟨hg1, h⟩ := chk_some h
  refine u_iald (q := 9) (k := 4) (v := (S.1 4 x2.toNatClampNeg)) dX5_isAsSheet_8 rfl rfl (inB_in hg1) rfl rfl ?_
  refine s_istore (q := 11) (lv' := [(4, .int (S.1 4 x2.toNatClampNeg)), (0, .ref (eB E + 0)), (1, .ref (eB E + x1)), (2, .int x2), (3, .int x3)]) dX5_isAsSheet_9 rfl (Nat.le_of_ble_eq_true rfl) rfl ?_
  refine s_iconst (q := 12) (v := 0) dX5_isAsSheet_11 rfl rfl ?_
  refine s_istore (q := 14) (lv' := [(5, .int 0), (4, .int (S.1 4 x2.toNatClampNeg)), (0, .ref (eB E + 0)), (1, .ref (eB E + x1)), (2, .int x2), (3, .int x3)]) dX5_isAsSheet_12 rfl (Nat.le_of_ble_eq_true rfl) rfl ?_
  exact t_sub [2, 3, 5, 1, 0] rfl (T_X5_isAsSheet_0_d_14 E _ _ _ _ _ _ _ h)
-- X5_which
def G_X5_which_0_17 : Nat → Int32 → Int32 → Int32 → ST → Option (Int32 × ST)
  | 0, _, _, _, _ => none
  | n + 1, x1, x3, x4, S => (if (S.1 1 0) ≤ x4 then some (x3, S) else (if inB x1 4 = true then (if inB x4 10 = true then ((G_X5_isAsSheet_0_d (shO x1) x4 (S.1 2 x4.toNatClampNeg) S).bind fun q6 => (if q6.1 = 0 then G_X5_which_0_17 n x1 x3 (x4 + 1) q6.2 else G_X5_which_0_17 n x1 (x3 ||| (1 <<< (x4 &&& 31))) (x4 + 1) q6.2)) else none) else none))
set_option maxHeartbeats 4000000 in
set_option maxRecDepth 100000 in
theorem T_X5_which_0_17 (E : EV) : ∀ (n : Nat) (x1 : Int32) (x3 : Int32) (x4 : Int32) (S : ST), ∀ (w : (Int32 × ST)), G_X5_which_0_17 n x1 x3 x4 S = some w → ∀ {Q : Option Value → ST → Prop}, SS E mX5_which 67 [(3, .int w.1)] [] w.2 Q → SS E mX5_which 17 [(0, .ref (eB E + 0)), (1, .int x1), (3, .int x3), (4, .int x4)] [] S Q := by
  intro n
  induction n with
  | zero =>
    intro x1 x3 x4 S w h
    cases h
  | succ n ih =>
    intro x1 x3 x4 S w h Q K
    unfold G_X5_which_0_17 at h
    refine s_iload (q := 19) dX5_which_17 rfl 3 rfl ?_
    refine s_aload_n (q := 20) dX5_which_19 rfl rfl 0 rfl ?_
    refine t_getR (q := 23) (k := 0) (f := 0) (t := 1) dX5_which_20 rfl rfl rfl rfl inX5 (Nat.le_of_ble_eq_true rfl) fX5_10 ?_
    refine t_getI (q := 26) (k := 1) (f := 0) (v := (S.1 1 0)) dX5_which_23 rfl rfl rfl rfl inX1 (Nat.le_of_ble_eq_true rfl) fX5_65 rfl ?_
    refine s_icmp_ge (q := 29) (tgt := 67) dX5_which_26 rfl rfl (fun hb3 => ?_) (fun hb3 => ?_)
    · rw [if_pos hb3] at h
      obtain rfl := Option.some.inj h
      exact t_sub [2] rfl K
    · rw [if_neg hb3] at h
      refine s_aload_n (q := 30) dX5_which_29 rfl rfl 0 rfl ?_
      refine s_aload_n (q := 31) dX5_which_30 rfl rfl 0 rfl ?_
      refine t_getR (q := 34) (k := 0) (f := 5) (t := 34) dX5_which_31 rfl rfl rfl rfl inX5 (Nat.le_of_ble_eq_true rfl) fX5_35 ?_
      refine s_iload_n (q := 35) dX5_which_34 rfl rfl 1 rfl ?_
      obtain ⟨hg4, h⟩ := chk_some h
      refine t_aald (q := 36) dX5_which_35 rfl (inB_in hg4) ?_
      refine s_iload (q := 38) dX5_which_36 rfl 3 rfl ?_
      refine s_aload_n (q := 39) dX5_which_38 rfl rfl 0 rfl ?_
      refine t_getR (q := 42) (k := 0) (f := 0) (t := 1) dX5_which_39 rfl rfl rfl rfl inX5 (Nat.le_of_ble_eq_true rfl) fX5_10 ?_
      refine t_getR (q := 45) (k := 1) (f := 1) (t := 2) dX5_which_42 rfl rfl rfl rfl inX1 (Nat.le_of_ble_eq_true rfl) fX5_77 ?_
      refine s_iload (q := 47) dX5_which_45 rfl 3 rfl ?_
      obtain ⟨hg5, h⟩ := chk_some h
      refine u_iald (q := 48) (k := 2) (v := (S.1 2 x4.toNatClampNeg)) dX5_which_47 rfl rfl (inB_in hg5) rfl rfl ?_
      obtain ⟨q6, hc6, h⟩ := bnd h
      try dsimp only at h
      refine t_callV (q := 51) (N := mX5_isAsSheet) (a := eB E + 0) [.ref (eB E + (shO x1)), .int x4, .int (S.1 2 x4.toNatClampNeg)] dX5_which_48 rfl nkX5_isAsSheet vkX5_isAsSheet lX5_212 ⟨Nat.le_of_ble_eq_true rfl, Nat.le_of_ble_eq_true rfl⟩ (rc_obj (k := 0) rfl rfl) rfl rfl (Nat.le_of_ble_eq_true rfl) (Nat.le_of_ble_eq_true rfl) (T_X5_isAsSheet_0_d E _ _ _ hc6) ?_
      refine s_if_eq (q := 54) (tgt := 61) dX5_which_51 rfl rfl (fun hb7 => ?_) (fun hb7 => ?_)
      · rw [if_pos hb7] at h
        refine s_iinc (q := 64) (j := 3) (v := (x4 + 1)) (lv' := [(4, .int (x4 + 1)), (0, .ref (eB E + 0)), (1, .int x1), (3, .int x3)]) dX5_which_61 rfl rfl rfl (Nat.le_of_ble_eq_true rfl) rfl ?_
        refine s_goto (tgt := 17) dX5_which_64 rfl ?_
        exact t_sub [1, 2, 3, 0] rfl (ih _ _ _ _ _ h K)
      · rw [if_neg hb7] at h
        refine s_iload_n (q := 55) dX5_which_54 rfl rfl 2 rfl ?_
        refine s_iconst (q := 56) (v := 1) dX5_which_55 rfl rfl ?_
        refine s_iload (q := 58) dX5_which_56 rfl 3 rfl ?_
        refine s_ishl (q := 59) dX5_which_58 rfl ?_
        refine s_ior (q := 60) dX5_which_59 rfl ?_
        refine s_istore_n (q := 61) (lv' := [(3, .int (x3 ||| (1 <<< (x4 &&& 31)))), (0, .ref (eB E + 0)), (1, .int x1), (4, .int x4)]) dX5_which_60 rfl rfl (Nat.le_of_ble_eq_true rfl) rfl ?_
        refine s_iinc (q := 64) (j := 3) (v := (x4 + 1)) (lv' := [(4, .int (x4 + 1)), (3, .int (x3 ||| (1 <<< (x4 &&& 31)))), (0, .ref (eB E + 0)), (1, .int x1)]) dX5_which_61 rfl rfl rfl (Nat.le_of_ble_eq_true rfl) rfl ?_
        refine s_goto (tgt := 17) dX5_which_64 rfl ?_
        exact t_sub [2, 3, 1, 0] rfl (ih _ _ _ _ _ h K)
def G_X5_which_0 (x1 : Int32) (S : ST) : Option (Int32 × ST) := ((G_X5_lackOfSheet_0 x1 S).bind fun q1 => (if q1.1 = 0 then (G_X5_which_0_17 3000 x1 0 0 q1.2).bind fun q8 => some (q8.1, q8.2) else some (q1.1, q1.2)))
set_option maxHeartbeats 4000000 in
set_option maxRecDepth 100000 in
theorem T_X5_which_0 (E : EV) (x1 : Int32) {S : ST} {w : (Int32 × ST)} (h : G_X5_which_0 x1 S = some w) : SD E mX5_which 0 [(0, .ref (eB E + 0)), (1, .int x1)] [] S (some (.int w.1)) w.2 := by
  unfold G_X5_which_0 at h
  refine s_aload_n (q := 1) dX5_which_0 rfl rfl 0 rfl ?_
  refine s_iload_n (q := 2) dX5_which_1 rfl rfl 1 rfl ?_
  obtain ⟨q1, hc1, h⟩ := bnd h
  try dsimp only at h
  refine t_callV (q := 5) (N := mX5_lackOfSheet) (a := eB E + 0) [.int x1] dX5_which_2 rfl nkX5_lackOfSheet vkX5_lackOfSheet lX5_209 ⟨Nat.le_of_ble_eq_true rfl, Nat.le_of_ble_eq_true rfl⟩ (rc_obj (k := 0) rfl rfl) rfl rfl (Nat.le_of_ble_eq_true rfl) (Nat.le_of_ble_eq_true rfl) (T_X5_lackOfSheet_0 E _ hc1) ?_
  refine s_istore_n (q := 6) (lv' := [(2, .int q1.1), (0, .ref (eB E + 0)), (1, .int x1)]) dX5_which_5 rfl rfl (Nat.le_of_ble_eq_true rfl) rfl ?_
  refine s_iload_n (q := 7) dX5_which_6 rfl rfl 0 rfl ?_
  refine s_if_eq (q := 10) (tgt := 12) dX5_which_7 rfl rfl (fun hb2 => ?_) (fun hb2 => ?_)
  · rw [if_pos hb2] at h
    refine s_iconst (q := 13) (v := 0) dX5_which_12 rfl rfl ?_
    refine s_istore_n (q := 14) (lv' := [(3, .int 0), (2, .int q1.1), (0, .ref (eB E + 0)), (1, .int x1)]) dX5_which_13 rfl rfl (Nat.le_of_ble_eq_true rfl) rfl ?_
    refine s_iconst (q := 15) (v := 0) dX5_which_14 rfl rfl ?_
    refine s_istore (q := 17) (lv' := [(4, .int 0), (3, .int 0), (2, .int q1.1), (0, .ref (eB E + 0)), (1, .int x1)]) dX5_which_15 rfl (Nat.le_of_ble_eq_true rfl) rfl ?_
    obtain ⟨q8, hc8, h⟩ := bnd h
    try dsimp only at h
    refine t_sub [3, 4, 1, 0] rfl (T_X5_which_0_17 E _ _ _ _ _ _ hc8 ?_)
    refine s_iload_n (q := 68) dX5_which_67 rfl rfl 0 rfl ?_
    obtain rfl := Option.some.inj h
    exact t_iret dX5_which_68 rfl rfl
  · rw [if_neg hb2] at h
    refine s_iload_n (q := 11) dX5_which_10 rfl rfl 0 rfl ?_
    obtain rfl := Option.some.inj h
    exact t_iret dX5_which_11 rfl rfl
-- X6_isSheet
def G_X6_isSheet (x0 : Int32) (S : ST) : Option (Int32 × ST) := ((G_X6_in1 x0 0 3 S).bind fun q1 => (if bitB q1.1 = true then some (q1.1, q1.2) else none))
set_option maxHeartbeats 4000000 in
set_option maxRecDepth 100000 in
theorem T_X6_isSheet (E : EV) (x0 : Int32) {S : ST} {w : (Int32 × ST)} (h : G_X6_isSheet x0 S = some w) : SD E mX6_isSheet 0 [(0, .int x0)] [] S (some (.int w.1)) w.2 := by
  unfold G_X6_isSheet at h
  refine s_iload_n (q := 1) dX6_isSheet_0 rfl rfl 0 rfl ?_
  refine s_iconst (q := 2) (v := 0) dX6_isSheet_1 rfl rfl ?_
  refine s_iconst (q := 3) (v := 3) dX6_isSheet_2 rfl rfl ?_
  obtain ⟨q1, hc1, h⟩ := bnd h
  try dsimp only at h
  refine t_callS (q := 6) (N := mX6_in1) [.int x0, .int 0, .int 3] dX6_isSheet_3 rfl nkX6_in1 sX6_in1 lX6_54 ⟨Nat.le_of_ble_eq_true rfl, Nat.le_of_ble_eq_true rfl⟩ rfl rfl (Nat.le_of_ble_eq_true rfl) (Nat.le_of_ble_eq_true rfl) (T_X6_in1 E _ _ _ hc1) ?_
  obtain ⟨hg2, h⟩ := chk_some h
  obtain rfl := Option.some.inj h
  exact t_zret dX6_isSheet_6 rfl (bitB_z hg2) rfl
-- X6_wrongSheet
def G_X6_wrongSheet_51 (x1 : Int32) (S : ST) : Option (Int32 × ST) := ((G_X6_isSheet x1 S).bind fun q1 => (if q1.1 = 0 then some (0, q1.2) else (if inB x1 4 = true then (if (q1.2.1 62 x1.toNatClampNeg) = 0 then some (5, q1.2) else some ((-1), q1.2)) else none)))
set_option maxHeartbeats 4000000 in
set_option maxRecDepth 100000 in
theorem T_X6_wrongSheet_51 (E : EV) (x1 : Int32) {S : ST} {w : (Int32 × ST)} (h : G_X6_wrongSheet_51 x1 S = some w) : SD E mX6_wrongSheet 0 [(0, .ref (eB E + 51)), (1, .int x1)] [] S (some (.int w.1)) w.2 := by
  unfold G_X6_wrongSheet_51 at h
  refine s_iload_n (q := 1) dX6_wrongSheet_0 rfl rfl 1 rfl ?_
  obtain ⟨q1, hc1, h⟩ := bnd h
  try dsimp only at h
  refine t_callS (q := 4) (N := mX6_isSheet) [.int x1] dX6_wrongSheet_1 rfl nkX6_isSheet sX6_isSheet lX6_180 ⟨Nat.le_of_ble_eq_true rfl, Nat.le_of_ble_eq_true rfl⟩ rfl rfl (Nat.le_of_ble_eq_true rfl) (Nat.le_of_ble_eq_true rfl) (T_X6_isSheet E _ hc1) ?_
  refine s_if_ne (q := 7) (tgt := 11) dX6_wrongSheet_4 rfl rfl (fun hb2 => ?_) (fun hb2 => ?_)
  · rw [if_neg hb2] at h
    refine s_aload_n (q := 12) dX6_wrongSheet_11 rfl rfl 0 rfl ?_
    refine t_getR (q := 15) (k := 51) (f := 16) (t := 62) dX6_wrongSheet_12 rfl rfl rfl rfl inX6 (Nat.le_of_ble_eq_true rfl) fX6_41 ?_
    refine s_iload_n (q := 16) dX6_wrongSheet_15 rfl rfl 1 rfl ?_
    obtain ⟨hg3, h⟩ := chk_some h
    refine u_iald (q := 17) (k := 62) (v := (q1.2.1 62 x1.toNatClampNeg)) dX6_wrongSheet_16 rfl rfl (inB_in hg3) rfl rfl ?_
    refine s_if_ne (q := 20) (tgt := 24) dX6_wrongSheet_17 rfl rfl (fun hb4 => ?_) (fun hb4 => ?_)
    · rw [if_neg hb4] at h
      refine s_iconst (q := 25) (v := (-1)) dX6_wrongSheet_24 rfl rfl ?_
      obtain rfl := Option.some.inj h
      exact t_iret dX6_wrongSheet_25 rfl rfl
    · rw [if_pos hb4] at h
      refine s_iconst (q := 21) (v := 5) dX6_wrongSheet_20 rfl rfl ?_
      refine s_goto (tgt := 25) dX6_wrongSheet_21 rfl ?_
      obtain rfl := Option.some.inj h
      exact t_iret dX6_wrongSheet_25 rfl rfl
  · rw [if_pos hb2] at h
    refine s_iconst (q := 8) (v := 0) dX6_wrongSheet_7 rfl rfl ?_
    refine s_goto (tgt := 25) dX6_wrongSheet_8 rfl ?_
    obtain rfl := Option.some.inj h
    exact t_iret dX6_wrongSheet_25 rfl rfl
-- X6_toldAt
def G_X6_toldAt_51 (x1 : Int32) (x2 : Int32) (S : ST) : Option (Int32 × ST) := (if inB ((40 * x1) + x2) 160 = true then some ((S.1 64 (((40 * x1) + x2).toNatClampNeg)), S) else none)
set_option maxHeartbeats 4000000 in
set_option maxRecDepth 100000 in
theorem T_X6_toldAt_51 (E : EV) (x1 : Int32) (x2 : Int32) {S : ST} {w : (Int32 × ST)} (h : G_X6_toldAt_51 x1 x2 S = some w) : SD E mX6_toldAt 0 [(0, .ref (eB E + 51)), (1, .int x1), (2, .int x2)] [] S (some (.int w.1)) w.2 := by
  unfold G_X6_toldAt_51 at h
  refine s_aload_n (q := 1) dX6_toldAt_0 rfl rfl 0 rfl ?_
  refine t_getR (q := 4) (k := 51) (f := 18) (t := 64) dX6_toldAt_1 rfl rfl rfl rfl inX6 (Nat.le_of_ble_eq_true rfl) fX6_47 ?_
  refine s_bipush (q := 6) (v := 40) dX6_toldAt_4 rfl rfl ?_
  refine s_iload_n (q := 7) dX6_toldAt_6 rfl rfl 1 rfl ?_
  refine s_imul (q := 8) dX6_toldAt_7 rfl ?_
  refine s_iload_n (q := 9) dX6_toldAt_8 rfl rfl 2 rfl ?_
  refine s_iadd (q := 10) dX6_toldAt_9 rfl ?_
  obtain ⟨hg1, h⟩ := chk_some h
  refine u_iald (q := 11) (k := 64) (v := (S.1 64 (((40 * x1) + x2).toNatClampNeg))) dX6_toldAt_10 rfl rfl (inB_in hg1) rfl rfl ?_
  obtain rfl := Option.some.inj h
  exact t_iret dX6_toldAt_11 rfl rfl
-- X6_dimsSo
def G_X6_dimsSo_51_9 : Nat → Int32 → Int32 → Int32 → Int32 → ST → Option (Int32 × ST)
  | 0, _, _, _, _, _ => none
  | n + 1, x1, x2, x3, x4, S => (if inB x1 4 = true then (if (S.1 63 x1.toNatClampNeg) ≤ x4 then some (x3, S) else (if x3 = 0 then some (x3, S) else ((G_X6_toldAt_51 x1 x4 S).bind fun q5 => (if q5.1 = (-1) then ((G_X6_night_51  q5.2).bind fun q7 => G_X6_dimsSo_51_9 n x1 x2 1 (x4 + 1) q7.2) else ((G_X6_toldAt_51 x1 x4 q5.2).bind fun q8 => ((G_X6_get_51 x2 2 q8.2).bind fun q9 => (if q8.1 = q9.1 then ((G_X6_night_51  q9.2).bind fun q12 => G_X6_dimsSo_51_9 n x1 x2 1 (x4 + 1) q12.2) else ((G_X6_night_51  q9.2).bind fun q11 => G_X6_dimsSo_51_9 n x1 x2 0 (x4 + 1) q11.2)))))))) else none)
set_option maxHeartbeats 4000000 in
set_option maxRecDepth 100000 in
theorem T_X6_dimsSo_51_9 (E : EV) : ∀ (n : Nat) (x1 : Int32) (x2 : Int32) (x3 : Int32) (x4 : Int32) (S : ST), ∀ (w : (Int32 × ST)), G_X6_dimsSo_51_9 n x1 x2 x3 x4 S = some w → ∀ {Q : Option Value → ST → Prop}, SS E mX6_dimsSo 67 [(0, .ref (eB E + 51)), (3, .int w.1)] [] w.2 Q → SS E mX6_dimsSo 9 [(0, .ref (eB E + 51)), (1, .int x1), (2, .int x2), (3, .int x3), (4, .int x4)] [] S Q := by
  intro n
  induction n with
  | zero =>
    intro x1 x2 x3 x4 S w h
    cases h
  | succ n ih =>
    intro x1 x2 x3 x4 S w h Q K
    unfold G_X6_dimsSo_51_9 at h
    refine s_iload (q := 11) dX6_dimsSo_9 rfl 4 rfl ?_
    refine s_aload_n (q := 12) dX6_dimsSo_11 rfl rfl 0 rfl ?_
    refine t_getR (q := 15) (k := 51) (f := 17) (t := 63) dX6_dimsSo_12 rfl rfl rfl rfl inX6 (Nat.le_of_ble_eq_true rfl) fX6_44 ?_
    refine s_iload_n (q := 16) dX6_dimsSo_15 rfl rfl 1 rfl ?_
    obtain ⟨hg2, h⟩ := chk_some h
    refine u_iald (q := 17) (k := 63) (v := (S.1 63 x1.toNatClampNeg)) dX6_dimsSo_16 rfl rfl (inB_in hg2) rfl rfl ?_
    refine s_icmp_ge (q := 20) (tgt := 67) dX6_dimsSo_17 rfl rfl (fun hb3 => ?_) (fun hb3 => ?_)
    · rw [if_pos hb3] at h
      obtain rfl := Option.some.inj h
      exact t_sub [0, 3] rfl K
    · rw [if_neg hb3] at h
      refine s_iload_n (q := 21) dX6_dimsSo_20 rfl rfl 3 rfl ?_
      refine s_if_eq (q := 24) (tgt := 67) dX6_dimsSo_21 rfl rfl (fun hb4 => ?_) (fun hb4 => ?_)
      · rw [if_pos hb4] at h
        obtain rfl := Option.some.inj h
        exact t_sub [0, 3] rfl K
      · rw [if_neg hb4] at h
        refine s_aload_n (q := 25) dX6_dimsSo_24 rfl rfl 0 rfl ?_
        refine s_iload_n (q := 26) dX6_dimsSo_25 rfl rfl 1 rfl ?_
        refine s_iload (q := 28) dX6_dimsSo_26 rfl 4 rfl ?_
        obtain ⟨q5, hc5, h⟩ := bnd h
        try dsimp only at h
        refine t_callV (q := 31) (N := mX6_toldAt) (a := eB E + 51) [.int x1, .int x4] dX6_dimsSo_28 rfl nkX6_toldAt vkX6_toldAt lX6_183 ⟨Nat.le_of_ble_eq_true rfl, Nat.le_of_ble_eq_true rfl⟩ (rc_obj (k := 51) rfl rfl) rfl rfl (Nat.le_of_ble_eq_true rfl) (Nat.le_of_ble_eq_true rfl) (T_X6_toldAt_51 E _ _ hc5) ?_
        refine s_iconst (q := 32) (v := (-1)) dX6_dimsSo_31 rfl rfl ?_
        refine s_icmp_eq (q := 35) (tgt := 51) dX6_dimsSo_32 rfl rfl (fun hb6 => ?_) (fun hb6 => ?_)
        · rw [if_pos hb6] at h
          refine s_iconst (q := 52) (v := 1) dX6_dimsSo_51 rfl rfl ?_
          refine s_goto (tgt := 56) dX6_dimsSo_52 rfl ?_
          refine s_istore_n (q := 57) (lv' := [(3, .int 1), (0, .ref (eB E + 51)), (1, .int x1), (2, .int x2), (4, .int x4)]) dX6_dimsSo_56 rfl rfl (Nat.le_of_ble_eq_true rfl) rfl ?_
          refine s_aload_n (q := 58) dX6_dimsSo_57 rfl rfl 1 rfl ?_
          obtain ⟨q7, hc7, h⟩ := bnd h
          try dsimp only at h
          refine t_callV (q := 61) (N := mX6_night) (a := eB E + 51) [] dX6_dimsSo_58 rfl nkX6_night vkX6_night lX6_88 ⟨Nat.le_of_ble_eq_true rfl, Nat.le_of_ble_eq_true rfl⟩ (rc_obj (k := 51) rfl rfl) rfl rfl (Nat.le_of_ble_eq_true rfl) (Nat.le_of_ble_eq_true rfl) (T_X6_night_51 E  hc7) ?_
          refine s_iinc (q := 64) (j := 4) (v := (x4 + 1)) (lv' := [(4, .int (x4 + 1)), (3, .int 1), (0, .ref (eB E + 51)), (1, .int x1), (2, .int x2)]) dX6_dimsSo_61 rfl rfl rfl (Nat.le_of_ble_eq_true rfl) rfl ?_
          refine s_goto (tgt := 9) dX6_dimsSo_64 rfl ?_
          exact t_sub [2, 3, 4, 1, 0] rfl (ih _ _ _ _ _ _ h K)
        · rw [if_neg hb6] at h
          refine s_aload_n (q := 36) dX6_dimsSo_35 rfl rfl 0 rfl ?_
          refine s_iload_n (q := 37) dX6_dimsSo_36 rfl rfl 1 rfl ?_
          refine s_iload (q := 39) dX6_dimsSo_37 rfl 4 rfl ?_
          obtain ⟨q8, hc8, h⟩ := bnd h
          try dsimp only at h
          refine t_callV (q := 42) (N := mX6_toldAt) (a := eB E + 51) [.int x1, .int x4] dX6_dimsSo_39 rfl nkX6_toldAt vkX6_toldAt lX6_183 ⟨Nat.le_of_ble_eq_true rfl, Nat.le_of_ble_eq_true rfl⟩ (rc_obj (k := 51) rfl rfl) rfl rfl (Nat.le_of_ble_eq_true rfl) (Nat.le_of_ble_eq_true rfl) (T_X6_toldAt_51 E _ _ hc8) ?_
          refine s_aload_n (q := 43) dX6_dimsSo_42 rfl rfl 0 rfl ?_
          refine s_iload_n (q := 44) dX6_dimsSo_43 rfl rfl 2 rfl ?_
          refine s_iconst (q := 45) (v := 2) dX6_dimsSo_44 rfl rfl ?_
          obtain ⟨q9, hc9, h⟩ := bnd h
          try dsimp only at h
          refine t_callV (q := 48) (N := mX6_get) (a := eB E + 51) [.int x2, .int 2] dX6_dimsSo_45 rfl nkX6_get vkX6_get lX6_58 ⟨Nat.le_of_ble_eq_true rfl, Nat.le_of_ble_eq_true rfl⟩ (rc_obj (k := 51) rfl rfl) rfl rfl (Nat.le_of_ble_eq_true rfl) (Nat.le_of_ble_eq_true rfl) (T_X6_get_51 E _ _ hc9) ?_
          refine s_icmp_ne (q := 51) (tgt := 55) dX6_dimsSo_48 rfl rfl (fun hb10 => ?_) (fun hb10 => ?_)
          · rw [if_neg hb10] at h
            refine s_iconst (q := 56) (v := 0) dX6_dimsSo_55 rfl rfl ?_
            refine s_istore_n (q := 57) (lv' := [(3, .int 0), (0, .ref (eB E + 51)), (1, .int x1), (2, .int x2), (4, .int x4)]) dX6_dimsSo_56 rfl rfl (Nat.le_of_ble_eq_true rfl) rfl ?_
            refine s_aload_n (q := 58) dX6_dimsSo_57 rfl rfl 1 rfl ?_
            obtain ⟨q11, hc11, h⟩ := bnd h
            try dsimp only at h
            refine t_callV (q := 61) (N := mX6_night) (a := eB E + 51) [] dX6_dimsSo_58 rfl nkX6_night vkX6_night lX6_88 ⟨Nat.le_of_ble_eq_true rfl, Nat.le_of_ble_eq_true rfl⟩ (rc_obj (k := 51) rfl rfl) rfl rfl (Nat.le_of_ble_eq_true rfl) (Nat.le_of_ble_eq_true rfl) (T_X6_night_51 E  hc11) ?_
            refine s_iinc (q := 64) (j := 4) (v := (x4 + 1)) (lv' := [(4, .int (x4 + 1)), (3, .int 0), (0, .ref (eB E + 51)), (1, .int x1), (2, .int x2)]) dX6_dimsSo_61 rfl rfl rfl (Nat.le_of_ble_eq_true rfl) rfl ?_
            refine s_goto (tgt := 9) dX6_dimsSo_64 rfl ?_
            exact t_sub [2, 3, 4, 1, 0] rfl (ih _ _ _ _ _ _ h K)
          · rw [if_pos hb10] at h
            refine s_iconst (q := 52) (v := 1) dX6_dimsSo_51 rfl rfl ?_
            refine s_goto (tgt := 56) dX6_dimsSo_52 rfl ?_
            refine s_istore_n (q := 57) (lv' := [(3, .int 1), (0, .ref (eB E + 51)), (1, .int x1), (2, .int x2), (4, .int x4)]) dX6_dimsSo_56 rfl rfl (Nat.le_of_ble_eq_true rfl) rfl ?_
            refine s_aload_n (q := 58) dX6_dimsSo_57 rfl rfl 1 rfl ?_
            obtain ⟨q12, hc12, h⟩ := bnd h
            try dsimp only at h
            refine t_callV (q := 61) (N := mX6_night) (a := eB E + 51) [] dX6_dimsSo_58 rfl nkX6_night vkX6_night lX6_88 ⟨Nat.le_of_ble_eq_true rfl, Nat.le_of_ble_eq_true rfl⟩ (rc_obj (k := 51) rfl rfl) rfl rfl (Nat.le_of_ble_eq_true rfl) (Nat.le_of_ble_eq_true rfl) (T_X6_night_51 E  hc12) ?_
            refine s_iinc (q := 64) (j := 4) (v := (x4 + 1)) (lv' := [(4, .int (x4 + 1)), (3, .int 1), (0, .ref (eB E + 51)), (1, .int x1), (2, .int x2)]) dX6_dimsSo_61 rfl rfl rfl (Nat.le_of_ble_eq_true rfl) rfl ?_
            refine s_goto (tgt := 9) dX6_dimsSo_64 rfl ?_
            exact t_sub [2, 3, 4, 1, 0] rfl (ih _ _ _ _ _ _ h K)
def G_X6_dimsSo_51 (x1 : Int32) (x2 : Int32) (S : ST) : Option (Int32 × ST) := ((G_X6_setsAside_51  S).bind fun q1 => (G_X6_dimsSo_51_9 3000 x1 x2 1 0 q1.2).bind fun q13 => ((G_X6_laysBack_51  q13.2).bind fun q14 => (if bitB q13.1 = true then some (q13.1, q14.2) else none)))
set_option maxHeartbeats 4000000 in
set_option maxRecDepth 100000 in
theorem T_X6_dimsSo_51 (E : EV) (x1 : Int32) (x2 : Int32) {S : ST} {w : (Int32 × ST)} (h : G_X6_dimsSo_51 x1 x2 S = some w) : SD E mX6_dimsSo 0 [(0, .ref (eB E + 51)), (1, .int x1), (2, .int x2)] [] S (some (.int w.1)) w.2 := by
  unfold G_X6_dimsSo_51 at h
  refine s_aload_n (q := 1) dX6_dimsSo_0 rfl rfl 0 rfl ?_
  obtain ⟨q1, hc1, h⟩ := bnd h
  try dsimp only at h
  refine t_callV (q := 4) (N := mX6_setsAside) (a := eB E + 51) [] dX6_dimsSo_1 rfl nkX6_setsAside vkX6_setsAside lX6_133 ⟨Nat.le_of_ble_eq_true rfl, Nat.le_of_ble_eq_true rfl⟩ (rc_obj (k := 51) rfl rfl) rfl rfl (Nat.le_of_ble_eq_true rfl) (Nat.le_of_ble_eq_true rfl) (T_X6_setsAside_51 E  hc1) ?_
  refine s_iconst (q := 5) (v := 1) dX6_dimsSo_4 rfl rfl ?_
  refine s_istore_n (q := 6) (lv' := [(3, .int 1), (0, .ref (eB E + 51)), (1, .int x1), (2, .int x2)]) dX6_dimsSo_5 rfl rfl (Nat.le_of_ble_eq_true rfl) rfl ?_
  refine s_iconst (q := 7) (v := 0) dX6_dimsSo_6 rfl rfl ?_
  refine s_istore (q := 9) (lv' := [(4, .int 0), (3, .int 1), (0, .ref (eB E + 51)), (1, .int x1), (2, .int x2)]) dX6_dimsSo_7 rfl (Nat.le_of_ble_eq_true rfl) rfl ?_
  obtain ⟨q13, hc13, h⟩ := bnd h
  try dsimp only at h
  refine t_sub [2, 3, 4, 1, 0] rfl (T_X6_dimsSo_51_9 E _ _ _ _ _ _ _ hc13 ?_)
  refine s_aload_n (q := 68) dX6_dimsSo_67 rfl rfl 0 rfl ?_
  obtain ⟨q14, hc14, h⟩ := bnd h
  try dsimp only at h
  refine t_callV (q := 71) (N := mX6_laysBack) (a := eB E + 51) [] dX6_dimsSo_68 rfl nkX6_laysBack vkX6_laysBack lX6_136 ⟨Nat.le_of_ble_eq_true rfl, Nat.le_of_ble_eq_true rfl⟩ (rc_obj (k := 51) rfl rfl) rfl rfl (Nat.le_of_ble_eq_true rfl) (Nat.le_of_ble_eq_true rfl) (T_X6_laysBack_51 E  hc14) ?_
  refine s_iload_n (q := 72) dX6_dimsSo_71 rfl rfl 1 rfl ?_
  obtain ⟨hg15, h⟩ := chk_some h
  obtain rfl := Option.some.inj h
  exact t_zret dX6_dimsSo_72 rfl (bitB_z hg15) rfl
-- X6_which
def G_X6_which_51_21 : Nat → Int32 → Int32 → Int32 → ST → Option (Int32 × ST)
  | 0, _, _, _, _ => none
  | n + 1, x1, x3, x4, S => (if (S.1 52 1) ≤ x4 then some (x3, S) else ((G_X6_dimsSo_51 x1 x4 S).bind fun q4 => (if q4.1 = 0 then G_X6_which_51_21 n x1 (x3 ||| 0) (x4 + 1) q4.2 else G_X6_which_51_21 n x1 (x3 ||| (1 <<< (x4 &&& 31))) (x4 + 1) q4.2)))
set_option maxHeartbeats 4000000 in
set_option maxRecDepth 100000 in
theorem T_X6_which_51_21 (E : EV) : ∀ (n : Nat) (x1 : Int32) (x3 : Int32) (x4 : Int32) (S : ST), ∀ (w : (Int32 × ST)), G_X6_which_51_21 n x1 x3 x4 S = some w → ∀ {Q : Option Value → ST → Prop}, SS E mX6_which 59 [(3, .int w.1)] [] w.2 Q → SS E mX6_which 21 [(0, .ref (eB E + 51)), (1, .int x1), (3, .int x3), (4, .int x4)] [] S Q := by
  intro n
  induction n with
  | zero =>
    intro x1 x3 x4 S w h
    cases h
  | succ n ih =>
    intro x1 x3 x4 S w h Q K
    unfold G_X6_which_51_21 at h
    refine s_iload (q := 23) dX6_which_21 rfl 3 rfl ?_
    refine s_aload_n (q := 24) dX6_which_23 rfl rfl 0 rfl ?_
    refine t_getR (q := 27) (k := 51) (f := 0) (t := 52) dX6_which_24 rfl rfl rfl rfl inX6 (Nat.le_of_ble_eq_true rfl) fX6_9 ?_
    refine s_iconst (q := 28) (v := 1) dX6_which_27 rfl rfl ?_
    refine u_iald (q := 29) (k := 52) (j := 1) (v := (S.1 52 1)) dX6_which_28 rfl rfl (inB_in (by decide)) (by decide) rfl ?_
    refine s_icmp_ge (q := 32) (tgt := 59) dX6_which_29 rfl rfl (fun hb3 => ?_) (fun hb3 => ?_)
    · rw [if_pos hb3] at h
      obtain rfl := Option.some.inj h
      exact t_sub [2] rfl K
    · rw [if_neg hb3] at h
      refine s_iload_n (q := 33) dX6_which_32 rfl rfl 2 rfl ?_
      refine s_aload_n (q := 34) dX6_which_33 rfl rfl 0 rfl ?_
      refine s_iload_n (q := 35) dX6_which_34 rfl rfl 1 rfl ?_
      refine s_iload (q := 37) dX6_which_35 rfl 3 rfl ?_
      obtain ⟨q4, hc4, h⟩ := bnd h
      try dsimp only at h
      refine t_callV (q := 40) (N := mX6_dimsSo) (a := eB E + 51) [.int x1, .int x4] dX6_which_37 rfl nkX6_dimsSo vkX6_dimsSo lX6_189 ⟨Nat.le_of_ble_eq_true rfl, Nat.le_of_ble_eq_true rfl⟩ (rc_obj (k := 51) rfl rfl) rfl rfl (Nat.le_of_ble_eq_true rfl) (Nat.le_of_ble_eq_true rfl) (T_X6_dimsSo_51 E _ _ hc4) ?_
      refine s_if_eq (q := 43) (tgt := 50) dX6_which_40 rfl rfl (fun hb5 => ?_) (fun hb5 => ?_)
      · rw [if_pos hb5] at h
        refine s_iconst (q := 51) (v := 0) dX6_which_50 rfl rfl ?_
        refine s_ior (q := 52) dX6_which_51 rfl ?_
        refine s_istore_n (q := 53) (lv' := [(3, .int (x3 ||| 0)), (0, .ref (eB E + 51)), (1, .int x1), (4, .int x4)]) dX6_which_52 rfl rfl (Nat.le_of_ble_eq_true rfl) rfl ?_
        refine s_iinc (q := 56) (j := 3) (v := (x4 + 1)) (lv' := [(4, .int (x4 + 1)), (3, .int (x3 ||| 0)), (0, .ref (eB E + 51)), (1, .int x1)]) dX6_which_53 rfl rfl rfl (Nat.le_of_ble_eq_true rfl) rfl ?_
        refine s_goto (tgt := 21) dX6_which_56 rfl ?_
        exact t_sub [2, 3, 1, 0] rfl (ih _ _ _ _ _ h K)
      · rw [if_neg hb5] at h
        refine s_iconst (q := 44) (v := 1) dX6_which_43 rfl rfl ?_
        refine s_iload (q := 46) dX6_which_44 rfl 3 rfl ?_
        refine s_ishl (q := 47) dX6_which_46 rfl ?_
        refine s_goto (tgt := 51) dX6_which_47 rfl ?_
        refine s_ior (q := 52) dX6_which_51 rfl ?_
        refine s_istore_n (q := 53) (lv' := [(3, .int (x3 ||| (1 <<< (x4 &&& 31)))), (0, .ref (eB E + 51)), (1, .int x1), (4, .int x4)]) dX6_which_52 rfl rfl (Nat.le_of_ble_eq_true rfl) rfl ?_
        refine s_iinc (q := 56) (j := 3) (v := (x4 + 1)) (lv' := [(4, .int (x4 + 1)), (3, .int (x3 ||| (1 <<< (x4 &&& 31)))), (0, .ref (eB E + 51)), (1, .int x1)]) dX6_which_53 rfl rfl rfl (Nat.le_of_ble_eq_true rfl) rfl ?_
        refine s_goto (tgt := 21) dX6_which_56 rfl ?_
        exact t_sub [2, 3, 1, 0] rfl (ih _ _ _ _ _ h K)
def G_X6_which_51 (x1 : Int32) (S : ST) : Option (Int32 × ST) := ((G_X6_wrongSheet_51 x1 S).bind fun q1 => (if q1.1 < 0 then (G_X6_which_51_21 3000 x1 0 0 q1.2).bind fun q6 => some (q6.1, q6.2) else ((G_X6_no_51 q1.1 q1.2).bind fun q7 => some (q7.1, q7.2))))
set_option maxHeartbeats 4000000 in
set_option maxRecDepth 100000 in
theorem T_X6_which_51 (E : EV) (x1 : Int32) {S : ST} {w : (Int32 × ST)} (h : G_X6_which_51 x1 S = some w) : SD E mX6_which 0 [(0, .ref (eB E + 51)), (1, .int x1)] [] S (some (.int w.1)) w.2 := by
  unfold G_X6_which_51 at h
  refine s_aload_n (q := 1) dX6_which_0 rfl rfl 0 rfl ?_
  refine s_iload_n (q := 2) dX6_which_1 rfl rfl 1 rfl ?_
  obtain ⟨q1, hc1, h⟩ := bnd h
  try dsimp only at h
  refine t_callV (q := 5) (N := mX6_wrongSheet) (a := eB E + 51) [.int x1] dX6_which_2 rfl nkX6_wrongSheet vkX6_wrongSheet lX6_186 ⟨Nat.le_of_ble_eq_true rfl, Nat.le_of_ble_eq_true rfl⟩ (rc_obj (k := 51) rfl rfl) rfl rfl (Nat.le_of_ble_eq_true rfl) (Nat.le_of_ble_eq_true rfl) (T_X6_wrongSheet_51 E _ hc1) ?_
  refine s_istore_n (q := 6) (lv' := [(2, .int q1.1), (0, .ref (eB E + 51)), (1, .int x1)]) dX6_which_5 rfl rfl (Nat.le_of_ble_eq_true rfl) rfl ?_
  refine s_iload_n (q := 7) dX6_which_6 rfl rfl 0 rfl ?_
  refine s_if_lt (q := 10) (tgt := 16) dX6_which_7 rfl rfl (fun hb2 => ?_) (fun hb2 => ?_)
  · rw [if_pos hb2] at h
    refine s_iconst (q := 17) (v := 0) dX6_which_16 rfl rfl ?_
    refine s_istore_n (q := 18) (lv' := [(3, .int 0), (2, .int q1.1), (0, .ref (eB E + 51)), (1, .int x1)]) dX6_which_17 rfl rfl (Nat.le_of_ble_eq_true rfl) rfl ?_
    refine s_iconst (q := 19) (v := 0) dX6_which_18 rfl rfl ?_
    refine s_istore (q := 21) (lv' := [(4, .int 0), (3, .int 0), (2, .int q1.1), (0, .ref (eB E + 51)), (1, .int x1)]) dX6_which_19 rfl (Nat.le_of_ble_eq_true rfl) rfl ?_
    obtain ⟨q6, hc6, h⟩ := bnd h
    try dsimp only at h
    refine t_sub [3, 4, 1, 0] rfl (T_X6_which_51_21 E _ _ _ _ _ _ hc6 ?_)
    refine s_iload_n (q := 60) dX6_which_59 rfl rfl 0 rfl ?_
    obtain rfl := Option.some.inj h
    exact t_iret dX6_which_60 rfl rfl
  · rw [if_neg hb2] at h
    refine s_aload_n (q := 11) dX6_which_10 rfl rfl 1 rfl ?_
    refine s_iload_n (q := 12) dX6_which_11 rfl rfl 0 rfl ?_
    obtain ⟨q7, hc7, h⟩ := bnd h
    try dsimp only at h
    refine t_callV (q := 15) (N := mX6_no) (a := eB E + 51) [.int q1.1] dX6_which_12 rfl nkX6_no vkX6_no lX6_94 ⟨Nat.le_of_ble_eq_true rfl, Nat.le_of_ble_eq_true rfl⟩ (rc_obj (k := 51) rfl rfl) rfl rfl (Nat.le_of_ble_eq_true rfl) (Nat.le_of_ble_eq_true rfl) (T_X6_no_51 E _ hc7) ?_
    obtain rfl := Option.some.inj h
    exact t_iret dX6_which_15 rfl rfl
-- X5_kinds
def G_X5_kinds_0_38 : Nat → Int32 → Int32 → Int32 → Int32 → ST → Option (Int32 × ST)
  | 0, _, _, _, _, _ => none
  | n + 1, x1, x2, x4, x5, S => (if (7 : Int32) ≤ x5 then some (x4, S) else (if inB x1 4 = true then ((G_X5_isAsSheet_0_d (shO x1) x2 x5 S).bind fun q7 => (if q7.1 = 0 then G_X5_kinds_0_38 n x1 x2 x4 (x5 + 1) q7.2 else G_X5_kinds_0_38 n x1 x2 (x4 + 1) (x5 + 1) q7.2)) else none))
set_option maxHeartbeats 4000000 in
set_option maxRecDepth 100000 in
theorem T_X5_kinds_0_38 (E : EV) : ∀ (n : Nat) (x1 : Int32) (x2 : Int32) (x4 : Int32) (x5 : Int32) (S : ST), ∀ (w : (Int32 × ST)), G_X5_kinds_0_38 n x1 x2 x4 x5 S = some w → ∀ {Q : Option Value → ST → Prop}, SS E mX5_kinds 70 [(4, .int w.1)] [] w.2 Q → SS E mX5_kinds 38 [(0, .ref (eB E + 0)), (1, .int x1), (2, .int x2), (4, .int x4), (5, .int x5)] [] S Q := by
  intro n
  induction n with
  | zero =>
    intro x1 x2 x4 x5 S w h
    cases h
  | succ n ih =>
    intro x1 x2 x4 x5 S w h Q K
    unfold G_X5_kinds_0_38 at h
    refine s_iload (q := 40) dX5_kinds_38 rfl 4 rfl ?_
    refine s_bipush (q := 42) (v := 7) dX5_kinds_40 rfl rfl ?_
    refine s_icmp_ge (q := 45) (tgt := 70) dX5_kinds_42 rfl rfl (fun hb5 => ?_) (fun hb5 => ?_)
    · rw [if_pos hb5] at h
      obtain rfl := Option.some.inj h
      exact t_sub [3] rfl K
    · rw [if_neg hb5] at h
      refine s_aload_n (q := 46) dX5_kinds_45 rfl rfl 0 rfl ?_
      refine s_aload_n (q := 47) dX5_kinds_46 rfl rfl 0 rfl ?_
      refine t_getR (q := 50) (k := 0) (f := 5) (t := 34) dX5_kinds_47 rfl rfl rfl rfl inX5 (Nat.le_of_ble_eq_true rfl) fX5_35 ?_
      refine s_iload_n (q := 51) dX5_kinds_50 rfl rfl 1 rfl ?_
      obtain ⟨hg6, h⟩ := chk_some h
      refine t_aald (q := 52) dX5_kinds_51 rfl (inB_in hg6) ?_
      refine s_iload_n (q := 53) dX5_kinds_52 rfl rfl 2 rfl ?_
      refine s_iload (q := 55) dX5_kinds_53 rfl 4 rfl ?_
      obtain ⟨q7, hc7, h⟩ := bnd h
      try dsimp only at h
      refine t_callV (q := 58) (N := mX5_isAsSheet) (a := eB E + 0) [.ref (eB E + (shO x1)), .int x2, .int x5] dX5_kinds_55 rfl nkX5_isAsSheet vkX5_isAsSheet lX5_212 ⟨Nat.le_of_ble_eq_true rfl, Nat.le_of_ble_eq_true rfl⟩ (rc_obj (k := 0) rfl rfl) rfl rfl (Nat.le_of_ble_eq_true rfl) (Nat.le_of_ble_eq_true rfl) (T_X5_isAsSheet_0_d E _ _ _ hc7) ?_
      refine s_if_eq (q := 61) (tgt := 64) dX5_kinds_58 rfl rfl (fun hb8 => ?_) (fun hb8 => ?_)
      · rw [if_pos hb8] at h
        refine s_iinc (q := 67) (j := 4) (v := (x5 + 1)) (lv' := [(5, .int (x5 + 1)), (0, .ref (eB E + 0)), (1, .int x1), (2, .int x2), (4, .int x4)]) dX5_kinds_64 rfl rfl rfl (Nat.le_of_ble_eq_true rfl) rfl ?_
        refine s_goto (tgt := 38) dX5_kinds_67 rfl ?_
        exact t_sub [1, 2, 3, 4, 0] rfl (ih _ _ _ _ _ _ h K)
      · rw [if_neg hb8] at h
        refine s_iinc (q := 64) (j := 3) (v := (x4 + 1)) (lv' := [(4, .int (x4 + 1)), (0, .ref (eB E + 0)), (1, .int x1), (2, .int x2), (5, .int x5)]) dX5_kinds_61 rfl rfl rfl (Nat.le_of_ble_eq_true rfl) rfl ?_
        refine s_iinc (q := 67) (j := 4) (v := (x5 + 1)) (lv' := [(5, .int (x5 + 1)), (4, .int (x4 + 1)), (0, .ref (eB E + 0)), (1, .int x1), (2, .int x2)]) dX5_kinds_64 rfl rfl rfl (Nat.le_of_ble_eq_true rfl) rfl ?_
        refine s_goto (tgt := 38) dX5_kinds_67 rfl ?_
        exact t_sub [2, 3, 4, 1, 0] rfl (ih _ _ _ _ _ _ h K)
def G_X5_kinds_0 (x1 : Int32) (x2 : Int32) (S : ST) : Option (Int32 × ST) := ((G_X5_lackOfSheet_0 x1 S).bind fun q1 => (if q1.1 = 0 then ((G_X5_isBelow x2 (q1.2.1 1 0) q1.2).bind fun q3 => (if q3.1 = 0 then ((G_X5_finding_0 0 q3.2).bind fun q10 => some (q10.1, q10.2)) else (G_X5_kinds_0_38 3000 x1 x2 0 0 q3.2).bind fun q9 => some (q9.1, q9.2))) else some (q1.1, q1.2)))
set_option maxHeartbeats 4000000 in
set_option maxRecDepth 100000 in
theorem T_X5_kinds_0 (E : EV) (x1 : Int32) (x2 : Int32) {S : ST} {w : (Int32 × ST)} (h : G_X5_kinds_0 x1 x2 S = some w) : SD E mX5_kinds 0 [(0, .ref (eB E + 0)), (1, .int x1), (2, .int x2)] [] S (some (.int w.1)) w.2 := by
  unfold G_X5_kinds_0 at h
  refine s_aload_n (q := 1) dX5_kinds_0 rfl rfl 0 rfl ?_
  refine s_iload_n (q := 2) dX5_kinds_1 rfl rfl 1 rfl ?_
  obtain ⟨q1, hc1, h⟩ := bnd h
  try dsimp only at h
  refine t_callV (q := 5) (N := mX5_lackOfSheet) (a := eB E + 0) [.int x1] dX5_kinds_2 rfl nkX5_lackOfSheet vkX5_lackOfSheet lX5_209 ⟨Nat.le_of_ble_eq_true rfl, Nat.le_of_ble_eq_true rfl⟩ (rc_obj (k := 0) rfl rfl) rfl rfl (Nat.le_of_ble_eq_true rfl) (Nat.le_of_ble_eq_true rfl) (T_X5_lackOfSheet_0 E _ hc1) ?_
  refine s_istore_n (q := 6) (lv' := [(3, .int q1.1), (0, .ref (eB E + 0)), (1, .int x1), (2, .int x2)]) dX5_kinds_5 rfl rfl (Nat.le_of_ble_eq_true rfl) rfl ?_
  refine s_iload_n (q := 7) dX5_kinds_6 rfl rfl 0 rfl ?_
  refine s_if_eq (q := 10) (tgt := 12) dX5_kinds_7 rfl rfl (fun hb2 => ?_) (fun hb2 => ?_)
  · rw [if_pos hb2] at h
    refine s_iload_n (q := 13) dX5_kinds_12 rfl rfl 3 rfl ?_
    refine s_aload_n (q := 14) dX5_kinds_13 rfl rfl 1 rfl ?_
    refine t_getR (q := 17) (k := 0) (f := 0) (t := 1) dX5_kinds_14 rfl rfl rfl rfl inX5 (Nat.le_of_ble_eq_true rfl) fX5_10 ?_
    refine t_getI (q := 20) (k := 1) (f := 0) (v := (q1.2.1 1 0)) dX5_kinds_17 rfl rfl rfl rfl inX1 (Nat.le_of_ble_eq_true rfl) fX5_65 rfl ?_
    obtain ⟨q3, hc3, h⟩ := bnd h
    try dsimp only at h
    refine t_callS (q := 23) (N := mX5_isBelow) [.int x2, .int (q1.2.1 1 0)] dX5_kinds_20 rfl nkX5_isBelow sX5_isBelow lX5_57 ⟨Nat.le_of_ble_eq_true rfl, Nat.le_of_ble_eq_true rfl⟩ rfl rfl (Nat.le_of_ble_eq_true rfl) (Nat.le_of_ble_eq_true rfl) (T_X5_isBelow E _ _ hc3) ?_
    refine s_if_ne (q := 26) (tgt := 32) dX5_kinds_23 rfl rfl (fun hb4 => ?_) (fun hb4 => ?_)
    · rw [if_neg hb4] at h
      refine s_iconst (q := 33) (v := 0) dX5_kinds_32 rfl rfl ?_
      refine s_istore (q := 35) (lv' := [(4, .int 0), (3, .int q1.1), (0, .ref (eB E + 0)), (1, .int x1), (2, .int x2)]) dX5_kinds_33 rfl (Nat.le_of_ble_eq_true rfl) rfl ?_
      refine s_iconst (q := 36) (v := 0) dX5_kinds_35 rfl rfl ?_
      refine s_istore (q := 38) (lv' := [(5, .int 0), (4, .int 0), (3, .int q1.1), (0, .ref (eB E + 0)), (1, .int x1), (2, .int x2)]) dX5_kinds_36 rfl (Nat.le_of_ble_eq_true rfl) rfl ?_
      obtain ⟨q9, hc9, h⟩ := bnd h
      try dsimp only at h
      refine t_sub [3, 4, 5, 1, 0] rfl (T_X5_kinds_0_38 E _ _ _ _ _ _ _ hc9 ?_)
      refine s_iload (q := 72) dX5_kinds_70 rfl 0 rfl ?_
      obtain rfl := Option.some.inj h
      exact t_iret dX5_kinds_72 rfl rfl
    · rw [if_pos hb4] at h
      refine s_aload_n (q := 27) dX5_kinds_26 rfl rfl 1 rfl ?_
      refine s_iconst (q := 28) (v := 0) dX5_kinds_27 rfl rfl ?_
      obtain ⟨q10, hc10, h⟩ := bnd h
      try dsimp only at h
      refine t_callV (q := 31) (N := mX5_finding) (a := eB E + 0) [.int 0] dX5_kinds_28 rfl nkX5_finding vkX5_finding lX5_61 ⟨Nat.le_of_ble_eq_true rfl, Nat.le_of_ble_eq_true rfl⟩ (rc_obj (k := 0) rfl rfl) rfl rfl (Nat.le_of_ble_eq_true rfl) (Nat.le_of_ble_eq_true rfl) (T_X5_finding_0 E _ hc10) ?_
      obtain rfl := Option.some.inj h
      exact t_iret dX5_kinds_31 rfl rfl
  · rw [if_neg hb2] at h
    refine s_iload_n (q := 11) dX5_kinds_10 rfl rfl 0 rfl ?_
    obtain rfl := Option.some.inj h
    exact t_iret dX5_kinds_11 rfl rfl
-- X6_kinds
def G_X6_kinds_51_44 : Nat → Int32 → Int32 → Int32 → Int32 → Int32 → ST → Option (Int32 × Int32 × Int32 × ST)
  | 0, _, _, _, _, _, _ => none
  | n + 1, x1, x2, x4, x5, x6, S => (if (6 : Int32) < x6 then some (x2, x4, x5, S) else ((G_X6_puts_51 x2 0 x6 S).bind fun q6 => ((G_X6_dimsSo_51 x1 x2 q6.2).bind fun q7 => (if q7.1 = 0 then G_X6_kinds_51_44 n x1 x2 x4 (x5 + 0) (x6 + 1) q7.2 else G_X6_kinds_51_44 n x1 x2 x4 (x5 + 1) (x6 + 1) q7.2))))
set_option maxHeartbeats 4000000 in
set_option maxRecDepth 100000 in
theorem T_X6_kinds_51_44 (E : EV) : ∀ (n : Nat) (x1 : Int32) (x2 : Int32) (x4 : Int32) (x5 : Int32) (x6 : Int32) (S : ST), ∀ (w : (Int32 × Int32 × Int32 × ST)), G_X6_kinds_51_44 n x1 x2 x4 x5 x6 S = some w → ∀ {Q : Option Value → ST → Prop}, SS E mX6_kinds 84 [(0, .ref (eB E + 51)), (2, .int w.1), (4, .int w.2.1), (5, .int w.2.2.1)] [] w.2.2.2 Q → SS E mX6_kinds 44 [(0, .ref (eB E + 51)), (1, .int x1), (2, .int x2), (4, .int x4), (5, .int x5), (6, .int x6)] [] S Q := by
  intro n
  induction n with
  | zero =>
    intro x1 x2 x4 x5 x6 S w h
    cases h
  | succ n ih =>
    intro x1 x2 x4 x5 x6 S w h Q K
    unfold G_X6_kinds_51_44 at h
    refine s_iload (q := 46) dX6_kinds_44 rfl 5 rfl ?_
    refine s_bipush (q := 48) (v := 6) dX6_kinds_46 rfl rfl ?_
    refine s_icmp_gt (q := 51) (tgt := 84) dX6_kinds_48 rfl rfl (fun hb5 => ?_) (fun hb5 => ?_)
    · rw [if_pos hb5] at h
      obtain rfl := Option.some.inj h
      exact t_sub [0, 2, 3, 4] rfl K
    · rw [if_neg hb5] at h
      refine s_aload_n (q := 52) dX6_kinds_51 rfl rfl 0 rfl ?_
      refine s_iload_n (q := 53) dX6_kinds_52 rfl rfl 2 rfl ?_
      refine s_iconst (q := 54) (v := 0) dX6_kinds_53 rfl rfl ?_
      refine s_iload (q := 56) dX6_kinds_54 rfl 5 rfl ?_
      obtain ⟨q6, hc6, h⟩ := bnd h
      try dsimp only at h
      refine t_callV (q := 59) (N := mX6_puts) (a := eB E + 51) [.int x2, .int 0, .int x6] dX6_kinds_56 rfl nkX6_puts vkX6_puts lX6_80 ⟨Nat.le_of_ble_eq_true rfl, Nat.le_of_ble_eq_true rfl⟩ (rc_obj (k := 51) rfl rfl) rfl rfl (Nat.le_of_ble_eq_true rfl) (Nat.le_of_ble_eq_true rfl) (T_X6_puts_51 E _ _ _ hc6) ?_
      refine s_iload (q := 61) dX6_kinds_59 rfl 4 rfl ?_
      refine s_aload_n (q := 62) dX6_kinds_61 rfl rfl 0 rfl ?_
      refine s_iload_n (q := 63) dX6_kinds_62 rfl rfl 1 rfl ?_
      refine s_iload_n (q := 64) dX6_kinds_63 rfl rfl 2 rfl ?_
      obtain ⟨q7, hc7, h⟩ := bnd h
      try dsimp only at h
      refine t_callV (q := 67) (N := mX6_dimsSo) (a := eB E + 51) [.int x1, .int x2] dX6_kinds_64 rfl nkX6_dimsSo vkX6_dimsSo lX6_189 ⟨Nat.le_of_ble_eq_true rfl, Nat.le_of_ble_eq_true rfl⟩ (rc_obj (k := 51) rfl rfl) rfl rfl (Nat.le_of_ble_eq_true rfl) (Nat.le_of_ble_eq_true rfl) (T_X6_dimsSo_51 E _ _ hc7) ?_
      refine s_if_eq (q := 70) (tgt := 74) dX6_kinds_67 rfl rfl (fun hb8 => ?_) (fun hb8 => ?_)
      · rw [if_pos hb8] at h
        refine s_iconst (q := 75) (v := 0) dX6_kinds_74 rfl rfl ?_
        refine s_iadd (q := 76) dX6_kinds_75 rfl ?_
        refine s_istore (q := 78) (lv' := [(5, .int (x5 + 0)), (0, .ref (eB E + 51)), (1, .int x1), (2, .int x2), (4, .int x4), (6, .int x6)]) dX6_kinds_76 rfl (Nat.le_of_ble_eq_true rfl) rfl ?_
        refine s_iinc (q := 81) (j := 5) (v := (x6 + 1)) (lv' := [(6, .int (x6 + 1)), (5, .int (x5 + 0)), (0, .ref (eB E + 51)), (1, .int x1), (2, .int x2), (4, .int x4)]) dX6_kinds_78 rfl rfl rfl (Nat.le_of_ble_eq_true rfl) rfl ?_
        refine s_goto (tgt := 44) dX6_kinds_81 rfl ?_
        exact t_sub [2, 3, 4, 5, 1, 0] rfl (ih _ _ _ _ _ _ _ h K)
      · rw [if_neg hb8] at h
        refine s_iconst (q := 71) (v := 1) dX6_kinds_70 rfl rfl ?_
        refine s_goto (tgt := 75) dX6_kinds_71 rfl ?_
        refine s_iadd (q := 76) dX6_kinds_75 rfl ?_
        refine s_istore (q := 78) (lv' := [(5, .int (x5 + 1)), (0, .ref (eB E + 51)), (1, .int x1), (2, .int x2), (4, .int x4), (6, .int x6)]) dX6_kinds_76 rfl (Nat.le_of_ble_eq_true rfl) rfl ?_
        refine s_iinc (q := 81) (j := 5) (v := (x6 + 1)) (lv' := [(6, .int (x6 + 1)), (5, .int (x5 + 1)), (0, .ref (eB E + 51)), (1, .int x1), (2, .int x2), (4, .int x4)]) dX6_kinds_78 rfl rfl rfl (Nat.le_of_ble_eq_true rfl) rfl ?_
        refine s_goto (tgt := 44) dX6_kinds_81 rfl ?_
        exact t_sub [2, 3, 4, 5, 1, 0] rfl (ih _ _ _ _ _ _ _ h K)
def G_X6_kinds_51_20 (x1 : Int32) (x2 : Int32) (x3 : Int32) (S : ST) : Option (Int32 × ST) := (if x3 < 0 then ((G_X6_get_51 x2 0 S).bind fun q4 => (G_X6_kinds_51_44 3000 x1 x2 q4.1 0 0 q4.2).bind fun q9 => ((G_X6_puts_51 q9.1 0 q9.2.1 q9.2.2.2).bind fun q10 => some (q9.2.2.1, q10.2))) else ((G_X6_no_51 x3 S).bind fun q11 => some (q11.1, q11.2)))
set_option maxHeartbeats 4000000 in
set_option maxRecDepth 100000 in
theorem T_X6_kinds_51_20 (E : EV) (x1 : Int32) (x2 : Int32) (x3 : Int32) {S : ST} {w : (Int32 × ST)} (h : G_X6_kinds_51_20 x1 x2 x3 S = some w) : SD E mX6_kinds 20 [(0, .ref (eB E + 51)), (1, .int x1), (2, .int x2), (3, .int x3)] [] S (some (.int w.1)) w.2 := by
  unfold G_X6_kinds_51_20 at h
  refine s_iload_n (q := 21) dX6_kinds_20 rfl rfl 3 rfl ?_
  refine s_if_lt (q := 24) (tgt := 30) dX6_kinds_21 rfl rfl (fun hb3 => ?_) (fun hb3 => ?_)
  · rw [if_pos hb3] at h
    refine s_aload_n (q := 31) dX6_kinds_30 rfl rfl 0 rfl ?_
    refine s_iload_n (q := 32) dX6_kinds_31 rfl rfl 2 rfl ?_
    refine s_iconst (q := 33) (v := 0) dX6_kinds_32 rfl rfl ?_
    obtain ⟨q4, hc4, h⟩ := bnd h
    try dsimp only at h
    refine t_callV (q := 36) (N := mX6_get) (a := eB E + 51) [.int x2, .int 0] dX6_kinds_33 rfl nkX6_get vkX6_get lX6_58 ⟨Nat.le_of_ble_eq_true rfl, Nat.le_of_ble_eq_true rfl⟩ (rc_obj (k := 51) rfl rfl) rfl rfl (Nat.le_of_ble_eq_true rfl) (Nat.le_of_ble_eq_true rfl) (T_X6_get_51 E _ _ hc4) ?_
    refine s_istore (q := 38) (lv' := [(4, .int q4.1), (0, .ref (eB E + 51)), (1, .int x1), (2, .int x2), (3, .int x3)]) dX6_kinds_36 rfl (Nat.le_of_ble_eq_true rfl) rfl ?_
    refine s_iconst (q := 39) (v := 0) dX6_kinds_38 rfl rfl ?_
    refine s_istore (q := 41) (lv' := [(5, .int 0), (4, .int q4.1), (0, .ref (eB E + 51)), (1, .int x1), (2, .int x2), (3, .int x3)]) dX6_kinds_39 rfl (Nat.le_of_ble_eq_true rfl) rfl ?_
    refine s_iconst (q := 42) (v := 0) dX6_kinds_41 rfl rfl ?_
    refine s_istore (q := 44) (lv' := [(6, .int 0), (5, .int 0), (4, .int q4.1), (0, .ref (eB E + 51)), (1, .int x1), (2, .int x2), (3, .int x3)]) dX6_kinds_42 rfl (Nat.le_of_ble_eq_true rfl) rfl ?_
    obtain ⟨q9, hc9, h⟩ := bnd h
    try dsimp only at h
    refine t_sub [3, 4, 5, 2, 1, 0] rfl (T_X6_kinds_51_44 E _ _ _ _ _ _ _ _ hc9 ?_)
    refine s_aload_n (q := 85) dX6_kinds_84 rfl rfl 0 rfl ?_
    refine s_iload_n (q := 86) dX6_kinds_85 rfl rfl 1 rfl ?_
    refine s_iconst (q := 87) (v := 0) dX6_kinds_86 rfl rfl ?_
    refine s_iload (q := 89) dX6_kinds_87 rfl 2 rfl ?_
    obtain ⟨q10, hc10, h⟩ := bnd h
    try dsimp only at h
    refine t_callV (q := 92) (N := mX6_puts) (a := eB E + 51) [.int q9.1, .int 0, .int q9.2.1] dX6_kinds_89 rfl nkX6_puts vkX6_puts lX6_80 ⟨Nat.le_of_ble_eq_true rfl, Nat.le_of_ble_eq_true rfl⟩ (rc_obj (k := 51) rfl rfl) rfl rfl (Nat.le_of_ble_eq_true rfl) (Nat.le_of_ble_eq_true rfl) (T_X6_puts_51 E _ _ _ hc10) ?_
    refine s_iload (q := 94) dX6_kinds_92 rfl 3 rfl ?_
    obtain rfl := Option.some.inj h
    exact t_iret dX6_kinds_94 rfl rfl
  · rw [if_neg hb3] at h
    refine s_aload_n (q := 25) dX6_kinds_24 rfl rfl 0 rfl ?_
    refine s_iload_n (q := 26) dX6_kinds_25 rfl rfl 3 rfl ?_
    obtain ⟨q11, hc11, h⟩ := bnd h
    try dsimp only at h
    refine t_callV (q := 29) (N := mX6_no) (a := eB E + 51) [.int x3] dX6_kinds_26 rfl nkX6_no vkX6_no lX6_94 ⟨Nat.le_of_ble_eq_true rfl, Nat.le_of_ble_eq_true rfl⟩ (rc_obj (k := 51) rfl rfl) rfl rfl (Nat.le_of_ble_eq_true rfl) (Nat.le_of_ble_eq_true rfl) (T_X6_no_51 E _ hc11) ?_
    obtain rfl := Option.some.inj h
    exact t_iret dX6_kinds_29 rfl rfl
def G_X6_kinds_51 (x1 : Int32) (x2 : Int32) (S : ST) : Option (Int32 × ST) := ((G_X6_wrongSheet_51 x1 S).bind fun q1 => (if (0 : Int32) ≤ q1.1 then G_X6_kinds_51_20 x1 x2 q1.1 q1.2 else ((G_X6_isStar_51 x2 q1.2).bind fun q12 => (if q12.1 = 0 then G_X6_kinds_51_20 x1 x2 0 q12.2 else G_X6_kinds_51_20 x1 x2 q1.1 q12.2))))
set_option maxHeartbeats 4000000 in
set_option maxRecDepth 100000 in
theorem T_X6_kinds_51 (E : EV) (x1 : Int32) (x2 : Int32) {S : ST} {w : (Int32 × ST)} (h : G_X6_kinds_51 x1 x2 S = some w) : SD E mX6_kinds 0 [(0, .ref (eB E + 51)), (1, .int x1), (2, .int x2)] [] S (some (.int w.1)) w.2 := by
  unfold G_X6_kinds_51 at h
  refine s_aload_n (q := 1) dX6_kinds_0 rfl rfl 0 rfl ?_
  refine s_iload_n (q := 2) dX6_kinds_1 rfl rfl 1 rfl ?_
  obtain ⟨q1, hc1, h⟩ := bnd h
  try dsimp only at h
  refine t_callV (q := 5) (N := mX6_wrongSheet) (a := eB E + 51) [.int x1] dX6_kinds_2 rfl nkX6_wrongSheet vkX6_wrongSheet lX6_186 ⟨Nat.le_of_ble_eq_true rfl, Nat.le_of_ble_eq_true rfl⟩ (rc_obj (k := 51) rfl rfl) rfl rfl (Nat.le_of_ble_eq_true rfl) (Nat.le_of_ble_eq_true rfl) (T_X6_wrongSheet_51 E _ hc1) ?_
  refine s_istore_n (q := 6) (lv' := [(3, .int q1.1), (0, .ref (eB E + 51)), (1, .int x1), (2, .int x2)]) dX6_kinds_5 rfl rfl (Nat.le_of_ble_eq_true rfl) rfl ?_
  refine s_iload_n (q := 7) dX6_kinds_6 rfl rfl 0 rfl ?_
  refine s_if_ge (q := 10) (tgt := 20) dX6_kinds_7 rfl rfl (fun hb2 => ?_) (fun hb2 => ?_)
  · rw [if_pos hb2] at h
    exact t_sub [1, 2, 3, 0] rfl (T_X6_kinds_51_20 E _ _ _ h)
  · rw [if_neg hb2] at h
    refine s_aload_n (q := 11) dX6_kinds_10 rfl rfl 1 rfl ?_
    refine s_iload_n (q := 12) dX6_kinds_11 rfl rfl 3 rfl ?_
    obtain ⟨q12, hc12, h⟩ := bnd h
    try dsimp only at h
    refine t_callV (q := 15) (N := mX6_isStar) (a := eB E + 51) [.int x2] dX6_kinds_12 rfl nkX6_isStar vkX6_isStar lX6_101 ⟨Nat.le_of_ble_eq_true rfl, Nat.le_of_ble_eq_true rfl⟩ (rc_obj (k := 51) rfl rfl) rfl rfl (Nat.le_of_ble_eq_true rfl) (Nat.le_of_ble_eq_true rfl) (T_X6_isStar_51 E _ hc12) ?_
    refine s_if_ne (q := 18) (tgt := 20) dX6_kinds_15 rfl rfl (fun hb13 => ?_) (fun hb13 => ?_)
    · rw [if_neg hb13] at h
      exact t_sub [1, 2, 3, 0] rfl (T_X6_kinds_51_20 E _ _ _ h)
    · rw [if_pos hb13] at h
      refine s_iconst (q := 19) (v := 0) dX6_kinds_18 rfl rfl ?_
      refine s_istore_n (q := 20) (lv' := [(3, .int 0), (0, .ref (eB E + 51)), (1, .int x1), (2, .int x2)]) dX6_kinds_19 rfl rfl (Nat.le_of_ble_eq_true rfl) rfl ?_
      exact t_sub [1, 2, 3, 0] rfl (T_X6_kinds_51_20 E _ _ _ h)
-- X1_draw
def G_X1_draw_1  (S : ST) : Option (Int32 × ST) := some ((ush (((S.1 1 12) * 1103515245) + 12345) 8), (wr S 1 12 (((S.1 1 12) * 1103515245) + 12345)))
set_option maxHeartbeats 4000000 in
set_option maxRecDepth 100000 in
theorem T_X1_draw_1 (E : EV)  {S : ST} {w : (Int32 × ST)} (h : G_X1_draw_1  S = some w) : SD E mX1_draw 0 [(0, .ref (eB E + 1))] [] S (some (.int w.1)) w.2 := by
  unfold G_X1_draw_1 at h
  refine s_aload_n (q := 1) dX1_draw_0 rfl rfl 0 rfl ?_
  refine s_aload_n (q := 2) dX1_draw_1 rfl rfl 0 rfl ?_
  refine t_getI (q := 5) (k := 1) (f := 12) (v := (S.1 1 12)) dX1_draw_2 rfl rfl rfl rfl inX1 (Nat.le_of_ble_eq_true rfl) fX1_49 rfl ?_
  refine s_ldc (q := 7) (v := 1103515245) dX1_draw_5 rfl kX1_93 ?_
  refine s_imul (q := 8) dX1_draw_7 rfl ?_
  refine s_sipush (q := 11) (v := 12345) dX1_draw_8 rfl rfl ?_
  refine s_iadd (q := 12) dX1_draw_11 rfl ?_
  refine t_putI (q := 15) (k := 1) (f := 12) dX1_draw_12 rfl rfl rfl rfl inX1 tyX1_ok nmX1 (Nat.le_of_ble_eq_true rfl) fX1_49 rfl rfl rfl ?_
  refine s_aload_n (q := 16) dX1_draw_15 rfl rfl 0 rfl ?_
  refine t_getI (q := 19) (k := 1) (f := 12) (v := (((S.1 1 12) * 1103515245) + 12345)) dX1_draw_16 rfl rfl rfl rfl inX1 (Nat.le_of_ble_eq_true rfl) fX1_49 rfl ?_
  refine s_bipush (q := 21) (v := 8) dX1_draw_19 rfl rfl ?_
  refine v_iushr (q := 22) dX1_draw_21 rfl ?_
  obtain rfl := Option.some.inj h
  exact t_iret dX1_draw_22 rfl rfl
-- X5_drops
def G_X5_drops_0_41 : Nat → Int32 → Int32 → Int32 → ST → Option (Int32 × ST)
  | 0, _, _, _, _ => none
  | n + 1, x1, x2, x3, S => (if x1 ≤ x3 then some (x2, S) else ((G_X1_draw_1  S).bind fun q6 => ((G_X5_isBelow (irm q6.1 16) (q6.2.1 1 0) q6.2).bind fun q7 => (if q7.1 = 0 then ((G_X1_passNight_1  q7.2).bind fun q9 => G_X5_drops_0_41 n x1 x2 (x3 + 1) q9.2) else (if inB (irm q6.1 16) 10 = true then ((G_X1_passNight_1  (wr q7.2 4 ((irm q6.1 16).toNatClampNeg) 0)).bind fun q11 => G_X5_drops_0_41 n x1 (x2 + 1) (x3 + 1) q11.2) else none)))))
set_option maxHeartbeats 4000000 in
set_option maxRecDepth 100000 in
theorem T_X5_drops_0_41 (E : EV) : ∀ (n : Nat) (x1 : Int32) (x2 : Int32) (x3 : Int32) (S : ST), ∀ (w : (Int32 × ST)), G_X5_drops_0_41 n x1 x2 x3 S = some w → ∀ {Q : Option Value → ST → Prop}, SS E mX5_drops 100 [(2, .int w.1)] [] w.2 Q → SS E mX5_drops 41 [(0, .ref (eB E + 0)), (1, .int x1), (2, .int x2), (3, .int x3)] [] S Q := by
  intro n
  induction n with
  | zero =>
    intro x1 x2 x3 S w h
    cases h
  | succ n ih =>
    intro x1 x2 x3 S w h Q K
    unfold G_X5_drops_0_41 at h
    refine s_iload_n (q := 42) dX5_drops_41 rfl rfl 3 rfl ?_
    refine s_iload_n (q := 43) dX5_drops_42 rfl rfl 1 rfl ?_
    refine s_icmp_ge (q := 46) (tgt := 100) dX5_drops_43 rfl rfl (fun hb5 => ?_) (fun hb5 => ?_)
    · rw [if_pos hb5] at h
      obtain rfl := Option.some.inj h
      exact t_sub [2] rfl K
    · rw [if_neg hb5] at h
      refine s_aload_n (q := 47) dX5_drops_46 rfl rfl 0 rfl ?_
      refine t_getR (q := 50) (k := 0) (f := 0) (t := 1) dX5_drops_47 rfl rfl rfl rfl inX5 (Nat.le_of_ble_eq_true rfl) fX5_10 ?_
      obtain ⟨q6, hc6, h⟩ := bnd h
      try dsimp only at h
      refine t_callV (q := 53) (N := mX1_draw) (a := eB E + 1) [] dX5_drops_50 rfl nkX1_draw vkX1_draw lX5_216 ⟨Nat.le_of_ble_eq_true rfl, Nat.le_of_ble_eq_true rfl⟩ (rc_obj (k := 1) rfl rfl) rfl rfl (Nat.le_of_ble_eq_true rfl) (Nat.le_of_ble_eq_true rfl) (T_X1_draw_1 E  hc6) ?_
      refine s_bipush (q := 55) (v := 16) dX5_drops_53 rfl rfl ?_
      refine v_irem (q := 56) dX5_drops_55 rfl (by decide) ?_
      refine s_istore (q := 58) (lv' := [(4, .int (irm q6.1 16)), (0, .ref (eB E + 0)), (1, .int x1), (2, .int x2), (3, .int x3)]) dX5_drops_56 rfl (Nat.le_of_ble_eq_true rfl) rfl ?_
      refine s_iload (q := 60) dX5_drops_58 rfl 0 rfl ?_
      refine s_aload_n (q := 61) dX5_drops_60 rfl rfl 1 rfl ?_
      refine t_getR (q := 64) (k := 0) (f := 0) (t := 1) dX5_drops_61 rfl rfl rfl rfl inX5 (Nat.le_of_ble_eq_true rfl) fX5_10 ?_
      refine t_getI (q := 67) (k := 1) (f := 0) (v := (q6.2.1 1 0)) dX5_drops_64 rfl rfl rfl rfl inX1 (Nat.le_of_ble_eq_true rfl) fX5_65 rfl ?_
      obtain ⟨q7, hc7, h⟩ := bnd h
      try dsimp only at h
      refine t_callS (q := 70) (N := mX5_isBelow) [.int (irm q6.1 16), .int (q6.2.1 1 0)] dX5_drops_67 rfl nkX5_isBelow sX5_isBelow lX5_57 ⟨Nat.le_of_ble_eq_true rfl, Nat.le_of_ble_eq_true rfl⟩ rfl rfl (Nat.le_of_ble_eq_true rfl) (Nat.le_of_ble_eq_true rfl) (T_X5_isBelow E _ _ hc7) ?_
      refine s_if_eq (q := 73) (tgt := 87) dX5_drops_70 rfl rfl (fun hb8 => ?_) (fun hb8 => ?_)
      · rw [if_pos hb8] at h
        refine s_aload_n (q := 88) dX5_drops_87 rfl rfl 1 rfl ?_
        refine t_getR (q := 91) (k := 0) (f := 0) (t := 1) dX5_drops_88 rfl rfl rfl rfl inX5 (Nat.le_of_ble_eq_true rfl) fX5_10 ?_
        obtain ⟨q9, hc9, h⟩ := bnd h
        try dsimp only at h
        refine t_callV (q := 94) (N := mX1_passNight) (a := eB E + 1) [] dX5_drops_91 rfl nkX1_passNight vkX1_passNight lX5_123 ⟨Nat.le_of_ble_eq_true rfl, Nat.le_of_ble_eq_true rfl⟩ (rc_obj (k := 1) rfl rfl) rfl rfl (Nat.le_of_ble_eq_true rfl) (Nat.le_of_ble_eq_true rfl) (T_X1_passNight_1 E  hc9) ?_
        refine s_iinc (q := 97) (j := 4) (v := (x3 + 1)) (lv' := [(3, .int (x3 + 1)), (4, .int (irm q6.1 16)), (0, .ref (eB E + 0)), (1, .int x1), (2, .int x2)]) dX5_drops_94 rfl rfl rfl (Nat.le_of_ble_eq_true rfl) rfl ?_
        refine s_goto (tgt := 41) dX5_drops_97 rfl ?_
        exact t_sub [2, 3, 4, 0] rfl (ih _ _ _ _ _ h K)
      · rw [if_neg hb8] at h
        refine s_aload_n (q := 74) dX5_drops_73 rfl rfl 1 rfl ?_
        refine t_getR (q := 77) (k := 0) (f := 0) (t := 1) dX5_drops_74 rfl rfl rfl rfl inX5 (Nat.le_of_ble_eq_true rfl) fX5_10 ?_
        refine t_getR (q := 80) (k := 1) (f := 3) (t := 4) dX5_drops_77 rfl rfl rfl rfl inX1 (Nat.le_of_ble_eq_true rfl) fX5_80 ?_
        refine s_iload (q := 82) dX5_drops_80 rfl 0 rfl ?_
        refine s_iconst (q := 83) (v := 0) dX5_drops_82 rfl rfl ?_
        obtain ⟨hg10, h⟩ := chk_some h
        refine u_iast (q := 84) (k := 4) dX5_drops_83 rfl rfl (inB_in hg10) rfl ?_
        refine s_iinc (q := 87) (j := 3) (v := (x2 + 1)) (lv' := [(2, .int (x2 + 1)), (4, .int (irm q6.1 16)), (0, .ref (eB E + 0)), (1, .int x1), (3, .int x3)]) dX5_drops_84 rfl rfl rfl (Nat.le_of_ble_eq_true rfl) rfl ?_
        refine s_aload_n (q := 88) dX5_drops_87 rfl rfl 2 rfl ?_
        refine t_getR (q := 91) (k := 0) (f := 0) (t := 1) dX5_drops_88 rfl rfl rfl rfl inX5 (Nat.le_of_ble_eq_true rfl) fX5_10 ?_
        obtain ⟨q11, hc11, h⟩ := bnd h
        try dsimp only at h
        refine t_callV (q := 94) (N := mX1_passNight) (a := eB E + 1) [] dX5_drops_91 rfl nkX1_passNight vkX1_passNight lX5_123 ⟨Nat.le_of_ble_eq_true rfl, Nat.le_of_ble_eq_true rfl⟩ (rc_obj (k := 1) rfl rfl) rfl rfl (Nat.le_of_ble_eq_true rfl) (Nat.le_of_ble_eq_true rfl) (T_X1_passNight_1 E  hc11) ?_
        refine s_iinc (q := 97) (j := 4) (v := (x3 + 1)) (lv' := [(3, .int (x3 + 1)), (2, .int (x2 + 1)), (4, .int (irm q6.1 16)), (0, .ref (eB E + 0)), (1, .int x1)]) dX5_drops_94 rfl rfl rfl (Nat.le_of_ble_eq_true rfl) rfl ?_
        refine s_goto (tgt := 41) dX5_drops_97 rfl ?_
        exact t_sub [3, 4, 1, 0] rfl (ih _ _ _ _ _ h K)
def G_X5_drops_0 (x1 : Int32) (S : ST) : Option (Int32 × ST) := (if x1 < 1 then ((G_X5_finding_0 0 S).bind fun q2 => some (q2.1, q2.2)) else (if x1 ≤ 20 then (if ((S.1 1 8) + x1) ≤ 99999 then (G_X5_drops_0_41 3000 x1 0 0 S).bind fun q12 => some (q12.1, q12.2) else ((G_X5_finding_0 4 S).bind fun q13 => some (q13.1, q13.2))) else ((G_X5_finding_0 0 S).bind fun q14 => some (q14.1, q14.2))))
set_option maxHeartbeats 4000000 in
set_option maxRecDepth 100000 in
theorem T_X5_drops_0 (E : EV) (x1 : Int32) {S : ST} {w : (Int32 × ST)} (h : G_X5_drops_0 x1 S = some w) : SD E mX5_drops 0 [(0, .ref (eB E + 0)), (1, .int x1)] [] S (some (.int w.1)) w.2 := by
  unfold G_X5_drops_0 at h
  refine s_iload_n (q := 1) dX5_drops_0 rfl rfl 1 rfl ?_
  refine s_iconst (q := 2) (v := 1) dX5_drops_1 rfl rfl ?_
  refine s_icmp_lt (q := 5) (tgt := 11) dX5_drops_2 rfl rfl (fun hb1 => ?_) (fun hb1 => ?_)
  · rw [if_pos hb1] at h
    refine s_aload_n (q := 12) dX5_drops_11 rfl rfl 0 rfl ?_
    refine s_iconst (q := 13) (v := 0) dX5_drops_12 rfl rfl ?_
    obtain ⟨q2, hc2, h⟩ := bnd h
    try dsimp only at h
    refine t_callV (q := 16) (N := mX5_finding) (a := eB E + 0) [.int 0] dX5_drops_13 rfl nkX5_finding vkX5_finding lX5_61 ⟨Nat.le_of_ble_eq_true rfl, Nat.le_of_ble_eq_true rfl⟩ (rc_obj (k := 0) rfl rfl) rfl rfl (Nat.le_of_ble_eq_true rfl) (Nat.le_of_ble_eq_true rfl) (T_X5_finding_0 E _ hc2) ?_
    obtain rfl := Option.some.inj h
    exact t_iret dX5_drops_16 rfl rfl
  · rw [if_neg hb1] at h
    refine s_iload_n (q := 6) dX5_drops_5 rfl rfl 1 rfl ?_
    refine s_bipush (q := 8) (v := 20) dX5_drops_6 rfl rfl ?_
    refine s_icmp_le (q := 11) (tgt := 17) dX5_drops_8 rfl rfl (fun hb3 => ?_) (fun hb3 => ?_)
    · rw [if_pos hb3] at h
      refine s_aload_n (q := 18) dX5_drops_17 rfl rfl 0 rfl ?_
      refine t_getR (q := 21) (k := 0) (f := 0) (t := 1) dX5_drops_18 rfl rfl rfl rfl inX5 (Nat.le_of_ble_eq_true rfl) fX5_10 ?_
      refine t_getI (q := 24) (k := 1) (f := 8) (v := (S.1 1 8)) dX5_drops_21 rfl rfl rfl rfl inX1 (Nat.le_of_ble_eq_true rfl) fX5_119 rfl ?_
      refine s_iload_n (q := 25) dX5_drops_24 rfl rfl 1 rfl ?_
      refine s_iadd (q := 26) dX5_drops_25 rfl ?_
      refine s_ldc (q := 28) (v := 99999) dX5_drops_26 rfl kX5_122 ?_
      refine s_icmp_le (q := 31) (tgt := 37) dX5_drops_28 rfl rfl (fun hb4 => ?_) (fun hb4 => ?_)
      · rw [if_pos hb4] at h
        refine s_iconst (q := 38) (v := 0) dX5_drops_37 rfl rfl ?_
        refine s_istore_n (q := 39) (lv' := [(2, .int 0), (0, .ref (eB E + 0)), (1, .int x1)]) dX5_drops_38 rfl rfl (Nat.le_of_ble_eq_true rfl) rfl ?_
        refine s_iconst (q := 40) (v := 0) dX5_drops_39 rfl rfl ?_
        refine s_istore_n (q := 41) (lv' := [(3, .int 0), (2, .int 0), (0, .ref (eB E + 0)), (1, .int x1)]) dX5_drops_40 rfl rfl (Nat.le_of_ble_eq_true rfl) rfl ?_
        obtain ⟨q12, hc12, h⟩ := bnd h
        try dsimp only at h
        refine t_sub [2, 3, 1, 0] rfl (T_X5_drops_0_41 E _ _ _ _ _ _ hc12 ?_)
        refine s_iload_n (q := 101) dX5_drops_100 rfl rfl 0 rfl ?_
        obtain rfl := Option.some.inj h
        exact t_iret dX5_drops_101 rfl rfl
      · rw [if_neg hb4] at h
        refine s_aload_n (q := 32) dX5_drops_31 rfl rfl 0 rfl ?_
        refine s_iconst (q := 33) (v := 4) dX5_drops_32 rfl rfl ?_
        obtain ⟨q13, hc13, h⟩ := bnd h
        try dsimp only at h
        refine t_callV (q := 36) (N := mX5_finding) (a := eB E + 0) [.int 4] dX5_drops_33 rfl nkX5_finding vkX5_finding lX5_61 ⟨Nat.le_of_ble_eq_true rfl, Nat.le_of_ble_eq_true rfl⟩ (rc_obj (k := 0) rfl rfl) rfl rfl (Nat.le_of_ble_eq_true rfl) (Nat.le_of_ble_eq_true rfl) (T_X5_finding_0 E _ hc13) ?_
        obtain rfl := Option.some.inj h
        exact t_iret dX5_drops_36 rfl rfl
    · rw [if_neg hb3] at h
      refine s_aload_n (q := 12) dX5_drops_11 rfl rfl 0 rfl ?_
      refine s_iconst (q := 13) (v := 0) dX5_drops_12 rfl rfl ?_
      obtain ⟨q14, hc14, h⟩ := bnd h
      try dsimp only at h
      refine t_callV (q := 16) (N := mX5_finding) (a := eB E + 0) [.int 0] dX5_drops_13 rfl nkX5_finding vkX5_finding lX5_61 ⟨Nat.le_of_ble_eq_true rfl, Nat.le_of_ble_eq_true rfl⟩ (rc_obj (k := 0) rfl rfl) rfl rfl (Nat.le_of_ble_eq_true rfl) (Nat.le_of_ble_eq_true rfl) (T_X5_finding_0 E _ hc14) ?_
      obtain rfl := Option.some.inj h
      exact t_iret dX5_drops_16 rfl rfl
-- X6_draw
def G_X6_draw_51  (S : ST) : Option (Int32 × ST) := some ((ush (((S.1 52 3) * 1103515245) + 12345) 8), (wr S 52 3 (((S.1 52 3) * 1103515245) + 12345)))
set_option maxHeartbeats 4000000 in
set_option maxRecDepth 100000 in
theorem T_X6_draw_51 (E : EV)  {S : ST} {w : (Int32 × ST)} (h : G_X6_draw_51  S = some w) : SD E mX6_draw 0 [(0, .ref (eB E + 51))] [] S (some (.int w.1)) w.2 := by
  unfold G_X6_draw_51 at h
  refine s_aload_n (q := 1) dX6_draw_0 rfl rfl 0 rfl ?_
  refine t_getR (q := 4) (k := 51) (f := 0) (t := 52) dX6_draw_1 rfl rfl rfl rfl inX6 (Nat.le_of_ble_eq_true rfl) fX6_9 ?_
  refine s_iconst (q := 5) (v := 3) dX6_draw_4 rfl rfl ?_
  refine s_aload_n (q := 6) dX6_draw_5 rfl rfl 0 rfl ?_
  refine t_getR (q := 9) (k := 51) (f := 0) (t := 52) dX6_draw_6 rfl rfl rfl rfl inX6 (Nat.le_of_ble_eq_true rfl) fX6_9 ?_
  refine s_iconst (q := 10) (v := 3) dX6_draw_9 rfl rfl ?_
  refine u_iald (q := 11) (k := 52) (j := 3) (v := (S.1 52 3)) dX6_draw_10 rfl rfl (inB_in (by decide)) (by decide) rfl ?_
  refine s_ldc (q := 13) (v := 1103515245) dX6_draw_11 rfl kX6_192 ?_
  refine s_imul (q := 14) dX6_draw_13 rfl ?_
  refine s_sipush (q := 17) (v := 12345) dX6_draw_14 rfl rfl ?_
  refine s_iadd (q := 18) dX6_draw_17 rfl ?_
  refine u_iast (q := 19) (k := 52) (j := 3) dX6_draw_18 rfl rfl (inB_in (by decide)) (by decide) ?_
  refine s_aload_n (q := 20) dX6_draw_19 rfl rfl 0 rfl ?_
  refine t_getR (q := 23) (k := 51) (f := 0) (t := 52) dX6_draw_20 rfl rfl rfl rfl inX6 (Nat.le_of_ble_eq_true rfl) fX6_9 ?_
  refine s_iconst (q := 24) (v := 3) dX6_draw_23 rfl rfl ?_
  refine u_iald (q := 25) (k := 52) (j := 3) (v := (((S.1 52 3) * 1103515245) + 12345)) dX6_draw_24 rfl rfl (inB_in (by decide)) (by decide) rfl ?_
  refine s_bipush (q := 27) (v := 8) dX6_draw_25 rfl rfl ?_
  refine v_iushr (q := 28) dX6_draw_27 rfl ?_
  obtain rfl := Option.some.inj h
  exact t_iret dX6_draw_28 rfl rfl
-- X6_drops
def G_X6_drops_51_39 : Nat → Int32 → Int32 → Int32 → ST → Option (Int32 × ST)
  | 0, _, _, _, _ => none
  | n + 1, x1, x2, x3, S => (if x1 ≤ x3 then some (x2, S) else ((G_X6_draw_51  S).bind fun q5 => ((G_X6_isStar_51 (irm q5.1 16) q5.2).bind fun q6 => (if q6.1 = 0 then ((G_X6_night_51  q6.2).bind fun q8 => G_X6_drops_51_39 n x1 x2 (x3 + 1) q8.2) else ((G_X6_puts_51 (irm q5.1 16) 2 0 q6.2).bind fun q9 => ((G_X6_night_51  q9.2).bind fun q10 => G_X6_drops_51_39 n x1 (x2 + 1) (x3 + 1) q10.2))))))
set_option maxHeartbeats 4000000 in
set_option maxRecDepth 100000 in
theorem T_X6_drops_51_39 (E : EV) : ∀ (n : Nat) (x1 : Int32) (x2 : Int32) (x3 : Int32) (S : ST), ∀ (w : (Int32 × ST)), G_X6_drops_51_39 n x1 x2 x3 S = some w → ∀ {Q : Option Value → ST → Prop}, SS E mX6_drops 83 [(2, .int w.1)] [] w.2 Q → SS E mX6_drops 39 [(0, .ref (eB E + 51)), (1, .int x1), (2, .int x2), (3, .int x3)] [] S Q := by
  intro n
  induction n with
  | zero =>
    intro x1 x2 x3 S w h
    cases h
  | succ n ih =>
    intro x1 x2 x3 S w h Q K
    unfold G_X6_drops_51_39 at h
    refine s_iload_n (q := 40) dX6_drops_39 rfl rfl 3 rfl ?_
    refine s_iload_n (q := 41) dX6_drops_40 rfl rfl 1 rfl ?_
    refine s_icmp_ge (q := 44) (tgt := 83) dX6_drops_41 rfl rfl (fun hb4 => ?_) (fun hb4 => ?_)
    · rw [if_pos hb4] at h
      obtain rfl := Option.some.inj h
      exact t_sub [2] rfl K
    · rw [if_neg hb4] at h
      refine s_aload_n (q := 45) dX6_drops_44 rfl rfl 0 rfl ?_
      obtain ⟨q5, hc5, h⟩ := bnd h
      try dsimp only at h
      refine t_callV (q := 48) (N := mX6_draw) (a := eB E + 51) [] dX6_drops_45 rfl nkX6_draw vkX6_draw lX6_193 ⟨Nat.le_of_ble_eq_true rfl, Nat.le_of_ble_eq_true rfl⟩ (rc_obj (k := 51) rfl rfl) rfl rfl (Nat.le_of_ble_eq_true rfl) (Nat.le_of_ble_eq_true rfl) (T_X6_draw_51 E  hc5) ?_
      refine s_bipush (q := 50) (v := 16) dX6_drops_48 rfl rfl ?_
      refine v_irem (q := 51) dX6_drops_50 rfl (by decide) ?_
      refine s_istore (q := 53) (lv' := [(4, .int (irm q5.1 16)), (0, .ref (eB E + 51)), (1, .int x1), (2, .int x2), (3, .int x3)]) dX6_drops_51 rfl (Nat.le_of_ble_eq_true rfl) rfl ?_
      refine s_aload_n (q := 54) dX6_drops_53 rfl rfl 1 rfl ?_
      refine s_iload (q := 56) dX6_drops_54 rfl 0 rfl ?_
      obtain ⟨q6, hc6, h⟩ := bnd h
      try dsimp only at h
      refine t_callV (q := 59) (N := mX6_isStar) (a := eB E + 51) [.int (irm q5.1 16)] dX6_drops_56 rfl nkX6_isStar vkX6_isStar lX6_101 ⟨Nat.le_of_ble_eq_true rfl, Nat.le_of_ble_eq_true rfl⟩ (rc_obj (k := 51) rfl rfl) rfl rfl (Nat.le_of_ble_eq_true rfl) (Nat.le_of_ble_eq_true rfl) (T_X6_isStar_51 E _ hc6) ?_
      refine s_if_eq (q := 62) (tgt := 73) dX6_drops_59 rfl rfl (fun hb7 => ?_) (fun hb7 => ?_)
      · rw [if_pos hb7] at h
        refine s_aload_n (q := 74) dX6_drops_73 rfl rfl 1 rfl ?_
        obtain ⟨q8, hc8, h⟩ := bnd h
        try dsimp only at h
        refine t_callV (q := 77) (N := mX6_night) (a := eB E + 51) [] dX6_drops_74 rfl nkX6_night vkX6_night lX6_88 ⟨Nat.le_of_ble_eq_true rfl, Nat.le_of_ble_eq_true rfl⟩ (rc_obj (k := 51) rfl rfl) rfl rfl (Nat.le_of_ble_eq_true rfl) (Nat.le_of_ble_eq_true rfl) (T_X6_night_51 E  hc8) ?_
        refine s_iinc (q := 80) (j := 4) (v := (x3 + 1)) (lv' := [(3, .int (x3 + 1)), (4, .int (irm q5.1 16)), (0, .ref (eB E + 51)), (1, .int x1), (2, .int x2)]) dX6_drops_77 rfl rfl rfl (Nat.le_of_ble_eq_true rfl) rfl ?_
        refine s_goto (tgt := 39) dX6_drops_80 rfl ?_
        exact t_sub [2, 3, 4, 0] rfl (ih _ _ _ _ _ h K)
      · rw [if_neg hb7] at h
        refine s_aload_n (q := 63) dX6_drops_62 rfl rfl 1 rfl ?_
        refine s_iload (q := 65) dX6_drops_63 rfl 0 rfl ?_
        refine s_iconst (q := 66) (v := 2) dX6_drops_65 rfl rfl ?_
        refine s_iconst (q := 67) (v := 0) dX6_drops_66 rfl rfl ?_
        obtain ⟨q9, hc9, h⟩ := bnd h
        try dsimp only at h
        refine t_callV (q := 70) (N := mX6_puts) (a := eB E + 51) [.int (irm q5.1 16), .int 2, .int 0] dX6_drops_67 rfl nkX6_puts vkX6_puts lX6_80 ⟨Nat.le_of_ble_eq_true rfl, Nat.le_of_ble_eq_true rfl⟩ (rc_obj (k := 51) rfl rfl) rfl rfl (Nat.le_of_ble_eq_true rfl) (Nat.le_of_ble_eq_true rfl) (T_X6_puts_51 E _ _ _ hc9) ?_
        refine s_iinc (q := 73) (j := 3) (v := (x2 + 1)) (lv' := [(2, .int (x2 + 1)), (4, .int (irm q5.1 16)), (0, .ref (eB E + 51)), (1, .int x1), (3, .int x3)]) dX6_drops_70 rfl rfl rfl (Nat.le_of_ble_eq_true rfl) rfl ?_
        refine s_aload_n (q := 74) dX6_drops_73 rfl rfl 2 rfl ?_
        obtain ⟨q10, hc10, h⟩ := bnd h
        try dsimp only at h
        refine t_callV (q := 77) (N := mX6_night) (a := eB E + 51) [] dX6_drops_74 rfl nkX6_night vkX6_night lX6_88 ⟨Nat.le_of_ble_eq_true rfl, Nat.le_of_ble_eq_true rfl⟩ (rc_obj (k := 51) rfl rfl) rfl rfl (Nat.le_of_ble_eq_true rfl) (Nat.le_of_ble_eq_true rfl) (T_X6_night_51 E  hc10) ?_
        refine s_iinc (q := 80) (j := 4) (v := (x3 + 1)) (lv' := [(3, .int (x3 + 1)), (2, .int (x2 + 1)), (4, .int (irm q5.1 16)), (0, .ref (eB E + 51)), (1, .int x1)]) dX6_drops_77 rfl rfl rfl (Nat.le_of_ble_eq_true rfl) rfl ?_
        refine s_goto (tgt := 39) dX6_drops_80 rfl ?_
        exact t_sub [3, 4, 1, 0] rfl (ih _ _ _ _ _ h K)
def G_X6_drops_51 (x1 : Int32) (S : ST) : Option (Int32 × ST) := ((G_X6_in1 x1 1 20 S).bind fun q1 => (if q1.1 = 0 then ((G_X6_no_51 0 q1.2).bind fun q13 => some (q13.1, q13.2)) else (if ((q1.2.1 52 0) + x1) ≤ 99999 then (G_X6_drops_51_39 3000 x1 0 0 q1.2).bind fun q11 => some (q11.1, q11.2) else ((G_X6_no_51 4 q1.2).bind fun q12 => some (q12.1, q12.2)))))
set_option maxHeartbeats 4000000 in
set_option maxRecDepth 100000 in
theorem T_X6_drops_51 (E : EV) (x1 : Int32) {S : ST} {w : (Int32 × ST)} (h : G_X6_drops_51 x1 S = some w) : SD E mX6_drops 0 [(0, .ref (eB E + 51)), (1, .int x1)] [] S (some (.int w.1)) w.2 := by
  unfold G_X6_drops_51 at h
  refine s_iload_n (q := 1) dX6_drops_0 rfl rfl 1 rfl ?_
  refine s_iconst (q := 2) (v := 1) dX6_drops_1 rfl rfl ?_
  refine s_bipush (q := 4) (v := 20) dX6_drops_2 rfl rfl ?_
  obtain ⟨q1, hc1, h⟩ := bnd h
  try dsimp only at h
  refine t_callS (q := 7) (N := mX6_in1) [.int x1, .int 1, .int 20] dX6_drops_4 rfl nkX6_in1 sX6_in1 lX6_54 ⟨Nat.le_of_ble_eq_true rfl, Nat.le_of_ble_eq_true rfl⟩ rfl rfl (Nat.le_of_ble_eq_true rfl) (Nat.le_of_ble_eq_true rfl) (T_X6_in1 E _ _ _ hc1) ?_
  refine s_if_ne (q := 10) (tgt := 16) dX6_drops_7 rfl rfl (fun hb2 => ?_) (fun hb2 => ?_)
  · rw [if_neg hb2] at h
    refine s_aload_n (q := 17) dX6_drops_16 rfl rfl 0 rfl ?_
    refine t_getR (q := 20) (k := 51) (f := 0) (t := 52) dX6_drops_17 rfl rfl rfl rfl inX6 (Nat.le_of_ble_eq_true rfl) fX6_9 ?_
    refine s_iconst (q := 21) (v := 0) dX6_drops_20 rfl rfl ?_
    refine u_iald (q := 22) (k := 52) (j := 0) (v := (q1.2.1 52 0)) dX6_drops_21 rfl rfl (inB_in (by decide)) (by decide) rfl ?_
    refine s_iload_n (q := 23) dX6_drops_22 rfl rfl 1 rfl ?_
    refine s_iadd (q := 24) dX6_drops_23 rfl ?_
    refine s_ldc (q := 26) (v := 99999) dX6_drops_24 rfl kX6_84 ?_
    refine s_icmp_le (q := 29) (tgt := 35) dX6_drops_26 rfl rfl (fun hb3 => ?_) (fun hb3 => ?_)
    · rw [if_pos hb3] at h
      refine s_iconst (q := 36) (v := 0) dX6_drops_35 rfl rfl ?_
      refine s_istore_n (q := 37) (lv' := [(2, .int 0), (0, .ref (eB E + 51)), (1, .int x1)]) dX6_drops_36 rfl rfl (Nat.le_of_ble_eq_true rfl) rfl ?_
      refine s_iconst (q := 38) (v := 0) dX6_drops_37 rfl rfl ?_
      refine s_istore_n (q := 39) (lv' := [(3, .int 0), (2, .int 0), (0, .ref (eB E + 51)), (1, .int x1)]) dX6_drops_38 rfl rfl (Nat.le_of_ble_eq_true rfl) rfl ?_
      obtain ⟨q11, hc11, h⟩ := bnd h
      try dsimp only at h
      refine t_sub [2, 3, 1, 0] rfl (T_X6_drops_51_39 E _ _ _ _ _ _ hc11 ?_)
      refine s_iload_n (q := 84) dX6_drops_83 rfl rfl 0 rfl ?_
      obtain rfl := Option.some.inj h
      exact t_iret dX6_drops_84 rfl rfl
    · rw [if_neg hb3] at h
      refine s_aload_n (q := 30) dX6_drops_29 rfl rfl 0 rfl ?_
      refine s_iconst (q := 31) (v := 4) dX6_drops_30 rfl rfl ?_
      obtain ⟨q12, hc12, h⟩ := bnd h
      try dsimp only at h
      refine t_callV (q := 34) (N := mX6_no) (a := eB E + 51) [.int 4] dX6_drops_31 rfl nkX6_no vkX6_no lX6_94 ⟨Nat.le_of_ble_eq_true rfl, Nat.le_of_ble_eq_true rfl⟩ (rc_obj (k := 51) rfl rfl) rfl rfl (Nat.le_of_ble_eq_true rfl) (Nat.le_of_ble_eq_true rfl) (T_X6_no_51 E _ hc12) ?_
      obtain rfl := Option.some.inj h
      exact t_iret dX6_drops_34 rfl rfl
  · rw [if_pos hb2] at h
    refine s_aload_n (q := 11) dX6_drops_10 rfl rfl 0 rfl ?_
    refine s_iconst (q := 12) (v := 0) dX6_drops_11 rfl rfl ?_
    obtain ⟨q13, hc13, h⟩ := bnd h
    try dsimp only at h
    refine t_callV (q := 15) (N := mX6_no) (a := eB E + 51) [.int 0] dX6_drops_12 rfl nkX6_no vkX6_no lX6_94 ⟨Nat.le_of_ble_eq_true rfl, Nat.le_of_ble_eq_true rfl⟩ (rc_obj (k := 51) rfl rfl) rfl rfl (Nat.le_of_ble_eq_true rfl) (Nat.le_of_ble_eq_true rfl) (T_X6_no_51 E _ hc13) ?_
    obtain rfl := Option.some.inj h
    exact t_iret dX6_drops_15 rfl rfl
-- X5_power
def G_X5_power_5 : Nat → Int32 → Int32 → Int64 → Int32 → ST → Option (Int64 × ST)
  | 0, _, _, _, _, _ => none
  | n + 1, x0, x1, x2, x4, S => (if x1 ≤ x4 then some (x2, S) else G_X5_power_5 n x0 x1 (x2 * (x0.toInt64)) (x4 + 1) S)
set_option maxHeartbeats 4000000 in
set_option maxRecDepth 100000 in
theorem T_X5_power_5 (E : EV) : ∀ (n : Nat) (x0 : Int32) (x1 : Int32) (x2 : Int64) (x4 : Int32) (S : ST), ∀ (w : (Int64 × ST)), G_X5_power_5 n x0 x1 x2 x4 S = some w → ∀ {Q : Option Value → ST → Prop}, SS E mX5_power 22 [(2, .long w.1)] [] w.2 Q → SS E mX5_power 5 [(0, .int x0), (1, .int x1), (2, .long x2), (4, .int x4)] [] S Q := by
  intro n
  induction n with
  | zero =>
    intro x0 x1 x2 x4 S w h
    cases h
  | succ n ih =>
    intro x0 x1 x2 x4 S w h Q K
    unfold G_X5_power_5 at h
    refine s_iload (q := 7) dX5_power_5 rfl 3 rfl ?_
    refine s_iload_n (q := 8) dX5_power_7 rfl rfl 1 rfl ?_
    refine s_icmp_ge (q := 11) (tgt := 22) dX5_power_8 rfl rfl (fun hb1 => ?_) (fun hb1 => ?_)
    · rw [if_pos hb1] at h
      obtain rfl := Option.some.inj h
      exact t_sub [2] rfl K
    · rw [if_neg hb1] at h
      refine s_lload_n (q := 12) dX5_power_11 rfl rfl 2 rfl ?_
      refine s_iload_n (q := 13) dX5_power_12 rfl rfl 0 rfl ?_
      refine s_i2l (q := 14) dX5_power_13 rfl ?_
      refine s_lmul (q := 15) dX5_power_14 rfl ?_
      refine s_lstore_n (q := 16) (lv' := [(2, .long (x2 * (x0.toInt64))), (0, .int x0), (1, .int x1), (4, .int x4)]) dX5_power_15 rfl rfl (Nat.le_of_ble_eq_true rfl) rfl ?_
      refine s_iinc (q := 19) (j := 3) (v := (x4 + 1)) (lv' := [(4, .int (x4 + 1)), (2, .long (x2 * (x0.toInt64))), (0, .int x0), (1, .int x1)]) dX5_power_16 rfl rfl rfl (Nat.le_of_ble_eq_true rfl) rfl ?_
      refine s_goto (tgt := 5) dX5_power_19 rfl ?_
      exact t_sub [2, 3, 1, 0] rfl (ih _ _ _ _ _ _ h K)
def G_X5_power (x0 : Int32) (x1 : Int32) (S : ST) : Option (Int64 × ST) := (G_X5_power_5 3000 x0 x1 1 0 S).bind fun q2 => some (q2.1, q2.2)
set_option maxHeartbeats 4000000 in
set_option maxRecDepth 100000 in
theorem T_X5_power (E : EV) (x0 : Int32) (x1 : Int32) {S : ST} {w : (Int64 × ST)} (h : G_X5_power x0 x1 S = some w) : SD E mX5_power 0 [(0, .int x0), (1, .int x1)] [] S (some (.long w.1)) w.2 := by
  unfold G_X5_power at h
  refine s_lconst (q := 1) (v := 1) dX5_power_0 rfl rfl ?_
  refine s_lstore_n (q := 2) (lv' := [(2, .long 1), (0, .int x0), (1, .int x1)]) dX5_power_1 rfl rfl (Nat.le_of_ble_eq_true rfl) rfl ?_
  refine s_iconst (q := 3) (v := 0) dX5_power_2 rfl rfl ?_
  refine s_istore (q := 5) (lv' := [(4, .int 0), (2, .long 1), (0, .int x0), (1, .int x1)]) dX5_power_3 rfl (Nat.le_of_ble_eq_true rfl) rfl ?_
  obtain ⟨q2, hc2, h⟩ := bnd h
  try dsimp only at h
  refine t_sub [2, 3, 1, 0] rfl (T_X5_power_5 E _ _ _ _ _ _ _ hc2 ?_)
  refine s_lload_n (q := 23) dX5_power_22 rfl rfl 0 rfl ?_
  obtain rfl := Option.some.inj h
  exact t_lret dX5_power_23 rfl rfl
-- X5_odds
def G_X5_odds_0_42 : Nat → Int32 → Int32 → Int32 → Int32 → Int32 → ST → Option (Int32 × Int32 × Int32 × Int32 × ST)
  | 0, _, _, _, _, _, _ => none
  | n + 1, x1, x2, x3, x4, x5, S => (if (4 : Int32) ≤ x5 then some (x1, x2, x3, x4, S) else (if (irm x3 2) = 0 then (if (irm x4 2) = 0 then G_X5_odds_0_42 n x1 x2 (x3 / 2) (x4 / 2) (x5 + 1) S else some (x1, x2, x3, x4, S)) else some (x1, x2, x3, x4, S)))
set_option maxHeartbeats 4000000 in
set_option maxRecDepth 100000 in
theorem T_X5_odds_0_42 (E : EV) : ∀ (n : Nat) (x1 : Int32) (x2 : Int32) (x3 : Int32) (x4 : Int32) (x5 : Int32) (S : ST), ∀ (w : (Int32 × Int32 × Int32 × Int32 × ST)), G_X5_odds_0_42 n x1 x2 x3 x4 x5 S = some w → ∀ {Q : Option Value → ST → Prop}, SS E mX5_odds 77 [(1, .int w.1), (2, .int w.2.1), (3, .int w.2.2.1), (4, .int w.2.2.2.1)] [] w.2.2.2.2 Q → SS E mX5_odds 42 [(1, .int x1), (2, .int x2), (3, .int x3), (4, .int x4), (5, .int x5)] [] S Q := by
  intro n
  induction n with
  | zero =>
    intro x1 x2 x3 x4 x5 S w h
    cases h
  | succ n ih =>
    intro x1 x2 x3 x4 x5 S w h Q K
    unfold G_X5_odds_0_42 at h
    refine s_iload (q := 44) dX5_odds_42 rfl 4 rfl ?_
    refine s_iconst (q := 45) (v := 4) dX5_odds_44 rfl rfl ?_
    refine s_icmp_ge (q := 48) (tgt := 77) dX5_odds_45 rfl rfl (fun hb6 => ?_) (fun hb6 => ?_)
    · rw [if_pos hb6] at h
      obtain rfl := Option.some.inj h
      exact t_sub [0, 1, 2, 3] rfl K
    · rw [if_neg hb6] at h
      refine s_iload_n (q := 49) dX5_odds_48 rfl rfl 2 rfl ?_
      refine s_iconst (q := 50) (v := 2) dX5_odds_49 rfl rfl ?_
      refine v_irem (q := 51) dX5_odds_50 rfl (by decide) ?_
      refine s_if_ne (q := 54) (tgt := 77) dX5_odds_51 rfl rfl (fun hb7 => ?_) (fun hb7 => ?_)
      · rw [if_neg hb7] at h
        obtain rfl := Option.some.inj h
        exact t_sub [0, 1, 2, 3] rfl K
      · rw [if_pos hb7] at h
        refine s_iload (q := 56) dX5_odds_54 rfl 3 rfl ?_
        refine s_iconst (q := 57) (v := 2) dX5_odds_56 rfl rfl ?_
        refine v_irem (q := 58) dX5_odds_57 rfl (by decide) ?_
        refine s_if_ne (q := 61) (tgt := 77) dX5_odds_58 rfl rfl (fun hb8 => ?_) (fun hb8 => ?_)
        · rw [if_neg hb8] at h
          obtain rfl := Option.some.inj h
          exact t_sub [0, 1, 2, 3] rfl K
        · rw [if_pos hb8] at h
          refine s_iload_n (q := 62) dX5_odds_61 rfl rfl 2 rfl ?_
          refine s_iconst (q := 63) (v := 2) dX5_odds_62 rfl rfl ?_
          refine s_idiv (q := 64) dX5_odds_63 rfl (by decide) ?_
          refine s_istore_n (q := 65) (lv' := [(3, .int (x3 / 2)), (1, .int x1), (2, .int x2), (4, .int x4), (5, .int x5)]) dX5_odds_64 rfl rfl (Nat.le_of_ble_eq_true rfl) rfl ?_
          refine s_iload (q := 67) dX5_odds_65 rfl 3 rfl ?_
          refine s_iconst (q := 68) (v := 2) dX5_odds_67 rfl rfl ?_
          refine s_idiv (q := 69) dX5_odds_68 rfl (by decide) ?_
          refine s_istore (q := 71) (lv' := [(4, .int (x4 / 2)), (3, .int (x3 / 2)), (1, .int x1), (2, .int x2), (5, .int x5)]) dX5_odds_69 rfl (Nat.le_of_ble_eq_true rfl) rfl ?_
          refine s_iinc (q := 74) (j := 4) (v := (x5 + 1)) (lv' := [(5, .int (x5 + 1)), (4, .int (x4 / 2)), (3, .int (x3 / 2)), (1, .int x1), (2, .int x2)]) dX5_odds_71 rfl rfl rfl (Nat.le_of_ble_eq_true rfl) rfl ?_
          refine s_goto (tgt := 42) dX5_odds_74 rfl ?_
          exact t_sub [3, 4, 2, 1, 0] rfl (ih _ _ _ _ _ _ _ h K)
def G_X5_odds_0_77 (x1 : Int32) (x2 : Int32) (x3 : Int32) (x4 : Int32) (S : ST) : Option (Int64 × ST) := (if x2 = 0 then ((G_X5_power x3 x1 S).bind fun q12 => some (q12.1, q12.2)) else ((G_X5_power x4 x1 S).bind fun q11 => some (q11.1, q11.2)))
set_option maxHeartbeats 4000000 in
set_option maxRecDepth 100000 in
theorem T_X5_odds_0_77 (E : EV) (x1 : Int32) (x2 : Int32) (x3 : Int32) (x4 : Int32) {S : ST} {w : (Int64 × ST)} (h : G_X5_odds_0_77 x1 x2 x3 x4 S = some w) : SD E mX5_odds 77 [(1, .int x1), (2, .int x2), (3, .int x3), (4, .int x4)] [] S (some (.long w.1)) w.2 := by
  unfold G_X5_odds_0_77 at h
  refine s_iload_n (q := 78) dX5_odds_77 rfl rfl 1 rfl ?_
  refine s_if_ne (q := 81) (tgt := 85) dX5_odds_78 rfl rfl (fun hb10 => ?_) (fun hb10 => ?_)
  · rw [if_neg hb10] at h
    refine s_iload (q := 87) dX5_odds_85 rfl 3 rfl ?_
    refine s_iload_n (q := 88) dX5_odds_87 rfl rfl 0 rfl ?_
    obtain ⟨q11, hc11, h⟩ := bnd h
    try dsimp only at h
    refine t_callS (q := 91) (N := mX5_power) [.int x4, .int x1] dX5_odds_88 rfl nkX5_power sX5_power lX5_219 ⟨Nat.le_of_ble_eq_true rfl, Nat.le_of_ble_eq_true rfl⟩ rfl rfl (Nat.le_of_ble_eq_true rfl) (Nat.le_of_ble_eq_true rfl) (T_X5_power E _ _ hc11) ?_
    obtain rfl := Option.some.inj h
    exact t_lret dX5_odds_91 rfl rfl
  · rw [if_pos hb10] at h
    refine s_iload_n (q := 82) dX5_odds_81 rfl rfl 2 rfl ?_
    refine s_goto (tgt := 87) dX5_odds_82 rfl ?_
    refine s_iload_n (q := 88) dX5_odds_87 rfl rfl 0 rfl ?_
    obtain ⟨q12, hc12, h⟩ := bnd h
    try dsimp only at h
    refine t_callS (q := 91) (N := mX5_power) [.int x3, .int x1] dX5_odds_88 rfl nkX5_power sX5_power lX5_219 ⟨Nat.le_of_ble_eq_true rfl, Nat.le_of_ble_eq_true rfl⟩ rfl rfl (Nat.le_of_ble_eq_true rfl) (Nat.le_of_ble_eq_true rfl) (T_X5_power E _ _ hc12) ?_
    obtain rfl := Option.some.inj h
    exact t_lret dX5_odds_91 rfl rfl
def G_X5_odds_0 (x1 : Int32) (x2 : Int32) (S : ST) : Option (Int64 × ST) := ((G_X5_isWithin x1 14 S).bind fun q1 => (if q1.1 = 0 then ((G_X5_finding_0 0 q1.2).bind fun q3 => some ((q3.1.toInt64), q3.2)) else ((G_X5_isWithin x2 1 q1.2).bind fun q4 => (if q4.1 = 0 then ((G_X5_finding_0 0 q4.2).bind fun q13 => some ((q13.1.toInt64), q13.2)) else (G_X5_odds_0_42 3000 x1 x2 (16 - (q4.2.1 1 0)) 16 0 q4.2).bind fun q9 => G_X5_odds_0_77 q9.1 q9.2.1 q9.2.2.1 q9.2.2.2.1 q9.2.2.2.2))))
set_option maxHeartbeats 4000000 in
set_option maxRecDepth 100000 in
theorem T_X5_odds_0 (E : EV) (x1 : Int32) (x2 : Int32) {S : ST} {w : (Int64 × ST)} (h : G_X5_odds_0 x1 x2 S = some w) : SD E mX5_odds 0 [(0, .ref (eB E + 0)), (1, .int x1), (2, .int x2)] [] S (some (.long w.1)) w.2 := by
  unfold G_X5_odds_0 at h
  refine s_iload_n (q := 1) dX5_odds_0 rfl rfl 1 rfl ?_
  refine s_bipush (q := 3) (v := 14) dX5_odds_1 rfl rfl ?_
  obtain ⟨q1, hc1, h⟩ := bnd h
  try dsimp only at h
  refine t_callS (q := 6) (N := mX5_isWithin) [.int x1, .int 14] dX5_odds_3 rfl nkX5_isWithin sX5_isWithin lX5_99 ⟨Nat.le_of_ble_eq_true rfl, Nat.le_of_ble_eq_true rfl⟩ rfl rfl (Nat.le_of_ble_eq_true rfl) (Nat.le_of_ble_eq_true rfl) (T_X5_isWithin E _ _ hc1) ?_
  refine s_if_eq (q := 9) (tgt := 17) dX5_odds_6 rfl rfl (fun hb2 => ?_) (fun hb2 => ?_)
  · rw [if_pos hb2] at h
    refine s_aload_n (q := 18) dX5_odds_17 rfl rfl 0 rfl ?_
    refine s_iconst (q := 19) (v := 0) dX5_odds_18 rfl rfl ?_
    obtain ⟨q3, hc3, h⟩ := bnd h
    try dsimp only at h
    refine t_callV (q := 22) (N := mX5_finding) (a := eB E + 0) [.int 0] dX5_odds_19 rfl nkX5_finding vkX5_finding lX5_61 ⟨Nat.le_of_ble_eq_true rfl, Nat.le_of_ble_eq_true rfl⟩ (rc_obj (k := 0) rfl rfl) rfl rfl (Nat.le_of_ble_eq_true rfl) (Nat.le_of_ble_eq_true rfl) (T_X5_finding_0 E _ hc3) ?_
    refine s_i2l (q := 23) dX5_odds_22 rfl ?_
    obtain rfl := Option.some.inj h
    exact t_lret dX5_odds_23 rfl rfl
  · rw [if_neg hb2] at h
    refine s_iload_n (q := 10) dX5_odds_9 rfl rfl 2 rfl ?_
    refine s_iconst (q := 11) (v := 1) dX5_odds_10 rfl rfl ?_
    obtain ⟨q4, hc4, h⟩ := bnd h
    try dsimp only at h
    refine t_callS (q := 14) (N := mX5_isWithin) [.int x2, .int 1] dX5_odds_11 rfl nkX5_isWithin sX5_isWithin lX5_99 ⟨Nat.le_of_ble_eq_true rfl, Nat.le_of_ble_eq_true rfl⟩ rfl rfl (Nat.le_of_ble_eq_true rfl) (Nat.le_of_ble_eq_true rfl) (T_X5_isWithin E _ _ hc4) ?_
    refine s_if_ne (q := 17) (tgt := 24) dX5_odds_14 rfl rfl (fun hb5 => ?_) (fun hb5 => ?_)
    · rw [if_neg hb5] at h
      refine s_bipush (q := 26) (v := 16) dX5_odds_24 rfl rfl ?_
      refine s_aload_n (q := 27) dX5_odds_26 rfl rfl 0 rfl ?_
      refine t_getR (q := 30) (k := 0) (f := 0) (t := 1) dX5_odds_27 rfl rfl rfl rfl inX5 (Nat.le_of_ble_eq_true rfl) fX5_10 ?_
      refine t_getI (q := 33) (k := 1) (f := 0) (v := (q4.2.1 1 0)) dX5_odds_30 rfl rfl rfl rfl inX1 (Nat.le_of_ble_eq_true rfl) fX5_65 rfl ?_
      refine s_isub (q := 34) dX5_odds_33 rfl ?_
      refine s_istore_n (q := 35) (lv' := [(3, .int (16 - (q4.2.1 1 0))), (0, .ref (eB E + 0)), (1, .int x1), (2, .int x2)]) dX5_odds_34 rfl rfl (Nat.le_of_ble_eq_true rfl) rfl ?_
      refine s_bipush (q := 37) (v := 16) dX5_odds_35 rfl rfl ?_
      refine s_istore (q := 39) (lv' := [(4, .int 16), (3, .int (16 - (q4.2.1 1 0))), (0, .ref (eB E + 0)), (1, .int x1), (2, .int x2)]) dX5_odds_37 rfl (Nat.le_of_ble_eq_true rfl) rfl ?_
      refine s_iconst (q := 40) (v := 0) dX5_odds_39 rfl rfl ?_
      refine s_istore (q := 42) (lv' := [(5, .int 0), (4, .int 16), (3, .int (16 - (q4.2.1 1 0))), (0, .ref (eB E + 0)), (1, .int x1), (2, .int x2)]) dX5_odds_40 rfl (Nat.le_of_ble_eq_true rfl) rfl ?_
      obtain ⟨q9, hc9, h⟩ := bnd h
      try dsimp only at h
      refine t_sub [4, 5, 2, 1, 0] rfl (T_X5_odds_0_42 E _ _ _ _ _ _ _ _ hc9 ?_)
      exact t_sub [0, 1, 2, 3] rfl (T_X5_odds_0_77 E _ _ _ _ h)
    · rw [if_pos hb5] at h
      refine s_aload_n (q := 18) dX5_odds_17 rfl rfl 0 rfl ?_
      refine s_iconst (q := 19) (v := 0) dX5_odds_18 rfl rfl ?_
      obtain ⟨q13, hc13, h⟩ := bnd h
      try dsimp only at h
      refine t_callV (q := 22) (N := mX5_finding) (a := eB E + 0) [.int 0] dX5_odds_19 rfl nkX5_finding vkX5_finding lX5_61 ⟨Nat.le_of_ble_eq_true rfl, Nat.le_of_ble_eq_true rfl⟩ (rc_obj (k := 0) rfl rfl) rfl rfl (Nat.le_of_ble_eq_true rfl) (Nat.le_of_ble_eq_true rfl) (T_X5_finding_0 E _ hc13) ?_
      refine s_i2l (q := 23) dX5_odds_22 rfl ?_
      obtain rfl := Option.some.inj h
      exact t_lret dX5_odds_23 rfl rfl
-- X6_odds
def G_X6_odds_51_34 : Nat → Int32 → Int32 → Int64 → Int64 → Int32 → ST → Option (Int32 × Int64 × Int64 × ST)
  | 0, _, _, _, _, _, _ => none
  | n + 1, x1, x2, x3, x5, x7, S => (if x1 ≤ x7 then some (x2, x3, x5, S) else G_X6_odds_51_34 n x1 x2 (x3 * (16 - ((S.1 52 1).toInt64))) (x5 * 16) (x7 + 1) S)
set_option maxHeartbeats 4000000 in
set_option maxRecDepth 100000 in
theorem T_X6_odds_51_34 (E : EV) : ∀ (n : Nat) (x1 : Int32) (x2 : Int32) (x3 : Int64) (x5 : Int64) (x7 : Int32) (S : ST), ∀ (w : (Int32 × Int64 × Int64 × ST)), G_X6_odds_51_34 n x1 x2 x3 x5 x7 S = some w → ∀ {Q : Option Value → ST → Prop}, SS E mX6_odds 68 [(2, .int w.1), (3, .long w.2.1), (5, .long w.2.2.1)] [] w.2.2.2 Q → SS E mX6_odds 34 [(0, .ref (eB E + 51)), (1, .int x1), (2, .int x2), (3, .long x3), (5, .long x5), (7, .int x7)] [] S Q := by
  intro n
  induction n with
  | zero =>
    intro x1 x2 x3 x5 x7 S w h
    cases h
  | succ n ih =>
    intro x1 x2 x3 x5 x7 S w h Q K
    unfold G_X6_odds_51_34 at h
    refine s_iload (q := 36) dX6_odds_34 rfl 5 rfl ?_
    refine s_iload_n (q := 37) dX6_odds_36 rfl rfl 1 rfl ?_
    refine s_icmp_ge (q := 40) (tgt := 68) dX6_odds_37 rfl rfl (fun hb6 => ?_) (fun hb6 => ?_)
    · rw [if_pos hb6] at h
      obtain rfl := Option.some.inj h
      exact t_sub [2, 3, 4] rfl K
    · rw [if_neg hb6] at h
      refine s_lload_n (q := 41) dX6_odds_40 rfl rfl 3 rfl ?_
      refine s_ldc2 (q := 44) (v := 16) dX6_odds_41 rfl kX6_196 ?_
      refine s_aload_n (q := 45) dX6_odds_44 rfl rfl 0 rfl ?_
      refine t_getR (q := 48) (k := 51) (f := 0) (t := 52) dX6_odds_45 rfl rfl rfl rfl inX6 (Nat.le_of_ble_eq_true rfl) fX6_9 ?_
      refine s_iconst (q := 49) (v := 1) dX6_odds_48 rfl rfl ?_
      refine u_iald (q := 50) (k := 52) (j := 1) (v := (S.1 52 1)) dX6_odds_49 rfl rfl (inB_in (by decide)) (by decide) rfl ?_
      refine s_i2l (q := 51) dX6_odds_50 rfl ?_
      refine s_lsub (q := 52) dX6_odds_51 rfl ?_
      refine s_lmul (q := 53) dX6_odds_52 rfl ?_
      refine s_lstore_n (q := 54) (lv' := [(3, .long (x3 * (16 - ((S.1 52 1).toInt64)))), (0, .ref (eB E + 51)), (1, .int x1), (2, .int x2), (5, .long x5), (7, .int x7)]) dX6_odds_53 rfl rfl (Nat.le_of_ble_eq_true rfl) rfl ?_
      refine s_lload (q := 56) dX6_odds_54 rfl 4 rfl ?_
      refine s_ldc2 (q := 59) (v := 16) dX6_odds_56 rfl kX6_196 ?_
      refine s_lmul (q := 60) dX6_odds_59 rfl ?_
      refine s_lstore (q := 62) (lv' := [(5, .long (x5 * 16)), (3, .long (x3 * (16 - ((S.1 52 1).toInt64)))), (0, .ref (eB E + 51)), (1, .int x1), (2, .int x2), (7, .int x7)]) dX6_odds_60 rfl (Nat.le_of_ble_eq_true rfl) rfl ?_
      refine s_iinc (q := 65) (j := 5) (v := (x7 + 1)) (lv' := [(7, .int (x7 + 1)), (5, .long (x5 * 16)), (3, .long (x3 * (16 - ((S.1 52 1).toInt64)))), (0, .ref (eB E + 51)), (1, .int x1), (2, .int x2)]) dX6_odds_62 rfl rfl rfl (Nat.le_of_ble_eq_true rfl) rfl ?_
      refine s_goto (tgt := 34) dX6_odds_65 rfl ?_
      exact t_sub [3, 4, 5, 2, 1, 0] rfl (ih _ _ _ _ _ _ _ h K)
def G_X6_odds_51_75 : Nat → Int32 → Int64 → Int64 → Int64 → Int64 → ST → Option (Int32 × Int64 × Int64 × Int64 × ST)
  | 0, _, _, _, _, _, _ => none
  | n + 1, x2, x3, x5, x7, x9, S => (if (lg_cmp x9 0) = 0 then some (x2, x3, x5, x7, S) else (if x9 = 0 then none else G_X6_odds_51_75 n x2 x3 x5 x9 (lrm x7 x9) S))
set_option maxHeartbeats 4000000 in
set_option maxRecDepth 100000 in
theorem T_X6_odds_51_75 (E : EV) : ∀ (n : Nat) (x2 : Int32) (x3 : Int64) (x5 : Int64) (x7 : Int64) (x9 : Int64) (S : ST), ∀ (w : (Int32 × Int64 × Int64 × Int64 × ST)), G_X6_odds_51_75 n x2 x3 x5 x7 x9 S = some w → ∀ {Q : Option Value → ST → Prop}, SS E mX6_odds 100 [(2, .int w.1), (3, .long w.2.1), (5, .long w.2.2.1), (7, .long w.2.2.2.1)] [] w.2.2.2.2 Q → SS E mX6_odds 75 [(2, .int x2), (3, .long x3), (5, .long x5), (7, .long x7), (9, .long x9)] [] S Q := by
  intro n
  induction n with
  | zero =>
    intro x2 x3 x5 x7 x9 S w h
    cases h
  | succ n ih =>
    intro x2 x3 x5 x7 x9 S w h Q K
    unfold G_X6_odds_51_75 at h
    refine s_lload (q := 77) dX6_odds_75 rfl 4 rfl ?_
    refine s_lconst (q := 78) (v := 0) dX6_odds_77 rfl rfl ?_
    refine s_lcmp (q := 79) dX6_odds_78 rfl ?_
    refine s_if_eq (q := 82) (tgt := 100) dX6_odds_79 rfl rfl (fun hb8 => ?_) (fun hb8 => ?_)
    · rw [if_pos hb8] at h
      obtain rfl := Option.some.inj h
      exact t_sub [0, 1, 2, 3] rfl K
    · rw [if_neg hb8] at h
      refine s_lload (q := 84) dX6_odds_82 rfl 3 rfl ?_
      refine s_lload (q := 86) dX6_odds_84 rfl 4 rfl ?_
      by_cases hz9 : x9 = 0
      · rw [if_pos hz9] at h; cases h
      rw [if_neg hz9] at h
      refine v_lrem (q := 87) dX6_odds_86 rfl hz9 ?_
      refine s_lstore (q := 89) (lv' := [(11, .long (lrm x7 x9)), (2, .int x2), (3, .long x3), (5, .long x5), (7, .long x7), (9, .long x9)]) dX6_odds_87 rfl (Nat.le_of_ble_eq_true rfl) rfl ?_
      refine s_lload (q := 91) dX6_odds_89 rfl 5 rfl ?_
      refine s_lstore (q := 93) (lv' := [(7, .long x9), (11, .long (lrm x7 x9)), (2, .int x2), (3, .long x3), (5, .long x5), (9, .long x9)]) dX6_odds_91 rfl (Nat.le_of_ble_eq_true rfl) rfl ?_
      refine s_lload (q := 95) dX6_odds_93 rfl 1 rfl ?_
      refine s_lstore (q := 97) (lv' := [(9, .long (lrm x7 x9)), (7, .long x9), (11, .long (lrm x7 x9)), (2, .int x2), (3, .long x3), (5, .long x5)]) dX6_odds_95 rfl (Nat.le_of_ble_eq_true rfl) rfl ?_
      refine s_goto (tgt := 75) dX6_odds_97 rfl ?_
      exact t_sub [3, 4, 5, 1, 0] rfl (ih _ _ _ _ _ _ _ h K)
def G_X6_odds_51 (x1 : Int32) (x2 : Int32) (S : ST) : Option (Int64 × ST) := ((G_X6_in1 x1 0 14 S).bind fun q1 => (if q1.1 = 0 then ((G_X6_no_51 0 q1.2).bind fun q3 => some ((q3.1.toInt64), q3.2)) else ((G_X6_in1 x2 0 1 q1.2).bind fun q4 => (if q4.1 = 0 then ((G_X6_no_51 0 q4.2).bind fun q14 => some ((q14.1.toInt64), q14.2)) else (G_X6_odds_51_34 3000 x1 x2 1 1 0 q4.2).bind fun q7 => (G_X6_odds_51_75 3000 q7.1 q7.2.1 q7.2.2.1 q7.2.1 q7.2.2.1 q7.2.2.2).bind fun q10 => (if q10.1 = 0 then (if q10.2.2.2.1 = 0 then none else some ((q10.2.1 / q10.2.2.2.1), q10.2.2.2.2)) else (if q10.2.2.2.1 = 0 then none else some ((q10.2.2.1 / q10.2.2.2.1), q10.2.2.2.2)))))))
set_option maxHeartbeats 4000000 in
set_option maxRecDepth 100000 in
theorem T_X6_odds_51 (E : EV) (x1 : Int32) (x2 : Int32) {S : ST} {w : (Int64 × ST)} (h : G_X6_odds_51 x1 x2 S = some w) : SD E mX6_odds 0 [(0, .ref (eB E + 51)), (1, .int x1), (2, .int x2)] [] S (some (.long w.1)) w.2 := by
  unfold G_X6_odds_51 at h
  refine s_iload_n (q := 1) dX6_odds_0 rfl rfl 1 rfl ?_
  refine s_iconst (q := 2) (v := 0) dX6_odds_1 rfl rfl ?_
  refine s_bipush (q := 4) (v := 14) dX6_odds_2 rfl rfl ?_
  obtain ⟨q1, hc1, h⟩ := bnd h
  try dsimp only at h
  refine t_callS (q := 7) (N := mX6_in1) [.int x1, .int 0, .int 14] dX6_odds_4 rfl nkX6_in1 sX6_in1 lX6_54 ⟨Nat.le_of_ble_eq_true rfl, Nat.le_of_ble_eq_true rfl⟩ rfl rfl (Nat.le_of_ble_eq_true rfl) (Nat.le_of_ble_eq_true rfl) (T_X6_in1 E _ _ _ hc1) ?_
  refine s_if_eq (q := 10) (tgt := 19) dX6_odds_7 rfl rfl (fun hb2 => ?_) (fun hb2 => ?_)
  · rw [if_pos hb2] at h
    refine s_aload_n (q := 20) dX6_odds_19 rfl rfl 0 rfl ?_
    refine s_iconst (q := 21) (v := 0) dX6_odds_20 rfl rfl ?_
    obtain ⟨q3, hc3, h⟩ := bnd h
    try dsimp only at h
    refine t_callV (q := 24) (N := mX6_no) (a := eB E + 51) [.int 0] dX6_odds_21 rfl nkX6_no vkX6_no lX6_94 ⟨Nat.le_of_ble_eq_true rfl, Nat.le_of_ble_eq_true rfl⟩ (rc_obj (k := 51) rfl rfl) rfl rfl (Nat.le_of_ble_eq_true rfl) (Nat.le_of_ble_eq_true rfl) (T_X6_no_51 E _ hc3) ?_
    refine s_i2l (q := 25) dX6_odds_24 rfl ?_
    obtain rfl := Option.some.inj h
    exact t_lret dX6_odds_25 rfl rfl
  · rw [if_neg hb2] at h
    refine s_iload_n (q := 11) dX6_odds_10 rfl rfl 2 rfl ?_
    refine s_iconst (q := 12) (v := 0) dX6_odds_11 rfl rfl ?_
    refine s_iconst (q := 13) (v := 1) dX6_odds_12 rfl rfl ?_
    obtain ⟨q4, hc4, h⟩ := bnd h
    try dsimp only at h
    refine t_callS (q := 16) (N := mX6_in1) [.int x2, .int 0, .int 1] dX6_odds_13 rfl nkX6_in1 sX6_in1 lX6_54 ⟨Nat.le_of_ble_eq_true rfl, Nat.le_of_ble_eq_true rfl⟩ rfl rfl (Nat.le_of_ble_eq_true rfl) (Nat.le_of_ble_eq_true rfl) (T_X6_in1 E _ _ _ hc4) ?_
    refine s_if_ne (q := 19) (tgt := 26) dX6_odds_16 rfl rfl (fun hb5 => ?_) (fun hb5 => ?_)
    · rw [if_neg hb5] at h
      refine s_lconst (q := 27) (v := 1) dX6_odds_26 rfl rfl ?_
      refine s_lstore_n (q := 28) (lv' := [(3, .long 1), (0, .ref (eB E + 51)), (1, .int x1), (2, .int x2)]) dX6_odds_27 rfl rfl (Nat.le_of_ble_eq_true rfl) rfl ?_
      refine s_lconst (q := 29) (v := 1) dX6_odds_28 rfl rfl ?_
      refine s_lstore (q := 31) (lv' := [(5, .long 1), (3, .long 1), (0, .ref (eB E + 51)), (1, .int x1), (2, .int x2)]) dX6_odds_29 rfl (Nat.le_of_ble_eq_true rfl) rfl ?_
      refine s_iconst (q := 32) (v := 0) dX6_odds_31 rfl rfl ?_
      refine s_istore (q := 34) (lv' := [(7, .int 0), (5, .long 1), (3, .long 1), (0, .ref (eB E + 51)), (1, .int x1), (2, .int x2)]) dX6_odds_32 rfl (Nat.le_of_ble_eq_true rfl) rfl ?_
      obtain ⟨q7, hc7, h⟩ := bnd h
      try dsimp only at h
      refine t_sub [3, 4, 5, 2, 1, 0] rfl (T_X6_odds_51_34 E _ _ _ _ _ _ _ _ hc7 ?_)
      refine s_lload_n (q := 69) dX6_odds_68 rfl rfl 1 rfl ?_
      refine s_lstore (q := 71) (lv' := [(7, .long q7.2.1), (2, .int q7.1), (3, .long q7.2.1), (5, .long q7.2.2.1)]) dX6_odds_69 rfl (Nat.le_of_ble_eq_true rfl) rfl ?_
      refine s_lload (q := 73) dX6_odds_71 rfl 3 rfl ?_
      refine s_lstore (q := 75) (lv' := [(9, .long q7.2.2.1), (7, .long q7.2.1), (2, .int q7.1), (3, .long q7.2.1), (5, .long q7.2.2.1)]) dX6_odds_73 rfl (Nat.le_of_ble_eq_true rfl) rfl ?_
      obtain ⟨q10, hc10, h⟩ := bnd h
      try dsimp only at h
      refine t_sub [2, 3, 4, 1, 0] rfl (T_X6_odds_51_75 E _ _ _ _ _ _ _ _ hc10 ?_)
      refine s_iload_n (q := 101) dX6_odds_100 rfl rfl 0 rfl ?_
      refine s_if_ne (q := 104) (tgt := 111) dX6_odds_101 rfl rfl (fun hb11 => ?_) (fun hb11 => ?_)
      · rw [if_neg hb11] at h
        refine s_lload (q := 113) dX6_odds_111 rfl 2 rfl ?_
        refine s_lload (q := 115) dX6_odds_113 rfl 3 rfl ?_
        by_cases hz12 : q10.2.2.2.1 = 0
        · rw [if_pos hz12] at h; cases h
        rw [if_neg hz12] at h
        refine s_ldiv (q := 116) dX6_odds_115 rfl hz12 ?_
        obtain rfl := Option.some.inj h
        exact t_lret dX6_odds_116 rfl rfl
      · rw [if_pos hb11] at h
        refine s_lload_n (q := 105) dX6_odds_104 rfl rfl 1 rfl ?_
        refine s_lload (q := 107) dX6_odds_105 rfl 3 rfl ?_
        by_cases hz13 : q10.2.2.2.1 = 0
        · rw [if_pos hz13] at h; cases h
        rw [if_neg hz13] at h
        refine s_ldiv (q := 108) dX6_odds_107 rfl hz13 ?_
        refine s_goto (tgt := 116) dX6_odds_108 rfl ?_
        obtain rfl := Option.some.inj h
        exact t_lret dX6_odds_116 rfl rfl
    · rw [if_pos hb5] at h
      refine s_aload_n (q := 20) dX6_odds_19 rfl rfl 0 rfl ?_
      refine s_iconst (q := 21) (v := 0) dX6_odds_20 rfl rfl ?_
      obtain ⟨q14, hc14, h⟩ := bnd h
      try dsimp only at h
      refine t_callV (q := 24) (N := mX6_no) (a := eB E + 51) [.int 0] dX6_odds_21 rfl nkX6_no vkX6_no lX6_94 ⟨Nat.le_of_ble_eq_true rfl, Nat.le_of_ble_eq_true rfl⟩ (rc_obj (k := 51) rfl rfl) rfl rfl (Nat.le_of_ble_eq_true rfl) (Nat.le_of_ble_eq_true rfl) (T_X6_no_51 E _ hc14) ?_
      refine s_i2l (q := 25) dX6_odds_24 rfl ?_
      obtain rfl := Option.some.inj h
      exact t_lret dX6_odds_25 rfl rfl
