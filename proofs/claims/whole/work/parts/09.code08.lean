-- X5_text
def G_X5_text_0  (S : ST) : Option (Int32 × ST) := ((G_X1_become_21_1  S).bind fun q1 => ((G_X3_readInto_31_21  q1.2).bind fun q2 => (if q2.1 < 0 then some (q2.1, (wr q2.2 32 1 0)) else ((G_X1_become_1_21  (wr q2.2 32 1 0)).bind fun q4 => some (q2.1, q4.2)))))
set_option maxHeartbeats 4000000 in
set_option maxRecDepth 100000 in
theorem T_X5_text_0 (E : EV)  {S : ST} {w : (Int32 × ST)} (h : G_X5_text_0  S = some w) : SD E mX5_text 0 [(0, .ref (eB E + 0))] [] S (some (.int w.1)) w.2 := by
  unfold G_X5_text_0 at h
  refine s_aload_n (q := 1) dX5_text_0 rfl rfl 0 rfl ?_
  refine t_getR (q := 4) (k := 0) (f := 2) (t := 21) dX5_text_1 rfl rfl rfl rfl inX5 (Nat.le_of_ble_eq_true rfl) fX5_19 ?_
  refine s_aload_n (q := 5) dX5_text_4 rfl rfl 0 rfl ?_
  refine t_getR (q := 8) (k := 0) (f := 0) (t := 1) dX5_text_5 rfl rfl rfl rfl inX5 (Nat.le_of_ble_eq_true rfl) fX5_10 ?_
  obtain ⟨q1, hc1, h⟩ := bnd h
  try dsimp only at h
  refine t_callV (q := 11) (N := mX1_become) (a := eB E + 21) [.ref (eB E + 1)] dX5_text_8 rfl nkX1_become vkX1_become lX5_239 ⟨Nat.le_of_ble_eq_true rfl, Nat.le_of_ble_eq_true rfl⟩ (rc_obj (k := 21) rfl rfl) rfl rfl (Nat.le_of_ble_eq_true rfl) (Nat.le_of_ble_eq_true rfl) (T_X1_become_21_1 E  hc1) ?_
  refine s_aload_n (q := 12) dX5_text_11 rfl rfl 0 rfl ?_
  refine t_getR (q := 15) (k := 0) (f := 4) (t := 31) dX5_text_12 rfl rfl rfl rfl inX5 (Nat.le_of_ble_eq_true rfl) fX5_29 ?_
  refine s_aload_n (q := 16) dX5_text_15 rfl rfl 0 rfl ?_
  refine t_getR (q := 19) (k := 0) (f := 2) (t := 21) dX5_text_16 rfl rfl rfl rfl inX5 (Nat.le_of_ble_eq_true rfl) fX5_19 ?_
  obtain ⟨q2, hc2, h⟩ := bnd h
  try dsimp only at h
  refine t_callV (q := 22) (N := mX3_readInto) (a := eB E + 31) [.ref (eB E + 21)] dX5_text_19 rfl nkX3_readInto vkX3_readInto lX5_243 ⟨Nat.le_of_ble_eq_true rfl, Nat.le_of_ble_eq_true rfl⟩ (rc_obj (k := 31) rfl rfl) rfl rfl (Nat.le_of_ble_eq_true rfl) (Nat.le_of_ble_eq_true rfl) (T_X3_readInto_31_21 E  hc2) ?_
  refine s_istore_n (q := 23) (lv' := [(1, .int q2.1), (0, .ref (eB E + 0))]) dX5_text_22 rfl rfl (Nat.le_of_ble_eq_true rfl) rfl ?_
  refine s_aload_n (q := 24) dX5_text_23 rfl rfl 1 rfl ?_
  refine t_getR (q := 27) (k := 0) (f := 4) (t := 31) dX5_text_24 rfl rfl rfl rfl inX5 (Nat.le_of_ble_eq_true rfl) fX5_29 ?_
  refine t_getR (q := 30) (k := 31) (f := 0) (t := 32) dX5_text_27 rfl rfl rfl rfl inX3 (Nat.le_of_ble_eq_true rfl) fX5_226 ?_
  refine s_iconst (q := 31) (v := 0) dX5_text_30 rfl rfl ?_
  refine t_putI (q := 34) (k := 32) (f := 1) dX5_text_31 rfl rfl rfl rfl inX2 tyX2_ok nmX2 (Nat.le_of_ble_eq_true rfl) fX5_230 rfl rfl rfl ?_
  refine s_iload_n (q := 35) dX5_text_34 rfl rfl 0 rfl ?_
  refine s_if_lt (q := 38) (tgt := 49) dX5_text_35 rfl rfl (fun hb3 => ?_) (fun hb3 => ?_)
  · rw [if_pos hb3] at h
    refine s_iload_n (q := 50) dX5_text_49 rfl rfl 0 rfl ?_
    obtain rfl := Option.some.inj h
    exact t_iret dX5_text_50 rfl rfl
  · rw [if_neg hb3] at h
    refine s_aload_n (q := 39) dX5_text_38 rfl rfl 1 rfl ?_
    refine t_getR (q := 42) (k := 0) (f := 0) (t := 1) dX5_text_39 rfl rfl rfl rfl inX5 (Nat.le_of_ble_eq_true rfl) fX5_10 ?_
    refine s_aload_n (q := 43) dX5_text_42 rfl rfl 1 rfl ?_
    refine t_getR (q := 46) (k := 0) (f := 2) (t := 21) dX5_text_43 rfl rfl rfl rfl inX5 (Nat.le_of_ble_eq_true rfl) fX5_19 ?_
    obtain ⟨q4, hc4, h⟩ := bnd h
    try dsimp only at h
    refine t_callV (q := 49) (N := mX1_become) (a := eB E + 1) [.ref (eB E + 21)] dX5_text_46 rfl nkX1_become vkX1_become lX5_239 ⟨Nat.le_of_ble_eq_true rfl, Nat.le_of_ble_eq_true rfl⟩ (rc_obj (k := 1) rfl rfl) rfl rfl (Nat.le_of_ble_eq_true rfl) (Nat.le_of_ble_eq_true rfl) (T_X1_become_1_21 E  hc4) ?_
    refine s_iload_n (q := 50) dX5_text_49 rfl rfl 0 rfl ?_
    obtain rfl := Option.some.inj h
    exact t_iret dX5_text_50 rfl rfl
-- X6_isLetter
def G_X6_isLetter (x0 : Int32) (S : ST) : Option (Int32 × ST) := ((G_X6_in1 x0 97 122 S).bind fun q1 => (if bitB q1.1 = true then some (q1.1, q1.2) else none))
set_option maxHeartbeats 4000000 in
set_option maxRecDepth 100000 in
theorem T_X6_isLetter (E : EV) (x0 : Int32) {S : ST} {w : (Int32 × ST)} (h : G_X6_isLetter x0 S = some w) : SD E mX6_isLetter 0 [(0, .int x0)] [] S (some (.int w.1)) w.2 := by
  unfold G_X6_isLetter at h
  refine s_iload_n (q := 1) dX6_isLetter_0 rfl rfl 0 rfl ?_
  refine s_bipush (q := 3) (v := 97) dX6_isLetter_1 rfl rfl ?_
  refine s_bipush (q := 5) (v := 122) dX6_isLetter_3 rfl rfl ?_
  obtain ⟨q1, hc1, h⟩ := bnd h
  try dsimp only at h
  refine t_callS (q := 8) (N := mX6_in1) [.int x0, .int 97, .int 122] dX6_isLetter_5 rfl nkX6_in1 sX6_in1 lX6_54 ⟨Nat.le_of_ble_eq_true rfl, Nat.le_of_ble_eq_true rfl⟩ rfl rfl (Nat.le_of_ble_eq_true rfl) (Nat.le_of_ble_eq_true rfl) (T_X6_in1 E _ _ _ hc1) ?_
  obtain ⟨hg2, h⟩ := chk_some h
  obtain rfl := Option.some.inj h
  exact t_zret dX6_isLetter_8 rfl (bitB_z hg2) rfl
-- X6_isDigit
def G_X6_isDigit (x0 : Int32) (S : ST) : Option (Int32 × ST) := ((G_X6_in1 x0 48 57 S).bind fun q1 => (if bitB q1.1 = true then some (q1.1, q1.2) else none))
set_option maxHeartbeats 4000000 in
set_option maxRecDepth 100000 in
theorem T_X6_isDigit (E : EV) (x0 : Int32) {S : ST} {w : (Int32 × ST)} (h : G_X6_isDigit x0 S = some w) : SD E mX6_isDigit 0 [(0, .int x0)] [] S (some (.int w.1)) w.2 := by
  unfold G_X6_isDigit at h
  refine s_iload_n (q := 1) dX6_isDigit_0 rfl rfl 0 rfl ?_
  refine s_bipush (q := 3) (v := 48) dX6_isDigit_1 rfl rfl ?_
  refine s_bipush (q := 5) (v := 57) dX6_isDigit_3 rfl rfl ?_
  obtain ⟨q1, hc1, h⟩ := bnd h
  try dsimp only at h
  refine t_callS (q := 8) (N := mX6_in1) [.int x0, .int 48, .int 57] dX6_isDigit_5 rfl nkX6_in1 sX6_in1 lX6_54 ⟨Nat.le_of_ble_eq_true rfl, Nat.le_of_ble_eq_true rfl⟩ rfl rfl (Nat.le_of_ble_eq_true rfl) (Nat.le_of_ble_eq_true rfl) (T_X6_in1 E _ _ _ hc1) ?_
  obtain ⟨hg2, h⟩ := chk_some h
  obtain rfl := Option.some.inj h
  exact t_zret dX6_isDigit_8 rfl (bitB_z hg2) rfl
-- X6_nextToken
def G_X6_nextToken_51_8 : Nat → ST → Option (ST)
  | 0, _ => none
  | n + 1, S => (if (S.1 51 7) ≤ (S.1 51 9) then some (S) else (if inB (S.1 51 9) 120 = true then (if (S.1 57 ((S.1 51 9).toNatClampNeg)) = 32 then G_X6_nextToken_51_8 n  (wr S 51 9 ((S.1 51 9) + 1)) else some (S)) else none))
set_option maxHeartbeats 4000000 in
set_option maxRecDepth 100000 in
theorem T_X6_nextToken_51_8 (E : EV) : ∀ (n : Nat) (S : ST), ∀ (w : (ST)), G_X6_nextToken_51_8 n S = some w → ∀ {Q : Option Value → ST → Prop}, SS E mX6_nextToken 46 [(0, .ref (eB E + 51))] [] w Q → SS E mX6_nextToken 8 [(0, .ref (eB E + 51))] [] S Q := by
  intro n
  induction n with
  | zero =>
    intro  S w h
    cases h
  | succ n ih =>
    intro  S w h Q K
    unfold G_X6_nextToken_51_8 at h
    refine s_aload_n (q := 9) dX6_nextToken_8 rfl rfl 0 rfl ?_
    refine t_getI (q := 12) (k := 51) (f := 9) (v := (S.1 51 9)) dX6_nextToken_9 rfl rfl rfl rfl inX6 (Nat.le_of_ble_eq_true rfl) fX6_205 rfl ?_
    refine s_aload_n (q := 13) dX6_nextToken_12 rfl rfl 0 rfl ?_
    refine t_getI (q := 16) (k := 51) (f := 7) (v := (S.1 51 7)) dX6_nextToken_13 rfl rfl rfl rfl inX6 (Nat.le_of_ble_eq_true rfl) fX6_198 rfl ?_
    refine s_icmp_ge (q := 19) (tgt := 46) dX6_nextToken_16 rfl rfl (fun hb1 => ?_) (fun hb1 => ?_)
    · rw [if_pos hb1] at h
      obtain rfl := Option.some.inj h
      exact t_sub [0] rfl K
    · rw [if_neg hb1] at h
      refine s_aload_n (q := 20) dX6_nextToken_19 rfl rfl 0 rfl ?_
      refine t_getR (q := 23) (k := 51) (f := 6) (t := 57) dX6_nextToken_20 rfl rfl rfl rfl inX6 (Nat.le_of_ble_eq_true rfl) fX6_25 ?_
      refine s_aload_n (q := 24) dX6_nextToken_23 rfl rfl 0 rfl ?_
      refine t_getI (q := 27) (k := 51) (f := 9) (v := (S.1 51 9)) dX6_nextToken_24 rfl rfl rfl rfl inX6 (Nat.le_of_ble_eq_true rfl) fX6_205 rfl ?_
      obtain ⟨hg2, h⟩ := chk_some h
      refine u_iald (q := 28) (k := 57) (v := (S.1 57 ((S.1 51 9).toNatClampNeg))) dX6_nextToken_27 rfl rfl (inB_in hg2) rfl rfl ?_
      refine s_bipush (q := 30) (v := 32) dX6_nextToken_28 rfl rfl ?_
      refine s_icmp_ne (q := 33) (tgt := 46) dX6_nextToken_30 rfl rfl (fun hb3 => ?_) (fun hb3 => ?_)
      · rw [if_neg hb3] at h
        obtain rfl := Option.some.inj h
        exact t_sub [0] rfl K
      · rw [if_pos hb3] at h
        refine s_aload_n (q := 34) dX6_nextToken_33 rfl rfl 0 rfl ?_
        refine s_dup (q := 35) dX6_nextToken_34 rfl rfl ?_
        refine t_getI (q := 38) (k := 51) (f := 9) (v := (S.1 51 9)) dX6_nextToken_35 rfl rfl rfl rfl inX6 (Nat.le_of_ble_eq_true rfl) fX6_205 rfl ?_
        refine s_iconst (q := 39) (v := 1) dX6_nextToken_38 rfl rfl ?_
        refine s_iadd (q := 40) dX6_nextToken_39 rfl ?_
        refine t_putI (q := 43) (k := 51) (f := 9) dX6_nextToken_40 rfl rfl rfl rfl inX6 tyX6_ok nmX6 (Nat.le_of_ble_eq_true rfl) fX6_205 rfl rfl rfl ?_
        refine s_goto (tgt := 8) dX6_nextToken_43 rfl ?_
        exact t_sub [0] rfl (ih  _ _ h K)
def G_X6_nextToken_51_324 (y0 : Int32) (S : ST) : Option (Unit × ST) := some ((), (wr (wr S 51 8 y0) 51 10 ((S.1 51 10) + 1)))
set_option maxHeartbeats 4000000 in
set_option maxRecDepth 100000 in
theorem T_X6_nextToken_51_324 (E : EV) (y0 : Int32) {S : ST} {w : (Unit × ST)} (h : G_X6_nextToken_51_324 y0 S = some w) : SD E mX6_nextToken 324 [(0, .ref (eB E + 51))] [.int y0, .ref (eB E + 51)] S none w.2 := by
  unfold G_X6_nextToken_51_324 at h
  refine t_putI (q := 327) (k := 51) (f := 8) dX6_nextToken_324 rfl rfl rfl rfl inX6 tyX6_ok nmX6 (Nat.le_of_ble_eq_true rfl) fX6_212 rfl rfl rfl ?_
  refine s_aload_n (q := 328) dX6_nextToken_327 rfl rfl 0 rfl ?_
  refine s_dup (q := 329) dX6_nextToken_328 rfl rfl ?_
  refine t_getI (q := 332) (k := 51) (f := 10) (v := (S.1 51 10)) dX6_nextToken_329 rfl rfl rfl rfl inX6 (Nat.le_of_ble_eq_true rfl) fX6_202 rfl ?_
  refine s_iconst (q := 333) (v := 1) dX6_nextToken_332 rfl rfl ?_
  refine s_iadd (q := 334) dX6_nextToken_333 rfl ?_
  refine t_putI (q := 337) (k := 51) (f := 10) dX6_nextToken_334 rfl rfl rfl rfl inX6 tyX6_ok nmX6 (Nat.le_of_ble_eq_true rfl) fX6_202 rfl rfl rfl ?_
  obtain rfl := Option.some.inj h
  exact t_vret dX6_nextToken_337 rfl rfl
def G_X6_nextToken_51_197 : Nat → ST → Option (ST)
  | 0, _ => none
  | n + 1, S => (if (S.1 51 7) ≤ (S.1 51 10) then some (S) else (if inB (S.1 51 10) 120 = true then ((G_X6_isDigit (S.1 57 ((S.1 51 10).toNatClampNeg)) S).bind fun q16 => (if q16.1 = 0 then some (q16.2) else (if (lg_cmp q16.2.2 99999) ≤ 0 then (if inB (q16.2.1 51 10) 120 = true then G_X6_nextToken_51_197 n  (wr (wL q16.2 (((q16.2.2 * 10) + ((q16.2.1 57 ((q16.2.1 51 10).toNatClampNeg)).toInt64)) - 48)) 51 10 ((q16.2.1 51 10) + 1)) else none) else G_X6_nextToken_51_197 n  (wr (wL q16.2 q16.2.2) 51 10 ((q16.2.1 51 10) + 1))))) else none))
set_option maxHeartbeats 4000000 in
set_option maxRecDepth 100000 in
theorem T_X6_nextToken_51_197 (E : EV) : ∀ (n : Nat) (S : ST), ∀ (w : (ST)), G_X6_nextToken_51_197 n S = some w → ∀ {Q : Option Value → ST → Prop}, SS E mX6_nextToken 281 [(0, .ref (eB E + 51))] [] w Q → SS E mX6_nextToken 197 [(0, .ref (eB E + 51))] [] S Q := by
  intro n
  induction n with
  | zero =>
    intro  S w h
    cases h
  | succ n ih =>
    intro  S w h Q K
    unfold G_X6_nextToken_51_197 at h
    refine s_aload_n (q := 198) dX6_nextToken_197 rfl rfl 0 rfl ?_
    refine t_getI (q := 201) (k := 51) (f := 10) (v := (S.1 51 10)) dX6_nextToken_198 rfl rfl rfl rfl inX6 (Nat.le_of_ble_eq_true rfl) fX6_202 rfl ?_
    refine s_aload_n (q := 202) dX6_nextToken_201 rfl rfl 0 rfl ?_
    refine t_getI (q := 205) (k := 51) (f := 7) (v := (S.1 51 7)) dX6_nextToken_202 rfl rfl rfl rfl inX6 (Nat.le_of_ble_eq_true rfl) fX6_198 rfl ?_
    refine s_icmp_ge (q := 208) (tgt := 281) dX6_nextToken_205 rfl rfl (fun hb14 => ?_) (fun hb14 => ?_)
    · rw [if_pos hb14] at h
      obtain rfl := Option.some.inj h
      exact t_sub [0] rfl K
    · rw [if_neg hb14] at h
      refine s_aload_n (q := 209) dX6_nextToken_208 rfl rfl 0 rfl ?_
      refine t_getR (q := 212) (k := 51) (f := 6) (t := 57) dX6_nextToken_209 rfl rfl rfl rfl inX6 (Nat.le_of_ble_eq_true rfl) fX6_25 ?_
      refine s_aload_n (q := 213) dX6_nextToken_212 rfl rfl 0 rfl ?_
      refine t_getI (q := 216) (k := 51) (f := 10) (v := (S.1 51 10)) dX6_nextToken_213 rfl rfl rfl rfl inX6 (Nat.le_of_ble_eq_true rfl) fX6_202 rfl ?_
      obtain ⟨hg15, h⟩ := chk_some h
      refine u_iald (q := 217) (k := 57) (v := (S.1 57 ((S.1 51 10).toNatClampNeg))) dX6_nextToken_216 rfl rfl (inB_in hg15) rfl rfl ?_
      obtain ⟨q16, hc16, h⟩ := bnd h
      try dsimp only at h
      refine t_callS (q := 220) (N := mX6_isDigit) [.int (S.1 57 ((S.1 51 10).toNatClampNeg))] dX6_nextToken_217 rfl nkX6_isDigit sX6_isDigit lX6_224 ⟨Nat.le_of_ble_eq_true rfl, Nat.le_of_ble_eq_true rfl⟩ rfl rfl (Nat.le_of_ble_eq_true rfl) (Nat.le_of_ble_eq_true rfl) (T_X6_isDigit E _ hc16) ?_
      refine s_if_eq (q := 223) (tgt := 281) dX6_nextToken_220 rfl rfl (fun hb17 => ?_) (fun hb17 => ?_)
      · rw [if_pos hb17] at h
        obtain rfl := Option.some.inj h
        exact t_sub [0] rfl K
      · rw [if_neg hb17] at h
        refine s_aload_n (q := 224) dX6_nextToken_223 rfl rfl 0 rfl ?_
        refine s_aload_n (q := 225) dX6_nextToken_224 rfl rfl 0 rfl ?_
        refine t_getL (q := 228) (k := 51) (f := 11) (v := q16.2.2) dX6_nextToken_225 rfl rfl rfl rfl inX6 (Nat.le_of_ble_eq_true rfl) fX6_208 rfl ?_
        refine s_ldc2 (q := 231) (v := 99999) dX6_nextToken_228 rfl kX6_227 ?_
        refine s_lcmp (q := 232) dX6_nextToken_231 rfl ?_
        refine s_if_le (q := 235) (tgt := 242) dX6_nextToken_232 rfl rfl (fun hb18 => ?_) (fun hb18 => ?_)
        · rw [if_pos hb18] at h
          refine s_aload_n (q := 243) dX6_nextToken_242 rfl rfl 0 rfl ?_
          refine t_getL (q := 246) (k := 51) (f := 11) (v := q16.2.2) dX6_nextToken_243 rfl rfl rfl rfl inX6 (Nat.le_of_ble_eq_true rfl) fX6_208 rfl ?_
          refine s_ldc2 (q := 249) (v := 10) dX6_nextToken_246 rfl kX6_229 ?_
          refine s_lmul (q := 250) dX6_nextToken_249 rfl ?_
          refine s_aload_n (q := 251) dX6_nextToken_250 rfl rfl 0 rfl ?_
          refine t_getR (q := 254) (k := 51) (f := 6) (t := 57) dX6_nextToken_251 rfl rfl rfl rfl inX6 (Nat.le_of_ble_eq_true rfl) fX6_25 ?_
          refine s_aload_n (q := 255) dX6_nextToken_254 rfl rfl 0 rfl ?_
          refine t_getI (q := 258) (k := 51) (f := 10) (v := (q16.2.1 51 10)) dX6_nextToken_255 rfl rfl rfl rfl inX6 (Nat.le_of_ble_eq_true rfl) fX6_202 rfl ?_
          obtain ⟨hg19, h⟩ := chk_some h
          refine u_iald (q := 259) (k := 57) (v := (q16.2.1 57 ((q16.2.1 51 10).toNatClampNeg))) dX6_nextToken_258 rfl rfl (inB_in hg19) rfl rfl ?_
          refine s_i2l (q := 260) dX6_nextToken_259 rfl ?_
          refine s_ladd (q := 261) dX6_nextToken_260 rfl ?_
          refine s_ldc2 (q := 264) (v := 48) dX6_nextToken_261 rfl kX6_231 ?_
          refine s_lsub (q := 265) dX6_nextToken_264 rfl ?_
          refine t_putL (q := 268) inX6 dX6_nextToken_265 rfl fX6_208 ?_
          refine s_aload_n (q := 269) dX6_nextToken_268 rfl rfl 0 rfl ?_
          refine s_dup (q := 270) dX6_nextToken_269 rfl rfl ?_
          refine t_getI (q := 273) (k := 51) (f := 10) (v := (q16.2.1 51 10)) dX6_nextToken_270 rfl rfl rfl rfl inX6 (Nat.le_of_ble_eq_true rfl) fX6_202 rfl ?_
          refine s_iconst (q := 274) (v := 1) dX6_nextToken_273 rfl rfl ?_
          refine s_iadd (q := 275) dX6_nextToken_274 rfl ?_
          refine t_putI (q := 278) (k := 51) (f := 10) dX6_nextToken_275 rfl rfl rfl rfl inX6 tyX6_ok nmX6 (Nat.le_of_ble_eq_true rfl) fX6_202 rfl rfl rfl ?_
          refine s_goto (tgt := 197) dX6_nextToken_278 rfl ?_
          exact t_sub [0] rfl (ih  _ _ h K)
        · rw [if_neg hb18] at h
          refine s_aload_n (q := 236) dX6_nextToken_235 rfl rfl 0 rfl ?_
          refine t_getL (q := 239) (k := 51) (f := 11) (v := q16.2.2) dX6_nextToken_236 rfl rfl rfl rfl inX6 (Nat.le_of_ble_eq_true rfl) fX6_208 rfl ?_
          refine s_goto (tgt := 265) dX6_nextToken_239 rfl ?_
          refine t_putL (q := 268) inX6 dX6_nextToken_265 rfl fX6_208 ?_
          refine s_aload_n (q := 269) dX6_nextToken_268 rfl rfl 0 rfl ?_
          refine s_dup (q := 270) dX6_nextToken_269 rfl rfl ?_
          refine t_getI (q := 273) (k := 51) (f := 10) (v := (q16.2.1 51 10)) dX6_nextToken_270 rfl rfl rfl rfl inX6 (Nat.le_of_ble_eq_true rfl) fX6_202 rfl ?_
          refine s_iconst (q := 274) (v := 1) dX6_nextToken_273 rfl rfl ?_
          refine s_iadd (q := 275) dX6_nextToken_274 rfl ?_
          refine t_putI (q := 278) (k := 51) (f := 10) dX6_nextToken_275 rfl rfl rfl rfl inX6 tyX6_ok nmX6 (Nat.le_of_ble_eq_true rfl) fX6_202 rfl rfl rfl ?_
          refine s_goto (tgt := 197) dX6_nextToken_278 rfl ?_
          exact t_sub [0] rfl (ih  _ _ h K)
def G_X6_nextToken_51_281  (S : ST) : Option (Unit × ST) := (if (lg_cmp S.2 99999) ≤ 0 then some ((), (wr S 51 8 2)) else some ((), (wr S 51 8 4)))
set_option maxHeartbeats 4000000 in
set_option maxRecDepth 100000 in
theorem T_X6_nextToken_51_281 (E : EV)  {S : ST} {w : (Unit × ST)} (h : G_X6_nextToken_51_281  S = some w) : SD E mX6_nextToken 281 [(0, .ref (eB E + 51))] [] S none w.2 := by
  unfold G_X6_nextToken_51_281 at h
  refine s_aload_n (q := 282) dX6_nextToken_281 rfl rfl 0 rfl ?_
  refine s_aload_n (q := 283) dX6_nextToken_282 rfl rfl 0 rfl ?_
  refine t_getL (q := 286) (k := 51) (f := 11) (v := S.2) dX6_nextToken_283 rfl rfl rfl rfl inX6 (Nat.le_of_ble_eq_true rfl) fX6_208 rfl ?_
  refine s_ldc2 (q := 289) (v := 99999) dX6_nextToken_286 rfl kX6_227 ?_
  refine s_lcmp (q := 290) dX6_nextToken_289 rfl ?_
  refine s_if_le (q := 293) (tgt := 297) dX6_nextToken_290 rfl rfl (fun hb21 => ?_) (fun hb21 => ?_)
  · rw [if_pos hb21] at h
    refine s_iconst (q := 298) (v := 2) dX6_nextToken_297 rfl rfl ?_
    refine t_putI (q := 301) (k := 51) (f := 8) dX6_nextToken_298 rfl rfl rfl rfl inX6 tyX6_ok nmX6 (Nat.le_of_ble_eq_true rfl) fX6_212 rfl rfl rfl ?_
    refine s_goto (tgt := 337) dX6_nextToken_301 rfl ?_
    obtain rfl := Option.some.inj h
    exact t_vret dX6_nextToken_337 rfl rfl
  · rw [if_neg hb21] at h
    refine s_iconst (q := 294) (v := 4) dX6_nextToken_293 rfl rfl ?_
    refine s_goto (tgt := 298) dX6_nextToken_294 rfl ?_
    refine t_putI (q := 301) (k := 51) (f := 8) dX6_nextToken_298 rfl rfl rfl rfl inX6 tyX6_ok nmX6 (Nat.le_of_ble_eq_true rfl) fX6_212 rfl rfl rfl ?_
    refine s_goto (tgt := 337) dX6_nextToken_301 rfl ?_
    obtain rfl := Option.some.inj h
    exact t_vret dX6_nextToken_337 rfl rfl
def G_X6_nextToken_51_98 : Nat → ST → Option (ST)
  | 0, _ => none
  | n + 1, S => (if (S.1 51 7) ≤ (S.1 51 10) then some (S) else (if inB (S.1 51 10) 120 = true then ((G_X6_isLetter (S.1 57 ((S.1 51 10).toNatClampNeg)) S).bind fun q24 => (if q24.1 = 0 then some (q24.2) else (if (lg_cmp q24.2.2 9999999999999) ≤ 0 then (if inB (q24.2.1 51 10) 120 = true then G_X6_nextToken_51_98 n  (wr (wL q24.2 (((q24.2.2 * 27) + ((q24.2.1 57 ((q24.2.1 51 10).toNatClampNeg)).toInt64)) - 96)) 51 10 ((q24.2.1 51 10) + 1)) else none) else G_X6_nextToken_51_98 n  (wr (wL q24.2 q24.2.2) 51 10 ((q24.2.1 51 10) + 1))))) else none))
set_option maxHeartbeats 4000000 in
set_option maxRecDepth 100000 in
theorem T_X6_nextToken_51_98 (E : EV) : ∀ (n : Nat) (S : ST), ∀ (w : (ST)), G_X6_nextToken_51_98 n S = some w → ∀ {Q : Option Value → ST → Prop}, SS E mX6_nextToken 337 [] [] w Q → SS E mX6_nextToken 98 [(0, .ref (eB E + 51))] [] S Q := by
  intro n
  induction n with
  | zero =>
    intro  S w h
    cases h
  | succ n ih =>
    intro  S w h Q K
    unfold G_X6_nextToken_51_98 at h
    refine s_aload_n (q := 99) dX6_nextToken_98 rfl rfl 0 rfl ?_
    refine t_getI (q := 102) (k := 51) (f := 10) (v := (S.1 51 10)) dX6_nextToken_99 rfl rfl rfl rfl inX6 (Nat.le_of_ble_eq_true rfl) fX6_202 rfl ?_
    refine s_aload_n (q := 103) dX6_nextToken_102 rfl rfl 0 rfl ?_
    refine t_getI (q := 106) (k := 51) (f := 7) (v := (S.1 51 7)) dX6_nextToken_103 rfl rfl rfl rfl inX6 (Nat.le_of_ble_eq_true rfl) fX6_198 rfl ?_
    refine s_icmp_ge (q := 109) (tgt := 337) dX6_nextToken_106 rfl rfl (fun hb22 => ?_) (fun hb22 => ?_)
    · rw [if_pos hb22] at h
      obtain rfl := Option.some.inj h
      exact t_sub [] rfl K
    · rw [if_neg hb22] at h
      refine s_aload_n (q := 110) dX6_nextToken_109 rfl rfl 0 rfl ?_
      refine t_getR (q := 113) (k := 51) (f := 6) (t := 57) dX6_nextToken_110 rfl rfl rfl rfl inX6 (Nat.le_of_ble_eq_true rfl) fX6_25 ?_
      refine s_aload_n (q := 114) dX6_nextToken_113 rfl rfl 0 rfl ?_
      refine t_getI (q := 117) (k := 51) (f := 10) (v := (S.1 51 10)) dX6_nextToken_114 rfl rfl rfl rfl inX6 (Nat.le_of_ble_eq_true rfl) fX6_202 rfl ?_
      obtain ⟨hg23, h⟩ := chk_some h
      refine u_iald (q := 118) (k := 57) (v := (S.1 57 ((S.1 51 10).toNatClampNeg))) dX6_nextToken_117 rfl rfl (inB_in hg23) rfl rfl ?_
      obtain ⟨q24, hc24, h⟩ := bnd h
      try dsimp only at h
      refine t_callS (q := 121) (N := mX6_isLetter) [.int (S.1 57 ((S.1 51 10).toNatClampNeg))] dX6_nextToken_118 rfl nkX6_isLetter sX6_isLetter lX6_215 ⟨Nat.le_of_ble_eq_true rfl, Nat.le_of_ble_eq_true rfl⟩ rfl rfl (Nat.le_of_ble_eq_true rfl) (Nat.le_of_ble_eq_true rfl) (T_X6_isLetter E _ hc24) ?_
      refine s_if_eq (q := 124) (tgt := 337) dX6_nextToken_121 rfl rfl (fun hb25 => ?_) (fun hb25 => ?_)
      · rw [if_pos hb25] at h
        obtain rfl := Option.some.inj h
        exact t_sub [] rfl K
      · rw [if_neg hb25] at h
        refine s_aload_n (q := 125) dX6_nextToken_124 rfl rfl 0 rfl ?_
        refine s_aload_n (q := 126) dX6_nextToken_125 rfl rfl 0 rfl ?_
        refine t_getL (q := 129) (k := 51) (f := 11) (v := q24.2.2) dX6_nextToken_126 rfl rfl rfl rfl inX6 (Nat.le_of_ble_eq_true rfl) fX6_208 rfl ?_
        refine s_ldc2 (q := 132) (v := 9999999999999) dX6_nextToken_129 rfl kX6_218 ?_
        refine s_lcmp (q := 133) dX6_nextToken_132 rfl ?_
        refine s_if_le (q := 136) (tgt := 143) dX6_nextToken_133 rfl rfl (fun hb26 => ?_) (fun hb26 => ?_)
        · rw [if_pos hb26] at h
          refine s_aload_n (q := 144) dX6_nextToken_143 rfl rfl 0 rfl ?_
          refine t_getL (q := 147) (k := 51) (f := 11) (v := q24.2.2) dX6_nextToken_144 rfl rfl rfl rfl inX6 (Nat.le_of_ble_eq_true rfl) fX6_208 rfl ?_
          refine s_ldc2 (q := 150) (v := 27) dX6_nextToken_147 rfl kX6_220 ?_
          refine s_lmul (q := 151) dX6_nextToken_150 rfl ?_
          refine s_aload_n (q := 152) dX6_nextToken_151 rfl rfl 0 rfl ?_
          refine t_getR (q := 155) (k := 51) (f := 6) (t := 57) dX6_nextToken_152 rfl rfl rfl rfl inX6 (Nat.le_of_ble_eq_true rfl) fX6_25 ?_
          refine s_aload_n (q := 156) dX6_nextToken_155 rfl rfl 0 rfl ?_
          refine t_getI (q := 159) (k := 51) (f := 10) (v := (q24.2.1 51 10)) dX6_nextToken_156 rfl rfl rfl rfl inX6 (Nat.le_of_ble_eq_true rfl) fX6_202 rfl ?_
          obtain ⟨hg27, h⟩ := chk_some h
          refine u_iald (q := 160) (k := 57) (v := (q24.2.1 57 ((q24.2.1 51 10).toNatClampNeg))) dX6_nextToken_159 rfl rfl (inB_in hg27) rfl rfl ?_
          refine s_i2l (q := 161) dX6_nextToken_160 rfl ?_
          refine s_ladd (q := 162) dX6_nextToken_161 rfl ?_
          refine s_ldc2 (q := 165) (v := 96) dX6_nextToken_162 rfl kX6_222 ?_
          refine s_lsub (q := 166) dX6_nextToken_165 rfl ?_
          refine t_putL (q := 169) inX6 dX6_nextToken_166 rfl fX6_208 ?_
          refine s_aload_n (q := 170) dX6_nextToken_169 rfl rfl 0 rfl ?_
          refine s_dup (q := 171) dX6_nextToken_170 rfl rfl ?_
          refine t_getI (q := 174) (k := 51) (f := 10) (v := (q24.2.1 51 10)) dX6_nextToken_171 rfl rfl rfl rfl inX6 (Nat.le_of_ble_eq_true rfl) fX6_202 rfl ?_
          refine s_iconst (q := 175) (v := 1) dX6_nextToken_174 rfl rfl ?_
          refine s_iadd (q := 176) dX6_nextToken_175 rfl ?_
          refine t_putI (q := 179) (k := 51) (f := 10) dX6_nextToken_176 rfl rfl rfl rfl inX6 tyX6_ok nmX6 (Nat.le_of_ble_eq_true rfl) fX6_202 rfl rfl rfl ?_
          refine s_goto (tgt := 98) dX6_nextToken_179 rfl ?_
          exact t_sub [0] rfl (ih  _ _ h K)
        · rw [if_neg hb26] at h
          refine s_aload_n (q := 137) dX6_nextToken_136 rfl rfl 0 rfl ?_
          refine t_getL (q := 140) (k := 51) (f := 11) (v := q24.2.2) dX6_nextToken_137 rfl rfl rfl rfl inX6 (Nat.le_of_ble_eq_true rfl) fX6_208 rfl ?_
          refine s_goto (tgt := 166) dX6_nextToken_140 rfl ?_
          refine t_putL (q := 169) inX6 dX6_nextToken_166 rfl fX6_208 ?_
          refine s_aload_n (q := 170) dX6_nextToken_169 rfl rfl 0 rfl ?_
          refine s_dup (q := 171) dX6_nextToken_170 rfl rfl ?_
          refine t_getI (q := 174) (k := 51) (f := 10) (v := (q24.2.1 51 10)) dX6_nextToken_171 rfl rfl rfl rfl inX6 (Nat.le_of_ble_eq_true rfl) fX6_202 rfl ?_
          refine s_iconst (q := 175) (v := 1) dX6_nextToken_174 rfl rfl ?_
          refine s_iadd (q := 176) dX6_nextToken_175 rfl ?_
          refine t_putI (q := 179) (k := 51) (f := 10) dX6_nextToken_176 rfl rfl rfl rfl inX6 tyX6_ok nmX6 (Nat.le_of_ble_eq_true rfl) fX6_202 rfl rfl rfl ?_
          refine s_goto (tgt := 98) dX6_nextToken_179 rfl ?_
          exact t_sub [0] rfl (ih  _ _ h K)
def G_X6_nextToken_51_46  (S : ST) : Option (Unit × ST) := (if (S.1 51 9) = (S.1 51 7) then some ((), (wr (wL (wr S 51 10 (S.1 51 9)) 0) 51 8 0)) else (if inB (S.1 51 9) 120 = true then ((G_X6_isLetter (S.1 57 ((S.1 51 9).toNatClampNeg)) (wL (wr S 51 10 (S.1 51 9)) 0)).bind fun q7 => (if q7.1 = 0 then (if inB (q7.2.1 51 9) 120 = true then ((G_X6_isDigit (q7.2.1 57 ((q7.2.1 51 9).toNatClampNeg)) q7.2).bind fun q10 => (if q10.1 = 0 then (if inB (q10.2.1 51 9) 120 = true then (if (q10.2.1 57 ((q10.2.1 51 9).toNatClampNeg)) = 59 then G_X6_nextToken_51_324 3 q10.2 else G_X6_nextToken_51_324 4 q10.2) else none) else (G_X6_nextToken_51_197 3000  q10.2).bind fun q20 => G_X6_nextToken_51_281  q20)) else none) else (G_X6_nextToken_51_98 3000  (wr q7.2 51 8 1)).bind fun q28 => some ((), q28))) else none))
set_option maxHeartbeats 4000000 in
set_option maxRecDepth 100000 in
theorem T_X6_nextToken_51_46 (E : EV)  {S : ST} {w : (Unit × ST)} (h : G_X6_nextToken_51_46  S = some w) : SD E mX6_nextToken 46 [(0, .ref (eB E + 51))] [] S none w.2 := by
  unfold G_X6_nextToken_51_46 at h
  refine s_aload_n (q := 47) dX6_nextToken_46 rfl rfl 0 rfl ?_
  refine s_aload_n (q := 48) dX6_nextToken_47 rfl rfl 0 rfl ?_
  refine t_getI (q := 51) (k := 51) (f := 9) (v := (S.1 51 9)) dX6_nextToken_48 rfl rfl rfl rfl inX6 (Nat.le_of_ble_eq_true rfl) fX6_205 rfl ?_
  refine t_putI (q := 54) (k := 51) (f := 10) dX6_nextToken_51 rfl rfl rfl rfl inX6 tyX6_ok nmX6 (Nat.le_of_ble_eq_true rfl) fX6_202 rfl rfl rfl ?_
  refine s_aload_n (q := 55) dX6_nextToken_54 rfl rfl 0 rfl ?_
  refine s_lconst (q := 56) (v := 0) dX6_nextToken_55 rfl rfl ?_
  refine t_putL (q := 59) inX6 dX6_nextToken_56 rfl fX6_208 ?_
  refine s_aload_n (q := 60) dX6_nextToken_59 rfl rfl 0 rfl ?_
  refine t_getI (q := 63) (k := 51) (f := 9) (v := (S.1 51 9)) dX6_nextToken_60 rfl rfl rfl rfl inX6 (Nat.le_of_ble_eq_true rfl) fX6_205 rfl ?_
  refine s_aload_n (q := 64) dX6_nextToken_63 rfl rfl 0 rfl ?_
  refine t_getI (q := 67) (k := 51) (f := 7) (v := (S.1 51 7)) dX6_nextToken_64 rfl rfl rfl rfl inX6 (Nat.le_of_ble_eq_true rfl) fX6_198 rfl ?_
  refine s_icmp_ne (q := 70) (tgt := 78) dX6_nextToken_67 rfl rfl (fun hb5 => ?_) (fun hb5 => ?_)
  · rw [if_neg hb5] at h
    refine s_aload_n (q := 79) dX6_nextToken_78 rfl rfl 0 rfl ?_
    refine t_getR (q := 82) (k := 51) (f := 6) (t := 57) dX6_nextToken_79 rfl rfl rfl rfl inX6 (Nat.le_of_ble_eq_true rfl) fX6_25 ?_
    refine s_aload_n (q := 83) dX6_nextToken_82 rfl rfl 0 rfl ?_
    refine t_getI (q := 86) (k := 51) (f := 9) (v := (S.1 51 9)) dX6_nextToken_83 rfl rfl rfl rfl inX6 (Nat.le_of_ble_eq_true rfl) fX6_205 rfl ?_
    obtain ⟨hg6, h⟩ := chk_some h
    refine u_iald (q := 87) (k := 57) (v := (S.1 57 ((S.1 51 9).toNatClampNeg))) dX6_nextToken_86 rfl rfl (inB_in hg6) rfl rfl ?_
    obtain ⟨q7, hc7, h⟩ := bnd h
    try dsimp only at h
    refine t_callS (q := 90) (N := mX6_isLetter) [.int (S.1 57 ((S.1 51 9).toNatClampNeg))] dX6_nextToken_87 rfl nkX6_isLetter sX6_isLetter lX6_215 ⟨Nat.le_of_ble_eq_true rfl, Nat.le_of_ble_eq_true rfl⟩ rfl rfl (Nat.le_of_ble_eq_true rfl) (Nat.le_of_ble_eq_true rfl) (T_X6_isLetter E _ hc7) ?_
    refine s_if_eq (q := 93) (tgt := 182) dX6_nextToken_90 rfl rfl (fun hb8 => ?_) (fun hb8 => ?_)
    · rw [if_pos hb8] at h
      refine s_aload_n (q := 183) dX6_nextToken_182 rfl rfl 0 rfl ?_
      refine t_getR (q := 186) (k := 51) (f := 6) (t := 57) dX6_nextToken_183 rfl rfl rfl rfl inX6 (Nat.le_of_ble_eq_true rfl) fX6_25 ?_
      refine s_aload_n (q := 187) dX6_nextToken_186 rfl rfl 0 rfl ?_
      refine t_getI (q := 190) (k := 51) (f := 9) (v := (q7.2.1 51 9)) dX6_nextToken_187 rfl rfl rfl rfl inX6 (Nat.le_of_ble_eq_true rfl) fX6_205 rfl ?_
      obtain ⟨hg9, h⟩ := chk_some h
      refine u_iald (q := 191) (k := 57) (v := (q7.2.1 57 ((q7.2.1 51 9).toNatClampNeg))) dX6_nextToken_190 rfl rfl (inB_in hg9) rfl rfl ?_
      obtain ⟨q10, hc10, h⟩ := bnd h
      try dsimp only at h
      refine t_callS (q := 194) (N := mX6_isDigit) [.int (q7.2.1 57 ((q7.2.1 51 9).toNatClampNeg))] dX6_nextToken_191 rfl nkX6_isDigit sX6_isDigit lX6_224 ⟨Nat.le_of_ble_eq_true rfl, Nat.le_of_ble_eq_true rfl⟩ rfl rfl (Nat.le_of_ble_eq_true rfl) (Nat.le_of_ble_eq_true rfl) (T_X6_isDigit E _ hc10) ?_
      refine s_if_eq (q := 197) (tgt := 304) dX6_nextToken_194 rfl rfl (fun hb11 => ?_) (fun hb11 => ?_)
      · rw [if_pos hb11] at h
        refine s_aload_n (q := 305) dX6_nextToken_304 rfl rfl 0 rfl ?_
        refine s_aload_n (q := 306) dX6_nextToken_305 rfl rfl 0 rfl ?_
        refine t_getR (q := 309) (k := 51) (f := 6) (t := 57) dX6_nextToken_306 rfl rfl rfl rfl inX6 (Nat.le_of_ble_eq_true rfl) fX6_25 ?_
        refine s_aload_n (q := 310) dX6_nextToken_309 rfl rfl 0 rfl ?_
        refine t_getI (q := 313) (k := 51) (f := 9) (v := (q10.2.1 51 9)) dX6_nextToken_310 rfl rfl rfl rfl inX6 (Nat.le_of_ble_eq_true rfl) fX6_205 rfl ?_
        obtain ⟨hg12, h⟩ := chk_some h
        refine u_iald (q := 314) (k := 57) (v := (q10.2.1 57 ((q10.2.1 51 9).toNatClampNeg))) dX6_nextToken_313 rfl rfl (inB_in hg12) rfl rfl ?_
        refine s_bipush (q := 316) (v := 59) dX6_nextToken_314 rfl rfl ?_
        refine s_icmp_ne (q := 319) (tgt := 323) dX6_nextToken_316 rfl rfl (fun hb13 => ?_) (fun hb13 => ?_)
        · rw [if_neg hb13] at h
          refine s_iconst (q := 324) (v := 4) dX6_nextToken_323 rfl rfl ?_
          exact t_sub [0] rfl (T_X6_nextToken_51_324 E _ h)
        · rw [if_pos hb13] at h
          refine s_iconst (q := 320) (v := 3) dX6_nextToken_319 rfl rfl ?_
          refine s_goto (tgt := 324) dX6_nextToken_320 rfl ?_
          exact t_sub [0] rfl (T_X6_nextToken_51_324 E _ h)
      · rw [if_neg hb11] at h
        obtain ⟨q20, hc20, h⟩ := bnd h
        try dsimp only at h
        refine t_sub [0] rfl (T_X6_nextToken_51_197 E _  _ _ hc20 ?_)
        exact t_sub [0] rfl (T_X6_nextToken_51_281 E  h)
    · rw [if_neg hb8] at h
      refine s_aload_n (q := 94) dX6_nextToken_93 rfl rfl 0 rfl ?_
      refine s_iconst (q := 95) (v := 1) dX6_nextToken_94 rfl rfl ?_
      refine t_putI (q := 98) (k := 51) (f := 8) dX6_nextToken_95 rfl rfl rfl rfl inX6 tyX6_ok nmX6 (Nat.le_of_ble_eq_true rfl) fX6_212 rfl rfl rfl ?_
      obtain ⟨q28, hc28, h⟩ := bnd h
      try dsimp only at h
      refine t_sub [0] rfl (T_X6_nextToken_51_98 E _  _ _ hc28 ?_)
      obtain rfl := Option.some.inj h
      exact t_vret dX6_nextToken_337 rfl rfl
  · rw [if_pos hb5] at h
    refine s_aload_n (q := 71) dX6_nextToken_70 rfl rfl 0 rfl ?_
    refine s_iconst (q := 72) (v := 0) dX6_nextToken_71 rfl rfl ?_
    refine t_putI (q := 75) (k := 51) (f := 8) dX6_nextToken_72 rfl rfl rfl rfl inX6 tyX6_ok nmX6 (Nat.le_of_ble_eq_true rfl) fX6_212 rfl rfl rfl ?_
    refine s_goto (tgt := 337) dX6_nextToken_75 rfl ?_
    obtain rfl := Option.some.inj h
    exact t_vret dX6_nextToken_337 rfl rfl
def G_X6_nextToken_51  (S : ST) : Option (Unit × ST) := (G_X6_nextToken_51_8 3000  (wr S 51 9 (S.1 51 10))).bind fun q4 => G_X6_nextToken_51_46  q4
set_option maxHeartbeats 4000000 in
set_option maxRecDepth 100000 in
theorem T_X6_nextToken_51 (E : EV)  {S : ST} {w : (Unit × ST)} (h : G_X6_nextToken_51  S = some w) : SD E mX6_nextToken 0 [(0, .ref (eB E + 51))] [] S none w.2 := by
  unfold G_X6_nextToken_51 at h
  refine s_aload_n (q := 1) dX6_nextToken_0 rfl rfl 0 rfl ?_
  refine s_aload_n (q := 2) dX6_nextToken_1 rfl rfl 0 rfl ?_
  refine t_getI (q := 5) (k := 51) (f := 10) (v := (S.1 51 10)) dX6_nextToken_2 rfl rfl rfl rfl inX6 (Nat.le_of_ble_eq_true rfl) fX6_202 rfl ?_
  refine t_putI (q := 8) (k := 51) (f := 9) dX6_nextToken_5 rfl rfl rfl rfl inX6 tyX6_ok nmX6 (Nat.le_of_ble_eq_true rfl) fX6_205 rfl rfl rfl ?_
  obtain ⟨q4, hc4, h⟩ := bnd h
  try dsimp only at h
  refine t_sub [0] rfl (T_X6_nextToken_51_8 E _  _ _ hc4 ?_)
  exact t_sub [0] rfl (T_X6_nextToken_51_46 E  h)
-- X6_wordOf
def G_X6_wordOf_51_58_27 : Nat → Int32 → Int32 → Int64 → Int32 → ST → Option (Int32 × Int32 × Int64 × ST)
  | 0, _, _, _, _, _ => none
  | n + 1, x2, x3, x4, x6, S => (if (8 : Int32) ≤ x6 then some (x2, x3, x4, S) else (if inB ((8 * x3) + x6) 56 = true then (if (S.1 58 (((8 * x3) + x6).toNatClampNeg)) = 32 then G_X6_wordOf_51_58_27 n x2 x3 x4 (x6 + 1) S else (if inB ((8 * x3) + x6) 56 = true then G_X6_wordOf_51_58_27 n x2 x3 (((x4 * 27) + ((S.1 58 (((8 * x3) + x6).toNatClampNeg)).toInt64)) - 96) (x6 + 1) S else none)) else none))
set_option maxHeartbeats 4000000 in
set_option maxRecDepth 100000 in
theorem T_X6_wordOf_51_58_27 (E : EV) : ∀ (n : Nat) (x2 : Int32) (x3 : Int32) (x4 : Int64) (x6 : Int32) (S : ST), ∀ (w : (Int32 × Int32 × Int64 × ST)), G_X6_wordOf_51_58_27 n x2 x3 x4 x6 S = some w → ∀ {Q : Option Value → ST → Prop}, SS E mX6_wordOf 82 [(0, .ref (eB E + 51)), (1, .ref (eB E + 58)), (2, .int w.1), (3, .int w.2.1), (4, .long w.2.2.1)] [] w.2.2.2 Q → SS E mX6_wordOf 27 [(0, .ref (eB E + 51)), (1, .ref (eB E + 58)), (2, .int x2), (3, .int x3), (4, .long x4), (6, .int x6)] [] S Q := by
  intro n
  induction n with
  | zero =>
    intro x2 x3 x4 x6 S w h
    cases h
  | succ n ih =>
    intro x2 x3 x4 x6 S w h Q K
    unfold G_X6_wordOf_51_58_27 at h
    refine s_iload (q := 29) dX6_wordOf_27 rfl 5 rfl ?_
    refine s_bipush (q := 31) (v := 8) dX6_wordOf_29 rfl rfl ?_
    refine s_icmp_ge (q := 34) (tgt := 82) dX6_wordOf_31 rfl rfl (fun hb3 => ?_) (fun hb3 => ?_)
    · rw [if_pos hb3] at h
      obtain rfl := Option.some.inj h
      exact t_sub [0, 1, 2, 3, 4] rfl K
    · rw [if_neg hb3] at h
      refine s_aload_n (q := 35) dX6_wordOf_34 rfl rfl 1 rfl ?_
      refine s_bipush (q := 37) (v := 8) dX6_wordOf_35 rfl rfl ?_
      refine s_iload_n (q := 38) dX6_wordOf_37 rfl rfl 3 rfl ?_
      refine s_imul (q := 39) dX6_wordOf_38 rfl ?_
      refine s_iload (q := 41) dX6_wordOf_39 rfl 5 rfl ?_
      refine s_iadd (q := 42) dX6_wordOf_41 rfl ?_
      obtain ⟨hg4, h⟩ := chk_some h
      refine u_cald (q := 43) (k := 58) (v := (S.1 58 (((8 * x3) + x6).toNatClampNeg))) dX6_wordOf_42 rfl rfl (inB_in hg4) rfl rfl ?_
      refine s_bipush (q := 45) (v := 32) dX6_wordOf_43 rfl rfl ?_
      refine s_icmp_ne (q := 48) (tgt := 53) dX6_wordOf_45 rfl rfl (fun hb5 => ?_) (fun hb5 => ?_)
      · rw [if_neg hb5] at h
        refine s_lload (q := 55) dX6_wordOf_53 rfl 4 rfl ?_
        refine s_ldc2 (q := 58) (v := 27) dX6_wordOf_55 rfl kX6_220 ?_
        refine s_lmul (q := 59) dX6_wordOf_58 rfl ?_
        refine s_aload_n (q := 60) dX6_wordOf_59 rfl rfl 1 rfl ?_
        refine s_bipush (q := 62) (v := 8) dX6_wordOf_60 rfl rfl ?_
        refine s_iload_n (q := 63) dX6_wordOf_62 rfl rfl 3 rfl ?_
        refine s_imul (q := 64) dX6_wordOf_63 rfl ?_
        refine s_iload (q := 66) dX6_wordOf_64 rfl 5 rfl ?_
        refine s_iadd (q := 67) dX6_wordOf_66 rfl ?_
        obtain ⟨hg6, h⟩ := chk_some h
        refine u_cald (q := 68) (k := 58) (v := (S.1 58 (((8 * x3) + x6).toNatClampNeg))) dX6_wordOf_67 rfl rfl (inB_in hg6) rfl rfl ?_
        refine s_i2l (q := 69) dX6_wordOf_68 rfl ?_
        refine s_ladd (q := 70) dX6_wordOf_69 rfl ?_
        refine s_ldc2 (q := 73) (v := 96) dX6_wordOf_70 rfl kX6_222 ?_
        refine s_lsub (q := 74) dX6_wordOf_73 rfl ?_
        refine s_lstore (q := 76) (lv' := [(4, .long (((x4 * 27) + ((S.1 58 (((8 * x3) + x6).toNatClampNeg)).toInt64)) - 96)), (0, .ref (eB E + 51)), (1, .ref (eB E + 58)), (2, .int x2), (3, .int x3), (6, .int x6)]) dX6_wordOf_74 rfl (Nat.le_of_ble_eq_true rfl) rfl ?_
        refine s_iinc (q := 79) (j := 5) (v := (x6 + 1)) (lv' := [(6, .int (x6 + 1)), (4, .long (((x4 * 27) + ((S.1 58 (((8 * x3) + x6).toNatClampNeg)).toInt64)) - 96)), (0, .ref (eB E + 51)), (1, .ref (eB E + 58)), (2, .int x2), (3, .int x3)]) dX6_wordOf_76 rfl rfl rfl (Nat.le_of_ble_eq_true rfl) rfl ?_
        refine s_goto (tgt := 27) dX6_wordOf_79 rfl ?_
        exact t_sub [2, 3, 4, 5, 1, 0] rfl (ih _ _ _ _ _ _ h K)
      · rw [if_pos hb5] at h
        refine s_lload (q := 50) dX6_wordOf_48 rfl 4 rfl ?_
        refine s_goto (tgt := 74) dX6_wordOf_50 rfl ?_
        refine s_lstore (q := 76) (lv' := [(4, .long x4), (0, .ref (eB E + 51)), (1, .ref (eB E + 58)), (2, .int x2), (3, .int x3), (6, .int x6)]) dX6_wordOf_74 rfl (Nat.le_of_ble_eq_true rfl) rfl ?_
        refine s_iinc (q := 79) (j := 5) (v := (x6 + 1)) (lv' := [(6, .int (x6 + 1)), (4, .long x4), (0, .ref (eB E + 51)), (1, .ref (eB E + 58)), (2, .int x2), (3, .int x3)]) dX6_wordOf_76 rfl rfl rfl (Nat.le_of_ble_eq_true rfl) rfl ?_
        refine s_goto (tgt := 27) dX6_wordOf_79 rfl ?_
        exact t_sub [2, 3, 4, 5, 1, 0] rfl (ih _ _ _ _ _ _ h K)
def G_X6_wordOf_51_58_4 : Nat → Int32 → Int32 → ST → Option (Int32 × ST)
  | 0, _, _, _ => none
  | n + 1, x2, x3, S => (if (56 / 8) ≤ x3 then some (x2, S) else (if (S.1 51 8) = 1 then (G_X6_wordOf_51_58_27 3000 x2 x3 0 0 S).bind fun q7 => (if (lg_cmp q7.2.2.1 q7.2.2.2.2) = 0 then G_X6_wordOf_51_58_4 n q7.2.1 (q7.2.1 + 1) q7.2.2.2 else G_X6_wordOf_51_58_4 n q7.1 (q7.2.1 + 1) q7.2.2.2) else some (x2, S)))
set_option maxHeartbeats 4000000 in
set_option maxRecDepth 100000 in
theorem T_X6_wordOf_51_58_4 (E : EV) : ∀ (n : Nat) (x2 : Int32) (x3 : Int32) (S : ST), ∀ (w : (Int32 × ST)), G_X6_wordOf_51_58_4 n x2 x3 S = some w → ∀ {Q : Option Value → ST → Prop}, SS E mX6_wordOf 104 [(2, .int w.1)] [] w.2 Q → SS E mX6_wordOf 4 [(0, .ref (eB E + 51)), (1, .ref (eB E + 58)), (2, .int x2), (3, .int x3)] [] S Q := by
  intro n
  induction n with
  | zero =>
    intro x2 x3 S w h
    cases h
  | succ n ih =>
    intro x2 x3 S w h Q K
    unfold G_X6_wordOf_51_58_4 at h
    refine s_iload_n (q := 5) dX6_wordOf_4 rfl rfl 3 rfl ?_
    refine s_aload_n (q := 6) dX6_wordOf_5 rfl rfl 1 rfl ?_
    refine t_alen (q := 7) (k := 58) (v := 56) dX6_wordOf_6 rfl rfl (by decide) rfl ?_
    refine s_bipush (q := 9) (v := 8) dX6_wordOf_7 rfl rfl ?_
    refine s_idiv (q := 10) dX6_wordOf_9 rfl (by decide) ?_
    refine s_icmp_ge (q := 13) (tgt := 104) dX6_wordOf_10 rfl rfl (fun hb1 => ?_) (fun hb1 => ?_)
    · rw [if_pos hb1] at h
      obtain rfl := Option.some.inj h
      exact t_sub [2] rfl K
    · rw [if_neg hb1] at h
      refine s_aload_n (q := 14) dX6_wordOf_13 rfl rfl 0 rfl ?_
      refine t_getI (q := 17) (k := 51) (f := 8) (v := (S.1 51 8)) dX6_wordOf_14 rfl rfl rfl rfl inX6 (Nat.le_of_ble_eq_true rfl) fX6_212 rfl ?_
      refine s_iconst (q := 18) (v := 1) dX6_wordOf_17 rfl rfl ?_
      refine s_icmp_ne (q := 21) (tgt := 104) dX6_wordOf_18 rfl rfl (fun hb2 => ?_) (fun hb2 => ?_)
      · rw [if_neg hb2] at h
        obtain rfl := Option.some.inj h
        exact t_sub [2] rfl K
      · rw [if_pos hb2] at h
        refine s_lconst (q := 22) (v := 0) dX6_wordOf_21 rfl rfl ?_
        refine s_lstore (q := 24) (lv' := [(4, .long 0), (0, .ref (eB E + 51)), (1, .ref (eB E + 58)), (2, .int x2), (3, .int x3)]) dX6_wordOf_22 rfl (Nat.le_of_ble_eq_true rfl) rfl ?_
        refine s_iconst (q := 25) (v := 0) dX6_wordOf_24 rfl rfl ?_
        refine s_istore (q := 27) (lv' := [(6, .int 0), (4, .long 0), (0, .ref (eB E + 51)), (1, .ref (eB E + 58)), (2, .int x2), (3, .int x3)]) dX6_wordOf_25 rfl (Nat.le_of_ble_eq_true rfl) rfl ?_
        obtain ⟨q7, hc7, h⟩ := bnd h
        try dsimp only at h
        refine t_sub [2, 3, 4, 5, 1, 0] rfl (T_X6_wordOf_51_58_27 E _ _ _ _ _ _ _ hc7 ?_)
        refine s_lload (q := 84) dX6_wordOf_82 rfl 4 rfl ?_
        refine s_aload_n (q := 85) dX6_wordOf_84 rfl rfl 0 rfl ?_
        refine t_getL (q := 88) (k := 51) (f := 11) (v := q7.2.2.2.2) dX6_wordOf_85 rfl rfl rfl rfl inX6 (Nat.le_of_ble_eq_true rfl) fX6_208 rfl ?_
        refine s_lcmp (q := 89) dX6_wordOf_88 rfl ?_
        refine s_if_ne (q := 92) (tgt := 96) dX6_wordOf_89 rfl rfl (fun hb8 => ?_) (fun hb8 => ?_)
        · rw [if_neg hb8] at h
          refine s_iload_n (q := 97) dX6_wordOf_96 rfl rfl 2 rfl ?_
          refine s_istore_n (q := 98) (lv' := [(2, .int q7.1), (0, .ref (eB E + 51)), (1, .ref (eB E + 58)), (3, .int q7.2.1), (4, .long q7.2.2.1)]) dX6_wordOf_97 rfl rfl (Nat.le_of_ble_eq_true rfl) rfl ?_
          refine s_iinc (q := 101) (j := 3) (v := (q7.2.1 + 1)) (lv' := [(3, .int (q7.2.1 + 1)), (2, .int q7.1), (0, .ref (eB E + 51)), (1, .ref (eB E + 58)), (4, .long q7.2.2.1)]) dX6_wordOf_98 rfl rfl rfl (Nat.le_of_ble_eq_true rfl) rfl ?_
          refine s_goto (tgt := 4) dX6_wordOf_101 rfl ?_
          exact t_sub [2, 3, 1, 0] rfl (ih _ _ _ _ h K)
        · rw [if_pos hb8] at h
          refine s_iload_n (q := 93) dX6_wordOf_92 rfl rfl 3 rfl ?_
          refine s_goto (tgt := 97) dX6_wordOf_93 rfl ?_
          refine s_istore_n (q := 98) (lv' := [(2, .int q7.2.1), (0, .ref (eB E + 51)), (1, .ref (eB E + 58)), (3, .int q7.2.1), (4, .long q7.2.2.1)]) dX6_wordOf_97 rfl rfl (Nat.le_of_ble_eq_true rfl) rfl ?_
          refine s_iinc (q := 101) (j := 3) (v := (q7.2.1 + 1)) (lv' := [(3, .int (q7.2.1 + 1)), (2, .int q7.2.1), (0, .ref (eB E + 51)), (1, .ref (eB E + 58)), (4, .long q7.2.2.1)]) dX6_wordOf_98 rfl rfl rfl (Nat.le_of_ble_eq_true rfl) rfl ?_
          refine s_goto (tgt := 4) dX6_wordOf_101 rfl ?_
          exact t_sub [2, 3, 1, 0] rfl (ih _ _ _ _ h K)
def G_X6_wordOf_51_58  (S : ST) : Option (Int32 × ST) := (G_X6_wordOf_51_58_4 3000 (-1) 0 S).bind fun q9 => some (q9.1, q9.2)
set_option maxHeartbeats 4000000 in
set_option maxRecDepth 100000 in
theorem T_X6_wordOf_51_58 (E : EV)  {S : ST} {w : (Int32 × ST)} (h : G_X6_wordOf_51_58  S = some w) : SD E mX6_wordOf 0 [(0, .ref (eB E + 51)), (1, .ref (eB E + 58))] [] S (some (.int w.1)) w.2 := by
  unfold G_X6_wordOf_51_58 at h
  refine s_iconst (q := 1) (v := (-1)) dX6_wordOf_0 rfl rfl ?_
  refine s_istore_n (q := 2) (lv' := [(2, .int (-1)), (0, .ref (eB E + 51)), (1, .ref (eB E + 58))]) dX6_wordOf_1 rfl rfl (Nat.le_of_ble_eq_true rfl) rfl ?_
  refine s_iconst (q := 3) (v := 0) dX6_wordOf_2 rfl rfl ?_
  refine s_istore_n (q := 4) (lv' := [(3, .int 0), (2, .int (-1)), (0, .ref (eB E + 51)), (1, .ref (eB E + 58))]) dX6_wordOf_3 rfl rfl (Nat.le_of_ble_eq_true rfl) rfl ?_
  obtain ⟨q9, hc9, h⟩ := bnd h
  try dsimp only at h
  refine t_sub [2, 3, 1, 0] rfl (T_X6_wordOf_51_58_4 E _ _ _ _ _ hc9 ?_)
  refine s_iload_n (q := 105) dX6_wordOf_104 rfl rfl 0 rfl ?_
  obtain rfl := Option.some.inj h
  exact t_iret dX6_wordOf_105 rfl rfl
-- X6_wordOf
def G_X6_wordOf_51_61_27 : Nat → Int32 → Int32 → Int64 → Int32 → ST → Option (Int32 × Int32 × Int64 × ST)
  | 0, _, _, _, _, _ => none
  | n + 1, x2, x3, x4, x6, S => (if (8 : Int32) ≤ x6 then some (x2, x3, x4, S) else (if inB ((8 * x3) + x6) 48 = true then (if (S.1 61 (((8 * x3) + x6).toNatClampNeg)) = 32 then G_X6_wordOf_51_61_27 n x2 x3 x4 (x6 + 1) S else (if inB ((8 * x3) + x6) 48 = true then G_X6_wordOf_51_61_27 n x2 x3 (((x4 * 27) + ((S.1 61 (((8 * x3) + x6).toNatClampNeg)).toInt64)) - 96) (x6 + 1) S else none)) else none))
set_option maxHeartbeats 4000000 in
set_option maxRecDepth 100000 in
theorem T_X6_wordOf_51_61_27 (E : EV) : ∀ (n : Nat) (x2 : Int32) (x3 : Int32) (x4 : Int64) (x6 : Int32) (S : ST), ∀ (w : (Int32 × Int32 × Int64 × ST)), G_X6_wordOf_51_61_27 n x2 x3 x4 x6 S = some w → ∀ {Q : Option Value → ST → Prop}, SS E mX6_wordOf 82 [(0, .ref (eB E + 51)), (1, .ref (eB E + 61)), (2, .int w.1), (3, .int w.2.1), (4, .long w.2.2.1)] [] w.2.2.2 Q → SS E mX6_wordOf 27 [(0, .ref (eB E + 51)), (1, .ref (eB E + 61)), (2, .int x2), (3, .int x3), (4, .long x4), (6, .int x6)] [] S Q := by
  intro n
  induction n with
  | zero =>
    intro x2 x3 x4 x6 S w h
    cases h
  | succ n ih =>
    intro x2 x3 x4 x6 S w h Q K
    unfold G_X6_wordOf_51_61_27 at h
    refine s_iload (q := 29) dX6_wordOf_27 rfl 5 rfl ?_
    refine s_bipush (q := 31) (v := 8) dX6_wordOf_29 rfl rfl ?_
    refine s_icmp_ge (q := 34) (tgt := 82) dX6_wordOf_31 rfl rfl (fun hb3 => ?_) (fun hb3 => ?_)
    · rw [if_pos hb3] at h
      obtain rfl := Option.some.inj h
      exact t_sub [0, 1, 2, 3, 4] rfl K
    · rw [if_neg hb3] at h
      refine s_aload_n (q := 35) dX6_wordOf_34 rfl rfl 1 rfl ?_
      refine s_bipush (q := 37) (v := 8) dX6_wordOf_35 rfl rfl ?_
      refine s_iload_n (q := 38) dX6_wordOf_37 rfl rfl 3 rfl ?_
      refine s_imul (q := 39) dX6_wordOf_38 rfl ?_
      refine s_iload (q := 41) dX6_wordOf_39 rfl 5 rfl ?_
      refine s_iadd (q := 42) dX6_wordOf_41 rfl ?_
      obtain ⟨hg4, h⟩ := chk_some h
      refine u_cald (q := 43) (k := 61) (v := (S.1 61 (((8 * x3) + x6).toNatClampNeg))) dX6_wordOf_42 rfl rfl (inB_in hg4) rfl rfl ?_
      refine s_bipush (q := 45) (v := 32) dX6_wordOf_43 rfl rfl ?_
      refine s_icmp_ne (q := 48) (tgt := 53) dX6_wordOf_45 rfl rfl (fun hb5 => ?_) (fun hb5 => ?_)
      · rw [if_neg hb5] at h
        refine s_lload (q := 55) dX6_wordOf_53 rfl 4 rfl ?_
        refine s_ldc2 (q := 58) (v := 27) dX6_wordOf_55 rfl kX6_220 ?_
        refine s_lmul (q := 59) dX6_wordOf_58 rfl ?_
        refine s_aload_n (q := 60) dX6_wordOf_59 rfl rfl 1 rfl ?_
        refine s_bipush (q := 62) (v := 8) dX6_wordOf_60 rfl rfl ?_
        refine s_iload_n (q := 63) dX6_wordOf_62 rfl rfl 3 rfl ?_
        refine s_imul (q := 64) dX6_wordOf_63 rfl ?_
        refine s_iload (q := 66) dX6_wordOf_64 rfl 5 rfl ?_
        refine s_iadd (q := 67) dX6_wordOf_66 rfl ?_
        obtain ⟨hg6, h⟩ := chk_some h
        refine u_cald (q := 68) (k := 61) (v := (S.1 61 (((8 * x3) + x6).toNatClampNeg))) dX6_wordOf_67 rfl rfl (inB_in hg6) rfl rfl ?_
        refine s_i2l (q := 69) dX6_wordOf_68 rfl ?_
        refine s_ladd (q := 70) dX6_wordOf_69 rfl ?_
        refine s_ldc2 (q := 73) (v := 96) dX6_wordOf_70 rfl kX6_222 ?_
        refine s_lsub (q := 74) dX6_wordOf_73 rfl ?_
        refine s_lstore (q := 76) (lv' := [(4, .long (((x4 * 27) + ((S.1 61 (((8 * x3) + x6).toNatClampNeg)).toInt64)) - 96)), (0, .ref (eB E + 51)), (1, .ref (eB E + 61)), (2, .int x2), (3, .int x3), (6, .int x6)]) dX6_wordOf_74 rfl (Nat.le_of_ble_eq_true rfl) rfl ?_
        refine s_iinc (q := 79) (j := 5) (v := (x6 + 1)) (lv' := [(6, .int (x6 + 1)), (4, .long (((x4 * 27) + ((S.1 61 (((8 * x3) + x6).toNatClampNeg)).toInt64)) - 96)), (0, .ref (eB E + 51)), (1, .ref (eB E + 61)), (2, .int x2), (3, .int x3)]) dX6_wordOf_76 rfl rfl rfl (Nat.le_of_ble_eq_true rfl) rfl ?_
        refine s_goto (tgt := 27) dX6_wordOf_79 rfl ?_
        exact t_sub [2, 3, 4, 5, 1, 0] rfl (ih _ _ _ _ _ _ h K)
      · rw [if_pos hb5] at h
        refine s_lload (q := 50) dX6_wordOf_48 rfl 4 rfl ?_
        refine s_goto (tgt := 74) dX6_wordOf_50 rfl ?_
        refine s_lstore (q := 76) (lv' := [(4, .long x4), (0, .ref (eB E + 51)), (1, .ref (eB E + 61)), (2, .int x2), (3, .int x3), (6, .int x6)]) dX6_wordOf_74 rfl (Nat.le_of_ble_eq_true rfl) rfl ?_
        refine s_iinc (q := 79) (j := 5) (v := (x6 + 1)) (lv' := [(6, .int (x6 + 1)), (4, .long x4), (0, .ref (eB E + 51)), (1, .ref (eB E + 61)), (2, .int x2), (3, .int x3)]) dX6_wordOf_76 rfl rfl rfl (Nat.le_of_ble_eq_true rfl) rfl ?_
        refine s_goto (tgt := 27) dX6_wordOf_79 rfl ?_
        exact t_sub [2, 3, 4, 5, 1, 0] rfl (ih _ _ _ _ _ _ h K)
def G_X6_wordOf_51_61_4 : Nat → Int32 → Int32 → ST → Option (Int32 × ST)
  | 0, _, _, _ => none
  | n + 1, x2, x3, S => (if (48 / 8) ≤ x3 then some (x2, S) else (if (S.1 51 8) = 1 then (G_X6_wordOf_51_61_27 3000 x2 x3 0 0 S).bind fun q7 => (if (lg_cmp q7.2.2.1 q7.2.2.2.2) = 0 then G_X6_wordOf_51_61_4 n q7.2.1 (q7.2.1 + 1) q7.2.2.2 else G_X6_wordOf_51_61_4 n q7.1 (q7.2.1 + 1) q7.2.2.2) else some (x2, S)))
set_option maxHeartbeats 4000000 in
set_option maxRecDepth 100000 in
theorem T_X6_wordOf_51_61_4 (E : EV) : ∀ (n : Nat) (x2 : Int32) (x3 : Int32) (S : ST), ∀ (w : (Int32 × ST)), G_X6_wordOf_51_61_4 n x2 x3 S = some w → ∀ {Q : Option Value → ST → Prop}, SS E mX6_wordOf 104 [(2, .int w.1)] [] w.2 Q → SS E mX6_wordOf 4 [(0, .ref (eB E + 51)), (1, .ref (eB E + 61)), (2, .int x2), (3, .int x3)] [] S Q := by
  intro n
  induction n with
  | zero =>
    intro x2 x3 S w h
    cases h
  | succ n ih =>
    intro x2 x3 S w h Q K
    unfold G_X6_wordOf_51_61_4 at h
    refine s_iload_n (q := 5) dX6_wordOf_4 rfl rfl 3 rfl ?_
    refine s_aload_n (q := 6) dX6_wordOf_5 rfl rfl 1 rfl ?_
    refine t_alen (q := 7) (k := 61) (v := 48) dX6_wordOf_6 rfl rfl (by decide) rfl ?_
    refine s_bipush (q := 9) (v := 8) dX6_wordOf_7 rfl rfl ?_
    refine s_idiv (q := 10) dX6_wordOf_9 rfl (by decide) ?_
    refine s_icmp_ge (q := 13) (tgt := 104) dX6_wordOf_10 rfl rfl (fun hb1 => ?_) (fun hb1 => ?_)
    · rw [if_pos hb1] at h
      obtain rfl := Option.some.inj h
      exact t_sub [2] rfl K
    · rw [if_neg hb1] at h
      refine s_aload_n (q := 14) dX6_wordOf_13 rfl rfl 0 rfl ?_
      refine t_getI (q := 17) (k := 51) (f := 8) (v := (S.1 51 8)) dX6_wordOf_14 rfl rfl rfl rfl inX6 (Nat.le_of_ble_eq_true rfl) fX6_212 rfl ?_
      refine s_iconst (q := 18) (v := 1) dX6_wordOf_17 rfl rfl ?_
      refine s_icmp_ne (q := 21) (tgt := 104) dX6_wordOf_18 rfl rfl (fun hb2 => ?_) (fun hb2 => ?_)
      · rw [if_neg hb2] at h
        obtain rfl := Option.some.inj h
        exact t_sub [2] rfl K
      · rw [if_pos hb2] at h
        refine s_lconst (q := 22) (v := 0) dX6_wordOf_21 rfl rfl ?_
        refine s_lstore (q := 24) (lv' := [(4, .long 0), (0, .ref (eB E + 51)), (1, .ref (eB E + 61)), (2, .int x2), (3, .int x3)]) dX6_wordOf_22 rfl (Nat.le_of_ble_eq_true rfl) rfl ?_
        refine s_iconst (q := 25) (v := 0) dX6_wordOf_24 rfl rfl ?_
        refine s_istore (q := 27) (lv' := [(6, .int 0), (4, .long 0), (0, .ref (eB E + 51)), (1, .ref (eB E + 61)), (2, .int x2), (3, .int x3)]) dX6_wordOf_25 rfl (Nat.le_of_ble_eq_true rfl) rfl ?_
        obtain ⟨q7, hc7, h⟩ := bnd h
        try dsimp only at h
        refine t_sub [2, 3, 4, 5, 1, 0] rfl (T_X6_wordOf_51_61_27 E _ _ _ _ _ _ _ hc7 ?_)
        refine s_lload (q := 84) dX6_wordOf_82 rfl 4 rfl ?_
        refine s_aload_n (q := 85) dX6_wordOf_84 rfl rfl 0 rfl ?_
        refine t_getL (q := 88) (k := 51) (f := 11) (v := q7.2.2.2.2) dX6_wordOf_85 rfl rfl rfl rfl inX6 (Nat.le_of_ble_eq_true rfl) fX6_208 rfl ?_
        refine s_lcmp (q := 89) dX6_wordOf_88 rfl ?_
        refine s_if_ne (q := 92) (tgt := 96) dX6_wordOf_89 rfl rfl (fun hb8 => ?_) (fun hb8 => ?_)
        · rw [if_neg hb8] at h
          refine s_iload_n (q := 97) dX6_wordOf_96 rfl rfl 2 rfl ?_
          refine s_istore_n (q := 98) (lv' := [(2, .int q7.1), (0, .ref (eB E + 51)), (1, .ref (eB E + 61)), (3, .int q7.2.1), (4, .long q7.2.2.1)]) dX6_wordOf_97 rfl rfl (Nat.le_of_ble_eq_true rfl) rfl ?_
          refine s_iinc (q := 101) (j := 3) (v := (q7.2.1 + 1)) (lv' := [(3, .int (q7.2.1 + 1)), (2, .int q7.1), (0, .ref (eB E + 51)), (1, .ref (eB E + 61)), (4, .long q7.2.2.1)]) dX6_wordOf_98 rfl rfl rfl (Nat.le_of_ble_eq_true rfl) rfl ?_
          refine s_goto (tgt := 4) dX6_wordOf_101 rfl ?_
          exact t_sub [2, 3, 1, 0] rfl (ih _ _ _ _ h K)
        · rw [if_pos hb8] at h
          refine s_iload_n (q := 93) dX6_wordOf_92 rfl rfl 3 rfl ?_
          refine s_goto (tgt := 97) dX6_wordOf_93 rfl ?_
          refine s_istore_n (q := 98) (lv' := [(2, .int q7.2.1), (0, .ref (eB E + 51)), (1, .ref (eB E + 61)), (3, .int q7.2.1), (4, .long q7.2.2.1)]) dX6_wordOf_97 rfl rfl (Nat.le_of_ble_eq_true rfl) rfl ?_
          refine s_iinc (q := 101) (j := 3) (v := (q7.2.1 + 1)) (lv' := [(3, .int (q7.2.1 + 1)), (2, .int q7.2.1), (0, .ref (eB E + 51)), (1, .ref (eB E + 61)), (4, .long q7.2.2.1)]) dX6_wordOf_98 rfl rfl rfl (Nat.le_of_ble_eq_true rfl) rfl ?_
          refine s_goto (tgt := 4) dX6_wordOf_101 rfl ?_
          exact t_sub [2, 3, 1, 0] rfl (ih _ _ _ _ h K)
def G_X6_wordOf_51_61  (S : ST) : Option (Int32 × ST) := (G_X6_wordOf_51_61_4 3000 (-1) 0 S).bind fun q9 => some (q9.1, q9.2)
set_option maxHeartbeats 4000000 in
set_option maxRecDepth 100000 in
theorem T_X6_wordOf_51_61 (E : EV)  {S : ST} {w : (Int32 × ST)} (h : G_X6_wordOf_51_61  S = some w) : SD E mX6_wordOf 0 [(0, .ref (eB E + 51)), (1, .ref (eB E + 61))] [] S (some (.int w.1)) w.2 := by
  unfold G_X6_wordOf_51_61 at h
  refine s_iconst (q := 1) (v := (-1)) dX6_wordOf_0 rfl rfl ?_
  refine s_istore_n (q := 2) (lv' := [(2, .int (-1)), (0, .ref (eB E + 51)), (1, .ref (eB E + 61))]) dX6_wordOf_1 rfl rfl (Nat.le_of_ble_eq_true rfl) rfl ?_
  refine s_iconst (q := 3) (v := 0) dX6_wordOf_2 rfl rfl ?_
  refine s_istore_n (q := 4) (lv' := [(3, .int 0), (2, .int (-1)), (0, .ref (eB E + 51)), (1, .ref (eB E + 61))]) dX6_wordOf_3 rfl rfl (Nat.le_of_ble_eq_true rfl) rfl ?_
  obtain ⟨q9, hc9, h⟩ := bnd h
  try dsimp only at h
  refine t_sub [2, 3, 1, 0] rfl (T_X6_wordOf_51_61_4 E _ _ _ _ _ hc9 ?_)
  refine s_iload_n (q := 105) dX6_wordOf_104 rfl rfl 0 rfl ?_
  obtain rfl := Option.some.inj h
  exact t_iret dX6_wordOf_105 rfl rfl
-- X6_takesNumber
def G_X6_takesNumber_51_30 (y0 : Int32) (S : ST) : Option (Int32 × ST) := (if y0 < 0 then some (y0, S) else ((G_X6_nextToken_51  S).bind fun q3 => some (y0, q3.2)))
set_option maxHeartbeats 4000000 in
set_option maxRecDepth 100000 in
theorem T_X6_takesNumber_51_30 (E : EV) (y0 : Int32) {S : ST} {w : (Int32 × ST)} (h : G_X6_takesNumber_51_30 y0 S = some w) : SD E mX6_takesNumber 30 [(0, .ref (eB E + 51))] [.int y0] S (some (.int w.1)) w.2 := by
  unfold G_X6_takesNumber_51_30 at h
  refine s_istore_n (q := 31) (lv' := [(3, .int y0), (0, .ref (eB E + 51))]) dX6_takesNumber_30 rfl rfl (Nat.le_of_ble_eq_true rfl) rfl ?_
  refine s_iload_n (q := 32) dX6_takesNumber_31 rfl rfl 0 rfl ?_
  refine s_if_lt (q := 35) (tgt := 39) dX6_takesNumber_32 rfl rfl (fun hb2 => ?_) (fun hb2 => ?_)
  · rw [if_pos hb2] at h
    refine s_iload_n (q := 40) dX6_takesNumber_39 rfl rfl 0 rfl ?_
    obtain rfl := Option.some.inj h
    exact t_iret dX6_takesNumber_40 rfl rfl
  · rw [if_neg hb2] at h
    refine s_aload_n (q := 36) dX6_takesNumber_35 rfl rfl 1 rfl ?_
    obtain ⟨q3, hc3, h⟩ := bnd h
    try dsimp only at h
    refine t_callV (q := 39) (N := mX6_nextToken) (a := eB E + 51) [] dX6_takesNumber_36 rfl nkX6_nextToken vkX6_nextToken lX6_233 ⟨Nat.le_of_ble_eq_true rfl, Nat.le_of_ble_eq_true rfl⟩ (rc_obj (k := 51) rfl rfl) rfl rfl (Nat.le_of_ble_eq_true rfl) (Nat.le_of_ble_eq_true rfl) (T_X6_nextToken_51 E  hc3) ?_
    refine s_iload_n (q := 40) dX6_takesNumber_39 rfl rfl 0 rfl ?_
    obtain rfl := Option.some.inj h
    exact t_iret dX6_takesNumber_40 rfl rfl
def G_X6_takesNumber_51_29  (S : ST) : Option (Int32 × ST) := G_X6_takesNumber_51_30 (-1) S
set_option maxHeartbeats 4000000 in
set_option maxRecDepth 100000 in
theorem T_X6_takesNumber_51_29 (E : EV)  {S : ST} {w : (Int32 × ST)} (h : G_X6_takesNumber_51_29  S = some w) : SD E mX6_takesNumber 29 [(0, .ref (eB E + 51))] [] S (some (.int w.1)) w.2 := by
  unfold G_X6_takesNumber_51_29 at h
  refine s_iconst (q := 30) (v := (-1)) dX6_takesNumber_29 rfl rfl ?_
  exact t_sub [0] rfl (T_X6_takesNumber_51_30 E _ h)
def G_X6_takesNumber_51 (x1 : Int32) (x2 : Int32) (S : ST) : Option (Int32 × ST) := (if (S.1 51 8) = 2 then ((G_X6_in1 (S.2.toInt32) x1 x2 S).bind fun q4 => (if q4.1 = 0 then G_X6_takesNumber_51_29  q4.2 else G_X6_takesNumber_51_30 (q4.2.2.toInt32) q4.2)) else G_X6_takesNumber_51_29  S)
set_option maxHeartbeats 4000000 in
set_option maxRecDepth 100000 in
theorem T_X6_takesNumber_51 (E : EV) (x1 : Int32) (x2 : Int32) {S : ST} {w : (Int32 × ST)} (h : G_X6_takesNumber_51 x1 x2 S = some w) : SD E mX6_takesNumber 0 [(0, .ref (eB E + 51)), (1, .int x1), (2, .int x2)] [] S (some (.int w.1)) w.2 := by
  unfold G_X6_takesNumber_51 at h
  refine s_aload_n (q := 1) dX6_takesNumber_0 rfl rfl 0 rfl ?_
  refine t_getI (q := 4) (k := 51) (f := 8) (v := (S.1 51 8)) dX6_takesNumber_1 rfl rfl rfl rfl inX6 (Nat.le_of_ble_eq_true rfl) fX6_212 rfl ?_
  refine s_iconst (q := 5) (v := 2) dX6_takesNumber_4 rfl rfl ?_
  refine s_icmp_ne (q := 8) (tgt := 29) dX6_takesNumber_5 rfl rfl (fun hb1 => ?_) (fun hb1 => ?_)
  · rw [if_neg hb1] at h
    exact t_sub [0] rfl (T_X6_takesNumber_51_29 E  h)
  · rw [if_pos hb1] at h
    refine s_aload_n (q := 9) dX6_takesNumber_8 rfl rfl 0 rfl ?_
    refine t_getL (q := 12) (k := 51) (f := 11) (v := S.2) dX6_takesNumber_9 rfl rfl rfl rfl inX6 (Nat.le_of_ble_eq_true rfl) fX6_208 rfl ?_
    refine s_l2i (q := 13) dX6_takesNumber_12 rfl ?_
    refine s_iload_n (q := 14) dX6_takesNumber_13 rfl rfl 1 rfl ?_
    refine s_iload_n (q := 15) dX6_takesNumber_14 rfl rfl 2 rfl ?_
    obtain ⟨q4, hc4, h⟩ := bnd h
    try dsimp only at h
    refine t_callS (q := 18) (N := mX6_in1) [.int (S.2.toInt32), .int x1, .int x2] dX6_takesNumber_15 rfl nkX6_in1 sX6_in1 lX6_54 ⟨Nat.le_of_ble_eq_true rfl, Nat.le_of_ble_eq_true rfl⟩ rfl rfl (Nat.le_of_ble_eq_true rfl) (Nat.le_of_ble_eq_true rfl) (T_X6_in1 E _ _ _ hc4) ?_
    refine s_if_eq (q := 21) (tgt := 29) dX6_takesNumber_18 rfl rfl (fun hb5 => ?_) (fun hb5 => ?_)
    · rw [if_pos hb5] at h
      exact t_sub [0] rfl (T_X6_takesNumber_51_29 E  h)
    · rw [if_neg hb5] at h
      refine s_aload_n (q := 22) dX6_takesNumber_21 rfl rfl 0 rfl ?_
      refine t_getL (q := 25) (k := 51) (f := 11) (v := q4.2.2) dX6_takesNumber_22 rfl rfl rfl rfl inX6 (Nat.le_of_ble_eq_true rfl) fX6_208 rfl ?_
      refine s_l2i (q := 26) dX6_takesNumber_25 rfl ?_
      refine s_goto (tgt := 30) dX6_takesNumber_26 rfl ?_
      exact t_sub [0] rfl (T_X6_takesNumber_51_30 E _ h)
-- X6_wordOf
def G_X6_wordOf_51_60_27 : Nat → Int32 → Int32 → Int64 → Int32 → ST → Option (Int32 × Int32 × Int64 × ST)
  | 0, _, _, _, _, _ => none
  | n + 1, x2, x3, x4, x6, S => (if (8 : Int32) ≤ x6 then some (x2, x3, x4, S) else (if inB ((8 * x3) + x6) 16 = true then (if (S.1 60 (((8 * x3) + x6).toNatClampNeg)) = 32 then G_X6_wordOf_51_60_27 n x2 x3 x4 (x6 + 1) S else (if inB ((8 * x3) + x6) 16 = true then G_X6_wordOf_51_60_27 n x2 x3 (((x4 * 27) + ((S.1 60 (((8 * x3) + x6).toNatClampNeg)).toInt64)) - 96) (x6 + 1) S else none)) else none))
set_option maxHeartbeats 4000000 in
set_option maxRecDepth 100000 in
theorem T_X6_wordOf_51_60_27 (E : EV) : ∀ (n : Nat) (x2 : Int32) (x3 : Int32) (x4 : Int64) (x6 : Int32) (S : ST), ∀ (w : (Int32 × Int32 × Int64 × ST)), G_X6_wordOf_51_60_27 n x2 x3 x4 x6 S = some w → ∀ {Q : Option Value → ST → Prop}, SS E mX6_wordOf 82 [(0, .ref (eB E + 51)), (1, .ref (eB E + 60)), (2, .int w.1), (3, .int w.2.1), (4, .long w.2.2.1)] [] w.2.2.2 Q → SS E mX6_wordOf 27 [(0, .ref (eB E + 51)), (1, .ref (eB E + 60)), (2, .int x2), (3, .int x3), (4, .long x4), (6, .int x6)] [] S Q := by
  intro n
  induction n with
  | zero =>
    intro x2 x3 x4 x6 S w h
    cases h
  | succ n ih =>
    intro x2 x3 x4 x6 S w h Q K
    unfold G_X6_wordOf_51_60_27 at h
    refine s_iload (q := 29) dX6_wordOf_27 rfl 5 rfl ?_
    refine s_bipush (q := 31) (v := 8) dX6_wordOf_29 rfl rfl ?_
    refine s_icmp_ge (q := 34) (tgt := 82) dX6_wordOf_31 rfl rfl (fun hb3 => ?_) (fun hb3 => ?_)
    · rw [if_pos hb3] at h
      obtain rfl := Option.some.inj h
      exact t_sub [0, 1, 2, 3, 4] rfl K
    · rw [if_neg hb3] at h
      refine s_aload_n (q := 35) dX6_wordOf_34 rfl rfl 1 rfl ?_
      refine s_bipush (q := 37) (v := 8) dX6_wordOf_35 rfl rfl ?_
      refine s_iload_n (q := 38) dX6_wordOf_37 rfl rfl 3 rfl ?_
      refine s_imul (q := 39) dX6_wordOf_38 rfl ?_
      refine s_iload (q := 41) dX6_wordOf_39 rfl 5 rfl ?_
      refine s_iadd (q := 42) dX6_wordOf_41 rfl ?_
      obtain ⟨hg4, h⟩ := chk_some h
      refine u_cald (q := 43) (k := 60) (v := (S.1 60 (((8 * x3) + x6).toNatClampNeg))) dX6_wordOf_42 rfl rfl (inB_in hg4) rfl rfl ?_
      refine s_bipush (q := 45) (v := 32) dX6_wordOf_43 rfl rfl ?_
      refine s_icmp_ne (q := 48) (tgt := 53) dX6_wordOf_45 rfl rfl (fun hb5 => ?_) (fun hb5 => ?_)
      · rw [if_neg hb5] at h
        refine s_lload (q := 55) dX6_wordOf_53 rfl 4 rfl ?_
        refine s_ldc2 (q := 58) (v := 27) dX6_wordOf_55 rfl kX6_220 ?_
        refine s_lmul (q := 59) dX6_wordOf_58 rfl ?_
        refine s_aload_n (q := 60) dX6_wordOf_59 rfl rfl 1 rfl ?_
        refine s_bipush (q := 62) (v := 8) dX6_wordOf_60 rfl rfl ?_
        refine s_iload_n (q := 63) dX6_wordOf_62 rfl rfl 3 rfl ?_
        refine s_imul (q := 64) dX6_wordOf_63 rfl ?_
        refine s_iload (q := 66) dX6_wordOf_64 rfl 5 rfl ?_
        refine s_iadd (q := 67) dX6_wordOf_66 rfl ?_
        obtain ⟨hg6, h⟩ := chk_some h
        refine u_cald (q := 68) (k := 60) (v := (S.1 60 (((8 * x3) + x6).toNatClampNeg))) dX6_wordOf_67 rfl rfl (inB_in hg6) rfl rfl ?_
        refine s_i2l (q := 69) dX6_wordOf_68 rfl ?_
        refine s_ladd (q := 70) dX6_wordOf_69 rfl ?_
        refine s_ldc2 (q := 73) (v := 96) dX6_wordOf_70 rfl kX6_222 ?_
        refine s_lsub (q := 74) dX6_wordOf_73 rfl ?_
        refine s_lstore (q := 76) (lv' := [(4, .long (((x4 * 27) + ((S.1 60 (((8 * x3) + x6).toNatClampNeg)).toInt64)) - 96)), (0, .ref (eB E + 51)), (1, .ref (eB E + 60)), (2, .int x2), (3, .int x3), (6, .int x6)]) dX6_wordOf_74 rfl (Nat.le_of_ble_eq_true rfl) rfl ?_
        refine s_iinc (q := 79) (j := 5) (v := (x6 + 1)) (lv' := [(6, .int (x6 + 1)), (4, .long (((x4 * 27) + ((S.1 60 (((8 * x3) + x6).toNatClampNeg)).toInt64)) - 96)), (0, .ref (eB E + 51)), (1, .ref (eB E + 60)), (2, .int x2), (3, .int x3)]) dX6_wordOf_76 rfl rfl rfl (Nat.le_of_ble_eq_true rfl) rfl ?_
        refine s_goto (tgt := 27) dX6_wordOf_79 rfl ?_
        exact t_sub [2, 3, 4, 5, 1, 0] rfl (ih _ _ _ _ _ _ h K)
      · rw [if_pos hb5] at h
        refine s_lload (q := 50) dX6_wordOf_48 rfl 4 rfl ?_
        refine s_goto (tgt := 74) dX6_wordOf_50 rfl ?_
        refine s_lstore (q := 76) (lv' := [(4, .long x4), (0, .ref (eB E + 51)), (1, .ref (eB E + 60)), (2, .int x2), (3, .int x3), (6, .int x6)]) dX6_wordOf_74 rfl (Nat.le_of_ble_eq_true rfl) rfl ?_
        refine s_iinc (q := 79) (j := 5) (v := (x6 + 1)) (lv' := [(6, .int (x6 + 1)), (4, .long x4), (0, .ref (eB E + 51)), (1, .ref (eB E + 60)), (2, .int x2), (3, .int x3)]) dX6_wordOf_76 rfl rfl rfl (Nat.le_of_ble_eq_true rfl) rfl ?_
        refine s_goto (tgt := 27) dX6_wordOf_79 rfl ?_
        exact t_sub [2, 3, 4, 5, 1, 0] rfl (ih _ _ _ _ _ _ h K)
def G_X6_wordOf_51_60_4 : Nat → Int32 → Int32 → ST → Option (Int32 × ST)
  | 0, _, _, _ => none
  | n + 1, x2, x3, S => (if (16 / 8) ≤ x3 then some (x2, S) else (if (S.1 51 8) = 1 then (G_X6_wordOf_51_60_27 3000 x2 x3 0 0 S).bind fun q7 => (if (lg_cmp q7.2.2.1 q7.2.2.2.2) = 0 then G_X6_wordOf_51_60_4 n q7.2.1 (q7.2.1 + 1) q7.2.2.2 else G_X6_wordOf_51_60_4 n q7.1 (q7.2.1 + 1) q7.2.2.2) else some (x2, S)))
set_option maxHeartbeats 4000000 in
set_option maxRecDepth 100000 in
theorem T_X6_wordOf_51_60_4 (E : EV) : ∀ (n : Nat) (x2 : Int32) (x3 : Int32) (S : ST), ∀ (w : (Int32 × ST)), G_X6_wordOf_51_60_4 n x2 x3 S = some w → ∀ {Q : Option Value → ST → Prop}, SS E mX6_wordOf 104 [(2, .int w.1)] [] w.2 Q → SS E mX6_wordOf 4 [(0, .ref (eB E + 51)), (1, .ref (eB E + 60)), (2, .int x2), (3, .int x3)] [] S Q := by
  intro n
  induction n with
  | zero =>
    intro x2 x3 S w h
    cases h
  | succ n ih =>
    intro x2 x3 S w h Q K
    unfold G_X6_wordOf_51_60_4 at h
    refine s_iload_n (q := 5) dX6_wordOf_4 rfl rfl 3 rfl ?_
    refine s_aload_n (q := 6) dX6_wordOf_5 rfl rfl 1 rfl ?_
    refine t_alen (q := 7) (k := 60) (v := 16) dX6_wordOf_6 rfl rfl (by decide) rfl ?_
    refine s_bipush (q := 9) (v := 8) dX6_wordOf_7 rfl rfl ?_
    refine s_idiv (q := 10) dX6_wordOf_9 rfl (by decide) ?_
    refine s_icmp_ge (q := 13) (tgt := 104) dX6_wordOf_10 rfl rfl (fun hb1 => ?_) (fun hb1 => ?_)
    · rw [if_pos hb1] at h
      obtain rfl := Option.some.inj h
      exact t_sub [2] rfl K
    · rw [if_neg hb1] at h
      refine s_aload_n (q := 14) dX6_wordOf_13 rfl rfl 0 rfl ?_
      refine t_getI (q := 17) (k := 51) (f := 8) (v := (S.1 51 8)) dX6_wordOf_14 rfl rfl rfl rfl inX6 (Nat.le_of_ble_eq_true rfl) fX6_212 rfl ?_
      refine s_iconst (q := 18) (v := 1) dX6_wordOf_17 rfl rfl ?_
      refine s_icmp_ne (q := 21) (tgt := 104) dX6_wordOf_18 rfl rfl (fun hb2 => ?_) (fun hb2 => ?_)
      · rw [if_neg hb2] at h
        obtain rfl := Option.some.inj h
        exact t_sub [2] rfl K
      · rw [if_pos hb2] at h
        refine s_lconst (q := 22) (v := 0) dX6_wordOf_21 rfl rfl ?_
        refine s_lstore (q := 24) (lv' := [(4, .long 0), (0, .ref (eB E + 51)), (1, .ref (eB E + 60)), (2, .int x2), (3, .int x3)]) dX6_wordOf_22 rfl (Nat.le_of_ble_eq_true rfl) rfl ?_
        refine s_iconst (q := 25) (v := 0) dX6_wordOf_24 rfl rfl ?_
        refine s_istore (q := 27) (lv' := [(6, .int 0), (4, .long 0), (0, .ref (eB E + 51)), (1, .ref (eB E + 60)), (2, .int x2), (3, .int x3)]) dX6_wordOf_25 rfl (Nat.le_of_ble_eq_true rfl) rfl ?_
        obtain ⟨q7, hc7, h⟩ := bnd h
        try dsimp only at h
        refine t_sub [2, 3, 4, 5, 1, 0] rfl (T_X6_wordOf_51_60_27 E _ _ _ _ _ _ _ hc7 ?_)
        refine s_lload (q := 84) dX6_wordOf_82 rfl 4 rfl ?_
        refine s_aload_n (q := 85) dX6_wordOf_84 rfl rfl 0 rfl ?_
        refine t_getL (q := 88) (k := 51) (f := 11) (v := q7.2.2.2.2) dX6_wordOf_85 rfl rfl rfl rfl inX6 (Nat.le_of_ble_eq_true rfl) fX6_208 rfl ?_
        refine s_lcmp (q := 89) dX6_wordOf_88 rfl ?_
        refine s_if_ne (q := 92) (tgt := 96) dX6_wordOf_89 rfl rfl (fun hb8 => ?_) (fun hb8 => ?_)
        · rw [if_neg hb8] at h
          refine s_iload_n (q := 97) dX6_wordOf_96 rfl rfl 2 rfl ?_
          refine s_istore_n (q := 98) (lv' := [(2, .int q7.1), (0, .ref (eB E + 51)), (1, .ref (eB E + 60)), (3, .int q7.2.1), (4, .long q7.2.2.1)]) dX6_wordOf_97 rfl rfl (Nat.le_of_ble_eq_true rfl) rfl ?_
          refine s_iinc (q := 101) (j := 3) (v := (q7.2.1 + 1)) (lv' := [(3, .int (q7.2.1 + 1)), (2, .int q7.1), (0, .ref (eB E + 51)), (1, .ref (eB E + 60)), (4, .long q7.2.2.1)]) dX6_wordOf_98 rfl rfl rfl (Nat.le_of_ble_eq_true rfl) rfl ?_
          refine s_goto (tgt := 4) dX6_wordOf_101 rfl ?_
          exact t_sub [2, 3, 1, 0] rfl (ih _ _ _ _ h K)
        · rw [if_pos hb8] at h
          refine s_iload_n (q := 93) dX6_wordOf_92 rfl rfl 3 rfl ?_
          refine s_goto (tgt := 97) dX6_wordOf_93 rfl ?_
          refine s_istore_n (q := 98) (lv' := [(2, .int q7.2.1), (0, .ref (eB E + 51)), (1, .ref (eB E + 60)), (3, .int q7.2.1), (4, .long q7.2.2.1)]) dX6_wordOf_97 rfl rfl (Nat.le_of_ble_eq_true rfl) rfl ?_
          refine s_iinc (q := 101) (j := 3) (v := (q7.2.1 + 1)) (lv' := [(3, .int (q7.2.1 + 1)), (2, .int q7.2.1), (0, .ref (eB E + 51)), (1, .ref (eB E + 60)), (4, .long q7.2.2.1)]) dX6_wordOf_98 rfl rfl rfl (Nat.le_of_ble_eq_true rfl) rfl ?_
          refine s_goto (tgt := 4) dX6_wordOf_101 rfl ?_
          exact t_sub [2, 3, 1, 0] rfl (ih _ _ _ _ h K)
def G_X6_wordOf_51_60  (S : ST) : Option (Int32 × ST) := (G_X6_wordOf_51_60_4 3000 (-1) 0 S).bind fun q9 => some (q9.1, q9.2)
set_option maxHeartbeats 4000000 in
set_option maxRecDepth 100000 in
theorem T_X6_wordOf_51_60 (E : EV)  {S : ST} {w : (Int32 × ST)} (h : G_X6_wordOf_51_60  S = some w) : SD E mX6_wordOf 0 [(0, .ref (eB E + 51)), (1, .ref (eB E + 60))] [] S (some (.int w.1)) w.2 := by
  unfold G_X6_wordOf_51_60 at h
  refine s_iconst (q := 1) (v := (-1)) dX6_wordOf_0 rfl rfl ?_
  refine s_istore_n (q := 2) (lv' := [(2, .int (-1)), (0, .ref (eB E + 51)), (1, .ref (eB E + 60))]) dX6_wordOf_1 rfl rfl (Nat.le_of_ble_eq_true rfl) rfl ?_
  refine s_iconst (q := 3) (v := 0) dX6_wordOf_2 rfl rfl ?_
  refine s_istore_n (q := 4) (lv' := [(3, .int 0), (2, .int (-1)), (0, .ref (eB E + 51)), (1, .ref (eB E + 60))]) dX6_wordOf_3 rfl rfl (Nat.le_of_ble_eq_true rfl) rfl ?_
  obtain ⟨q9, hc9, h⟩ := bnd h
  try dsimp only at h
  refine t_sub [2, 3, 1, 0] rfl (T_X6_wordOf_51_60_4 E _ _ _ _ _ hc9 ?_)
  refine s_iload_n (q := 105) dX6_wordOf_104 rfl rfl 0 rfl ?_
  obtain rfl := Option.some.inj h
  exact t_iret dX6_wordOf_105 rfl rfl
-- X6_readsCrew
def G_X6_readsCrew_51_15 : Nat → Int32 → Int32 → ST → Option (Int32 × ST)
  | 0, _, _, _ => none
  | n + 1, x1, x2, S => (if (2 : Int32) ≤ x2 then some (1, S) else ((G_X6_wordOf_51_60  S).bind fun q4 => (if q4.1 = x2 then ((G_X6_nextToken_51  q4.2).bind fun q6 => (if x2 = 0 then ((G_X6_takesNumber_51 0 99 q6.2).bind fun q11 => (if (0 : Int32) ≤ q11.1 then (if inB ((8 + (2 * x1)) + x2) 72 = true then G_X6_readsCrew_51_15 n x1 (x2 + 1) (wr q11.2 52 (((8 + (2 * x1)) + x2).toNatClampNeg) q11.1) else none) else some (0, q11.2))) else ((G_X6_takesNumber_51 0 999 q6.2).bind fun q8 => (if (0 : Int32) ≤ q8.1 then (if inB ((8 + (2 * x1)) + x2) 72 = true then G_X6_readsCrew_51_15 n x1 (x2 + 1) (wr q8.2 52 (((8 + (2 * x1)) + x2).toNatClampNeg) q8.1) else none) else some (0, q8.2))))) else G_X6_readsCrew_51_15 n x1 (x2 + 1) q4.2)))
set_option maxHeartbeats 4000000 in
set_option maxRecDepth 100000 in
theorem T_X6_readsCrew_51_15 (E : EV) : ∀ (n : Nat) (x1 : Int32) (x2 : Int32) (S : ST) (w : (Int32 × ST)), G_X6_readsCrew_51_15 n x1 x2 S = some w → SD E mX6_readsCrew 15 [(0, .ref (eB E + 51)), (1, .int x1), (2, .int x2)] [] S (some (.int w.1)) w.2 := by
  intro n
  induction n with
  | zero =>
    intro x1 x2 S w h
    cases h
  | succ n ih =>
    intro x1 x2 S w h
    unfold G_X6_readsCrew_51_15 at h
    refine s_iload_n (q := 16) dX6_readsCrew_15 rfl rfl 2 rfl ?_
    refine s_iconst (q := 17) (v := 2) dX6_readsCrew_16 rfl rfl ?_
    refine s_icmp_ge (q := 20) (tgt := 80) dX6_readsCrew_17 rfl rfl (fun hb3 => ?_) (fun hb3 => ?_)
    · rw [if_pos hb3] at h
      refine s_iconst (q := 81) (v := 1) dX6_readsCrew_80 rfl rfl ?_
      obtain rfl := Option.some.inj h
      exact t_zret dX6_readsCrew_81 rfl rfl rfl
    · rw [if_neg hb3] at h
      refine s_aload_n (q := 21) dX6_readsCrew_20 rfl rfl 0 rfl ?_
      refine s_aload_n (q := 22) dX6_readsCrew_21 rfl rfl 0 rfl ?_
      refine t_getR (q := 25) (k := 51) (f := 14) (t := 60) dX6_readsCrew_22 rfl rfl rfl rfl inX6 (Nat.le_of_ble_eq_true rfl) fX6_35 ?_
      obtain ⟨q4, hc4, h⟩ := bnd h
      try dsimp only at h
      refine t_callV (q := 28) (N := mX6_wordOf) (a := eB E + 51) [.ref (eB E + 60)] dX6_readsCrew_25 rfl nkX6_wordOf vkX6_wordOf lX6_236 ⟨Nat.le_of_ble_eq_true rfl, Nat.le_of_ble_eq_true rfl⟩ (rc_obj (k := 51) rfl rfl) rfl rfl (Nat.le_of_ble_eq_true rfl) (Nat.le_of_ble_eq_true rfl) (T_X6_wordOf_51_60 E  hc4) ?_
      refine s_iload_n (q := 29) dX6_readsCrew_28 rfl rfl 2 rfl ?_
      refine s_icmp_ne (q := 32) (tgt := 74) dX6_readsCrew_29 rfl rfl (fun hb5 => ?_) (fun hb5 => ?_)
      · rw [if_neg hb5] at h
        refine s_iinc (q := 77) (j := 2) (v := (x2 + 1)) (lv' := [(2, .int (x2 + 1)), (0, .ref (eB E + 51)), (1, .int x1)]) dX6_readsCrew_74 rfl rfl rfl (Nat.le_of_ble_eq_true rfl) rfl ?_
        refine s_goto (tgt := 15) dX6_readsCrew_77 rfl ?_
        exact t_sub [1, 2, 0] rfl (ih _ _ _ _ h)
      · rw [if_pos hb5] at h
        refine s_aload_n (q := 33) dX6_readsCrew_32 rfl rfl 0 rfl ?_
        obtain ⟨q6, hc6, h⟩ := bnd h
        try dsimp only at h
        refine t_callV (q := 36) (N := mX6_nextToken) (a := eB E + 51) [] dX6_readsCrew_33 rfl nkX6_nextToken vkX6_nextToken lX6_233 ⟨Nat.le_of_ble_eq_true rfl, Nat.le_of_ble_eq_true rfl⟩ (rc_obj (k := 51) rfl rfl) rfl rfl (Nat.le_of_ble_eq_true rfl) (Nat.le_of_ble_eq_true rfl) (T_X6_nextToken_51 E  hc6) ?_
        refine s_aload_n (q := 37) dX6_readsCrew_36 rfl rfl 0 rfl ?_
        refine s_iconst (q := 38) (v := 0) dX6_readsCrew_37 rfl rfl ?_
        refine s_iload_n (q := 39) dX6_readsCrew_38 rfl rfl 2 rfl ?_
        refine s_if_ne (q := 42) (tgt := 47) dX6_readsCrew_39 rfl rfl (fun hb7 => ?_) (fun hb7 => ?_)
        · rw [if_neg hb7] at h
          refine s_sipush (q := 50) (v := 999) dX6_readsCrew_47 rfl rfl ?_
          obtain ⟨q8, hc8, h⟩ := bnd h
          try dsimp only at h
          refine t_callV (q := 53) (N := mX6_takesNumber) (a := eB E + 51) [.int 0, .int 999] dX6_readsCrew_50 rfl nkX6_takesNumber vkX6_takesNumber lX6_240 ⟨Nat.le_of_ble_eq_true rfl, Nat.le_of_ble_eq_true rfl⟩ (rc_obj (k := 51) rfl rfl) rfl rfl (Nat.le_of_ble_eq_true rfl) (Nat.le_of_ble_eq_true rfl) (T_X6_takesNumber_51 E _ _ hc8) ?_
          refine s_istore_n (q := 54) (lv' := [(3, .int q8.1), (0, .ref (eB E + 51)), (1, .int x1), (2, .int x2)]) dX6_readsCrew_53 rfl rfl (Nat.le_of_ble_eq_true rfl) rfl ?_
          refine s_iload_n (q := 55) dX6_readsCrew_54 rfl rfl 0 rfl ?_
          refine s_if_ge (q := 58) (tgt := 60) dX6_readsCrew_55 rfl rfl (fun hb9 => ?_) (fun hb9 => ?_)
          · rw [if_pos hb9] at h
            refine s_aload_n (q := 61) dX6_readsCrew_60 rfl rfl 1 rfl ?_
            refine t_getR (q := 64) (k := 51) (f := 0) (t := 52) dX6_readsCrew_61 rfl rfl rfl rfl inX6 (Nat.le_of_ble_eq_true rfl) fX6_9 ?_
            refine s_bipush (q := 66) (v := 8) dX6_readsCrew_64 rfl rfl ?_
            refine s_iconst (q := 67) (v := 2) dX6_readsCrew_66 rfl rfl ?_
            refine s_iload_n (q := 68) dX6_readsCrew_67 rfl rfl 2 rfl ?_
            refine s_imul (q := 69) dX6_readsCrew_68 rfl ?_
            refine s_iadd (q := 70) dX6_readsCrew_69 rfl ?_
            refine s_iload_n (q := 71) dX6_readsCrew_70 rfl rfl 3 rfl ?_
            refine s_iadd (q := 72) dX6_readsCrew_71 rfl ?_
            refine s_iload_n (q := 73) dX6_readsCrew_72 rfl rfl 0 rfl ?_
            obtain ⟨hg10, h⟩ := chk_some h
            refine u_iast (q := 74) (k := 52) dX6_readsCrew_73 rfl rfl (inB_in hg10) rfl ?_
            refine s_iinc (q := 77) (j := 3) (v := (x2 + 1)) (lv' := [(2, .int (x2 + 1)), (3, .int q8.1), (0, .ref (eB E + 51)), (1, .int x1)]) dX6_readsCrew_74 rfl rfl rfl (Nat.le_of_ble_eq_true rfl) rfl ?_
            refine s_goto (tgt := 15) dX6_readsCrew_77 rfl ?_
            exact t_sub [2, 3, 0] rfl (ih _ _ _ _ h)
          · rw [if_neg hb9] at h
            refine s_iconst (q := 59) (v := 0) dX6_readsCrew_58 rfl rfl ?_
            obtain rfl := Option.some.inj h
            exact t_zret dX6_readsCrew_59 rfl rfl rfl
        · rw [if_pos hb7] at h
          refine s_bipush (q := 44) (v := 99) dX6_readsCrew_42 rfl rfl ?_
          refine s_goto (tgt := 50) dX6_readsCrew_44 rfl ?_
          obtain ⟨q11, hc11, h⟩ := bnd h
          try dsimp only at h
          refine t_callV (q := 53) (N := mX6_takesNumber) (a := eB E + 51) [.int 0, .int 99] dX6_readsCrew_50 rfl nkX6_takesNumber vkX6_takesNumber lX6_240 ⟨Nat.le_of_ble_eq_true rfl, Nat.le_of_ble_eq_true rfl⟩ (rc_obj (k := 51) rfl rfl) rfl rfl (Nat.le_of_ble_eq_true rfl) (Nat.le_of_ble_eq_true rfl) (T_X6_takesNumber_51 E _ _ hc11) ?_
          refine s_istore_n (q := 54) (lv' := [(3, .int q11.1), (0, .ref (eB E + 51)), (1, .int x1), (2, .int x2)]) dX6_readsCrew_53 rfl rfl (Nat.le_of_ble_eq_true rfl) rfl ?_
          refine s_iload_n (q := 55) dX6_readsCrew_54 rfl rfl 0 rfl ?_
          refine s_if_ge (q := 58) (tgt := 60) dX6_readsCrew_55 rfl rfl (fun hb12 => ?_) (fun hb12 => ?_)
          · rw [if_pos hb12] at h
            refine s_aload_n (q := 61) dX6_readsCrew_60 rfl rfl 1 rfl ?_
            refine t_getR (q := 64) (k := 51) (f := 0) (t := 52) dX6_readsCrew_61 rfl rfl rfl rfl inX6 (Nat.le_of_ble_eq_true rfl) fX6_9 ?_
            refine s_bipush (q := 66) (v := 8) dX6_readsCrew_64 rfl rfl ?_
            refine s_iconst (q := 67) (v := 2) dX6_readsCrew_66 rfl rfl ?_
            refine s_iload_n (q := 68) dX6_readsCrew_67 rfl rfl 2 rfl ?_
            refine s_imul (q := 69) dX6_readsCrew_68 rfl ?_
            refine s_iadd (q := 70) dX6_readsCrew_69 rfl ?_
            refine s_iload_n (q := 71) dX6_readsCrew_70 rfl rfl 3 rfl ?_
            refine s_iadd (q := 72) dX6_readsCrew_71 rfl ?_
            refine s_iload_n (q := 73) dX6_readsCrew_72 rfl rfl 0 rfl ?_
            obtain ⟨hg13, h⟩ := chk_some h
            refine u_iast (q := 74) (k := 52) dX6_readsCrew_73 rfl rfl (inB_in hg13) rfl ?_
            refine s_iinc (q := 77) (j := 3) (v := (x2 + 1)) (lv' := [(2, .int (x2 + 1)), (3, .int q11.1), (0, .ref (eB E + 51)), (1, .int x1)]) dX6_readsCrew_74 rfl rfl rfl (Nat.le_of_ble_eq_true rfl) rfl ?_
            refine s_goto (tgt := 15) dX6_readsCrew_77 rfl ?_
            exact t_sub [2, 3, 0] rfl (ih _ _ _ _ h)
          · rw [if_neg hb12] at h
            refine s_iconst (q := 59) (v := 0) dX6_readsCrew_58 rfl rfl ?_
            obtain rfl := Option.some.inj h
            exact t_zret dX6_readsCrew_59 rfl rfl rfl
def G_X6_readsCrew_51  (S : ST) : Option (Int32 × ST) := ((G_X6_takesNumber_51 0 3 S).bind fun q1 => (if (0 : Int32) ≤ q1.1 then G_X6_readsCrew_51_15 3000 q1.1 0 q1.2 else some (0, q1.2)))
set_option maxHeartbeats 4000000 in
set_option maxRecDepth 100000 in
theorem T_X6_readsCrew_51 (E : EV)  {S : ST} {w : (Int32 × ST)} (h : G_X6_readsCrew_51  S = some w) : SD E mX6_readsCrew 0 [(0, .ref (eB E + 51))] [] S (some (.int w.1)) w.2 := by
  unfold G_X6_readsCrew_51 at h
  refine s_aload_n (q := 1) dX6_readsCrew_0 rfl rfl 0 rfl ?_
  refine s_iconst (q := 2) (v := 0) dX6_readsCrew_1 rfl rfl ?_
  refine s_iconst (q := 3) (v := 3) dX6_readsCrew_2 rfl rfl ?_
  obtain ⟨q1, hc1, h⟩ := bnd h
  try dsimp only at h
  refine t_callV (q := 6) (N := mX6_takesNumber) (a := eB E + 51) [.int 0, .int 3] dX6_readsCrew_3 rfl nkX6_takesNumber vkX6_takesNumber lX6_240 ⟨Nat.le_of_ble_eq_true rfl, Nat.le_of_ble_eq_true rfl⟩ (rc_obj (k := 51) rfl rfl) rfl rfl (Nat.le_of_ble_eq_true rfl) (Nat.le_of_ble_eq_true rfl) (T_X6_takesNumber_51 E _ _ hc1) ?_
  refine s_istore_n (q := 7) (lv' := [(1, .int q1.1), (0, .ref (eB E + 51))]) dX6_readsCrew_6 rfl rfl (Nat.le_of_ble_eq_true rfl) rfl ?_
  refine s_iload_n (q := 8) dX6_readsCrew_7 rfl rfl 0 rfl ?_
  refine s_if_ge (q := 11) (tgt := 13) dX6_readsCrew_8 rfl rfl (fun hb2 => ?_) (fun hb2 => ?_)
  · rw [if_pos hb2] at h
    refine s_iconst (q := 14) (v := 0) dX6_readsCrew_13 rfl rfl ?_
    refine s_istore_n (q := 15) (lv' := [(2, .int 0), (1, .int q1.1), (0, .ref (eB E + 51))]) dX6_readsCrew_14 rfl rfl (Nat.le_of_ble_eq_true rfl) rfl ?_
    exact t_sub [2, 1, 0] rfl (T_X6_readsCrew_51_15 E _ _ _ _ _ h)
  · rw [if_neg hb2] at h
    refine s_iconst (q := 12) (v := 0) dX6_readsCrew_11 rfl rfl ?_
    obtain rfl := Option.some.inj h
    exact t_zret dX6_readsCrew_12 rfl rfl rfl
-- X6_wordOf
def G_X6_wordOf_51_59_27 : Nat → Int32 → Int32 → Int64 → Int32 → ST → Option (Int32 × Int32 × Int64 × ST)
  | 0, _, _, _, _, _ => none
  | n + 1, x2, x3, x4, x6, S => (if (8 : Int32) ≤ x6 then some (x2, x3, x4, S) else (if inB ((8 * x3) + x6) 24 = true then (if (S.1 59 (((8 * x3) + x6).toNatClampNeg)) = 32 then G_X6_wordOf_51_59_27 n x2 x3 x4 (x6 + 1) S else (if inB ((8 * x3) + x6) 24 = true then G_X6_wordOf_51_59_27 n x2 x3 (((x4 * 27) + ((S.1 59 (((8 * x3) + x6).toNatClampNeg)).toInt64)) - 96) (x6 + 1) S else none)) else none))
set_option maxHeartbeats 4000000 in
set_option maxRecDepth 100000 in
theorem T_X6_wordOf_51_59_27 (E : EV) : ∀ (n : Nat) (x2 : Int32) (x3 : Int32) (x4 : Int64) (x6 : Int32) (S : ST), ∀ (w : (Int32 × Int32 × Int64 × ST)), G_X6_wordOf_51_59_27 n x2 x3 x4 x6 S = some w → ∀ {Q : Option Value → ST → Prop}, SS E mX6_wordOf 82 [(0, .ref (eB E + 51)), (1, .ref (eB E + 59)), (2, .int w.1), (3, .int w.2.1), (4, .long w.2.2.1)] [] w.2.2.2 Q → SS E mX6_wordOf 27 [(0, .ref (eB E + 51)), (1, .ref (eB E + 59)), (2, .int x2), (3, .int x3), (4, .long x4), (6, .int x6)] [] S Q := by
  intro n
  induction n with
  | zero =>
    intro x2 x3 x4 x6 S w h
    cases h
  | succ n ih =>
    intro x2 x3 x4 x6 S w h Q K
    unfold G_X6_wordOf_51_59_27 at h
    refine s_iload (q := 29) dX6_wordOf_27 rfl 5 rfl ?_
    refine s_bipush (q := 31) (v := 8) dX6_wordOf_29 rfl rfl ?_
    refine s_icmp_ge (q := 34) (tgt := 82) dX6_wordOf_31 rfl rfl (fun hb3 => ?_) (fun hb3 => ?_)
    · rw [if_pos hb3] at h
      obtain rfl := Option.some.inj h
      exact t_sub [0, 1, 2, 3, 4] rfl K
    · rw [if_neg hb3] at h
      refine s_aload_n (q := 35) dX6_wordOf_34 rfl rfl 1 rfl ?_
      refine s_bipush (q := 37) (v := 8) dX6_wordOf_35 rfl rfl ?_
      refine s_iload_n (q := 38) dX6_wordOf_37 rfl rfl 3 rfl ?_
      refine s_imul (q := 39) dX6_wordOf_38 rfl ?_
      refine s_iload (q := 41) dX6_wordOf_39 rfl 5 rfl ?_
      refine s_iadd (q := 42) dX6_wordOf_41 rfl ?_
      obtain ⟨hg4, h⟩ := chk_some h
      refine u_cald (q := 43) (k := 59) (v := (S.1 59 (((8 * x3) + x6).toNatClampNeg))) dX6_wordOf_42 rfl rfl (inB_in hg4) rfl rfl ?_
      refine s_bipush (q := 45) (v := 32) dX6_wordOf_43 rfl rfl ?_
      refine s_icmp_ne (q := 48) (tgt := 53) dX6_wordOf_45 rfl rfl (fun hb5 => ?_) (fun hb5 => ?_)
      · rw [if_neg hb5] at h
        refine s_lload (q := 55) dX6_wordOf_53 rfl 4 rfl ?_
        refine s_ldc2 (q := 58) (v := 27) dX6_wordOf_55 rfl kX6_220 ?_
        refine s_lmul (q := 59) dX6_wordOf_58 rfl ?_
        refine s_aload_n (q := 60) dX6_wordOf_59 rfl rfl 1 rfl ?_
        refine s_bipush (q := 62) (v := 8) dX6_wordOf_60 rfl rfl ?_
        refine s_iload_n (q := 63) dX6_wordOf_62 rfl rfl 3 rfl ?_
        refine s_imul (q := 64) dX6_wordOf_63 rfl ?_
        refine s_iload (q := 66) dX6_wordOf_64 rfl 5 rfl ?_
        refine s_iadd (q := 67) dX6_wordOf_66 rfl ?_
        obtain ⟨hg6, h⟩ := chk_some h
        refine u_cald (q := 68) (k := 59) (v := (S.1 59 (((8 * x3) + x6).toNatClampNeg))) dX6_wordOf_67 rfl rfl (inB_in hg6) rfl rfl ?_
        refine s_i2l (q := 69) dX6_wordOf_68 rfl ?_
        refine s_ladd (q := 70) dX6_wordOf_69 rfl ?_
        refine s_ldc2 (q := 73) (v := 96) dX6_wordOf_70 rfl kX6_222 ?_
        refine s_lsub (q := 74) dX6_wordOf_73 rfl ?_
        refine s_lstore (q := 76) (lv' := [(4, .long (((x4 * 27) + ((S.1 59 (((8 * x3) + x6).toNatClampNeg)).toInt64)) - 96)), (0, .ref (eB E + 51)), (1, .ref (eB E + 59)), (2, .int x2), (3, .int x3), (6, .int x6)]) dX6_wordOf_74 rfl (Nat.le_of_ble_eq_true rfl) rfl ?_
        refine s_iinc (q := 79) (j := 5) (v := (x6 + 1)) (lv' := [(6, .int (x6 + 1)), (4, .long (((x4 * 27) + ((S.1 59 (((8 * x3) + x6).toNatClampNeg)).toInt64)) - 96)), (0, .ref (eB E + 51)), (1, .ref (eB E + 59)), (2, .int x2), (3, .int x3)]) dX6_wordOf_76 rfl rfl rfl (Nat.le_of_ble_eq_true rfl) rfl ?_
        refine s_goto (tgt := 27) dX6_wordOf_79 rfl ?_
        exact t_sub [2, 3, 4, 5, 1, 0] rfl (ih _ _ _ _ _ _ h K)
      · rw [if_pos hb5] at h
        refine s_lload (q := 50) dX6_wordOf_48 rfl 4 rfl ?_
        refine s_goto (tgt := 74) dX6_wordOf_50 rfl ?_
        refine s_lstore (q := 76) (lv' := [(4, .long x4), (0, .ref (eB E + 51)), (1, .ref (eB E + 59)), (2, .int x2), (3, .int x3), (6, .int x6)]) dX6_wordOf_74 rfl (Nat.le_of_ble_eq_true rfl) rfl ?_
        refine s_iinc (q := 79) (j := 5) (v := (x6 + 1)) (lv' := [(6, .int (x6 + 1)), (4, .long x4), (0, .ref (eB E + 51)), (1, .ref (eB E + 59)), (2, .int x2), (3, .int x3)]) dX6_wordOf_76 rfl rfl rfl (Nat.le_of_ble_eq_true rfl) rfl ?_
        refine s_goto (tgt := 27) dX6_wordOf_79 rfl ?_
        exact t_sub [2, 3, 4, 5, 1, 0] rfl (ih _ _ _ _ _ _ h K)
def G_X6_wordOf_51_59_4 : Nat → Int32 → Int32 → ST → Option (Int32 × ST)
  | 0, _, _, _ => none
  | n + 1, x2, x3, S => (if (24 / 8) ≤ x3 then some (x2, S) else (if (S.1 51 8) = 1 then (G_X6_wordOf_51_59_27 3000 x2 x3 0 0 S).bind fun q7 => (if (lg_cmp q7.2.2.1 q7.2.2.2.2) = 0 then G_X6_wordOf_51_59_4 n q7.2.1 (q7.2.1 + 1) q7.2.2.2 else G_X6_wordOf_51_59_4 n q7.1 (q7.2.1 + 1) q7.2.2.2) else some (x2, S)))
set_option maxHeartbeats 4000000 in
set_option maxRecDepth 100000 in
theorem T_X6_wordOf_51_59_4 (E : EV) : ∀ (n : Nat) (x2 : Int32) (x3 : Int32) (S : ST), ∀ (w : (Int32 × ST)), G_X6_wordOf_51_59_4 n x2 x3 S = some w → ∀ {Q : Option Value → ST → Prop}, SS E mX6_wordOf 104 [(2, .int w.1)] [] w.2 Q → SS E mX6_wordOf 4 [(0, .ref (eB E + 51)), (1, .ref (eB E + 59)), (2, .int x2), (3, .int x3)] [] S Q := by
  intro n
  induction n with
  | zero =>
    intro x2 x3 S w h
    cases h
  | succ n ih =>
    intro x2 x3 S w h Q K
    unfold G_X6_wordOf_51_59_4 at h
    refine s_iload_n (q := 5) dX6_wordOf_4 rfl rfl 3 rfl ?_
    refine s_aload_n (q := 6) dX6_wordOf_5 rfl rfl 1 rfl ?_
    refine t_alen (q := 7) (k := 59) (v := 24) dX6_wordOf_6 rfl rfl (by decide) rfl ?_
    refine s_bipush (q := 9) (v := 8) dX6_wordOf_7 rfl rfl ?_
    refine s_idiv (q := 10) dX6_wordOf_9 rfl (by decide) ?_
    refine s_icmp_ge (q := 13) (tgt := 104) dX6_wordOf_10 rfl rfl (fun hb1 => ?_) (fun hb1 => ?_)
    · rw [if_pos hb1] at h
      obtain rfl := Option.some.inj h
      exact t_sub [2] rfl K
    · rw [if_neg hb1] at h
      refine s_aload_n (q := 14) dX6_wordOf_13 rfl rfl 0 rfl ?_
      refine t_getI (q := 17) (k := 51) (f := 8) (v := (S.1 51 8)) dX6_wordOf_14 rfl rfl rfl rfl inX6 (Nat.le_of_ble_eq_true rfl) fX6_212 rfl ?_
      refine s_iconst (q := 18) (v := 1) dX6_wordOf_17 rfl rfl ?_
      refine s_icmp_ne (q := 21) (tgt := 104) dX6_wordOf_18 rfl rfl (fun hb2 => ?_) (fun hb2 => ?_)
      · rw [if_neg hb2] at h
        obtain rfl := Option.some.inj h
        exact t_sub [2] rfl K
      · rw [if_pos hb2] at h
        refine s_lconst (q := 22) (v := 0) dX6_wordOf_21 rfl rfl ?_
        refine s_lstore (q := 24) (lv' := [(4, .long 0), (0, .ref (eB E + 51)), (1, .ref (eB E + 59)), (2, .int x2), (3, .int x3)]) dX6_wordOf_22 rfl (Nat.le_of_ble_eq_true rfl) rfl ?_
        refine s_iconst (q := 25) (v := 0) dX6_wordOf_24 rfl rfl ?_
        refine s_istore (q := 27) (lv' := [(6, .int 0), (4, .long 0), (0, .ref (eB E + 51)), (1, .ref (eB E + 59)), (2, .int x2), (3, .int x3)]) dX6_wordOf_25 rfl (Nat.le_of_ble_eq_true rfl) rfl ?_
        obtain ⟨q7, hc7, h⟩ := bnd h
        try dsimp only at h
        refine t_sub [2, 3, 4, 5, 1, 0] rfl (T_X6_wordOf_51_59_27 E _ _ _ _ _ _ _ hc7 ?_)
        refine s_lload (q := 84) dX6_wordOf_82 rfl 4 rfl ?_
        refine s_aload_n (q := 85) dX6_wordOf_84 rfl rfl 0 rfl ?_
        refine t_getL (q := 88) (k := 51) (f := 11) (v := q7.2.2.2.2) dX6_wordOf_85 rfl rfl rfl rfl inX6 (Nat.le_of_ble_eq_true rfl) fX6_208 rfl ?_
        refine s_lcmp (q := 89) dX6_wordOf_88 rfl ?_
        refine s_if_ne (q := 92) (tgt := 96) dX6_wordOf_89 rfl rfl (fun hb8 => ?_) (fun hb8 => ?_)
        · rw [if_neg hb8] at h
          refine s_iload_n (q := 97) dX6_wordOf_96 rfl rfl 2 rfl ?_
          refine s_istore_n (q := 98) (lv' := [(2, .int q7.1), (0, .ref (eB E + 51)), (1, .ref (eB E + 59)), (3, .int q7.2.1), (4, .long q7.2.2.1)]) dX6_wordOf_97 rfl rfl (Nat.le_of_ble_eq_true rfl) rfl ?_
          refine s_iinc (q := 101) (j := 3) (v := (q7.2.1 + 1)) (lv' := [(3, .int (q7.2.1 + 1)), (2, .int q7.1), (0, .ref (eB E + 51)), (1, .ref (eB E + 59)), (4, .long q7.2.2.1)]) dX6_wordOf_98 rfl rfl rfl (Nat.le_of_ble_eq_true rfl) rfl ?_
          refine s_goto (tgt := 4) dX6_wordOf_101 rfl ?_
          exact t_sub [2, 3, 1, 0] rfl (ih _ _ _ _ h K)
        · rw [if_pos hb8] at h
          refine s_iload_n (q := 93) dX6_wordOf_92 rfl rfl 3 rfl ?_
          refine s_goto (tgt := 97) dX6_wordOf_93 rfl ?_
          refine s_istore_n (q := 98) (lv' := [(2, .int q7.2.1), (0, .ref (eB E + 51)), (1, .ref (eB E + 59)), (3, .int q7.2.1), (4, .long q7.2.2.1)]) dX6_wordOf_97 rfl rfl (Nat.le_of_ble_eq_true rfl) rfl ?_
          refine s_iinc (q := 101) (j := 3) (v := (q7.2.1 + 1)) (lv' := [(3, .int (q7.2.1 + 1)), (2, .int q7.2.1), (0, .ref (eB E + 51)), (1, .ref (eB E + 59)), (4, .long q7.2.2.1)]) dX6_wordOf_98 rfl rfl rfl (Nat.le_of_ble_eq_true rfl) rfl ?_
          refine s_goto (tgt := 4) dX6_wordOf_101 rfl ?_
          exact t_sub [2, 3, 1, 0] rfl (ih _ _ _ _ h K)
def G_X6_wordOf_51_59  (S : ST) : Option (Int32 × ST) := (G_X6_wordOf_51_59_4 3000 (-1) 0 S).bind fun q9 => some (q9.1, q9.2)
set_option maxHeartbeats 4000000 in
set_option maxRecDepth 100000 in
theorem T_X6_wordOf_51_59 (E : EV)  {S : ST} {w : (Int32 × ST)} (h : G_X6_wordOf_51_59  S = some w) : SD E mX6_wordOf 0 [(0, .ref (eB E + 51)), (1, .ref (eB E + 59))] [] S (some (.int w.1)) w.2 := by
  unfold G_X6_wordOf_51_59 at h
  refine s_iconst (q := 1) (v := (-1)) dX6_wordOf_0 rfl rfl ?_
  refine s_istore_n (q := 2) (lv' := [(2, .int (-1)), (0, .ref (eB E + 51)), (1, .ref (eB E + 59))]) dX6_wordOf_1 rfl rfl (Nat.le_of_ble_eq_true rfl) rfl ?_
  refine s_iconst (q := 3) (v := 0) dX6_wordOf_2 rfl rfl ?_
  refine s_istore_n (q := 4) (lv' := [(3, .int 0), (2, .int (-1)), (0, .ref (eB E + 51)), (1, .ref (eB E + 59))]) dX6_wordOf_3 rfl rfl (Nat.le_of_ble_eq_true rfl) rfl ?_
  obtain ⟨q9, hc9, h⟩ := bnd h
  try dsimp only at h
  refine t_sub [2, 3, 1, 0] rfl (T_X6_wordOf_51_59_4 E _ _ _ _ _ hc9 ?_)
  refine s_iload_n (q := 105) dX6_wordOf_104 rfl rfl 0 rfl ?_
  obtain rfl := Option.some.inj h
  exact t_iret dX6_wordOf_105 rfl rfl
-- X6_readsStar
def G_X6_readsStar_51_32 : Nat → Int32 → Int32 → ST → Option (Int32 × ST)
  | 0, _, _, _ => none
  | n + 1, x2, x3, S => (if (3 : Int32) ≤ x3 then some (1, S) else ((G_X6_wordOf_51_59  S).bind fun q5 => (if q5.1 = x3 then ((G_X6_nextToken_51  q5.2).bind fun q7 => ((G_X6_takesNumber_51 0 99 q7.2).bind fun q8 => (if (0 : Int32) ≤ q8.1 then ((G_X6_puts_51 x2 (1 + x3) q8.1 q8.2).bind fun q10 => G_X6_readsStar_51_32 n x2 (x3 + 1) q10.2) else some (0, q8.2)))) else G_X6_readsStar_51_32 n x2 (x3 + 1) q5.2)))
set_option maxHeartbeats 4000000 in
set_option maxRecDepth 100000 in
theorem T_X6_readsStar_51_32 (E : EV) : ∀ (n : Nat) (x2 : Int32) (x3 : Int32) (S : ST) (w : (Int32 × ST)), G_X6_readsStar_51_32 n x2 x3 S = some w → SD E mX6_readsStar 32 [(0, .ref (eB E + 51)), (2, .int x2), (3, .int x3)] [] S (some (.int w.1)) w.2 := by
  intro n
  induction n with
  | zero =>
    intro x2 x3 S w h
    cases h
  | succ n ih =>
    intro x2 x3 S w h
    unfold G_X6_readsStar_51_32 at h
    refine s_iload_n (q := 33) dX6_readsStar_32 rfl rfl 2 rfl ?_
    refine s_iconst (q := 34) (v := 3) dX6_readsStar_33 rfl rfl ?_
    refine s_icmp_ge (q := 37) (tgt := 85) dX6_readsStar_34 rfl rfl (fun hb4 => ?_) (fun hb4 => ?_)
    · rw [if_pos hb4] at h
      refine s_iconst (q := 86) (v := 1) dX6_readsStar_85 rfl rfl ?_
      obtain rfl := Option.some.inj h
      exact t_zret dX6_readsStar_86 rfl rfl rfl
    · rw [if_neg hb4] at h
      refine s_aload_n (q := 38) dX6_readsStar_37 rfl rfl 0 rfl ?_
      refine s_aload_n (q := 39) dX6_readsStar_38 rfl rfl 0 rfl ?_
      refine t_getR (q := 42) (k := 51) (f := 13) (t := 59) dX6_readsStar_39 rfl rfl rfl rfl inX6 (Nat.le_of_ble_eq_true rfl) fX6_32 ?_
      obtain ⟨q5, hc5, h⟩ := bnd h
      try dsimp only at h
      refine t_callV (q := 45) (N := mX6_wordOf) (a := eB E + 51) [.ref (eB E + 59)] dX6_readsStar_42 rfl nkX6_wordOf vkX6_wordOf lX6_236 ⟨Nat.le_of_ble_eq_true rfl, Nat.le_of_ble_eq_true rfl⟩ (rc_obj (k := 51) rfl rfl) rfl rfl (Nat.le_of_ble_eq_true rfl) (Nat.le_of_ble_eq_true rfl) (T_X6_wordOf_51_59 E  hc5) ?_
      refine s_iload_n (q := 46) dX6_readsStar_45 rfl rfl 2 rfl ?_
      refine s_icmp_ne (q := 49) (tgt := 79) dX6_readsStar_46 rfl rfl (fun hb6 => ?_) (fun hb6 => ?_)
      · rw [if_neg hb6] at h
        refine s_iinc (q := 82) (j := 2) (v := (x3 + 1)) (lv' := [(3, .int (x3 + 1)), (0, .ref (eB E + 51)), (2, .int x2)]) dX6_readsStar_79 rfl rfl rfl (Nat.le_of_ble_eq_true rfl) rfl ?_
        refine s_goto (tgt := 32) dX6_readsStar_82 rfl ?_
        exact t_sub [1, 2, 0] rfl (ih _ _ _ _ h)
      · rw [if_pos hb6] at h
        refine s_aload_n (q := 50) dX6_readsStar_49 rfl rfl 0 rfl ?_
        obtain ⟨q7, hc7, h⟩ := bnd h
        try dsimp only at h
        refine t_callV (q := 53) (N := mX6_nextToken) (a := eB E + 51) [] dX6_readsStar_50 rfl nkX6_nextToken vkX6_nextToken lX6_233 ⟨Nat.le_of_ble_eq_true rfl, Nat.le_of_ble_eq_true rfl⟩ (rc_obj (k := 51) rfl rfl) rfl rfl (Nat.le_of_ble_eq_true rfl) (Nat.le_of_ble_eq_true rfl) (T_X6_nextToken_51 E  hc7) ?_
        refine s_aload_n (q := 54) dX6_readsStar_53 rfl rfl 0 rfl ?_
        refine s_iconst (q := 55) (v := 0) dX6_readsStar_54 rfl rfl ?_
        refine s_bipush (q := 57) (v := 99) dX6_readsStar_55 rfl rfl ?_
        obtain ⟨q8, hc8, h⟩ := bnd h
        try dsimp only at h
        refine t_callV (q := 60) (N := mX6_takesNumber) (a := eB E + 51) [.int 0, .int 99] dX6_readsStar_57 rfl nkX6_takesNumber vkX6_takesNumber lX6_240 ⟨Nat.le_of_ble_eq_true rfl, Nat.le_of_ble_eq_true rfl⟩ (rc_obj (k := 51) rfl rfl) rfl rfl (Nat.le_of_ble_eq_true rfl) (Nat.le_of_ble_eq_true rfl) (T_X6_takesNumber_51 E _ _ hc8) ?_
        refine s_istore (q := 62) (lv' := [(4, .int q8.1), (0, .ref (eB E + 51)), (2, .int x2), (3, .int x3)]) dX6_readsStar_60 rfl (Nat.le_of_ble_eq_true rfl) rfl ?_
        refine s_iload (q := 64) dX6_readsStar_62 rfl 0 rfl ?_
        refine s_if_ge (q := 67) (tgt := 69) dX6_readsStar_64 rfl rfl (fun hb9 => ?_) (fun hb9 => ?_)
        · rw [if_pos hb9] at h
          refine s_aload_n (q := 70) dX6_readsStar_69 rfl rfl 1 rfl ?_
          refine s_iload_n (q := 71) dX6_readsStar_70 rfl rfl 2 rfl ?_
          refine s_iconst (q := 72) (v := 1) dX6_readsStar_71 rfl rfl ?_
          refine s_iload_n (q := 73) dX6_readsStar_72 rfl rfl 3 rfl ?_
          refine s_iadd (q := 74) dX6_readsStar_73 rfl ?_
          refine s_iload (q := 76) dX6_readsStar_74 rfl 0 rfl ?_
          obtain ⟨q10, hc10, h⟩ := bnd h
          try dsimp only at h
          refine t_callV (q := 79) (N := mX6_puts) (a := eB E + 51) [.int x2, .int (1 + x3), .int q8.1] dX6_readsStar_76 rfl nkX6_puts vkX6_puts lX6_80 ⟨Nat.le_of_ble_eq_true rfl, Nat.le_of_ble_eq_true rfl⟩ (rc_obj (k := 51) rfl rfl) rfl rfl (Nat.le_of_ble_eq_true rfl) (Nat.le_of_ble_eq_true rfl) (T_X6_puts_51 E _ _ _ hc10) ?_
          refine s_iinc (q := 82) (j := 3) (v := (x3 + 1)) (lv' := [(3, .int (x3 + 1)), (4, .int q8.1), (0, .ref (eB E + 51)), (2, .int x2)]) dX6_readsStar_79 rfl rfl rfl (Nat.le_of_ble_eq_true rfl) rfl ?_
          refine s_goto (tgt := 32) dX6_readsStar_82 rfl ?_
          exact t_sub [2, 3, 0] rfl (ih _ _ _ _ h)
        · rw [if_neg hb9] at h
          refine s_iconst (q := 68) (v := 0) dX6_readsStar_67 rfl rfl ?_
          obtain rfl := Option.some.inj h
          exact t_zret dX6_readsStar_68 rfl rfl rfl
def G_X6_readsStar_51 (x1 : Int32) (S : ST) : Option (Int32 × ST) := (if (S.1 52 1) = 10 then some (0, S) else ((G_X6_addsStar_51 x1 0 S).bind fun q2 => ((G_X6_nextToken_51  q2.2).bind fun q3 => G_X6_readsStar_51_32 3000 (S.1 52 1) 0 q3.2)))
set_option maxHeartbeats 4000000 in
set_option maxRecDepth 100000 in
theorem T_X6_readsStar_51 (E : EV) (x1 : Int32) {S : ST} {w : (Int32 × ST)} (h : G_X6_readsStar_51 x1 S = some w) : SD E mX6_readsStar 0 [(0, .ref (eB E + 51)), (1, .int x1)] [] S (some (.int w.1)) w.2 := by
  unfold G_X6_readsStar_51 at h
  refine s_aload_n (q := 1) dX6_readsStar_0 rfl rfl 0 rfl ?_
  refine t_getR (q := 4) (k := 51) (f := 0) (t := 52) dX6_readsStar_1 rfl rfl rfl rfl inX6 (Nat.le_of_ble_eq_true rfl) fX6_9 ?_
  refine s_iconst (q := 5) (v := 1) dX6_readsStar_4 rfl rfl ?_
  refine u_iald (q := 6) (k := 52) (j := 1) (v := (S.1 52 1)) dX6_readsStar_5 rfl rfl (inB_in (by decide)) (by decide) rfl ?_
  refine s_bipush (q := 8) (v := 10) dX6_readsStar_6 rfl rfl ?_
  refine s_icmp_ne (q := 11) (tgt := 13) dX6_readsStar_8 rfl rfl (fun hb1 => ?_) (fun hb1 => ?_)
  · rw [if_neg hb1] at h
    refine s_aload_n (q := 14) dX6_readsStar_13 rfl rfl 0 rfl ?_
    refine t_getR (q := 17) (k := 51) (f := 0) (t := 52) dX6_readsStar_14 rfl rfl rfl rfl inX6 (Nat.le_of_ble_eq_true rfl) fX6_9 ?_
    refine s_iconst (q := 18) (v := 1) dX6_readsStar_17 rfl rfl ?_
    refine u_iald (q := 19) (k := 52) (j := 1) (v := (S.1 52 1)) dX6_readsStar_18 rfl rfl (inB_in (by decide)) (by decide) rfl ?_
    refine s_istore_n (q := 20) (lv' := [(2, .int (S.1 52 1)), (0, .ref (eB E + 51)), (1, .int x1)]) dX6_readsStar_19 rfl rfl (Nat.le_of_ble_eq_true rfl) rfl ?_
    refine s_aload_n (q := 21) dX6_readsStar_20 rfl rfl 1 rfl ?_
    refine s_iload_n (q := 22) dX6_readsStar_21 rfl rfl 2 rfl ?_
    refine s_iconst (q := 23) (v := 0) dX6_readsStar_22 rfl rfl ?_
    obtain ⟨q2, hc2, h⟩ := bnd h
    try dsimp only at h
    refine t_callV (q := 26) (N := mX6_addsStar) (a := eB E + 51) [.int x1, .int 0] dX6_readsStar_23 rfl nkX6_addsStar vkX6_addsStar lX6_97 ⟨Nat.le_of_ble_eq_true rfl, Nat.le_of_ble_eq_true rfl⟩ (rc_obj (k := 51) rfl rfl) rfl rfl (Nat.le_of_ble_eq_true rfl) (Nat.le_of_ble_eq_true rfl) (T_X6_addsStar_51 E _ _ hc2) ?_
    refine s_aload_n (q := 27) dX6_readsStar_26 rfl rfl 1 rfl ?_
    obtain ⟨q3, hc3, h⟩ := bnd h
    try dsimp only at h
    refine t_callV (q := 30) (N := mX6_nextToken) (a := eB E + 51) [] dX6_readsStar_27 rfl nkX6_nextToken vkX6_nextToken lX6_233 ⟨Nat.le_of_ble_eq_true rfl, Nat.le_of_ble_eq_true rfl⟩ (rc_obj (k := 51) rfl rfl) rfl rfl (Nat.le_of_ble_eq_true rfl) (Nat.le_of_ble_eq_true rfl) (T_X6_nextToken_51 E  hc3) ?_
    refine s_iconst (q := 31) (v := 0) dX6_readsStar_30 rfl rfl ?_
    refine s_istore_n (q := 32) (lv' := [(3, .int 0), (2, .int (S.1 52 1)), (0, .ref (eB E + 51)), (1, .int x1)]) dX6_readsStar_31 rfl rfl (Nat.le_of_ble_eq_true rfl) rfl ?_
    exact t_sub [2, 1, 0] rfl (T_X6_readsStar_51_32 E _ _ _ _ _ h)
  · rw [if_pos hb1] at h
    refine s_iconst (q := 12) (v := 0) dX6_readsStar_11 rfl rfl ?_
    obtain rfl := Option.some.inj h
    exact t_zret dX6_readsStar_12 rfl rfl rfl
-- X6_readsItem
def G_X6_readsItem_51_96 (x2 : Int32) (y0 : Int32) (S : ST) : Option (Int32 × ST) := (if (0 : Int32) ≤ y0 then (if x2 = 5 then ((G_X6_addsSign_51 y0 S).bind fun q14 => some (1, q14.2)) else (if inB (4 + x2) 72 = true then some (1, (wr S 52 ((4 + x2).toNatClampNeg) y0)) else none)) else some (0, S))
set_option maxHeartbeats 4000000 in
set_option maxRecDepth 100000 in
theorem T_X6_readsItem_51_96 (E : EV) (x2 : Int32) (y0 : Int32) {S : ST} {w : (Int32 × ST)} (h : G_X6_readsItem_51_96 x2 y0 S = some w) : SD E mX6_readsItem 96 [(0, .ref (eB E + 51)), (2, .int x2)] [.int y0] S (some (.int w.1)) w.2 := by
  unfold G_X6_readsItem_51_96 at h
  refine s_istore_n (q := 97) (lv' := [(3, .int y0), (0, .ref (eB E + 51)), (2, .int x2)]) dX6_readsItem_96 rfl rfl (Nat.le_of_ble_eq_true rfl) rfl ?_
  refine s_iload_n (q := 98) dX6_readsItem_97 rfl rfl 0 rfl ?_
  refine s_if_ge (q := 101) (tgt := 103) dX6_readsItem_98 rfl rfl (fun hb11 => ?_) (fun hb11 => ?_)
  · rw [if_pos hb11] at h
    refine s_iload_n (q := 104) dX6_readsItem_103 rfl rfl 2 rfl ?_
    refine s_iconst (q := 105) (v := 5) dX6_readsItem_104 rfl rfl ?_
    refine s_icmp_ne (q := 108) (tgt := 116) dX6_readsItem_105 rfl rfl (fun hb12 => ?_) (fun hb12 => ?_)
    · rw [if_neg hb12] at h
      refine s_aload_n (q := 117) dX6_readsItem_116 rfl rfl 1 rfl ?_
      refine t_getR (q := 120) (k := 51) (f := 0) (t := 52) dX6_readsItem_117 rfl rfl rfl rfl inX6 (Nat.le_of_ble_eq_true rfl) fX6_9 ?_
      refine s_iconst (q := 121) (v := 4) dX6_readsItem_120 rfl rfl ?_
      refine s_iload_n (q := 122) dX6_readsItem_121 rfl rfl 2 rfl ?_
      refine s_iadd (q := 123) dX6_readsItem_122 rfl ?_
      refine s_iload_n (q := 124) dX6_readsItem_123 rfl rfl 0 rfl ?_
      obtain ⟨hg13, h⟩ := chk_some h
      refine u_iast (q := 125) (k := 52) dX6_readsItem_124 rfl rfl (inB_in hg13) rfl ?_
      refine s_iconst (q := 126) (v := 1) dX6_readsItem_125 rfl rfl ?_
      obtain rfl := Option.some.inj h
      exact t_zret dX6_readsItem_126 rfl rfl rfl
    · rw [if_pos hb12] at h
      refine s_aload_n (q := 109) dX6_readsItem_108 rfl rfl 1 rfl ?_
      refine s_iload_n (q := 110) dX6_readsItem_109 rfl rfl 0 rfl ?_
      obtain ⟨q14, hc14, h⟩ := bnd h
      try dsimp only at h
      refine t_callV (q := 113) (N := mX6_addsSign) (a := eB E + 51) [.int y0] dX6_readsItem_110 rfl nkX6_addsSign vkX6_addsSign lX6_168 ⟨Nat.le_of_ble_eq_true rfl, Nat.le_of_ble_eq_true rfl⟩ (rc_obj (k := 51) rfl rfl) rfl rfl (Nat.le_of_ble_eq_true rfl) (Nat.le_of_ble_eq_true rfl) (T_X6_addsSign_51 E _ hc14) ?_
      refine s_goto (tgt := 125) dX6_readsItem_113 rfl ?_
      refine s_iconst (q := 126) (v := 1) dX6_readsItem_125 rfl rfl ?_
      obtain rfl := Option.some.inj h
      exact t_zret dX6_readsItem_126 rfl rfl rfl
  · rw [if_neg hb11] at h
    refine s_iconst (q := 102) (v := 0) dX6_readsItem_101 rfl rfl ?_
    obtain rfl := Option.some.inj h
    exact t_zret dX6_readsItem_102 rfl rfl rfl
def G_X6_readsItem_51_50 (x2 : Int32) (S : ST) : Option (Int32 × ST) := ((G_X6_nextToken_51  S).bind fun q6 => (if x2 = 4 then ((G_X6_readsCrew_51  q6.2).bind fun q16 => (if bitB q16.1 = true then some (q16.1, q16.2) else none)) else (if x2 = 5 then ((G_X6_takesNumber_51 1 ((1 <<< ((q6.2.1 52 1) &&& 31)) - 1) q6.2).bind fun q15 => G_X6_readsItem_51_96 x2 q15.1 q15.2) else ((G_X6_greatest x2 q6.2).bind fun q9 => ((G_X6_takesNumber_51 0 q9.1 q9.2).bind fun q10 => G_X6_readsItem_51_96 x2 q10.1 q10.2)))))
set_option maxHeartbeats 4000000 in
set_option maxRecDepth 100000 in
theorem T_X6_readsItem_51_50 (E : EV) (x2 : Int32) {S : ST} {w : (Int32 × ST)} (h : G_X6_readsItem_51_50 x2 S = some w) : SD E mX6_readsItem 50 [(0, .ref (eB E + 51)), (2, .int x2)] [] S (some (.int w.1)) w.2 := by
  unfold G_X6_readsItem_51_50 at h
  refine s_aload_n (q := 51) dX6_readsItem_50 rfl rfl 0 rfl ?_
  obtain ⟨q6, hc6, h⟩ := bnd h
  try dsimp only at h
  refine t_callV (q := 54) (N := mX6_nextToken) (a := eB E + 51) [] dX6_readsItem_51 rfl nkX6_nextToken vkX6_nextToken lX6_233 ⟨Nat.le_of_ble_eq_true rfl, Nat.le_of_ble_eq_true rfl⟩ (rc_obj (k := 51) rfl rfl) rfl rfl (Nat.le_of_ble_eq_true rfl) (Nat.le_of_ble_eq_true rfl) (T_X6_nextToken_51 E  hc6) ?_
  refine s_iload_n (q := 55) dX6_readsItem_54 rfl rfl 1 rfl ?_
  refine s_iconst (q := 56) (v := 4) dX6_readsItem_55 rfl rfl ?_
  refine s_icmp_ne (q := 59) (tgt := 64) dX6_readsItem_56 rfl rfl (fun hb7 => ?_) (fun hb7 => ?_)
  · rw [if_neg hb7] at h
    refine s_iload_n (q := 65) dX6_readsItem_64 rfl rfl 1 rfl ?_
    refine s_iconst (q := 66) (v := 5) dX6_readsItem_65 rfl rfl ?_
    refine s_icmp_ne (q := 69) (tgt := 87) dX6_readsItem_66 rfl rfl (fun hb8 => ?_) (fun hb8 => ?_)
    · rw [if_neg hb8] at h
      refine s_aload_n (q := 88) dX6_readsItem_87 rfl rfl 0 rfl ?_
      refine s_iconst (q := 89) (v := 0) dX6_readsItem_88 rfl rfl ?_
      refine s_iload_n (q := 90) dX6_readsItem_89 rfl rfl 1 rfl ?_
      obtain ⟨q9, hc9, h⟩ := bnd h
      try dsimp only at h
      refine t_callS (q := 93) (N := mX6_greatest) [.int x2] dX6_readsItem_90 rfl nkX6_greatest sX6_greatest lX6_107 ⟨Nat.le_of_ble_eq_true rfl, Nat.le_of_ble_eq_true rfl⟩ rfl rfl (Nat.le_of_ble_eq_true rfl) (Nat.le_of_ble_eq_true rfl) (T_X6_greatest E _ hc9) ?_
      obtain ⟨q10, hc10, h⟩ := bnd h
      try dsimp only at h
      refine t_callV (q := 96) (N := mX6_takesNumber) (a := eB E + 51) [.int 0, .int q9.1] dX6_readsItem_93 rfl nkX6_takesNumber vkX6_takesNumber lX6_240 ⟨Nat.le_of_ble_eq_true rfl, Nat.le_of_ble_eq_true rfl⟩ (rc_obj (k := 51) rfl rfl) rfl rfl (Nat.le_of_ble_eq_true rfl) (Nat.le_of_ble_eq_true rfl) (T_X6_takesNumber_51 E _ _ hc10) ?_
      exact t_sub [0, 1] rfl (T_X6_readsItem_51_96 E _ _ h)
    · rw [if_pos hb8] at h
      refine s_aload_n (q := 70) dX6_readsItem_69 rfl rfl 0 rfl ?_
      refine s_iconst (q := 71) (v := 1) dX6_readsItem_70 rfl rfl ?_
      refine s_iconst (q := 72) (v := 1) dX6_readsItem_71 rfl rfl ?_
      refine s_aload_n (q := 73) dX6_readsItem_72 rfl rfl 0 rfl ?_
      refine t_getR (q := 76) (k := 51) (f := 0) (t := 52) dX6_readsItem_73 rfl rfl rfl rfl inX6 (Nat.le_of_ble_eq_true rfl) fX6_9 ?_
      refine s_iconst (q := 77) (v := 1) dX6_readsItem_76 rfl rfl ?_
      refine u_iald (q := 78) (k := 52) (j := 1) (v := (q6.2.1 52 1)) dX6_readsItem_77 rfl rfl (inB_in (by decide)) (by decide) rfl ?_
      refine s_ishl (q := 79) dX6_readsItem_78 rfl ?_
      refine s_iconst (q := 80) (v := 1) dX6_readsItem_79 rfl rfl ?_
      refine s_isub (q := 81) dX6_readsItem_80 rfl ?_
      obtain ⟨q15, hc15, h⟩ := bnd h
      try dsimp only at h
      refine t_callV (q := 84) (N := mX6_takesNumber) (a := eB E + 51) [.int 1, .int ((1 <<< ((q6.2.1 52 1) &&& 31)) - 1)] dX6_readsItem_81 rfl nkX6_takesNumber vkX6_takesNumber lX6_240 ⟨Nat.le_of_ble_eq_true rfl, Nat.le_of_ble_eq_true rfl⟩ (rc_obj (k := 51) rfl rfl) rfl rfl (Nat.le_of_ble_eq_true rfl) (Nat.le_of_ble_eq_true rfl) (T_X6_takesNumber_51 E _ _ hc15) ?_
      refine s_goto (tgt := 96) dX6_readsItem_84 rfl ?_
      exact t_sub [0, 1] rfl (T_X6_readsItem_51_96 E _ _ h)
  · rw [if_pos hb7] at h
    refine s_aload_n (q := 60) dX6_readsItem_59 rfl rfl 0 rfl ?_
    obtain ⟨q16, hc16, h⟩ := bnd h
    try dsimp only at h
    refine t_callV (q := 63) (N := mX6_readsCrew) (a := eB E + 51) [] dX6_readsItem_60 rfl nkX6_readsCrew vkX6_readsCrew lX6_246 ⟨Nat.le_of_ble_eq_true rfl, Nat.le_of_ble_eq_true rfl⟩ (rc_obj (k := 51) rfl rfl) rfl rfl (Nat.le_of_ble_eq_true rfl) (Nat.le_of_ble_eq_true rfl) (T_X6_readsCrew_51 E  hc16) ?_
    obtain ⟨hg17, h⟩ := chk_some h
    obtain rfl := Option.some.inj h
    exact t_zret dX6_readsItem_63 rfl (bitB_z hg17) rfl
def G_X6_readsItem_51  (S : ST) : Option (Int32 × ST) := ((G_X6_wordOf_51_58  S).bind fun q1 => (if q1.1 < 0 then ((G_X6_wordOf_51_61  q1.2).bind fun q3 => (if q3.1 < 0 then some (0, q3.2) else (if q3.1 = 5 then (if (q3.2.1 52 2) = 6 then some (0, q3.2) else G_X6_readsItem_51_50 q3.1 q3.2) else G_X6_readsItem_51_50 q3.1 q3.2))) else ((G_X6_readsStar_51 q1.1 q1.2).bind fun q19 => (if bitB q19.1 = true then some (q19.1, q19.2) else none))))
set_option maxHeartbeats 4000000 in
set_option maxRecDepth 100000 in
theorem T_X6_readsItem_51 (E : EV)  {S : ST} {w : (Int32 × ST)} (h : G_X6_readsItem_51  S = some w) : SD E mX6_readsItem 0 [(0, .ref (eB E + 51))] [] S (some (.int w.1)) w.2 := by
  unfold G_X6_readsItem_51 at h
  refine s_aload_n (q := 1) dX6_readsItem_0 rfl rfl 0 rfl ?_
  refine s_aload_n (q := 2) dX6_readsItem_1 rfl rfl 0 rfl ?_
  refine t_getR (q := 5) (k := 51) (f := 12) (t := 58) dX6_readsItem_2 rfl rfl rfl rfl inX6 (Nat.le_of_ble_eq_true rfl) fX6_28 ?_
  obtain ⟨q1, hc1, h⟩ := bnd h
  try dsimp only at h
  refine t_callV (q := 8) (N := mX6_wordOf) (a := eB E + 51) [.ref (eB E + 58)] dX6_readsItem_5 rfl nkX6_wordOf vkX6_wordOf lX6_236 ⟨Nat.le_of_ble_eq_true rfl, Nat.le_of_ble_eq_true rfl⟩ (rc_obj (k := 51) rfl rfl) rfl rfl (Nat.le_of_ble_eq_true rfl) (Nat.le_of_ble_eq_true rfl) (T_X6_wordOf_51_58 E  hc1) ?_
  refine s_istore_n (q := 9) (lv' := [(1, .int q1.1), (0, .ref (eB E + 51))]) dX6_readsItem_8 rfl rfl (Nat.le_of_ble_eq_true rfl) rfl ?_
  refine s_iload_n (q := 10) dX6_readsItem_9 rfl rfl 0 rfl ?_
  refine s_if_lt (q := 13) (tgt := 19) dX6_readsItem_10 rfl rfl (fun hb2 => ?_) (fun hb2 => ?_)
  · rw [if_pos hb2] at h
    refine s_aload_n (q := 20) dX6_readsItem_19 rfl rfl 1 rfl ?_
    refine s_aload_n (q := 21) dX6_readsItem_20 rfl rfl 1 rfl ?_
    refine t_getR (q := 24) (k := 51) (f := 15) (t := 61) dX6_readsItem_21 rfl rfl rfl rfl inX6 (Nat.le_of_ble_eq_true rfl) fX6_38 ?_
    obtain ⟨q3, hc3, h⟩ := bnd h
    try dsimp only at h
    refine t_callV (q := 27) (N := mX6_wordOf) (a := eB E + 51) [.ref (eB E + 61)] dX6_readsItem_24 rfl nkX6_wordOf vkX6_wordOf lX6_236 ⟨Nat.le_of_ble_eq_true rfl, Nat.le_of_ble_eq_true rfl⟩ (rc_obj (k := 51) rfl rfl) rfl rfl (Nat.le_of_ble_eq_true rfl) (Nat.le_of_ble_eq_true rfl) (T_X6_wordOf_51_61 E  hc3) ?_
    refine s_istore_n (q := 28) (lv' := [(2, .int q3.1), (1, .int q1.1), (0, .ref (eB E + 51))]) dX6_readsItem_27 rfl rfl (Nat.le_of_ble_eq_true rfl) rfl ?_
    refine s_iload_n (q := 29) dX6_readsItem_28 rfl rfl 0 rfl ?_
    refine s_if_lt (q := 32) (tgt := 48) dX6_readsItem_29 rfl rfl (fun hb4 => ?_) (fun hb4 => ?_)
    · rw [if_pos hb4] at h
      refine s_iconst (q := 49) (v := 0) dX6_readsItem_48 rfl rfl ?_
      obtain rfl := Option.some.inj h
      exact t_zret dX6_readsItem_49 rfl rfl rfl
    · rw [if_neg hb4] at h
      refine s_iload_n (q := 33) dX6_readsItem_32 rfl rfl 0 rfl ?_
      refine s_iconst (q := 34) (v := 5) dX6_readsItem_33 rfl rfl ?_
      refine s_icmp_ne (q := 37) (tgt := 50) dX6_readsItem_34 rfl rfl (fun hb5 => ?_) (fun hb5 => ?_)
      · rw [if_neg hb5] at h
        exact t_sub [2, 0] rfl (T_X6_readsItem_51_50 E _ h)
      · rw [if_pos hb5] at h
        refine s_aload_n (q := 38) dX6_readsItem_37 rfl rfl 2 rfl ?_
        refine t_getR (q := 41) (k := 51) (f := 0) (t := 52) dX6_readsItem_38 rfl rfl rfl rfl inX6 (Nat.le_of_ble_eq_true rfl) fX6_9 ?_
        refine s_iconst (q := 42) (v := 2) dX6_readsItem_41 rfl rfl ?_
        refine u_iald (q := 43) (k := 52) (j := 2) (v := (q3.2.1 52 2)) dX6_readsItem_42 rfl rfl (inB_in (by decide)) (by decide) rfl ?_
        refine s_bipush (q := 45) (v := 6) dX6_readsItem_43 rfl rfl ?_
        refine s_icmp_ne (q := 48) (tgt := 50) dX6_readsItem_45 rfl rfl (fun hb18 => ?_) (fun hb18 => ?_)
        · rw [if_neg hb18] at h
          exact t_sub [2, 0] rfl (T_X6_readsItem_51_50 E _ h)
        · rw [if_pos hb18] at h
          refine s_iconst (q := 49) (v := 0) dX6_readsItem_48 rfl rfl ?_
          obtain rfl := Option.some.inj h
          exact t_zret dX6_readsItem_49 rfl rfl rfl
  · rw [if_neg hb2] at h
    refine s_aload_n (q := 14) dX6_readsItem_13 rfl rfl 1 rfl ?_
    refine s_iload_n (q := 15) dX6_readsItem_14 rfl rfl 0 rfl ?_
    obtain ⟨q19, hc19, h⟩ := bnd h
    try dsimp only at h
    refine t_callV (q := 18) (N := mX6_readsStar) (a := eB E + 51) [.int q1.1] dX6_readsItem_15 rfl nkX6_readsStar vkX6_readsStar lX6_243 ⟨Nat.le_of_ble_eq_true rfl, Nat.le_of_ble_eq_true rfl⟩ (rc_obj (k := 51) rfl rfl) rfl rfl (Nat.le_of_ble_eq_true rfl) (Nat.le_of_ble_eq_true rfl) (T_X6_readsStar_51 E _ hc19) ?_
    obtain ⟨hg20, h⟩ := chk_some h
    obtain rfl := Option.some.inj h
    exact t_zret dX6_readsItem_18 rfl (bitB_z hg20) rfl
-- X6_text
def G_X6_text_51_20 : Nat → Int32 → Int32 → ST → Option (Int32 × Int32 × ST)
  | 0, _, _, _ => none
  | n + 1, x1, x2, S => (if x2 = 0 then some (x1, x2, S) else (if (S.1 51 8) = 3 then ((G_X6_nextToken_51  S).bind fun q6 => ((G_X6_readsItem_51  q6.2).bind fun q7 => G_X6_text_51_20 n (x1 + 1) q7.1 q7.2)) else some (x1, x2, S)))
set_option maxHeartbeats 4000000 in
set_option maxRecDepth 100000 in
theorem T_X6_text_51_20 (E : EV) : ∀ (n : Nat) (x1 : Int32) (x2 : Int32) (S : ST), ∀ (w : (Int32 × Int32 × ST)), G_X6_text_51_20 n x1 x2 S = some w → ∀ {Q : Option Value → ST → Prop}, SS E mX6_text 47 [(0, .ref (eB E + 51)), (1, .int w.1), (2, .int w.2.1)] [] w.2.2 Q → SS E mX6_text 20 [(0, .ref (eB E + 51)), (1, .int x1), (2, .int x2)] [] S Q := by
  intro n
  induction n with
  | zero =>
    intro x1 x2 S w h
    cases h
  | succ n ih =>
    intro x1 x2 S w h Q K
    unfold G_X6_text_51_20 at h
    refine s_iload_n (q := 21) dX6_text_20 rfl rfl 2 rfl ?_
    refine s_if_eq (q := 24) (tgt := 47) dX6_text_21 rfl rfl (fun hb4 => ?_) (fun hb4 => ?_)
    · rw [if_pos hb4] at h
      obtain rfl := Option.some.inj h
      exact t_sub [0, 1, 2] rfl K
    · rw [if_neg hb4] at h
      refine s_aload_n (q := 25) dX6_text_24 rfl rfl 0 rfl ?_
      refine t_getI (q := 28) (k := 51) (f := 8) (v := (S.1 51 8)) dX6_text_25 rfl rfl rfl rfl inX6 (Nat.le_of_ble_eq_true rfl) fX6_212 rfl ?_
      refine s_iconst (q := 29) (v := 3) dX6_text_28 rfl rfl ?_
      refine s_icmp_ne (q := 32) (tgt := 47) dX6_text_29 rfl rfl (fun hb5 => ?_) (fun hb5 => ?_)
      · rw [if_neg hb5] at h
        obtain rfl := Option.some.inj h
        exact t_sub [0, 1, 2] rfl K
      · rw [if_pos hb5] at h
        refine s_aload_n (q := 33) dX6_text_32 rfl rfl 0 rfl ?_
        obtain ⟨q6, hc6, h⟩ := bnd h
        try dsimp only at h
        refine t_callV (q := 36) (N := mX6_nextToken) (a := eB E + 51) [] dX6_text_33 rfl nkX6_nextToken vkX6_nextToken lX6_233 ⟨Nat.le_of_ble_eq_true rfl, Nat.le_of_ble_eq_true rfl⟩ (rc_obj (k := 51) rfl rfl) rfl rfl (Nat.le_of_ble_eq_true rfl) (Nat.le_of_ble_eq_true rfl) (T_X6_nextToken_51 E  hc6) ?_
        refine s_aload_n (q := 37) dX6_text_36 rfl rfl 0 rfl ?_
        obtain ⟨q7, hc7, h⟩ := bnd h
        try dsimp only at h
        refine t_callV (q := 40) (N := mX6_readsItem) (a := eB E + 51) [] dX6_text_37 rfl nkX6_readsItem vkX6_readsItem lX6_250 ⟨Nat.le_of_ble_eq_true rfl, Nat.le_of_ble_eq_true rfl⟩ (rc_obj (k := 51) rfl rfl) rfl rfl (Nat.le_of_ble_eq_true rfl) (Nat.le_of_ble_eq_true rfl) (T_X6_readsItem_51 E  hc7) ?_
        refine s_istore_n (q := 41) (lv' := [(2, .int q7.1), (0, .ref (eB E + 51)), (1, .int x1)]) dX6_text_40 rfl rfl (Nat.le_of_ble_eq_true rfl) rfl ?_
        refine s_iinc (q := 44) (j := 2) (v := (x1 + 1)) (lv' := [(1, .int (x1 + 1)), (2, .int q7.1), (0, .ref (eB E + 51))]) dX6_text_41 rfl rfl rfl (Nat.le_of_ble_eq_true rfl) rfl ?_
        refine s_goto (tgt := 20) dX6_text_44 rfl ?_
        exact t_sub [2, 0, 1] rfl (ih _ _ _ _ h K)
def G_X6_text_51_63 (x1 : Int32) (y0 : Int32) (S : ST) : Option (Int32 × ST) := (if y0 = 0 then ((G_X6_laysBack_51  (wr S 51 7 0)).bind fun q11 => some (((-1) - (q11.2.1 51 9)), q11.2)) else some (x1, (wr S 51 7 0)))
set_option maxHeartbeats 4000000 in
set_option maxRecDepth 100000 in
theorem T_X6_text_51_63 (E : EV) (x1 : Int32) (y0 : Int32) {S : ST} {w : (Int32 × ST)} (h : G_X6_text_51_63 x1 y0 S = some w) : SD E mX6_text 63 [(0, .ref (eB E + 51)), (1, .int x1)] [.int y0] S (some (.int w.1)) w.2 := by
  unfold G_X6_text_51_63 at h
  refine s_istore_n (q := 64) (lv' := [(2, .int y0), (0, .ref (eB E + 51)), (1, .int x1)]) dX6_text_63 rfl rfl (Nat.le_of_ble_eq_true rfl) rfl ?_
  refine s_aload_n (q := 65) dX6_text_64 rfl rfl 1 rfl ?_
  refine s_iconst (q := 66) (v := 0) dX6_text_65 rfl rfl ?_
  refine t_putI (q := 69) (k := 51) (f := 7) dX6_text_66 rfl rfl rfl rfl inX6 tyX6_ok nmX6 (Nat.le_of_ble_eq_true rfl) fX6_198 rfl rfl rfl ?_
  refine s_iload_n (q := 70) dX6_text_69 rfl rfl 0 rfl ?_
  refine s_if_ne (q := 73) (tgt := 84) dX6_text_70 rfl rfl (fun hb10 => ?_) (fun hb10 => ?_)
  · rw [if_neg hb10] at h
    refine s_iload_n (q := 85) dX6_text_84 rfl rfl 2 rfl ?_
    obtain rfl := Option.some.inj h
    exact t_iret dX6_text_85 rfl rfl
  · rw [if_pos hb10] at h
    refine s_aload_n (q := 74) dX6_text_73 rfl rfl 1 rfl ?_
    obtain ⟨q11, hc11, h⟩ := bnd h
    try dsimp only at h
    refine t_callV (q := 77) (N := mX6_laysBack) (a := eB E + 51) [] dX6_text_74 rfl nkX6_laysBack vkX6_laysBack lX6_136 ⟨Nat.le_of_ble_eq_true rfl, Nat.le_of_ble_eq_true rfl⟩ (rc_obj (k := 51) rfl rfl) rfl rfl (Nat.le_of_ble_eq_true rfl) (Nat.le_of_ble_eq_true rfl) (T_X6_laysBack_51 E  hc11) ?_
    refine s_iconst (q := 78) (v := (-1)) dX6_text_77 rfl rfl ?_
    refine s_aload_n (q := 79) dX6_text_78 rfl rfl 1 rfl ?_
    refine t_getI (q := 82) (k := 51) (f := 9) (v := (q11.2.1 51 9)) dX6_text_79 rfl rfl rfl rfl inX6 (Nat.le_of_ble_eq_true rfl) fX6_205 rfl ?_
    refine s_isub (q := 83) dX6_text_82 rfl ?_
    obtain rfl := Option.some.inj h
    exact t_iret dX6_text_83 rfl rfl
def G_X6_text_51_62 (x1 : Int32) (S : ST) : Option (Int32 × ST) := G_X6_text_51_63 x1 0 S
set_option maxHeartbeats 4000000 in
set_option maxRecDepth 100000 in
theorem T_X6_text_51_62 (E : EV) (x1 : Int32) {S : ST} {w : (Int32 × ST)} (h : G_X6_text_51_62 x1 S = some w) : SD E mX6_text 62 [(0, .ref (eB E + 51)), (1, .int x1)] [] S (some (.int w.1)) w.2 := by
  unfold G_X6_text_51_62 at h
  refine s_iconst (q := 63) (v := 0) dX6_text_62 rfl rfl ?_
  exact t_sub [0, 1] rfl (T_X6_text_51_63 E _ _ h)
def G_X6_text_51_47 (x1 : Int32) (x2 : Int32) (S : ST) : Option (Int32 × ST) := (if x2 = 0 then G_X6_text_51_62 x1 S else (if (S.1 51 8) = 0 then G_X6_text_51_63 x1 1 S else G_X6_text_51_62 x1 S))
set_option maxHeartbeats 4000000 in
set_option maxRecDepth 100000 in
theorem T_X6_text_51_47 (E : EV) (x1 : Int32) (x2 : Int32) {S : ST} {w : (Int32 × ST)} (h : G_X6_text_51_47 x1 x2 S = some w) : SD E mX6_text 47 [(0, .ref (eB E + 51)), (1, .int x1), (2, .int x2)] [] S (some (.int w.1)) w.2 := by
  unfold G_X6_text_51_47 at h
  refine s_iload_n (q := 48) dX6_text_47 rfl rfl 2 rfl ?_
  refine s_if_eq (q := 51) (tgt := 62) dX6_text_48 rfl rfl (fun hb9 => ?_) (fun hb9 => ?_)
  · rw [if_pos hb9] at h
    exact t_sub [0, 1] rfl (T_X6_text_51_62 E _ h)
  · rw [if_neg hb9] at h
    refine s_aload_n (q := 52) dX6_text_51 rfl rfl 0 rfl ?_
    refine t_getI (q := 55) (k := 51) (f := 8) (v := (S.1 51 8)) dX6_text_52 rfl rfl rfl rfl inX6 (Nat.le_of_ble_eq_true rfl) fX6_212 rfl ?_
    refine s_if_ne (q := 58) (tgt := 62) dX6_text_55 rfl rfl (fun hb12 => ?_) (fun hb12 => ?_)
    · rw [if_neg hb12] at h
      exact t_sub [0, 1] rfl (T_X6_text_51_62 E _ h)
    · rw [if_pos hb12] at h
      refine s_iconst (q := 59) (v := 1) dX6_text_58 rfl rfl ?_
      refine s_goto (tgt := 63) dX6_text_59 rfl ?_
      exact t_sub [0, 1] rfl (T_X6_text_51_63 E _ _ h)
def G_X6_text_51  (S : ST) : Option (Int32 × ST) := ((G_X6_setsAside_51  S).bind fun q1 => ((G_X6_nextToken_51  (wr q1.2 51 10 0)).bind fun q2 => ((G_X6_readsItem_51  q2.2).bind fun q3 => (G_X6_text_51_20 3000 1 q3.1 q3.2).bind fun q8 => G_X6_text_51_47 q8.1 q8.2.1 q8.2.2)))
set_option maxHeartbeats 4000000 in
set_option maxRecDepth 100000 in
theorem T_X6_text_51 (E : EV)  {S : ST} {w : (Int32 × ST)} (h : G_X6_text_51  S = some w) : SD E mX6_text 0 [(0, .ref (eB E + 51))] [] S (some (.int w.1)) w.2 := by
  unfold G_X6_text_51 at h
  refine s_aload_n (q := 1) dX6_text_0 rfl rfl 0 rfl ?_
  obtain ⟨q1, hc1, h⟩ := bnd h
  try dsimp only at h
  refine t_callV (q := 4) (N := mX6_setsAside) (a := eB E + 51) [] dX6_text_1 rfl nkX6_setsAside vkX6_setsAside lX6_133 ⟨Nat.le_of_ble_eq_true rfl, Nat.le_of_ble_eq_true rfl⟩ (rc_obj (k := 51) rfl rfl) rfl rfl (Nat.le_of_ble_eq_true rfl) (Nat.le_of_ble_eq_true rfl) (T_X6_setsAside_51 E  hc1) ?_
  refine s_aload_n (q := 5) dX6_text_4 rfl rfl 0 rfl ?_
  refine s_iconst (q := 6) (v := 0) dX6_text_5 rfl rfl ?_
  refine t_putI (q := 9) (k := 51) (f := 10) dX6_text_6 rfl rfl rfl rfl inX6 tyX6_ok nmX6 (Nat.le_of_ble_eq_true rfl) fX6_202 rfl rfl rfl ?_
  refine s_aload_n (q := 10) dX6_text_9 rfl rfl 0 rfl ?_
  obtain ⟨q2, hc2, h⟩ := bnd h
  try dsimp only at h
  refine t_callV (q := 13) (N := mX6_nextToken) (a := eB E + 51) [] dX6_text_10 rfl nkX6_nextToken vkX6_nextToken lX6_233 ⟨Nat.le_of_ble_eq_true rfl, Nat.le_of_ble_eq_true rfl⟩ (rc_obj (k := 51) rfl rfl) rfl rfl (Nat.le_of_ble_eq_true rfl) (Nat.le_of_ble_eq_true rfl) (T_X6_nextToken_51 E  hc2) ?_
  refine s_iconst (q := 14) (v := 1) dX6_text_13 rfl rfl ?_
  refine s_istore_n (q := 15) (lv' := [(1, .int 1), (0, .ref (eB E + 51))]) dX6_text_14 rfl rfl (Nat.le_of_ble_eq_true rfl) rfl ?_
  refine s_aload_n (q := 16) dX6_text_15 rfl rfl 1 rfl ?_
  obtain ⟨q3, hc3, h⟩ := bnd h
  try dsimp only at h
  refine t_callV (q := 19) (N := mX6_readsItem) (a := eB E + 51) [] dX6_text_16 rfl nkX6_readsItem vkX6_readsItem lX6_250 ⟨Nat.le_of_ble_eq_true rfl, Nat.le_of_ble_eq_true rfl⟩ (rc_obj (k := 51) rfl rfl) rfl rfl (Nat.le_of_ble_eq_true rfl) (Nat.le_of_ble_eq_true rfl) (T_X6_readsItem_51 E  hc3) ?_
  refine s_istore_n (q := 20) (lv' := [(2, .int q3.1), (1, .int 1), (0, .ref (eB E + 51))]) dX6_text_19 rfl rfl (Nat.le_of_ble_eq_true rfl) rfl ?_
  obtain ⟨q8, hc8, h⟩ := bnd h
  try dsimp only at h
  refine t_sub [2, 1, 0] rfl (T_X6_text_51_20 E _ _ _ _ _ hc8 ?_)
  exact t_sub [0, 1, 2] rfl (T_X6_text_51_47 E _ _ h)
-- X5_hold
def G_X5_hold_0_34 (x1 : Int32) (x2 : Int32) (S : ST) : Option (Int32 × ST) := (if inB x1 10 = true then some (1, (wr S 10 x1.toNatClampNeg x2)) else none)
set_option maxHeartbeats 4000000 in
set_option maxRecDepth 100000 in
theorem T_X5_hold_0_34 (E : EV) (x1 : Int32) (x2 : Int32) {S : ST} {w : (Int32 × ST)} (h : G_X5_hold_0_34 x1 x2 S = some w) : SD E mX5_hold 34 [(0, .ref (eB E + 0)), (1, .int x1), (2, .int x2)] [] S (some (.int w.1)) w.2 := by
  unfold G_X5_hold_0_34 at h
  refine s_aload_n (q := 35) dX5_hold_34 rfl rfl 0 rfl ?_
  refine t_getR (q := 38) (k := 0) (f := 0) (t := 1) dX5_hold_35 rfl rfl rfl rfl inX5 (Nat.le_of_ble_eq_true rfl) fX5_10 ?_
  refine t_getR (q := 41) (k := 1) (f := 11) (t := 10) dX5_hold_38 rfl rfl rfl rfl inX1 (Nat.le_of_ble_eq_true rfl) fX5_247 ?_
  refine s_iload_n (q := 42) dX5_hold_41 rfl rfl 1 rfl ?_
  refine s_iload_n (q := 43) dX5_hold_42 rfl rfl 2 rfl ?_
  obtain ⟨hg5, h⟩ := chk_some h
  refine u_iast (q := 44) (k := 10) dX5_hold_43 rfl rfl (inB_in hg5) rfl ?_
  refine s_iconst (q := 45) (v := 1) dX5_hold_44 rfl rfl ?_
  obtain rfl := Option.some.inj h
  exact t_iret dX5_hold_45 rfl rfl
def G_X5_hold_0 (x1 : Int32) (x2 : Int32) (S : ST) : Option (Int32 × ST) := ((G_X5_isBelow x1 10 S).bind fun q1 => (if q1.1 = 0 then ((G_X5_finding_0 0 q1.2).bind fun q3 => some (q3.1, q3.2)) else (if x2 = (-1) then G_X5_hold_0_34 x1 x2 q1.2 else ((G_X5_isBelow x2 (q1.2.1 1 0) q1.2).bind fun q6 => (if q6.1 = 0 then ((G_X5_finding_0 0 q6.2).bind fun q8 => some (q8.1, q8.2)) else G_X5_hold_0_34 x1 x2 q6.2)))))
set_option maxHeartbeats 4000000 in
set_option maxRecDepth 100000 in
theorem T_X5_hold_0 (E : EV) (x1 : Int32) (x2 : Int32) {S : ST} {w : (Int32 × ST)} (h : G_X5_hold_0 x1 x2 S = some w) : SD E mX5_hold 0 [(0, .ref (eB E + 0)), (1, .int x1), (2, .int x2)] [] S (some (.int w.1)) w.2 := by
  unfold G_X5_hold_0 at h
  refine s_iload_n (q := 1) dX5_hold_0 rfl rfl 1 rfl ?_
  refine s_bipush (q := 3) (v := 10) dX5_hold_1 rfl rfl ?_
  obtain ⟨q1, hc1, h⟩ := bnd h
  try dsimp only at h
  refine t_callS (q := 6) (N := mX5_isBelow) [.int x1, .int 10] dX5_hold_3 rfl nkX5_isBelow sX5_isBelow lX5_57 ⟨Nat.le_of_ble_eq_true rfl, Nat.le_of_ble_eq_true rfl⟩ rfl rfl (Nat.le_of_ble_eq_true rfl) (Nat.le_of_ble_eq_true rfl) (T_X5_isBelow E _ _ hc1) ?_
  refine s_if_eq (q := 9) (tgt := 28) dX5_hold_6 rfl rfl (fun hb2 => ?_) (fun hb2 => ?_)
  · rw [if_pos hb2] at h
    refine s_aload_n (q := 29) dX5_hold_28 rfl rfl 0 rfl ?_
    refine s_iconst (q := 30) (v := 0) dX5_hold_29 rfl rfl ?_
    obtain ⟨q3, hc3, h⟩ := bnd h
    try dsimp only at h
    refine t_callV (q := 33) (N := mX5_finding) (a := eB E + 0) [.int 0] dX5_hold_30 rfl nkX5_finding vkX5_finding lX5_61 ⟨Nat.le_of_ble_eq_true rfl, Nat.le_of_ble_eq_true rfl⟩ (rc_obj (k := 0) rfl rfl) rfl rfl (Nat.le_of_ble_eq_true rfl) (Nat.le_of_ble_eq_true rfl) (T_X5_finding_0 E _ hc3) ?_
    obtain rfl := Option.some.inj h
    exact t_iret dX5_hold_33 rfl rfl
  · rw [if_neg hb2] at h
    refine s_iload_n (q := 10) dX5_hold_9 rfl rfl 2 rfl ?_
    refine s_iconst (q := 11) (v := (-1)) dX5_hold_10 rfl rfl ?_
    refine s_icmp_eq (q := 14) (tgt := 34) dX5_hold_11 rfl rfl (fun hb4 => ?_) (fun hb4 => ?_)
    · rw [if_pos hb4] at h
      exact t_sub [0, 1, 2] rfl (T_X5_hold_0_34 E _ _ h)
    · rw [if_neg hb4] at h
      refine s_iload_n (q := 15) dX5_hold_14 rfl rfl 2 rfl ?_
      refine s_aload_n (q := 16) dX5_hold_15 rfl rfl 0 rfl ?_
      refine t_getR (q := 19) (k := 0) (f := 0) (t := 1) dX5_hold_16 rfl rfl rfl rfl inX5 (Nat.le_of_ble_eq_true rfl) fX5_10 ?_
      refine t_getI (q := 22) (k := 1) (f := 0) (v := (q1.2.1 1 0)) dX5_hold_19 rfl rfl rfl rfl inX1 (Nat.le_of_ble_eq_true rfl) fX5_65 rfl ?_
      obtain ⟨q6, hc6, h⟩ := bnd h
      try dsimp only at h
      refine t_callS (q := 25) (N := mX5_isBelow) [.int x2, .int (q1.2.1 1 0)] dX5_hold_22 rfl nkX5_isBelow sX5_isBelow lX5_57 ⟨Nat.le_of_ble_eq_true rfl, Nat.le_of_ble_eq_true rfl⟩ rfl rfl (Nat.le_of_ble_eq_true rfl) (Nat.le_of_ble_eq_true rfl) (T_X5_isBelow E _ _ hc6) ?_
      refine s_if_ne (q := 28) (tgt := 34) dX5_hold_25 rfl rfl (fun hb7 => ?_) (fun hb7 => ?_)
      · rw [if_neg hb7] at h
        exact t_sub [0, 1, 2] rfl (T_X5_hold_0_34 E _ _ h)
      · rw [if_pos hb7] at h
        refine s_aload_n (q := 29) dX5_hold_28 rfl rfl 0 rfl ?_
        refine s_iconst (q := 30) (v := 0) dX5_hold_29 rfl rfl ?_
        obtain ⟨q8, hc8, h⟩ := bnd h
        try dsimp only at h
        refine t_callV (q := 33) (N := mX5_finding) (a := eB E + 0) [.int 0] dX5_hold_30 rfl nkX5_finding vkX5_finding lX5_61 ⟨Nat.le_of_ble_eq_true rfl, Nat.le_of_ble_eq_true rfl⟩ (rc_obj (k := 0) rfl rfl) rfl rfl (Nat.le_of_ble_eq_true rfl) (Nat.le_of_ble_eq_true rfl) (T_X5_finding_0 E _ hc8) ?_
        obtain rfl := Option.some.inj h
        exact t_iret dX5_hold_33 rfl rfl
-- X6_isSpot
def G_X6_isSpot (x0 : Int32) (S : ST) : Option (Int32 × ST) := ((G_X6_in1 x0 0 9 S).bind fun q1 => (if bitB q1.1 = true then some (q1.1, q1.2) else none))
set_option maxHeartbeats 4000000 in
set_option maxRecDepth 100000 in
theorem T_X6_isSpot (E : EV) (x0 : Int32) {S : ST} {w : (Int32 × ST)} (h : G_X6_isSpot x0 S = some w) : SD E mX6_isSpot 0 [(0, .int x0)] [] S (some (.int w.1)) w.2 := by
  unfold G_X6_isSpot at h
  refine s_iload_n (q := 1) dX6_isSpot_0 rfl rfl 0 rfl ?_
  refine s_iconst (q := 2) (v := 0) dX6_isSpot_1 rfl rfl ?_
  refine s_bipush (q := 4) (v := 9) dX6_isSpot_2 rfl rfl ?_
  obtain ⟨q1, hc1, h⟩ := bnd h
  try dsimp only at h
  refine t_callS (q := 7) (N := mX6_in1) [.int x0, .int 0, .int 9] dX6_isSpot_4 rfl nkX6_in1 sX6_in1 lX6_54 ⟨Nat.le_of_ble_eq_true rfl, Nat.le_of_ble_eq_true rfl⟩ rfl rfl (Nat.le_of_ble_eq_true rfl) (Nat.le_of_ble_eq_true rfl) (T_X6_in1 E _ _ _ hc1) ?_
  obtain ⟨hg2, h⟩ := chk_some h
  obtain rfl := Option.some.inj h
  exact t_zret dX6_isSpot_7 rfl (bitB_z hg2) rfl
-- X6_hold
def G_X6_hold_51_26 (x1 : Int32) (x2 : Int32) (S : ST) : Option (Int32 × ST) := (if inB (62 + x1) 72 = true then some (1, (wr S 52 ((62 + x1).toNatClampNeg) x2)) else none)
set_option maxHeartbeats 4000000 in
set_option maxRecDepth 100000 in
theorem T_X6_hold_51_26 (E : EV) (x1 : Int32) (x2 : Int32) {S : ST} {w : (Int32 × ST)} (h : G_X6_hold_51_26 x1 x2 S = some w) : SD E mX6_hold 26 [(0, .ref (eB E + 51)), (1, .int x1), (2, .int x2)] [] S (some (.int w.1)) w.2 := by
  unfold G_X6_hold_51_26 at h
  refine s_aload_n (q := 27) dX6_hold_26 rfl rfl 0 rfl ?_
  refine t_getR (q := 30) (k := 51) (f := 0) (t := 52) dX6_hold_27 rfl rfl rfl rfl inX6 (Nat.le_of_ble_eq_true rfl) fX6_9 ?_
  refine s_bipush (q := 32) (v := 62) dX6_hold_30 rfl rfl ?_
  refine s_iload_n (q := 33) dX6_hold_32 rfl rfl 1 rfl ?_
  refine s_iadd (q := 34) dX6_hold_33 rfl ?_
  refine s_iload_n (q := 35) dX6_hold_34 rfl rfl 2 rfl ?_
  obtain ⟨hg5, h⟩ := chk_some h
  refine u_iast (q := 36) (k := 52) dX6_hold_35 rfl rfl (inB_in hg5) rfl ?_
  refine s_iconst (q := 37) (v := 1) dX6_hold_36 rfl rfl ?_
  obtain rfl := Option.some.inj h
  exact t_iret dX6_hold_37 rfl rfl
def G_X6_hold_51 (x1 : Int32) (x2 : Int32) (S : ST) : Option (Int32 × ST) := ((G_X6_isSpot x1 S).bind fun q1 => (if q1.1 = 0 then ((G_X6_no_51 0 q1.2).bind fun q3 => some (q3.1, q3.2)) else (if x2 = (-1) then G_X6_hold_51_26 x1 x2 q1.2 else ((G_X6_isStar_51 x2 q1.2).bind fun q6 => (if q6.1 = 0 then ((G_X6_no_51 0 q6.2).bind fun q8 => some (q8.1, q8.2)) else G_X6_hold_51_26 x1 x2 q6.2)))))
set_option maxHeartbeats 4000000 in
set_option maxRecDepth 100000 in
theorem T_X6_hold_51 (E : EV) (x1 : Int32) (x2 : Int32) {S : ST} {w : (Int32 × ST)} (h : G_X6_hold_51 x1 x2 S = some w) : SD E mX6_hold 0 [(0, .ref (eB E + 51)), (1, .int x1), (2, .int x2)] [] S (some (.int w.1)) w.2 := by
  unfold G_X6_hold_51 at h
  refine s_iload_n (q := 1) dX6_hold_0 rfl rfl 1 rfl ?_
  obtain ⟨q1, hc1, h⟩ := bnd h
  try dsimp only at h
  refine t_callS (q := 4) (N := mX6_isSpot) [.int x1] dX6_hold_1 rfl nkX6_isSpot sX6_isSpot lX6_253 ⟨Nat.le_of_ble_eq_true rfl, Nat.le_of_ble_eq_true rfl⟩ rfl rfl (Nat.le_of_ble_eq_true rfl) (Nat.le_of_ble_eq_true rfl) (T_X6_isSpot E _ hc1) ?_
  refine s_if_eq (q := 7) (tgt := 20) dX6_hold_4 rfl rfl (fun hb2 => ?_) (fun hb2 => ?_)
  · rw [if_pos hb2] at h
    refine s_aload_n (q := 21) dX6_hold_20 rfl rfl 0 rfl ?_
    refine s_iconst (q := 22) (v := 0) dX6_hold_21 rfl rfl ?_
    obtain ⟨q3, hc3, h⟩ := bnd h
    try dsimp only at h
    refine t_callV (q := 25) (N := mX6_no) (a := eB E + 51) [.int 0] dX6_hold_22 rfl nkX6_no vkX6_no lX6_94 ⟨Nat.le_of_ble_eq_true rfl, Nat.le_of_ble_eq_true rfl⟩ (rc_obj (k := 51) rfl rfl) rfl rfl (Nat.le_of_ble_eq_true rfl) (Nat.le_of_ble_eq_true rfl) (T_X6_no_51 E _ hc3) ?_
    obtain rfl := Option.some.inj h
    exact t_iret dX6_hold_25 rfl rfl
  · rw [if_neg hb2] at h
    refine s_iload_n (q := 8) dX6_hold_7 rfl rfl 2 rfl ?_
    refine s_iconst (q := 9) (v := (-1)) dX6_hold_8 rfl rfl ?_
    refine s_icmp_eq (q := 12) (tgt := 26) dX6_hold_9 rfl rfl (fun hb4 => ?_) (fun hb4 => ?_)
    · rw [if_pos hb4] at h
      exact t_sub [0, 1, 2] rfl (T_X6_hold_51_26 E _ _ h)
    · rw [if_neg hb4] at h
      refine s_aload_n (q := 13) dX6_hold_12 rfl rfl 0 rfl ?_
      refine s_iload_n (q := 14) dX6_hold_13 rfl rfl 2 rfl ?_
      obtain ⟨q6, hc6, h⟩ := bnd h
      try dsimp only at h
      refine t_callV (q := 17) (N := mX6_isStar) (a := eB E + 51) [.int x2] dX6_hold_14 rfl nkX6_isStar vkX6_isStar lX6_101 ⟨Nat.le_of_ble_eq_true rfl, Nat.le_of_ble_eq_true rfl⟩ (rc_obj (k := 51) rfl rfl) rfl rfl (Nat.le_of_ble_eq_true rfl) (Nat.le_of_ble_eq_true rfl) (T_X6_isStar_51 E _ hc6) ?_
      refine s_if_ne (q := 20) (tgt := 26) dX6_hold_17 rfl rfl (fun hb7 => ?_) (fun hb7 => ?_)
      · rw [if_neg hb7] at h
        exact t_sub [0, 1, 2] rfl (T_X6_hold_51_26 E _ _ h)
      · rw [if_pos hb7] at h
        refine s_aload_n (q := 21) dX6_hold_20 rfl rfl 0 rfl ?_
        refine s_iconst (q := 22) (v := 0) dX6_hold_21 rfl rfl ?_
        obtain ⟨q8, hc8, h⟩ := bnd h
        try dsimp only at h
        refine t_callV (q := 25) (N := mX6_no) (a := eB E + 51) [.int 0] dX6_hold_22 rfl nkX6_no vkX6_no lX6_94 ⟨Nat.le_of_ble_eq_true rfl, Nat.le_of_ble_eq_true rfl⟩ (rc_obj (k := 51) rfl rfl) rfl rfl (Nat.le_of_ble_eq_true rfl) (Nat.le_of_ble_eq_true rfl) (T_X6_no_51 E _ hc8) ?_
        obtain rfl := Option.some.inj h
        exact t_iret dX6_hold_25 rfl rfl
-- X5_kindOver
def G_X5_kindOver (x0 : Int32) (S : ST) : Option (Int32 × ST) := (if x0 = 1 then some (0, S) else (if x0 = 2 then some (0, S) else (if x0 = 3 then some (2, S) else (if x0 = 4 then some (3, S) else (if x0 = 5 then some (0, S) else (if x0 = 6 then some (1, S) else some ((-1), S)))))))
set_option maxHeartbeats 4000000 in
set_option maxRecDepth 100000 in
theorem T_X5_kindOver (E : EV) (x0 : Int32) {S : ST} {w : (Int32 × ST)} (h : G_X5_kindOver x0 S = some w) : SD E mX5_kindOver 0 [(0, .int x0)] [] S (some (.int w.1)) w.2 := by
  unfold G_X5_kindOver at h
  refine s_iload_n (q := 1) dX5_kindOver_0 rfl rfl 0 rfl ?_
  by_cases hs1_0 : x0 = 1
  · rw [if_pos hs1_0] at h
    refine s_tableIn (off := 39) (tgt := 40) dX5_kindOver_1 (by rw [hs1_0]; decide) (by rw [hs1_0]; decide) (by rw [hs1_0]; rfl) rfl ?_
    refine s_iconst (q := 41) (v := 0) dX5_kindOver_40 rfl rfl ?_
    obtain rfl := Option.some.inj h
    exact t_iret dX5_kindOver_41 rfl rfl
  rw [if_neg hs1_0] at h
  by_cases hs1_1 : x0 = 2
  · rw [if_pos hs1_1] at h
    refine s_tableIn (off := 39) (tgt := 40) dX5_kindOver_1 (by rw [hs1_1]; decide) (by rw [hs1_1]; decide) (by rw [hs1_1]; rfl) rfl ?_
    refine s_iconst (q := 41) (v := 0) dX5_kindOver_40 rfl rfl ?_
    obtain rfl := Option.some.inj h
    exact t_iret dX5_kindOver_41 rfl rfl
  rw [if_neg hs1_1] at h
  by_cases hs1_2 : x0 = 3
  · rw [if_pos hs1_2] at h
    refine s_tableIn (off := 41) (tgt := 42) dX5_kindOver_1 (by rw [hs1_2]; decide) (by rw [hs1_2]; decide) (by rw [hs1_2]; rfl) rfl ?_
    refine s_iconst (q := 43) (v := 2) dX5_kindOver_42 rfl rfl ?_
    obtain rfl := Option.some.inj h
    exact t_iret dX5_kindOver_43 rfl rfl
  rw [if_neg hs1_2] at h
  by_cases hs1_3 : x0 = 4
  · rw [if_pos hs1_3] at h
    refine s_tableIn (off := 43) (tgt := 44) dX5_kindOver_1 (by rw [hs1_3]; decide) (by rw [hs1_3]; decide) (by rw [hs1_3]; rfl) rfl ?_
    refine s_iconst (q := 45) (v := 3) dX5_kindOver_44 rfl rfl ?_
    obtain rfl := Option.some.inj h
    exact t_iret dX5_kindOver_45 rfl rfl
  rw [if_neg hs1_3] at h
  by_cases hs1_4 : x0 = 5
  · rw [if_pos hs1_4] at h
    refine s_tableIn (off := 39) (tgt := 40) dX5_kindOver_1 (by rw [hs1_4]; decide) (by rw [hs1_4]; decide) (by rw [hs1_4]; rfl) rfl ?_
    refine s_iconst (q := 41) (v := 0) dX5_kindOver_40 rfl rfl ?_
    obtain rfl := Option.some.inj h
    exact t_iret dX5_kindOver_41 rfl rfl
  rw [if_neg hs1_4] at h
  by_cases hs1_5 : x0 = 6
  · rw [if_pos hs1_5] at h
    refine s_tableIn (off := 45) (tgt := 46) dX5_kindOver_1 (by rw [hs1_5]; decide) (by rw [hs1_5]; decide) (by rw [hs1_5]; rfl) rfl ?_
    refine s_iconst (q := 47) (v := 1) dX5_kindOver_46 rfl rfl ?_
    obtain rfl := Option.some.inj h
    exact t_iret dX5_kindOver_47 rfl rfl
  rw [if_neg hs1_5] at h
  refine s_tableOut (tgt := 48) dX5_kindOver_1 (by have e0 := lv_neT (a := 1) hs1_0 (by decide); have e1 := lv_neT (a := 2) hs1_1 (by decide); have e2 := lv_neT (a := 3) hs1_2 (by decide); have e3 := lv_neT (a := 4) hs1_3 (by decide); have e4 := lv_neT (a := 5) hs1_4 (by decide); have e5 := lv_neT (a := 6) hs1_5 (by decide); omega) rfl ?_
  refine s_iconst (q := 49) (v := (-1)) dX5_kindOver_48 rfl rfl ?_
  obtain rfl := Option.some.inj h
  exact t_iret dX5_kindOver_49 rfl rfl
