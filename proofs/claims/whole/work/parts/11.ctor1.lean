def S_0 : ST := (fun _ _ => 0, 0)
def sh_0 : List ShN := []
def sh_1 : List ShN := [.inl (5, [2, 2, 2, 0, 2, 2, 2, 2, 2, 2])]
def sh_2 : List ShN := [.inl (5, [2, 2, 2, 0, 2, 2, 2, 2, 2, 2]), .inl (1, [0, 2, 2, 2, 2, 2, 2, 2, 0, 0, 2, 2, 0])]
def sh_3 : List ShN := [.inl (5, [2, 2, 2, 0, 2, 2, 2, 2, 2, 2]), .inl (1, [0, 2, 2, 2, 2, 2, 2, 2, 0, 0, 2, 2, 0]), .inr (.inl (0, 10))]
def sh_4 : List ShN := [.inl (5, [2, 2, 2, 0, 2, 2, 2, 2, 2, 2]), .inl (1, [0, 5, 2, 2, 2, 2, 2, 2, 0, 0, 2, 2, 0]), .inr (.inl (0, 10))]
def sh_5 : List ShN := [.inl (5, [2, 2, 2, 0, 2, 2, 2, 2, 2, 2]), .inl (1, [0, 5, 2, 2, 2, 2, 2, 2, 0, 0, 2, 2, 0]), .inr (.inl (0, 10)), .inr (.inl (0, 10))]
def sh_6 : List ShN := [.inl (5, [2, 2, 2, 0, 2, 2, 2, 2, 2, 2]), .inl (1, [0, 5, 6, 2, 2, 2, 2, 2, 0, 0, 2, 2, 0]), .inr (.inl (0, 10)), .inr (.inl (0, 10))]
def sh_7 : List ShN := [.inl (5, [2, 2, 2, 0, 2, 2, 2, 2, 2, 2]), .inl (1, [0, 5, 6, 2, 2, 2, 2, 2, 0, 0, 2, 2, 0]), .inr (.inl (0, 10)), .inr (.inl (0, 10)), .inr (.inl (0, 10))]
def sh_8 : List ShN := [.inl (5, [2, 2, 2, 0, 2, 2, 2, 2, 2, 2]), .inl (1, [0, 5, 6, 7, 2, 2, 2, 2, 0, 0, 2, 2, 0]), .inr (.inl (0, 10)), .inr (.inl (0, 10)), .inr (.inl (0, 10))]
def sh_9 : List ShN := [.inl (5, [2, 2, 2, 0, 2, 2, 2, 2, 2, 2]), .inl (1, [0, 5, 6, 7, 2, 2, 2, 2, 0, 0, 2, 2, 0]), .inr (.inl (0, 10)), .inr (.inl (0, 10)), .inr (.inl (0, 10)), .inr (.inl (0, 10))]
def sh_10 : List ShN := [.inl (5, [2, 2, 2, 0, 2, 2, 2, 2, 2, 2]), .inl (1, [0, 5, 6, 7, 8, 2, 2, 2, 0, 0, 2, 2, 0]), .inr (.inl (0, 10)), .inr (.inl (0, 10)), .inr (.inl (0, 10)), .inr (.inl (0, 10))]
def sh_11 : List ShN := [.inl (5, [2, 2, 2, 0, 2, 2, 2, 2, 2, 2]), .inl (1, [0, 5, 6, 7, 8, 2, 2, 2, 0, 0, 2, 2, 0]), .inr (.inl (0, 10)), .inr (.inl (0, 10)), .inr (.inl (0, 10)), .inr (.inl (0, 10)), .inr (.inl (0, 4))]
def sh_12 : List ShN := [.inl (5, [2, 2, 2, 0, 2, 2, 2, 2, 2, 2]), .inl (1, [0, 5, 6, 7, 8, 9, 2, 2, 0, 0, 2, 2, 0]), .inr (.inl (0, 10)), .inr (.inl (0, 10)), .inr (.inl (0, 10)), .inr (.inl (0, 10)), .inr (.inl (0, 4))]
def sh_13 : List ShN := [.inl (5, [2, 2, 2, 0, 2, 2, 2, 2, 2, 2]), .inl (1, [0, 5, 6, 7, 8, 9, 2, 2, 0, 0, 2, 2, 0]), .inr (.inl (0, 10)), .inr (.inl (0, 10)), .inr (.inl (0, 10)), .inr (.inl (0, 10)), .inr (.inl (0, 4)), .inr (.inl (0, 4))]
def sh_14 : List ShN := [.inl (5, [2, 2, 2, 0, 2, 2, 2, 2, 2, 2]), .inl (1, [0, 5, 6, 7, 8, 9, 10, 2, 0, 0, 2, 2, 0]), .inr (.inl (0, 10)), .inr (.inl (0, 10)), .inr (.inl (0, 10)), .inr (.inl (0, 10)), .inr (.inl (0, 4)), .inr (.inl (0, 4))]
def sh_15 : List ShN := [.inl (5, [2, 2, 2, 0, 2, 2, 2, 2, 2, 2]), .inl (1, [0, 5, 6, 7, 8, 9, 10, 2, 0, 0, 2, 2, 0]), .inr (.inl (0, 10)), .inr (.inl (0, 10)), .inr (.inl (0, 10)), .inr (.inl (0, 10)), .inr (.inl (0, 4)), .inr (.inl (0, 4)), .inr (.inl (0, 4))]
def sh_16 : List ShN := [.inl (5, [2, 2, 2, 0, 2, 2, 2, 2, 2, 2]), .inl (1, [0, 5, 6, 7, 8, 9, 10, 11, 0, 0, 2, 2, 0]), .inr (.inl (0, 10)), .inr (.inl (0, 10)), .inr (.inl (0, 10)), .inr (.inl (0, 10)), .inr (.inl (0, 4)), .inr (.inl (0, 4)), .inr (.inl (0, 4))]
def sh_17 : List ShN := [.inl (5, [2, 2, 2, 0, 2, 2, 2, 2, 2, 2]), .inl (1, [0, 5, 6, 7, 8, 9, 10, 11, 0, 0, 2, 2, 0]), .inr (.inl (0, 10)), .inr (.inl (0, 10)), .inr (.inl (0, 10)), .inr (.inl (0, 10)), .inr (.inl (0, 4)), .inr (.inl (0, 4)), .inr (.inl (0, 4)), .inr (.inl (0, 6))]
def sh_18 : List ShN := [.inl (5, [2, 2, 2, 0, 2, 2, 2, 2, 2, 2]), .inl (1, [0, 5, 6, 7, 8, 9, 10, 11, 0, 0, 12, 2, 0]), .inr (.inl (0, 10)), .inr (.inl (0, 10)), .inr (.inl (0, 10)), .inr (.inl (0, 10)), .inr (.inl (0, 4)), .inr (.inl (0, 4)), .inr (.inl (0, 4)), .inr (.inl (0, 6))]
def sh_19 : List ShN := [.inl (5, [2, 2, 2, 0, 2, 2, 2, 2, 2, 2]), .inl (1, [0, 5, 6, 7, 8, 9, 10, 11, 0, 0, 12, 2, 0]), .inr (.inl (0, 10)), .inr (.inl (0, 10)), .inr (.inl (0, 10)), .inr (.inl (0, 10)), .inr (.inl (0, 4)), .inr (.inl (0, 4)), .inr (.inl (0, 4)), .inr (.inl (0, 6)), .inr (.inl (0, 10))]
def sh_20 : List ShN := [.inl (5, [2, 2, 2, 0, 2, 2, 2, 2, 2, 2]), .inl (1, [0, 5, 6, 7, 8, 9, 10, 11, 0, 0, 12, 13, 0]), .inr (.inl (0, 10)), .inr (.inl (0, 10)), .inr (.inl (0, 10)), .inr (.inl (0, 10)), .inr (.inl (0, 4)), .inr (.inl (0, 4)), .inr (.inl (0, 4)), .inr (.inl (0, 6)), .inr (.inl (0, 10))]
def S_1 : ST := (wr (wr (wr (fillS (fillS (wr (wr (wr (wr S_0 1 0 0) 1 8 0) 1 9 0) 1 12 1) 7 60 4) 10 (-1) 10) 8 0 1) 8 2 5) 8 3 20)
set_option maxHeartbeats 8000000 in
set_option maxRecDepth 100000 in
theorem C_2 (E : EV) {Q : Option Value → List va_E → Prop} (K : Q none (hN sh_20 E S_1)) : SA E mX1_init true true 9 68 0 (lv_args 0 [.ref (eB E + 1)]) [] (hN sh_2 E S_0) Q := by
  refine s_aload_n (q := 1) dX1_init_0 rfl rfl 0 rfl ?_
  refine s_objInit (q := 4) dX1_init_1 rfl lX1_3 iObj oObj (Nat.le_of_ble_eq_true rfl) (Nat.le_of_ble_eq_true rfl) ?_
  refine s_aload_n (q := 5) dX1_init_4 rfl rfl 0 rfl ?_
  refine s_iconst (q := 6) (v := 0) dX1_init_5 rfl rfl ?_
  refine n_putI (q := 9) (k0 := 1) (f := 0) dX1_init_6 rfl rfl rfl rfl inX1 tyX1_ok nmX1 (Nat.le_of_ble_eq_true rfl) fX1_9 rfl rfl rfl ?_
  refine s_aload_n (q := 10) dX1_init_9 rfl rfl 0 rfl ?_
  refine s_bipush (q := 12) (v := 10) dX1_init_10 rfl rfl ?_
  refine n_newi (q := 14) (mc := 8) (ms := 58) (n := 10) (L := 2) (sh' := sh_3) dX1_init_12 rfl (by decide) (by decide) (by decide) rfl rfl rfl ?_
  refine n_putR (q := 17) (k0 := 1) (f := 1) (t := 2) (sh' := sh_4) dX1_init_14 rfl rfl rfl inX1 tyX1_ok nmX1 (Nat.le_of_ble_eq_true rfl) fX1_15 rfl rfl rfl (fun _ => rfl) (fun _ => rfl) (Nat.le_of_ble_eq_true rfl) rfl ?_
  refine s_aload_n (q := 18) dX1_init_17 rfl rfl 0 rfl ?_
  refine s_bipush (q := 20) (v := 10) dX1_init_18 rfl rfl ?_
  refine n_newi (q := 22) (mc := 7) (ms := 48) (n := 10) (L := 3) (sh' := sh_5) dX1_init_20 rfl (by decide) (by decide) (by decide) rfl rfl rfl ?_
  refine n_putR (q := 25) (k0 := 1) (f := 2) (t := 3) (sh' := sh_6) dX1_init_22 rfl rfl rfl inX1 tyX1_ok nmX1 (Nat.le_of_ble_eq_true rfl) fX1_19 rfl rfl rfl (fun _ => rfl) (fun _ => rfl) (Nat.le_of_ble_eq_true rfl) rfl ?_
  refine s_aload_n (q := 26) dX1_init_25 rfl rfl 0 rfl ?_
  refine s_bipush (q := 28) (v := 10) dX1_init_26 rfl rfl ?_
  refine n_newi (q := 30) (mc := 6) (ms := 38) (n := 10) (L := 4) (sh' := sh_7) dX1_init_28 rfl (by decide) (by decide) (by decide) rfl rfl rfl ?_
  refine n_putR (q := 33) (k0 := 1) (f := 3) (t := 4) (sh' := sh_8) dX1_init_30 rfl rfl rfl inX1 tyX1_ok nmX1 (Nat.le_of_ble_eq_true rfl) fX1_22 rfl rfl rfl (fun _ => rfl) (fun _ => rfl) (Nat.le_of_ble_eq_true rfl) rfl ?_
  refine s_aload_n (q := 34) dX1_init_33 rfl rfl 0 rfl ?_
  refine s_bipush (q := 36) (v := 10) dX1_init_34 rfl rfl ?_
  refine n_newi (q := 38) (mc := 5) (ms := 28) (n := 10) (L := 5) (sh' := sh_9) dX1_init_36 rfl (by decide) (by decide) (by decide) rfl rfl rfl ?_
  refine n_putR (q := 41) (k0 := 1) (f := 4) (t := 5) (sh' := sh_10) dX1_init_38 rfl rfl rfl inX1 tyX1_ok nmX1 (Nat.le_of_ble_eq_true rfl) fX1_25 rfl rfl rfl (fun _ => rfl) (fun _ => rfl) (Nat.le_of_ble_eq_true rfl) rfl ?_
  refine s_aload_n (q := 42) dX1_init_41 rfl rfl 0 rfl ?_
  refine s_iconst (q := 43) (v := 4) dX1_init_42 rfl rfl ?_
  refine n_newi (q := 45) (mc := 4) (ms := 24) (n := 4) (L := 6) (sh' := sh_11) dX1_init_43 rfl (by decide) (by decide) (by decide) rfl rfl rfl ?_
  refine n_putR (q := 48) (k0 := 1) (f := 5) (t := 6) (sh' := sh_12) dX1_init_45 rfl rfl rfl inX1 tyX1_ok nmX1 (Nat.le_of_ble_eq_true rfl) fX1_28 rfl rfl rfl (fun _ => rfl) (fun _ => rfl) (Nat.le_of_ble_eq_true rfl) rfl ?_
  refine s_aload_n (q := 49) dX1_init_48 rfl rfl 0 rfl ?_
  refine s_iconst (q := 50) (v := 4) dX1_init_49 rfl rfl ?_
  refine n_newi (q := 52) (mc := 3) (ms := 20) (n := 4) (L := 7) (sh' := sh_13) dX1_init_50 rfl (by decide) (by decide) (by decide) rfl rfl rfl ?_
  refine n_putR (q := 55) (k0 := 1) (f := 6) (t := 7) (sh' := sh_14) dX1_init_52 rfl rfl rfl inX1 tyX1_ok nmX1 (Nat.le_of_ble_eq_true rfl) fX1_31 rfl rfl rfl (fun _ => rfl) (fun _ => rfl) (Nat.le_of_ble_eq_true rfl) rfl ?_
  refine s_aload_n (q := 56) dX1_init_55 rfl rfl 0 rfl ?_
  refine s_iconst (q := 57) (v := 4) dX1_init_56 rfl rfl ?_
  refine n_newi (q := 59) (mc := 2) (ms := 16) (n := 4) (L := 8) (sh' := sh_15) dX1_init_57 rfl (by decide) (by decide) (by decide) rfl rfl rfl ?_
  refine n_putR (q := 62) (k0 := 1) (f := 7) (t := 8) (sh' := sh_16) dX1_init_59 rfl rfl rfl inX1 tyX1_ok nmX1 (Nat.le_of_ble_eq_true rfl) fX1_34 rfl rfl rfl (fun _ => rfl) (fun _ => rfl) (Nat.le_of_ble_eq_true rfl) rfl ?_
  refine s_aload_n (q := 63) dX1_init_62 rfl rfl 0 rfl ?_
  refine s_iconst (q := 64) (v := 0) dX1_init_63 rfl rfl ?_
  refine n_putI (q := 67) (k0 := 1) (f := 8) dX1_init_64 rfl rfl rfl rfl inX1 tyX1_ok nmX1 (Nat.le_of_ble_eq_true rfl) fX1_37 rfl rfl rfl ?_
  refine s_aload_n (q := 68) dX1_init_67 rfl rfl 0 rfl ?_
  refine s_iconst (q := 69) (v := 0) dX1_init_68 rfl rfl ?_
  refine n_putI (q := 72) (k0 := 1) (f := 9) dX1_init_69 rfl rfl rfl rfl inX1 tyX1_ok nmX1 (Nat.le_of_ble_eq_true rfl) fX1_40 rfl rfl rfl ?_
  refine s_aload_n (q := 73) dX1_init_72 rfl rfl 0 rfl ?_
  refine s_bipush (q := 75) (v := 6) dX1_init_73 rfl rfl ?_
  refine n_newi (q := 77) (mc := 1) (ms := 10) (n := 6) (L := 9) (sh' := sh_17) dX1_init_75 rfl (by decide) (by decide) (by decide) rfl rfl rfl ?_
  refine n_putR (q := 80) (k0 := 1) (f := 10) (t := 9) (sh' := sh_18) dX1_init_77 rfl rfl rfl inX1 tyX1_ok nmX1 (Nat.le_of_ble_eq_true rfl) fX1_43 rfl rfl rfl (fun _ => rfl) (fun _ => rfl) (Nat.le_of_ble_eq_true rfl) rfl ?_
  refine s_aload_n (q := 81) dX1_init_80 rfl rfl 0 rfl ?_
  refine s_bipush (q := 83) (v := 10) dX1_init_81 rfl rfl ?_
  refine n_newi (q := 85) (mc := 0) (ms := 0) (n := 10) (L := 10) (sh' := sh_19) dX1_init_83 rfl (by decide) (by decide) (by decide) rfl rfl rfl ?_
  refine n_putR (q := 88) (k0 := 1) (f := 11) (t := 10) (sh' := sh_20) dX1_init_85 rfl rfl rfl inX1 tyX1_ok nmX1 (Nat.le_of_ble_eq_true rfl) fX1_46 rfl rfl rfl (fun _ => rfl) (fun _ => rfl) (Nat.le_of_ble_eq_true rfl) rfl ?_
  refine s_aload_n (q := 89) dX1_init_88 rfl rfl 0 rfl ?_
  refine s_iconst (q := 90) (v := 1) dX1_init_89 rfl rfl ?_
  refine n_putI (q := 93) (k0 := 1) (f := 12) dX1_init_90 rfl rfl rfl rfl inX1 tyX1_ok nmX1 (Nat.le_of_ble_eq_true rfl) fX1_49 rfl rfl rfl ?_
  refine s_aload_n (q := 94) dX1_init_93 rfl rfl 0 rfl ?_
  refine n_getR (q := 97) (k0 := 1) (f := 6) (t := 7) dX1_init_94 rfl rfl rfl rfl inX1 (Nat.le_of_ble_eq_true rfl) fX1_31 ?_
  refine s_bipush (q := 99) (v := 60) dX1_init_97 rfl rfl ?_
  refine s_callS (q := 102) (N := mJ7_fill_53178) (mc1 := 0) (ms1 := 0) (mc := 0) (ms := 0) [.ref (eB E + 7), .int 60] dX1_init_99 rfl nkJ7_fill_53178 sJ7_fill_53178 lX1_52 ⟨Nat.le_of_ble_eq_true rfl, Nat.le_of_ble_eq_true rfl⟩ rfl rfl (Nat.le_of_ble_eq_true rfl) (Nat.le_of_ble_eq_true rfl) (n_fill E (n := 4) rfl (by decide) ?_)
  refine s_aload_n (q := 103) dX1_init_102 rfl rfl 0 rfl ?_
  refine n_getR (q := 106) (k0 := 1) (f := 11) (t := 10) dX1_init_103 rfl rfl rfl rfl inX1 (Nat.le_of_ble_eq_true rfl) fX1_46 ?_
  refine s_iconst (q := 107) (v := (-1)) dX1_init_106 rfl rfl ?_
  refine s_callS (q := 110) (N := mJ7_fill_53178) (mc1 := 0) (ms1 := 0) (mc := 0) (ms := 0) [.ref (eB E + 10), .int (-1)] dX1_init_107 rfl nkJ7_fill_53178 sJ7_fill_53178 lX1_52 ⟨Nat.le_of_ble_eq_true rfl, Nat.le_of_ble_eq_true rfl⟩ rfl rfl (Nat.le_of_ble_eq_true rfl) (Nat.le_of_ble_eq_true rfl) (n_fill E (n := 10) rfl (by decide) ?_)
  refine s_aload_n (q := 111) dX1_init_110 rfl rfl 0 rfl ?_
  refine n_getR (q := 114) (k0 := 1) (f := 7) (t := 8) dX1_init_111 rfl rfl rfl rfl inX1 (Nat.le_of_ble_eq_true rfl) fX1_34 ?_
  refine s_iconst (q := 115) (v := 0) dX1_init_114 rfl rfl ?_
  refine s_iconst (q := 116) (v := 1) dX1_init_115 rfl rfl ?_
  refine n_iast (q := 117) (k0 := 8) (j := 0) dX1_init_116 rfl rfl (inB_in (by decide)) (by decide) ?_
  refine s_aload_n (q := 118) dX1_init_117 rfl rfl 0 rfl ?_
  refine n_getR (q := 121) (k0 := 1) (f := 7) (t := 8) dX1_init_118 rfl rfl rfl rfl inX1 (Nat.le_of_ble_eq_true rfl) fX1_34 ?_
  refine s_iconst (q := 122) (v := 2) dX1_init_121 rfl rfl ?_
  refine s_iconst (q := 123) (v := 5) dX1_init_122 rfl rfl ?_
  refine n_iast (q := 124) (k0 := 8) (j := 2) dX1_init_123 rfl rfl (inB_in (by decide)) (by decide) ?_
  refine s_aload_n (q := 125) dX1_init_124 rfl rfl 0 rfl ?_
  refine n_getR (q := 128) (k0 := 1) (f := 7) (t := 8) dX1_init_125 rfl rfl rfl rfl inX1 (Nat.le_of_ble_eq_true rfl) fX1_34 ?_
  refine s_iconst (q := 129) (v := 3) dX1_init_128 rfl rfl ?_
  refine s_bipush (q := 131) (v := 20) dX1_init_129 rfl rfl ?_
  refine n_iast (q := 132) (k0 := 8) (j := 3) dX1_init_131 rfl rfl (inB_in (by decide)) (by decide) ?_
  exact s_vret dX1_init_132 rfl (fun h => h) K
def sh_21 : List ShN := [.inl (5, [4, 2, 2, 0, 2, 2, 2, 2, 2, 2]), .inl (1, [0, 5, 6, 7, 8, 9, 10, 11, 0, 0, 12, 13, 0]), .inr (.inl (0, 10)), .inr (.inl (0, 10)), .inr (.inl (0, 10)), .inr (.inl (0, 10)), .inr (.inl (0, 4)), .inr (.inl (0, 4)), .inr (.inl (0, 4)), .inr (.inl (0, 6)), .inr (.inl (0, 10))]
def sh_22 : List ShN := [.inl (5, [4, 2, 2, 0, 2, 2, 2, 2, 2, 2]), .inl (1, [0, 5, 6, 7, 8, 9, 10, 11, 0, 0, 12, 13, 0]), .inr (.inl (0, 10)), .inr (.inl (0, 10)), .inr (.inl (0, 10)), .inr (.inl (0, 10)), .inr (.inl (0, 4)), .inr (.inl (0, 4)), .inr (.inl (0, 4)), .inr (.inl (0, 6)), .inr (.inl (0, 10)), .inl (1, [0, 2, 2, 2, 2, 2, 2, 2, 0, 0, 2, 2, 0])]
def sh_23 : List ShN := [.inl (5, [4, 2, 2, 0, 2, 2, 2, 2, 2, 2]), .inl (1, [0, 5, 6, 7, 8, 9, 10, 11, 0, 0, 12, 13, 0]), .inr (.inl (0, 10)), .inr (.inl (0, 10)), .inr (.inl (0, 10)), .inr (.inl (0, 10)), .inr (.inl (0, 4)), .inr (.inl (0, 4)), .inr (.inl (0, 4)), .inr (.inl (0, 6)), .inr (.inl (0, 10)), .inl (1, [0, 2, 2, 2, 2, 2, 2, 2, 0, 0, 2, 2, 0]), .inr (.inl (0, 10))]
def sh_24 : List ShN := [.inl (5, [4, 2, 2, 0, 2, 2, 2, 2, 2, 2]), .inl (1, [0, 5, 6, 7, 8, 9, 10, 11, 0, 0, 12, 13, 0]), .inr (.inl (0, 10)), .inr (.inl (0, 10)), .inr (.inl (0, 10)), .inr (.inl (0, 10)), .inr (.inl (0, 4)), .inr (.inl (0, 4)), .inr (.inl (0, 4)), .inr (.inl (0, 6)), .inr (.inl (0, 10)), .inl (1, [0, 15, 2, 2, 2, 2, 2, 2, 0, 0, 2, 2, 0]), .inr (.inl (0, 10))]
def sh_25 : List ShN := [.inl (5, [4, 2, 2, 0, 2, 2, 2, 2, 2, 2]), .inl (1, [0, 5, 6, 7, 8, 9, 10, 11, 0, 0, 12, 13, 0]), .inr (.inl (0, 10)), .inr (.inl (0, 10)), .inr (.inl (0, 10)), .inr (.inl (0, 10)), .inr (.inl (0, 4)), .inr (.inl (0, 4)), .inr (.inl (0, 4)), .inr (.inl (0, 6)), .inr (.inl (0, 10)), .inl (1, [0, 15, 2, 2, 2, 2, 2, 2, 0, 0, 2, 2, 0]), .inr (.inl (0, 10)), .inr (.inl (0, 10))]
def sh_26 : List ShN := [.inl (5, [4, 2, 2, 0, 2, 2, 2, 2, 2, 2]), .inl (1, [0, 5, 6, 7, 8, 9, 10, 11, 0, 0, 12, 13, 0]), .inr (.inl (0, 10)), .inr (.inl (0, 10)), .inr (.inl (0, 10)), .inr (.inl (0, 10)), .inr (.inl (0, 4)), .inr (.inl (0, 4)), .inr (.inl (0, 4)), .inr (.inl (0, 6)), .inr (.inl (0, 10)), .inl (1, [0, 15, 16, 2, 2, 2, 2, 2, 0, 0, 2, 2, 0]), .inr (.inl (0, 10)), .inr (.inl (0, 10))]
def sh_27 : List ShN := [.inl (5, [4, 2, 2, 0, 2, 2, 2, 2, 2, 2]), .inl (1, [0, 5, 6, 7, 8, 9, 10, 11, 0, 0, 12, 13, 0]), .inr (.inl (0, 10)), .inr (.inl (0, 10)), .inr (.inl (0, 10)), .inr (.inl (0, 10)), .inr (.inl (0, 4)), .inr (.inl (0, 4)), .inr (.inl (0, 4)), .inr (.inl (0, 6)), .inr (.inl (0, 10)), .inl (1, [0, 15, 16, 2, 2, 2, 2, 2, 0, 0, 2, 2, 0]), .inr (.inl (0, 10)), .inr (.inl (0, 10)), .inr (.inl (0, 10))]
def sh_28 : List ShN := [.inl (5, [4, 2, 2, 0, 2, 2, 2, 2, 2, 2]), .inl (1, [0, 5, 6, 7, 8, 9, 10, 11, 0, 0, 12, 13, 0]), .inr (.inl (0, 10)), .inr (.inl (0, 10)), .inr (.inl (0, 10)), .inr (.inl (0, 10)), .inr (.inl (0, 4)), .inr (.inl (0, 4)), .inr (.inl (0, 4)), .inr (.inl (0, 6)), .inr (.inl (0, 10)), .inl (1, [0, 15, 16, 17, 2, 2, 2, 2, 0, 0, 2, 2, 0]), .inr (.inl (0, 10)), .inr (.inl (0, 10)), .inr (.inl (0, 10))]
def sh_29 : List ShN := [.inl (5, [4, 2, 2, 0, 2, 2, 2, 2, 2, 2]), .inl (1, [0, 5, 6, 7, 8, 9, 10, 11, 0, 0, 12, 13, 0]), .inr (.inl (0, 10)), .inr (.inl (0, 10)), .inr (.inl (0, 10)), .inr (.inl (0, 10)), .inr (.inl (0, 4)), .inr (.inl (0, 4)), .inr (.inl (0, 4)), .inr (.inl (0, 6)), .inr (.inl (0, 10)), .inl (1, [0, 15, 16, 17, 2, 2, 2, 2, 0, 0, 2, 2, 0]), .inr (.inl (0, 10)), .inr (.inl (0, 10)), .inr (.inl (0, 10)), .inr (.inl (0, 10))]
def sh_30 : List ShN := [.inl (5, [4, 2, 2, 0, 2, 2, 2, 2, 2, 2]), .inl (1, [0, 5, 6, 7, 8, 9, 10, 11, 0, 0, 12, 13, 0]), .inr (.inl (0, 10)), .inr (.inl (0, 10)), .inr (.inl (0, 10)), .inr (.inl (0, 10)), .inr (.inl (0, 4)), .inr (.inl (0, 4)), .inr (.inl (0, 4)), .inr (.inl (0, 6)), .inr (.inl (0, 10)), .inl (1, [0, 15, 16, 17, 18, 2, 2, 2, 0, 0, 2, 2, 0]), .inr (.inl (0, 10)), .inr (.inl (0, 10)), .inr (.inl (0, 10)), .inr (.inl (0, 10))]
def sh_31 : List ShN := [.inl (5, [4, 2, 2, 0, 2, 2, 2, 2, 2, 2]), .inl (1, [0, 5, 6, 7, 8, 9, 10, 11, 0, 0, 12, 13, 0]), .inr (.inl (0, 10)), .inr (.inl (0, 10)), .inr (.inl (0, 10)), .inr (.inl (0, 10)), .inr (.inl (0, 4)), .inr (.inl (0, 4)), .inr (.inl (0, 4)), .inr (.inl (0, 6)), .inr (.inl (0, 10)), .inl (1, [0, 15, 16, 17, 18, 2, 2, 2, 0, 0, 2, 2, 0]), .inr (.inl (0, 10)), .inr (.inl (0, 10)), .inr (.inl (0, 10)), .inr (.inl (0, 10)), .inr (.inl (0, 4))]
def sh_32 : List ShN := [.inl (5, [4, 2, 2, 0, 2, 2, 2, 2, 2, 2]), .inl (1, [0, 5, 6, 7, 8, 9, 10, 11, 0, 0, 12, 13, 0]), .inr (.inl (0, 10)), .inr (.inl (0, 10)), .inr (.inl (0, 10)), .inr (.inl (0, 10)), .inr (.inl (0, 4)), .inr (.inl (0, 4)), .inr (.inl (0, 4)), .inr (.inl (0, 6)), .inr (.inl (0, 10)), .inl (1, [0, 15, 16, 17, 18, 19, 2, 2, 0, 0, 2, 2, 0]), .inr (.inl (0, 10)), .inr (.inl (0, 10)), .inr (.inl (0, 10)), .inr (.inl (0, 10)), .inr (.inl (0, 4))]
def sh_33 : List ShN := [.inl (5, [4, 2, 2, 0, 2, 2, 2, 2, 2, 2]), .inl (1, [0, 5, 6, 7, 8, 9, 10, 11, 0, 0, 12, 13, 0]), .inr (.inl (0, 10)), .inr (.inl (0, 10)), .inr (.inl (0, 10)), .inr (.inl (0, 10)), .inr (.inl (0, 4)), .inr (.inl (0, 4)), .inr (.inl (0, 4)), .inr (.inl (0, 6)), .inr (.inl (0, 10)), .inl (1, [0, 15, 16, 17, 18, 19, 2, 2, 0, 0, 2, 2, 0]), .inr (.inl (0, 10)), .inr (.inl (0, 10)), .inr (.inl (0, 10)), .inr (.inl (0, 10)), .inr (.inl (0, 4)), .inr (.inl (0, 4))]
def sh_34 : List ShN := [.inl (5, [4, 2, 2, 0, 2, 2, 2, 2, 2, 2]), .inl (1, [0, 5, 6, 7, 8, 9, 10, 11, 0, 0, 12, 13, 0]), .inr (.inl (0, 10)), .inr (.inl (0, 10)), .inr (.inl (0, 10)), .inr (.inl (0, 10)), .inr (.inl (0, 4)), .inr (.inl (0, 4)), .inr (.inl (0, 4)), .inr (.inl (0, 6)), .inr (.inl (0, 10)), .inl (1, [0, 15, 16, 17, 18, 19, 20, 2, 0, 0, 2, 2, 0]), .inr (.inl (0, 10)), .inr (.inl (0, 10)), .inr (.inl (0, 10)), .inr (.inl (0, 10)), .inr (.inl (0, 4)), .inr (.inl (0, 4))]
def sh_35 : List ShN := [.inl (5, [4, 2, 2, 0, 2, 2, 2, 2, 2, 2]), .inl (1, [0, 5, 6, 7, 8, 9, 10, 11, 0, 0, 12, 13, 0]), .inr (.inl (0, 10)), .inr (.inl (0, 10)), .inr (.inl (0, 10)), .inr (.inl (0, 10)), .inr (.inl (0, 4)), .inr (.inl (0, 4)), .inr (.inl (0, 4)), .inr (.inl (0, 6)), .inr (.inl (0, 10)), .inl (1, [0, 15, 16, 17, 18, 19, 20, 2, 0, 0, 2, 2, 0]), .inr (.inl (0, 10)), .inr (.inl (0, 10)), .inr (.inl (0, 10)), .inr (.inl (0, 10)), .inr (.inl (0, 4)), .inr (.inl (0, 4)), .inr (.inl (0, 4))]
def sh_36 : List ShN := [.inl (5, [4, 2, 2, 0, 2, 2, 2, 2, 2, 2]), .inl (1, [0, 5, 6, 7, 8, 9, 10, 11, 0, 0, 12, 13, 0]), .inr (.inl (0, 10)), .inr (.inl (0, 10)), .inr (.inl (0, 10)), .inr (.inl (0, 10)), .inr (.inl (0, 4)), .inr (.inl (0, 4)), .inr (.inl (0, 4)), .inr (.inl (0, 6)), .inr (.inl (0, 10)), .inl (1, [0, 15, 16, 17, 18, 19, 20, 21, 0, 0, 2, 2, 0]), .inr (.inl (0, 10)), .inr (.inl (0, 10)), .inr (.inl (0, 10)), .inr (.inl (0, 10)), .inr (.inl (0, 4)), .inr (.inl (0, 4)), .inr (.inl (0, 4))]
def sh_37 : List ShN := [.inl (5, [4, 2, 2, 0, 2, 2, 2, 2, 2, 2]), .inl (1, [0, 5, 6, 7, 8, 9, 10, 11, 0, 0, 12, 13, 0]), .inr (.inl (0, 10)), .inr (.inl (0, 10)), .inr (.inl (0, 10)), .inr (.inl (0, 10)), .inr (.inl (0, 4)), .inr (.inl (0, 4)), .inr (.inl (0, 4)), .inr (.inl (0, 6)), .inr (.inl (0, 10)), .inl (1, [0, 15, 16, 17, 18, 19, 20, 21, 0, 0, 2, 2, 0]), .inr (.inl (0, 10)), .inr (.inl (0, 10)), .inr (.inl (0, 10)), .inr (.inl (0, 10)), .inr (.inl (0, 4)), .inr (.inl (0, 4)), .inr (.inl (0, 4)), .inr (.inl (0, 6))]
def sh_38 : List ShN := [.inl (5, [4, 2, 2, 0, 2, 2, 2, 2, 2, 2]), .inl (1, [0, 5, 6, 7, 8, 9, 10, 11, 0, 0, 12, 13, 0]), .inr (.inl (0, 10)), .inr (.inl (0, 10)), .inr (.inl (0, 10)), .inr (.inl (0, 10)), .inr (.inl (0, 4)), .inr (.inl (0, 4)), .inr (.inl (0, 4)), .inr (.inl (0, 6)), .inr (.inl (0, 10)), .inl (1, [0, 15, 16, 17, 18, 19, 20, 21, 0, 0, 22, 2, 0]), .inr (.inl (0, 10)), .inr (.inl (0, 10)), .inr (.inl (0, 10)), .inr (.inl (0, 10)), .inr (.inl (0, 4)), .inr (.inl (0, 4)), .inr (.inl (0, 4)), .inr (.inl (0, 6))]
def sh_39 : List ShN := [.inl (5, [4, 2, 2, 0, 2, 2, 2, 2, 2, 2]), .inl (1, [0, 5, 6, 7, 8, 9, 10, 11, 0, 0, 12, 13, 0]), .inr (.inl (0, 10)), .inr (.inl (0, 10)), .inr (.inl (0, 10)), .inr (.inl (0, 10)), .inr (.inl (0, 4)), .inr (.inl (0, 4)), .inr (.inl (0, 4)), .inr (.inl (0, 6)), .inr (.inl (0, 10)), .inl (1, [0, 15, 16, 17, 18, 19, 20, 21, 0, 0, 22, 2, 0]), .inr (.inl (0, 10)), .inr (.inl (0, 10)), .inr (.inl (0, 10)), .inr (.inl (0, 10)), .inr (.inl (0, 4)), .inr (.inl (0, 4)), .inr (.inl (0, 4)), .inr (.inl (0, 6)), .inr (.inl (0, 10))]
def sh_40 : List ShN := [.inl (5, [4, 2, 2, 0, 2, 2, 2, 2, 2, 2]), .inl (1, [0, 5, 6, 7, 8, 9, 10, 11, 0, 0, 12, 13, 0]), .inr (.inl (0, 10)), .inr (.inl (0, 10)), .inr (.inl (0, 10)), .inr (.inl (0, 10)), .inr (.inl (0, 4)), .inr (.inl (0, 4)), .inr (.inl (0, 4)), .inr (.inl (0, 6)), .inr (.inl (0, 10)), .inl (1, [0, 15, 16, 17, 18, 19, 20, 21, 0, 0, 22, 23, 0]), .inr (.inl (0, 10)), .inr (.inl (0, 10)), .inr (.inl (0, 10)), .inr (.inl (0, 10)), .inr (.inl (0, 4)), .inr (.inl (0, 4)), .inr (.inl (0, 4)), .inr (.inl (0, 6)), .inr (.inl (0, 10))]
def S_2 : ST := (wr (wr (wr (fillS (fillS (wr (wr (wr (wr S_1 11 0 0) 11 8 0) 11 9 0) 11 12 1) 17 60 4) 20 (-1) 10) 18 0 1) 18 2 5) 18 3 20)
set_option maxHeartbeats 8000000 in
set_option maxRecDepth 100000 in
theorem C_3 (E : EV) {Q : Option Value → List va_E → Prop} (K : Q none (hN sh_40 E S_2)) : SA E mX1_init true true 9 68 0 (lv_args 0 [.ref (eB E + 11)]) [] (hN sh_22 E S_1) Q := by
  refine s_aload_n (q := 1) dX1_init_0 rfl rfl 0 rfl ?_
  refine s_objInit (q := 4) dX1_init_1 rfl lX1_3 iObj oObj (Nat.le_of_ble_eq_true rfl) (Nat.le_of_ble_eq_true rfl) ?_
  refine s_aload_n (q := 5) dX1_init_4 rfl rfl 0 rfl ?_
  refine s_iconst (q := 6) (v := 0) dX1_init_5 rfl rfl ?_
  refine n_putI (q := 9) (k0 := 11) (f := 0) dX1_init_6 rfl rfl rfl rfl inX1 tyX1_ok nmX1 (Nat.le_of_ble_eq_true rfl) fX1_9 rfl rfl rfl ?_
  refine s_aload_n (q := 10) dX1_init_9 rfl rfl 0 rfl ?_
  refine s_bipush (q := 12) (v := 10) dX1_init_10 rfl rfl ?_
  refine n_newi (q := 14) (mc := 8) (ms := 58) (n := 10) (L := 12) (sh' := sh_23) dX1_init_12 rfl (by decide) (by decide) (by decide) rfl rfl rfl ?_
  refine n_putR (q := 17) (k0 := 11) (f := 1) (t := 12) (sh' := sh_24) dX1_init_14 rfl rfl rfl inX1 tyX1_ok nmX1 (Nat.le_of_ble_eq_true rfl) fX1_15 rfl rfl rfl (fun _ => rfl) (fun _ => rfl) (Nat.le_of_ble_eq_true rfl) rfl ?_
  refine s_aload_n (q := 18) dX1_init_17 rfl rfl 0 rfl ?_
  refine s_bipush (q := 20) (v := 10) dX1_init_18 rfl rfl ?_
  refine n_newi (q := 22) (mc := 7) (ms := 48) (n := 10) (L := 13) (sh' := sh_25) dX1_init_20 rfl (by decide) (by decide) (by decide) rfl rfl rfl ?_
  refine n_putR (q := 25) (k0 := 11) (f := 2) (t := 13) (sh' := sh_26) dX1_init_22 rfl rfl rfl inX1 tyX1_ok nmX1 (Nat.le_of_ble_eq_true rfl) fX1_19 rfl rfl rfl (fun _ => rfl) (fun _ => rfl) (Nat.le_of_ble_eq_true rfl) rfl ?_
  refine s_aload_n (q := 26) dX1_init_25 rfl rfl 0 rfl ?_
  refine s_bipush (q := 28) (v := 10) dX1_init_26 rfl rfl ?_
  refine n_newi (q := 30) (mc := 6) (ms := 38) (n := 10) (L := 14) (sh' := sh_27) dX1_init_28 rfl (by decide) (by decide) (by decide) rfl rfl rfl ?_
  refine n_putR (q := 33) (k0 := 11) (f := 3) (t := 14) (sh' := sh_28) dX1_init_30 rfl rfl rfl inX1 tyX1_ok nmX1 (Nat.le_of_ble_eq_true rfl) fX1_22 rfl rfl rfl (fun _ => rfl) (fun _ => rfl) (Nat.le_of_ble_eq_true rfl) rfl ?_
  refine s_aload_n (q := 34) dX1_init_33 rfl rfl 0 rfl ?_
  refine s_bipush (q := 36) (v := 10) dX1_init_34 rfl rfl ?_
  refine n_newi (q := 38) (mc := 5) (ms := 28) (n := 10) (L := 15) (sh' := sh_29) dX1_init_36 rfl (by decide) (by decide) (by decide) rfl rfl rfl ?_
  refine n_putR (q := 41) (k0 := 11) (f := 4) (t := 15) (sh' := sh_30) dX1_init_38 rfl rfl rfl inX1 tyX1_ok nmX1 (Nat.le_of_ble_eq_true rfl) fX1_25 rfl rfl rfl (fun _ => rfl) (fun _ => rfl) (Nat.le_of_ble_eq_true rfl) rfl ?_
  refine s_aload_n (q := 42) dX1_init_41 rfl rfl 0 rfl ?_
  refine s_iconst (q := 43) (v := 4) dX1_init_42 rfl rfl ?_
  refine n_newi (q := 45) (mc := 4) (ms := 24) (n := 4) (L := 16) (sh' := sh_31) dX1_init_43 rfl (by decide) (by decide) (by decide) rfl rfl rfl ?_
  refine n_putR (q := 48) (k0 := 11) (f := 5) (t := 16) (sh' := sh_32) dX1_init_45 rfl rfl rfl inX1 tyX1_ok nmX1 (Nat.le_of_ble_eq_true rfl) fX1_28 rfl rfl rfl (fun _ => rfl) (fun _ => rfl) (Nat.le_of_ble_eq_true rfl) rfl ?_
  refine s_aload_n (q := 49) dX1_init_48 rfl rfl 0 rfl ?_
  refine s_iconst (q := 50) (v := 4) dX1_init_49 rfl rfl ?_
  refine n_newi (q := 52) (mc := 3) (ms := 20) (n := 4) (L := 17) (sh' := sh_33) dX1_init_50 rfl (by decide) (by decide) (by decide) rfl rfl rfl ?_
  refine n_putR (q := 55) (k0 := 11) (f := 6) (t := 17) (sh' := sh_34) dX1_init_52 rfl rfl rfl inX1 tyX1_ok nmX1 (Nat.le_of_ble_eq_true rfl) fX1_31 rfl rfl rfl (fun _ => rfl) (fun _ => rfl) (Nat.le_of_ble_eq_true rfl) rfl ?_
  refine s_aload_n (q := 56) dX1_init_55 rfl rfl 0 rfl ?_
  refine s_iconst (q := 57) (v := 4) dX1_init_56 rfl rfl ?_
  refine n_newi (q := 59) (mc := 2) (ms := 16) (n := 4) (L := 18) (sh' := sh_35) dX1_init_57 rfl (by decide) (by decide) (by decide) rfl rfl rfl ?_
  refine n_putR (q := 62) (k0 := 11) (f := 7) (t := 18) (sh' := sh_36) dX1_init_59 rfl rfl rfl inX1 tyX1_ok nmX1 (Nat.le_of_ble_eq_true rfl) fX1_34 rfl rfl rfl (fun _ => rfl) (fun _ => rfl) (Nat.le_of_ble_eq_true rfl) rfl ?_
  refine s_aload_n (q := 63) dX1_init_62 rfl rfl 0 rfl ?_
  refine s_iconst (q := 64) (v := 0) dX1_init_63 rfl rfl ?_
  refine n_putI (q := 67) (k0 := 11) (f := 8) dX1_init_64 rfl rfl rfl rfl inX1 tyX1_ok nmX1 (Nat.le_of_ble_eq_true rfl) fX1_37 rfl rfl rfl ?_
  refine s_aload_n (q := 68) dX1_init_67 rfl rfl 0 rfl ?_
  refine s_iconst (q := 69) (v := 0) dX1_init_68 rfl rfl ?_
  refine n_putI (q := 72) (k0 := 11) (f := 9) dX1_init_69 rfl rfl rfl rfl inX1 tyX1_ok nmX1 (Nat.le_of_ble_eq_true rfl) fX1_40 rfl rfl rfl ?_
  refine s_aload_n (q := 73) dX1_init_72 rfl rfl 0 rfl ?_
  refine s_bipush (q := 75) (v := 6) dX1_init_73 rfl rfl ?_
  refine n_newi (q := 77) (mc := 1) (ms := 10) (n := 6) (L := 19) (sh' := sh_37) dX1_init_75 rfl (by decide) (by decide) (by decide) rfl rfl rfl ?_
  refine n_putR (q := 80) (k0 := 11) (f := 10) (t := 19) (sh' := sh_38) dX1_init_77 rfl rfl rfl inX1 tyX1_ok nmX1 (Nat.le_of_ble_eq_true rfl) fX1_43 rfl rfl rfl (fun _ => rfl) (fun _ => rfl) (Nat.le_of_ble_eq_true rfl) rfl ?_
  refine s_aload_n (q := 81) dX1_init_80 rfl rfl 0 rfl ?_
  refine s_bipush (q := 83) (v := 10) dX1_init_81 rfl rfl ?_
  refine n_newi (q := 85) (mc := 0) (ms := 0) (n := 10) (L := 20) (sh' := sh_39) dX1_init_83 rfl (by decide) (by decide) (by decide) rfl rfl rfl ?_
  refine n_putR (q := 88) (k0 := 11) (f := 11) (t := 20) (sh' := sh_40) dX1_init_85 rfl rfl rfl inX1 tyX1_ok nmX1 (Nat.le_of_ble_eq_true rfl) fX1_46 rfl rfl rfl (fun _ => rfl) (fun _ => rfl) (Nat.le_of_ble_eq_true rfl) rfl ?_
  refine s_aload_n (q := 89) dX1_init_88 rfl rfl 0 rfl ?_
  refine s_iconst (q := 90) (v := 1) dX1_init_89 rfl rfl ?_
  refine n_putI (q := 93) (k0 := 11) (f := 12) dX1_init_90 rfl rfl rfl rfl inX1 tyX1_ok nmX1 (Nat.le_of_ble_eq_true rfl) fX1_49 rfl rfl rfl ?_
  refine s_aload_n (q := 94) dX1_init_93 rfl rfl 0 rfl ?_
  refine n_getR (q := 97) (k0 := 11) (f := 6) (t := 17) dX1_init_94 rfl rfl rfl rfl inX1 (Nat.le_of_ble_eq_true rfl) fX1_31 ?_
  refine s_bipush (q := 99) (v := 60) dX1_init_97 rfl rfl ?_
  refine s_callS (q := 102) (N := mJ7_fill_53178) (mc1 := 0) (ms1 := 0) (mc := 0) (ms := 0) [.ref (eB E + 17), .int 60] dX1_init_99 rfl nkJ7_fill_53178 sJ7_fill_53178 lX1_52 ⟨Nat.le_of_ble_eq_true rfl, Nat.le_of_ble_eq_true rfl⟩ rfl rfl (Nat.le_of_ble_eq_true rfl) (Nat.le_of_ble_eq_true rfl) (n_fill E (n := 4) rfl (by decide) ?_)
  refine s_aload_n (q := 103) dX1_init_102 rfl rfl 0 rfl ?_
  refine n_getR (q := 106) (k0 := 11) (f := 11) (t := 20) dX1_init_103 rfl rfl rfl rfl inX1 (Nat.le_of_ble_eq_true rfl) fX1_46 ?_
  refine s_iconst (q := 107) (v := (-1)) dX1_init_106 rfl rfl ?_
  refine s_callS (q := 110) (N := mJ7_fill_53178) (mc1 := 0) (ms1 := 0) (mc := 0) (ms := 0) [.ref (eB E + 20), .int (-1)] dX1_init_107 rfl nkJ7_fill_53178 sJ7_fill_53178 lX1_52 ⟨Nat.le_of_ble_eq_true rfl, Nat.le_of_ble_eq_true rfl⟩ rfl rfl (Nat.le_of_ble_eq_true rfl) (Nat.le_of_ble_eq_true rfl) (n_fill E (n := 10) rfl (by decide) ?_)
  refine s_aload_n (q := 111) dX1_init_110 rfl rfl 0 rfl ?_
  refine n_getR (q := 114) (k0 := 11) (f := 7) (t := 18) dX1_init_111 rfl rfl rfl rfl inX1 (Nat.le_of_ble_eq_true rfl) fX1_34 ?_
  refine s_iconst (q := 115) (v := 0) dX1_init_114 rfl rfl ?_
  refine s_iconst (q := 116) (v := 1) dX1_init_115 rfl rfl ?_
  refine n_iast (q := 117) (k0 := 18) (j := 0) dX1_init_116 rfl rfl (inB_in (by decide)) (by decide) ?_
  refine s_aload_n (q := 118) dX1_init_117 rfl rfl 0 rfl ?_
  refine n_getR (q := 121) (k0 := 11) (f := 7) (t := 18) dX1_init_118 rfl rfl rfl rfl inX1 (Nat.le_of_ble_eq_true rfl) fX1_34 ?_
  refine s_iconst (q := 122) (v := 2) dX1_init_121 rfl rfl ?_
  refine s_iconst (q := 123) (v := 5) dX1_init_122 rfl rfl ?_
  refine n_iast (q := 124) (k0 := 18) (j := 2) dX1_init_123 rfl rfl (inB_in (by decide)) (by decide) ?_
  refine s_aload_n (q := 125) dX1_init_124 rfl rfl 0 rfl ?_
  refine n_getR (q := 128) (k0 := 11) (f := 7) (t := 18) dX1_init_125 rfl rfl rfl rfl inX1 (Nat.le_of_ble_eq_true rfl) fX1_34 ?_
  refine s_iconst (q := 129) (v := 3) dX1_init_128 rfl rfl ?_
  refine s_bipush (q := 131) (v := 20) dX1_init_129 rfl rfl ?_
  refine n_iast (q := 132) (k0 := 18) (j := 3) dX1_init_131 rfl rfl (inB_in (by decide)) (by decide) ?_
  exact s_vret dX1_init_132 rfl (fun h => h) K
def sh_41 : List ShN := [.inl (5, [4, 14, 2, 0, 2, 2, 2, 2, 2, 2]), .inl (1, [0, 5, 6, 7, 8, 9, 10, 11, 0, 0, 12, 13, 0]), .inr (.inl (0, 10)), .inr (.inl (0, 10)), .inr (.inl (0, 10)), .inr (.inl (0, 10)), .inr (.inl (0, 4)), .inr (.inl (0, 4)), .inr (.inl (0, 4)), .inr (.inl (0, 6)), .inr (.inl (0, 10)), .inl (1, [0, 15, 16, 17, 18, 19, 20, 21, 0, 0, 22, 23, 0]), .inr (.inl (0, 10)), .inr (.inl (0, 10)), .inr (.inl (0, 10)), .inr (.inl (0, 10)), .inr (.inl (0, 4)), .inr (.inl (0, 4)), .inr (.inl (0, 4)), .inr (.inl (0, 6)), .inr (.inl (0, 10))]
def sh_42 : List ShN := [.inl (5, [4, 14, 2, 0, 2, 2, 2, 2, 2, 2]), .inl (1, [0, 5, 6, 7, 8, 9, 10, 11, 0, 0, 12, 13, 0]), .inr (.inl (0, 10)), .inr (.inl (0, 10)), .inr (.inl (0, 10)), .inr (.inl (0, 10)), .inr (.inl (0, 4)), .inr (.inl (0, 4)), .inr (.inl (0, 4)), .inr (.inl (0, 6)), .inr (.inl (0, 10)), .inl (1, [0, 15, 16, 17, 18, 19, 20, 21, 0, 0, 22, 23, 0]), .inr (.inl (0, 10)), .inr (.inl (0, 10)), .inr (.inl (0, 10)), .inr (.inl (0, 10)), .inr (.inl (0, 4)), .inr (.inl (0, 4)), .inr (.inl (0, 4)), .inr (.inl (0, 6)), .inr (.inl (0, 10)), .inl (1, [0, 2, 2, 2, 2, 2, 2, 2, 0, 0, 2, 2, 0])]
def sh_43 : List ShN := [.inl (5, [4, 14, 2, 0, 2, 2, 2, 2, 2, 2]), .inl (1, [0, 5, 6, 7, 8, 9, 10, 11, 0, 0, 12, 13, 0]), .inr (.inl (0, 10)), .inr (.inl (0, 10)), .inr (.inl (0, 10)), .inr (.inl (0, 10)), .inr (.inl (0, 4)), .inr (.inl (0, 4)), .inr (.inl (0, 4)), .inr (.inl (0, 6)), .inr (.inl (0, 10)), .inl (1, [0, 15, 16, 17, 18, 19, 20, 21, 0, 0, 22, 23, 0]), .inr (.inl (0, 10)), .inr (.inl (0, 10)), .inr (.inl (0, 10)), .inr (.inl (0, 10)), .inr (.inl (0, 4)), .inr (.inl (0, 4)), .inr (.inl (0, 4)), .inr (.inl (0, 6)), .inr (.inl (0, 10)), .inl (1, [0, 2, 2, 2, 2, 2, 2, 2, 0, 0, 2, 2, 0]), .inr (.inl (0, 10))]
def sh_44 : List ShN := [.inl (5, [4, 14, 2, 0, 2, 2, 2, 2, 2, 2]), .inl (1, [0, 5, 6, 7, 8, 9, 10, 11, 0, 0, 12, 13, 0]), .inr (.inl (0, 10)), .inr (.inl (0, 10)), .inr (.inl (0, 10)), .inr (.inl (0, 10)), .inr (.inl (0, 4)), .inr (.inl (0, 4)), .inr (.inl (0, 4)), .inr (.inl (0, 6)), .inr (.inl (0, 10)), .inl (1, [0, 15, 16, 17, 18, 19, 20, 21, 0, 0, 22, 23, 0]), .inr (.inl (0, 10)), .inr (.inl (0, 10)), .inr (.inl (0, 10)), .inr (.inl (0, 10)), .inr (.inl (0, 4)), .inr (.inl (0, 4)), .inr (.inl (0, 4)), .inr (.inl (0, 6)), .inr (.inl (0, 10)), .inl (1, [0, 25, 2, 2, 2, 2, 2, 2, 0, 0, 2, 2, 0]), .inr (.inl (0, 10))]
def sh_45 : List ShN := [.inl (5, [4, 14, 2, 0, 2, 2, 2, 2, 2, 2]), .inl (1, [0, 5, 6, 7, 8, 9, 10, 11, 0, 0, 12, 13, 0]), .inr (.inl (0, 10)), .inr (.inl (0, 10)), .inr (.inl (0, 10)), .inr (.inl (0, 10)), .inr (.inl (0, 4)), .inr (.inl (0, 4)), .inr (.inl (0, 4)), .inr (.inl (0, 6)), .inr (.inl (0, 10)), .inl (1, [0, 15, 16, 17, 18, 19, 20, 21, 0, 0, 22, 23, 0]), .inr (.inl (0, 10)), .inr (.inl (0, 10)), .inr (.inl (0, 10)), .inr (.inl (0, 10)), .inr (.inl (0, 4)), .inr (.inl (0, 4)), .inr (.inl (0, 4)), .inr (.inl (0, 6)), .inr (.inl (0, 10)), .inl (1, [0, 25, 2, 2, 2, 2, 2, 2, 0, 0, 2, 2, 0]), .inr (.inl (0, 10)), .inr (.inl (0, 10))]
def sh_46 : List ShN := [.inl (5, [4, 14, 2, 0, 2, 2, 2, 2, 2, 2]), .inl (1, [0, 5, 6, 7, 8, 9, 10, 11, 0, 0, 12, 13, 0]), .inr (.inl (0, 10)), .inr (.inl (0, 10)), .inr (.inl (0, 10)), .inr (.inl (0, 10)), .inr (.inl (0, 4)), .inr (.inl (0, 4)), .inr (.inl (0, 4)), .inr (.inl (0, 6)), .inr (.inl (0, 10)), .inl (1, [0, 15, 16, 17, 18, 19, 20, 21, 0, 0, 22, 23, 0]), .inr (.inl (0, 10)), .inr (.inl (0, 10)), .inr (.inl (0, 10)), .inr (.inl (0, 10)), .inr (.inl (0, 4)), .inr (.inl (0, 4)), .inr (.inl (0, 4)), .inr (.inl (0, 6)), .inr (.inl (0, 10)), .inl (1, [0, 25, 26, 2, 2, 2, 2, 2, 0, 0, 2, 2, 0]), .inr (.inl (0, 10)), .inr (.inl (0, 10))]
def sh_47 : List ShN := [.inl (5, [4, 14, 2, 0, 2, 2, 2, 2, 2, 2]), .inl (1, [0, 5, 6, 7, 8, 9, 10, 11, 0, 0, 12, 13, 0]), .inr (.inl (0, 10)), .inr (.inl (0, 10)), .inr (.inl (0, 10)), .inr (.inl (0, 10)), .inr (.inl (0, 4)), .inr (.inl (0, 4)), .inr (.inl (0, 4)), .inr (.inl (0, 6)), .inr (.inl (0, 10)), .inl (1, [0, 15, 16, 17, 18, 19, 20, 21, 0, 0, 22, 23, 0]), .inr (.inl (0, 10)), .inr (.inl (0, 10)), .inr (.inl (0, 10)), .inr (.inl (0, 10)), .inr (.inl (0, 4)), .inr (.inl (0, 4)), .inr (.inl (0, 4)), .inr (.inl (0, 6)), .inr (.inl (0, 10)), .inl (1, [0, 25, 26, 2, 2, 2, 2, 2, 0, 0, 2, 2, 0]), .inr (.inl (0, 10)), .inr (.inl (0, 10)), .inr (.inl (0, 10))]
def sh_48 : List ShN := [.inl (5, [4, 14, 2, 0, 2, 2, 2, 2, 2, 2]), .inl (1, [0, 5, 6, 7, 8, 9, 10, 11, 0, 0, 12, 13, 0]), .inr (.inl (0, 10)), .inr (.inl (0, 10)), .inr (.inl (0, 10)), .inr (.inl (0, 10)), .inr (.inl (0, 4)), .inr (.inl (0, 4)), .inr (.inl (0, 4)), .inr (.inl (0, 6)), .inr (.inl (0, 10)), .inl (1, [0, 15, 16, 17, 18, 19, 20, 21, 0, 0, 22, 23, 0]), .inr (.inl (0, 10)), .inr (.inl (0, 10)), .inr (.inl (0, 10)), .inr (.inl (0, 10)), .inr (.inl (0, 4)), .inr (.inl (0, 4)), .inr (.inl (0, 4)), .inr (.inl (0, 6)), .inr (.inl (0, 10)), .inl (1, [0, 25, 26, 27, 2, 2, 2, 2, 0, 0, 2, 2, 0]), .inr (.inl (0, 10)), .inr (.inl (0, 10)), .inr (.inl (0, 10))]
def sh_49 : List ShN := [.inl (5, [4, 14, 2, 0, 2, 2, 2, 2, 2, 2]), .inl (1, [0, 5, 6, 7, 8, 9, 10, 11, 0, 0, 12, 13, 0]), .inr (.inl (0, 10)), .inr (.inl (0, 10)), .inr (.inl (0, 10)), .inr (.inl (0, 10)), .inr (.inl (0, 4)), .inr (.inl (0, 4)), .inr (.inl (0, 4)), .inr (.inl (0, 6)), .inr (.inl (0, 10)), .inl (1, [0, 15, 16, 17, 18, 19, 20, 21, 0, 0, 22, 23, 0]), .inr (.inl (0, 10)), .inr (.inl (0, 10)), .inr (.inl (0, 10)), .inr (.inl (0, 10)), .inr (.inl (0, 4)), .inr (.inl (0, 4)), .inr (.inl (0, 4)), .inr (.inl (0, 6)), .inr (.inl (0, 10)), .inl (1, [0, 25, 26, 27, 2, 2, 2, 2, 0, 0, 2, 2, 0]), .inr (.inl (0, 10)), .inr (.inl (0, 10)), .inr (.inl (0, 10)), .inr (.inl (0, 10))]
def sh_50 : List ShN := [.inl (5, [4, 14, 2, 0, 2, 2, 2, 2, 2, 2]), .inl (1, [0, 5, 6, 7, 8, 9, 10, 11, 0, 0, 12, 13, 0]), .inr (.inl (0, 10)), .inr (.inl (0, 10)), .inr (.inl (0, 10)), .inr (.inl (0, 10)), .inr (.inl (0, 4)), .inr (.inl (0, 4)), .inr (.inl (0, 4)), .inr (.inl (0, 6)), .inr (.inl (0, 10)), .inl (1, [0, 15, 16, 17, 18, 19, 20, 21, 0, 0, 22, 23, 0]), .inr (.inl (0, 10)), .inr (.inl (0, 10)), .inr (.inl (0, 10)), .inr (.inl (0, 10)), .inr (.inl (0, 4)), .inr (.inl (0, 4)), .inr (.inl (0, 4)), .inr (.inl (0, 6)), .inr (.inl (0, 10)), .inl (1, [0, 25, 26, 27, 28, 2, 2, 2, 0, 0, 2, 2, 0]), .inr (.inl (0, 10)), .inr (.inl (0, 10)), .inr (.inl (0, 10)), .inr (.inl (0, 10))]
def sh_51 : List ShN := [.inl (5, [4, 14, 2, 0, 2, 2, 2, 2, 2, 2]), .inl (1, [0, 5, 6, 7, 8, 9, 10, 11, 0, 0, 12, 13, 0]), .inr (.inl (0, 10)), .inr (.inl (0, 10)), .inr (.inl (0, 10)), .inr (.inl (0, 10)), .inr (.inl (0, 4)), .inr (.inl (0, 4)), .inr (.inl (0, 4)), .inr (.inl (0, 6)), .inr (.inl (0, 10)), .inl (1, [0, 15, 16, 17, 18, 19, 20, 21, 0, 0, 22, 23, 0]), .inr (.inl (0, 10)), .inr (.inl (0, 10)), .inr (.inl (0, 10)), .inr (.inl (0, 10)), .inr (.inl (0, 4)), .inr (.inl (0, 4)), .inr (.inl (0, 4)), .inr (.inl (0, 6)), .inr (.inl (0, 10)), .inl (1, [0, 25, 26, 27, 28, 2, 2, 2, 0, 0, 2, 2, 0]), .inr (.inl (0, 10)), .inr (.inl (0, 10)), .inr (.inl (0, 10)), .inr (.inl (0, 10)), .inr (.inl (0, 4))]
def sh_52 : List ShN := [.inl (5, [4, 14, 2, 0, 2, 2, 2, 2, 2, 2]), .inl (1, [0, 5, 6, 7, 8, 9, 10, 11, 0, 0, 12, 13, 0]), .inr (.inl (0, 10)), .inr (.inl (0, 10)), .inr (.inl (0, 10)), .inr (.inl (0, 10)), .inr (.inl (0, 4)), .inr (.inl (0, 4)), .inr (.inl (0, 4)), .inr (.inl (0, 6)), .inr (.inl (0, 10)), .inl (1, [0, 15, 16, 17, 18, 19, 20, 21, 0, 0, 22, 23, 0]), .inr (.inl (0, 10)), .inr (.inl (0, 10)), .inr (.inl (0, 10)), .inr (.inl (0, 10)), .inr (.inl (0, 4)), .inr (.inl (0, 4)), .inr (.inl (0, 4)), .inr (.inl (0, 6)), .inr (.inl (0, 10)), .inl (1, [0, 25, 26, 27, 28, 29, 2, 2, 0, 0, 2, 2, 0]), .inr (.inl (0, 10)), .inr (.inl (0, 10)), .inr (.inl (0, 10)), .inr (.inl (0, 10)), .inr (.inl (0, 4))]
def sh_53 : List ShN := [.inl (5, [4, 14, 2, 0, 2, 2, 2, 2, 2, 2]), .inl (1, [0, 5, 6, 7, 8, 9, 10, 11, 0, 0, 12, 13, 0]), .inr (.inl (0, 10)), .inr (.inl (0, 10)), .inr (.inl (0, 10)), .inr (.inl (0, 10)), .inr (.inl (0, 4)), .inr (.inl (0, 4)), .inr (.inl (0, 4)), .inr (.inl (0, 6)), .inr (.inl (0, 10)), .inl (1, [0, 15, 16, 17, 18, 19, 20, 21, 0, 0, 22, 23, 0]), .inr (.inl (0, 10)), .inr (.inl (0, 10)), .inr (.inl (0, 10)), .inr (.inl (0, 10)), .inr (.inl (0, 4)), .inr (.inl (0, 4)), .inr (.inl (0, 4)), .inr (.inl (0, 6)), .inr (.inl (0, 10)), .inl (1, [0, 25, 26, 27, 28, 29, 2, 2, 0, 0, 2, 2, 0]), .inr (.inl (0, 10)), .inr (.inl (0, 10)), .inr (.inl (0, 10)), .inr (.inl (0, 10)), .inr (.inl (0, 4)), .inr (.inl (0, 4))]
def sh_54 : List ShN := [.inl (5, [4, 14, 2, 0, 2, 2, 2, 2, 2, 2]), .inl (1, [0, 5, 6, 7, 8, 9, 10, 11, 0, 0, 12, 13, 0]), .inr (.inl (0, 10)), .inr (.inl (0, 10)), .inr (.inl (0, 10)), .inr (.inl (0, 10)), .inr (.inl (0, 4)), .inr (.inl (0, 4)), .inr (.inl (0, 4)), .inr (.inl (0, 6)), .inr (.inl (0, 10)), .inl (1, [0, 15, 16, 17, 18, 19, 20, 21, 0, 0, 22, 23, 0]), .inr (.inl (0, 10)), .inr (.inl (0, 10)), .inr (.inl (0, 10)), .inr (.inl (0, 10)), .inr (.inl (0, 4)), .inr (.inl (0, 4)), .inr (.inl (0, 4)), .inr (.inl (0, 6)), .inr (.inl (0, 10)), .inl (1, [0, 25, 26, 27, 28, 29, 30, 2, 0, 0, 2, 2, 0]), .inr (.inl (0, 10)), .inr (.inl (0, 10)), .inr (.inl (0, 10)), .inr (.inl (0, 10)), .inr (.inl (0, 4)), .inr (.inl (0, 4))]
def sh_55 : List ShN := [.inl (5, [4, 14, 2, 0, 2, 2, 2, 2, 2, 2]), .inl (1, [0, 5, 6, 7, 8, 9, 10, 11, 0, 0, 12, 13, 0]), .inr (.inl (0, 10)), .inr (.inl (0, 10)), .inr (.inl (0, 10)), .inr (.inl (0, 10)), .inr (.inl (0, 4)), .inr (.inl (0, 4)), .inr (.inl (0, 4)), .inr (.inl (0, 6)), .inr (.inl (0, 10)), .inl (1, [0, 15, 16, 17, 18, 19, 20, 21, 0, 0, 22, 23, 0]), .inr (.inl (0, 10)), .inr (.inl (0, 10)), .inr (.inl (0, 10)), .inr (.inl (0, 10)), .inr (.inl (0, 4)), .inr (.inl (0, 4)), .inr (.inl (0, 4)), .inr (.inl (0, 6)), .inr (.inl (0, 10)), .inl (1, [0, 25, 26, 27, 28, 29, 30, 2, 0, 0, 2, 2, 0]), .inr (.inl (0, 10)), .inr (.inl (0, 10)), .inr (.inl (0, 10)), .inr (.inl (0, 10)), .inr (.inl (0, 4)), .inr (.inl (0, 4)), .inr (.inl (0, 4))]
def sh_56 : List ShN := [.inl (5, [4, 14, 2, 0, 2, 2, 2, 2, 2, 2]), .inl (1, [0, 5, 6, 7, 8, 9, 10, 11, 0, 0, 12, 13, 0]), .inr (.inl (0, 10)), .inr (.inl (0, 10)), .inr (.inl (0, 10)), .inr (.inl (0, 10)), .inr (.inl (0, 4)), .inr (.inl (0, 4)), .inr (.inl (0, 4)), .inr (.inl (0, 6)), .inr (.inl (0, 10)), .inl (1, [0, 15, 16, 17, 18, 19, 20, 21, 0, 0, 22, 23, 0]), .inr (.inl (0, 10)), .inr (.inl (0, 10)), .inr (.inl (0, 10)), .inr (.inl (0, 10)), .inr (.inl (0, 4)), .inr (.inl (0, 4)), .inr (.inl (0, 4)), .inr (.inl (0, 6)), .inr (.inl (0, 10)), .inl (1, [0, 25, 26, 27, 28, 29, 30, 31, 0, 0, 2, 2, 0]), .inr (.inl (0, 10)), .inr (.inl (0, 10)), .inr (.inl (0, 10)), .inr (.inl (0, 10)), .inr (.inl (0, 4)), .inr (.inl (0, 4)), .inr (.inl (0, 4))]
def sh_57 : List ShN := [.inl (5, [4, 14, 2, 0, 2, 2, 2, 2, 2, 2]), .inl (1, [0, 5, 6, 7, 8, 9, 10, 11, 0, 0, 12, 13, 0]), .inr (.inl (0, 10)), .inr (.inl (0, 10)), .inr (.inl (0, 10)), .inr (.inl (0, 10)), .inr (.inl (0, 4)), .inr (.inl (0, 4)), .inr (.inl (0, 4)), .inr (.inl (0, 6)), .inr (.inl (0, 10)), .inl (1, [0, 15, 16, 17, 18, 19, 20, 21, 0, 0, 22, 23, 0]), .inr (.inl (0, 10)), .inr (.inl (0, 10)), .inr (.inl (0, 10)), .inr (.inl (0, 10)), .inr (.inl (0, 4)), .inr (.inl (0, 4)), .inr (.inl (0, 4)), .inr (.inl (0, 6)), .inr (.inl (0, 10)), .inl (1, [0, 25, 26, 27, 28, 29, 30, 31, 0, 0, 2, 2, 0]), .inr (.inl (0, 10)), .inr (.inl (0, 10)), .inr (.inl (0, 10)), .inr (.inl (0, 10)), .inr (.inl (0, 4)), .inr (.inl (0, 4)), .inr (.inl (0, 4)), .inr (.inl (0, 6))]
def sh_58 : List ShN := [.inl (5, [4, 14, 2, 0, 2, 2, 2, 2, 2, 2]), .inl (1, [0, 5, 6, 7, 8, 9, 10, 11, 0, 0, 12, 13, 0]), .inr (.inl (0, 10)), .inr (.inl (0, 10)), .inr (.inl (0, 10)), .inr (.inl (0, 10)), .inr (.inl (0, 4)), .inr (.inl (0, 4)), .inr (.inl (0, 4)), .inr (.inl (0, 6)), .inr (.inl (0, 10)), .inl (1, [0, 15, 16, 17, 18, 19, 20, 21, 0, 0, 22, 23, 0]), .inr (.inl (0, 10)), .inr (.inl (0, 10)), .inr (.inl (0, 10)), .inr (.inl (0, 10)), .inr (.inl (0, 4)), .inr (.inl (0, 4)), .inr (.inl (0, 4)), .inr (.inl (0, 6)), .inr (.inl (0, 10)), .inl (1, [0, 25, 26, 27, 28, 29, 30, 31, 0, 0, 32, 2, 0]), .inr (.inl (0, 10)), .inr (.inl (0, 10)), .inr (.inl (0, 10)), .inr (.inl (0, 10)), .inr (.inl (0, 4)), .inr (.inl (0, 4)), .inr (.inl (0, 4)), .inr (.inl (0, 6))]
def sh_59 : List ShN := [.inl (5, [4, 14, 2, 0, 2, 2, 2, 2, 2, 2]), .inl (1, [0, 5, 6, 7, 8, 9, 10, 11, 0, 0, 12, 13, 0]), .inr (.inl (0, 10)), .inr (.inl (0, 10)), .inr (.inl (0, 10)), .inr (.inl (0, 10)), .inr (.inl (0, 4)), .inr (.inl (0, 4)), .inr (.inl (0, 4)), .inr (.inl (0, 6)), .inr (.inl (0, 10)), .inl (1, [0, 15, 16, 17, 18, 19, 20, 21, 0, 0, 22, 23, 0]), .inr (.inl (0, 10)), .inr (.inl (0, 10)), .inr (.inl (0, 10)), .inr (.inl (0, 10)), .inr (.inl (0, 4)), .inr (.inl (0, 4)), .inr (.inl (0, 4)), .inr (.inl (0, 6)), .inr (.inl (0, 10)), .inl (1, [0, 25, 26, 27, 28, 29, 30, 31, 0, 0, 32, 2, 0]), .inr (.inl (0, 10)), .inr (.inl (0, 10)), .inr (.inl (0, 10)), .inr (.inl (0, 10)), .inr (.inl (0, 4)), .inr (.inl (0, 4)), .inr (.inl (0, 4)), .inr (.inl (0, 6)), .inr (.inl (0, 10))]
def sh_60 : List ShN := [.inl (5, [4, 14, 2, 0, 2, 2, 2, 2, 2, 2]), .inl (1, [0, 5, 6, 7, 8, 9, 10, 11, 0, 0, 12, 13, 0]), .inr (.inl (0, 10)), .inr (.inl (0, 10)), .inr (.inl (0, 10)), .inr (.inl (0, 10)), .inr (.inl (0, 4)), .inr (.inl (0, 4)), .inr (.inl (0, 4)), .inr (.inl (0, 6)), .inr (.inl (0, 10)), .inl (1, [0, 15, 16, 17, 18, 19, 20, 21, 0, 0, 22, 23, 0]), .inr (.inl (0, 10)), .inr (.inl (0, 10)), .inr (.inl (0, 10)), .inr (.inl (0, 10)), .inr (.inl (0, 4)), .inr (.inl (0, 4)), .inr (.inl (0, 4)), .inr (.inl (0, 6)), .inr (.inl (0, 10)), .inl (1, [0, 25, 26, 27, 28, 29, 30, 31, 0, 0, 32, 33, 0]), .inr (.inl (0, 10)), .inr (.inl (0, 10)), .inr (.inl (0, 10)), .inr (.inl (0, 10)), .inr (.inl (0, 4)), .inr (.inl (0, 4)), .inr (.inl (0, 4)), .inr (.inl (0, 6)), .inr (.inl (0, 10))]
def S_3 : ST := (wr (wr (wr (fillS (fillS (wr (wr (wr (wr S_2 21 0 0) 21 8 0) 21 9 0) 21 12 1) 27 60 4) 30 (-1) 10) 28 0 1) 28 2 5) 28 3 20)
set_option maxHeartbeats 8000000 in
set_option maxRecDepth 100000 in
theorem C_4 (E : EV) {Q : Option Value → List va_E → Prop} (K : Q none (hN sh_60 E S_3)) : SA E mX1_init true true 9 68 0 (lv_args 0 [.ref (eB E + 21)]) [] (hN sh_42 E S_2) Q := by
  refine s_aload_n (q := 1) dX1_init_0 rfl rfl 0 rfl ?_
  refine s_objInit (q := 4) dX1_init_1 rfl lX1_3 iObj oObj (Nat.le_of_ble_eq_true rfl) (Nat.le_of_ble_eq_true rfl) ?_
  refine s_aload_n (q := 5) dX1_init_4 rfl rfl 0 rfl ?_
  refine s_iconst (q := 6) (v := 0) dX1_init_5 rfl rfl ?_
  refine n_putI (q := 9) (k0 := 21) (f := 0) dX1_init_6 rfl rfl rfl rfl inX1 tyX1_ok nmX1 (Nat.le_of_ble_eq_true rfl) fX1_9 rfl rfl rfl ?_
  refine s_aload_n (q := 10) dX1_init_9 rfl rfl 0 rfl ?_
  refine s_bipush (q := 12) (v := 10) dX1_init_10 rfl rfl ?_
  refine n_newi (q := 14) (mc := 8) (ms := 58) (n := 10) (L := 22) (sh' := sh_43) dX1_init_12 rfl (by decide) (by decide) (by decide) rfl rfl rfl ?_
  refine n_putR (q := 17) (k0 := 21) (f := 1) (t := 22) (sh' := sh_44) dX1_init_14 rfl rfl rfl inX1 tyX1_ok nmX1 (Nat.le_of_ble_eq_true rfl) fX1_15 rfl rfl rfl (fun _ => rfl) (fun _ => rfl) (Nat.le_of_ble_eq_true rfl) rfl ?_
  refine s_aload_n (q := 18) dX1_init_17 rfl rfl 0 rfl ?_
  refine s_bipush (q := 20) (v := 10) dX1_init_18 rfl rfl ?_
  refine n_newi (q := 22) (mc := 7) (ms := 48) (n := 10) (L := 23) (sh' := sh_45) dX1_init_20 rfl (by decide) (by decide) (by decide) rfl rfl rfl ?_
  refine n_putR (q := 25) (k0 := 21) (f := 2) (t := 23) (sh' := sh_46) dX1_init_22 rfl rfl rfl inX1 tyX1_ok nmX1 (Nat.le_of_ble_eq_true rfl) fX1_19 rfl rfl rfl (fun _ => rfl) (fun _ => rfl) (Nat.le_of_ble_eq_true rfl) rfl ?_
  refine s_aload_n (q := 26) dX1_init_25 rfl rfl 0 rfl ?_
  refine s_bipush (q := 28) (v := 10) dX1_init_26 rfl rfl ?_
  refine n_newi (q := 30) (mc := 6) (ms := 38) (n := 10) (L := 24) (sh' := sh_47) dX1_init_28 rfl (by decide) (by decide) (by decide) rfl rfl rfl ?_
  refine n_putR (q := 33) (k0 := 21) (f := 3) (t := 24) (sh' := sh_48) dX1_init_30 rfl rfl rfl inX1 tyX1_ok nmX1 (Nat.le_of_ble_eq_true rfl) fX1_22 rfl rfl rfl (fun _ => rfl) (fun _ => rfl) (Nat.le_of_ble_eq_true rfl) rfl ?_
  refine s_aload_n (q := 34) dX1_init_33 rfl rfl 0 rfl ?_
  refine s_bipush (q := 36) (v := 10) dX1_init_34 rfl rfl ?_
  refine n_newi (q := 38) (mc := 5) (ms := 28) (n := 10) (L := 25) (sh' := sh_49) dX1_init_36 rfl (by decide) (by decide) (by decide) rfl rfl rfl ?_
  refine n_putR (q := 41) (k0 := 21) (f := 4) (t := 25) (sh' := sh_50) dX1_init_38 rfl rfl rfl inX1 tyX1_ok nmX1 (Nat.le_of_ble_eq_true rfl) fX1_25 rfl rfl rfl (fun _ => rfl) (fun _ => rfl) (Nat.le_of_ble_eq_true rfl) rfl ?_
  refine s_aload_n (q := 42) dX1_init_41 rfl rfl 0 rfl ?_
  refine s_iconst (q := 43) (v := 4) dX1_init_42 rfl rfl ?_
  refine n_newi (q := 45) (mc := 4) (ms := 24) (n := 4) (L := 26) (sh' := sh_51) dX1_init_43 rfl (by decide) (by decide) (by decide) rfl rfl rfl ?_
  refine n_putR (q := 48) (k0 := 21) (f := 5) (t := 26) (sh' := sh_52) dX1_init_45 rfl rfl rfl inX1 tyX1_ok nmX1 (Nat.le_of_ble_eq_true rfl) fX1_28 rfl rfl rfl (fun _ => rfl) (fun _ => rfl) (Nat.le_of_ble_eq_true rfl) rfl ?_
  refine s_aload_n (q := 49) dX1_init_48 rfl rfl 0 rfl ?_
  refine s_iconst (q := 50) (v := 4) dX1_init_49 rfl rfl ?_
  refine n_newi (q := 52) (mc := 3) (ms := 20) (n := 4) (L := 27) (sh' := sh_53) dX1_init_50 rfl (by decide) (by decide) (by decide) rfl rfl rfl ?_
  refine n_putR (q := 55) (k0 := 21) (f := 6) (t := 27) (sh' := sh_54) dX1_init_52 rfl rfl rfl inX1 tyX1_ok nmX1 (Nat.le_of_ble_eq_true rfl) fX1_31 rfl rfl rfl (fun _ => rfl) (fun _ => rfl) (Nat.le_of_ble_eq_true rfl) rfl ?_
  refine s_aload_n (q := 56) dX1_init_55 rfl rfl 0 rfl ?_
  refine s_iconst (q := 57) (v := 4) dX1_init_56 rfl rfl ?_
  refine n_newi (q := 59) (mc := 2) (ms := 16) (n := 4) (L := 28) (sh' := sh_55) dX1_init_57 rfl (by decide) (by decide) (by decide) rfl rfl rfl ?_
  refine n_putR (q := 62) (k0 := 21) (f := 7) (t := 28) (sh' := sh_56) dX1_init_59 rfl rfl rfl inX1 tyX1_ok nmX1 (Nat.le_of_ble_eq_true rfl) fX1_34 rfl rfl rfl (fun _ => rfl) (fun _ => rfl) (Nat.le_of_ble_eq_true rfl) rfl ?_
  refine s_aload_n (q := 63) dX1_init_62 rfl rfl 0 rfl ?_
  refine s_iconst (q := 64) (v := 0) dX1_init_63 rfl rfl ?_
  refine n_putI (q := 67) (k0 := 21) (f := 8) dX1_init_64 rfl rfl rfl rfl inX1 tyX1_ok nmX1 (Nat.le_of_ble_eq_true rfl) fX1_37 rfl rfl rfl ?_
  refine s_aload_n (q := 68) dX1_init_67 rfl rfl 0 rfl ?_
  refine s_iconst (q := 69) (v := 0) dX1_init_68 rfl rfl ?_
  refine n_putI (q := 72) (k0 := 21) (f := 9) dX1_init_69 rfl rfl rfl rfl inX1 tyX1_ok nmX1 (Nat.le_of_ble_eq_true rfl) fX1_40 rfl rfl rfl ?_
  refine s_aload_n (q := 73) dX1_init_72 rfl rfl 0 rfl ?_
  refine s_bipush (q := 75) (v := 6) dX1_init_73 rfl rfl ?_
  refine n_newi (q := 77) (mc := 1) (ms := 10) (n := 6) (L := 29) (sh' := sh_57) dX1_init_75 rfl (by decide) (by decide) (by decide) rfl rfl rfl ?_
  refine n_putR (q := 80) (k0 := 21) (f := 10) (t := 29) (sh' := sh_58) dX1_init_77 rfl rfl rfl inX1 tyX1_ok nmX1 (Nat.le_of_ble_eq_true rfl) fX1_43 rfl rfl rfl (fun _ => rfl) (fun _ => rfl) (Nat.le_of_ble_eq_true rfl) rfl ?_
  refine s_aload_n (q := 81) dX1_init_80 rfl rfl 0 rfl ?_
  refine s_bipush (q := 83) (v := 10) dX1_init_81 rfl rfl ?_
  refine n_newi (q := 85) (mc := 0) (ms := 0) (n := 10) (L := 30) (sh' := sh_59) dX1_init_83 rfl (by decide) (by decide) (by decide) rfl rfl rfl ?_
  refine n_putR (q := 88) (k0 := 21) (f := 11) (t := 30) (sh' := sh_60) dX1_init_85 rfl rfl rfl inX1 tyX1_ok nmX1 (Nat.le_of_ble_eq_true rfl) fX1_46 rfl rfl rfl (fun _ => rfl) (fun _ => rfl) (Nat.le_of_ble_eq_true rfl) rfl ?_
  refine s_aload_n (q := 89) dX1_init_88 rfl rfl 0 rfl ?_
  refine s_iconst (q := 90) (v := 1) dX1_init_89 rfl rfl ?_
  refine n_putI (q := 93) (k0 := 21) (f := 12) dX1_init_90 rfl rfl rfl rfl inX1 tyX1_ok nmX1 (Nat.le_of_ble_eq_true rfl) fX1_49 rfl rfl rfl ?_
  refine s_aload_n (q := 94) dX1_init_93 rfl rfl 0 rfl ?_
  refine n_getR (q := 97) (k0 := 21) (f := 6) (t := 27) dX1_init_94 rfl rfl rfl rfl inX1 (Nat.le_of_ble_eq_true rfl) fX1_31 ?_
  refine s_bipush (q := 99) (v := 60) dX1_init_97 rfl rfl ?_
  refine s_callS (q := 102) (N := mJ7_fill_53178) (mc1 := 0) (ms1 := 0) (mc := 0) (ms := 0) [.ref (eB E + 27), .int 60] dX1_init_99 rfl nkJ7_fill_53178 sJ7_fill_53178 lX1_52 ⟨Nat.le_of_ble_eq_true rfl, Nat.le_of_ble_eq_true rfl⟩ rfl rfl (Nat.le_of_ble_eq_true rfl) (Nat.le_of_ble_eq_true rfl) (n_fill E (n := 4) rfl (by decide) ?_)
  refine s_aload_n (q := 103) dX1_init_102 rfl rfl 0 rfl ?_
  refine n_getR (q := 106) (k0 := 21) (f := 11) (t := 30) dX1_init_103 rfl rfl rfl rfl inX1 (Nat.le_of_ble_eq_true rfl) fX1_46 ?_
  refine s_iconst (q := 107) (v := (-1)) dX1_init_106 rfl rfl ?_
  refine s_callS (q := 110) (N := mJ7_fill_53178) (mc1 := 0) (ms1 := 0) (mc := 0) (ms := 0) [.ref (eB E + 30), .int (-1)] dX1_init_107 rfl nkJ7_fill_53178 sJ7_fill_53178 lX1_52 ⟨Nat.le_of_ble_eq_true rfl, Nat.le_of_ble_eq_true rfl⟩ rfl rfl (Nat.le_of_ble_eq_true rfl) (Nat.le_of_ble_eq_true rfl) (n_fill E (n := 10) rfl (by decide) ?_)
  refine s_aload_n (q := 111) dX1_init_110 rfl rfl 0 rfl ?_
  refine n_getR (q := 114) (k0 := 21) (f := 7) (t := 28) dX1_init_111 rfl rfl rfl rfl inX1 (Nat.le_of_ble_eq_true rfl) fX1_34 ?_
  refine s_iconst (q := 115) (v := 0) dX1_init_114 rfl rfl ?_
  refine s_iconst (q := 116) (v := 1) dX1_init_115 rfl rfl ?_
  refine n_iast (q := 117) (k0 := 28) (j := 0) dX1_init_116 rfl rfl (inB_in (by decide)) (by decide) ?_
  refine s_aload_n (q := 118) dX1_init_117 rfl rfl 0 rfl ?_
  refine n_getR (q := 121) (k0 := 21) (f := 7) (t := 28) dX1_init_118 rfl rfl rfl rfl inX1 (Nat.le_of_ble_eq_true rfl) fX1_34 ?_
  refine s_iconst (q := 122) (v := 2) dX1_init_121 rfl rfl ?_
  refine s_iconst (q := 123) (v := 5) dX1_init_122 rfl rfl ?_
  refine n_iast (q := 124) (k0 := 28) (j := 2) dX1_init_123 rfl rfl (inB_in (by decide)) (by decide) ?_
  refine s_aload_n (q := 125) dX1_init_124 rfl rfl 0 rfl ?_
  refine n_getR (q := 128) (k0 := 21) (f := 7) (t := 28) dX1_init_125 rfl rfl rfl rfl inX1 (Nat.le_of_ble_eq_true rfl) fX1_34 ?_
  refine s_iconst (q := 129) (v := 3) dX1_init_128 rfl rfl ?_
  refine s_bipush (q := 131) (v := 20) dX1_init_129 rfl rfl ?_
  refine n_iast (q := 132) (k0 := 28) (j := 3) dX1_init_131 rfl rfl (inB_in (by decide)) (by decide) ?_
  exact s_vret dX1_init_132 rfl (fun h => h) K
def sh_61 : List ShN := [.inl (5, [4, 14, 24, 0, 2, 2, 2, 2, 2, 2]), .inl (1, [0, 5, 6, 7, 8, 9, 10, 11, 0, 0, 12, 13, 0]), .inr (.inl (0, 10)), .inr (.inl (0, 10)), .inr (.inl (0, 10)), .inr (.inl (0, 10)), .inr (.inl (0, 4)), .inr (.inl (0, 4)), .inr (.inl (0, 4)), .inr (.inl (0, 6)), .inr (.inl (0, 10)), .inl (1, [0, 15, 16, 17, 18, 19, 20, 21, 0, 0, 22, 23, 0]), .inr (.inl (0, 10)), .inr (.inl (0, 10)), .inr (.inl (0, 10)), .inr (.inl (0, 10)), .inr (.inl (0, 4)), .inr (.inl (0, 4)), .inr (.inl (0, 4)), .inr (.inl (0, 6)), .inr (.inl (0, 10)), .inl (1, [0, 25, 26, 27, 28, 29, 30, 31, 0, 0, 32, 33, 0]), .inr (.inl (0, 10)), .inr (.inl (0, 10)), .inr (.inl (0, 10)), .inr (.inl (0, 10)), .inr (.inl (0, 4)), .inr (.inl (0, 4)), .inr (.inl (0, 4)), .inr (.inl (0, 6)), .inr (.inl (0, 10))]
def sh_62 : List ShN := [.inl (5, [4, 14, 24, 0, 2, 2, 2, 2, 2, 2]), .inl (1, [0, 5, 6, 7, 8, 9, 10, 11, 0, 0, 12, 13, 0]), .inr (.inl (0, 10)), .inr (.inl (0, 10)), .inr (.inl (0, 10)), .inr (.inl (0, 10)), .inr (.inl (0, 4)), .inr (.inl (0, 4)), .inr (.inl (0, 4)), .inr (.inl (0, 6)), .inr (.inl (0, 10)), .inl (1, [0, 15, 16, 17, 18, 19, 20, 21, 0, 0, 22, 23, 0]), .inr (.inl (0, 10)), .inr (.inl (0, 10)), .inr (.inl (0, 10)), .inr (.inl (0, 10)), .inr (.inl (0, 4)), .inr (.inl (0, 4)), .inr (.inl (0, 4)), .inr (.inl (0, 6)), .inr (.inl (0, 10)), .inl (1, [0, 25, 26, 27, 28, 29, 30, 31, 0, 0, 32, 33, 0]), .inr (.inl (0, 10)), .inr (.inl (0, 10)), .inr (.inl (0, 10)), .inr (.inl (0, 10)), .inr (.inl (0, 4)), .inr (.inl (0, 4)), .inr (.inl (0, 4)), .inr (.inl (0, 6)), .inr (.inl (0, 10)), .inl (3, [2])]
def S_4 : ST := (wr S_3 0 3 0)
def sh_63 : List ShN := [.inl (5, [4, 14, 24, 0, 2, 2, 2, 2, 2, 2]), .inl (1, [0, 5, 6, 7, 8, 9, 10, 11, 0, 0, 12, 13, 0]), .inr (.inl (0, 10)), .inr (.inl (0, 10)), .inr (.inl (0, 10)), .inr (.inl (0, 10)), .inr (.inl (0, 4)), .inr (.inl (0, 4)), .inr (.inl (0, 4)), .inr (.inl (0, 6)), .inr (.inl (0, 10)), .inl (1, [0, 15, 16, 17, 18, 19, 20, 21, 0, 0, 22, 23, 0]), .inr (.inl (0, 10)), .inr (.inl (0, 10)), .inr (.inl (0, 10)), .inr (.inl (0, 10)), .inr (.inl (0, 4)), .inr (.inl (0, 4)), .inr (.inl (0, 4)), .inr (.inl (0, 6)), .inr (.inl (0, 10)), .inl (1, [0, 25, 26, 27, 28, 29, 30, 31, 0, 0, 32, 33, 0]), .inr (.inl (0, 10)), .inr (.inl (0, 10)), .inr (.inl (0, 10)), .inr (.inl (0, 10)), .inr (.inl (0, 4)), .inr (.inl (0, 4)), .inr (.inl (0, 4)), .inr (.inl (0, 6)), .inr (.inl (0, 10)), .inl (3, [2]), .inl (2, [2, 0, 0, 0, 0, 0])]
def sh_64 : List ShN := [.inl (5, [4, 14, 24, 0, 2, 2, 2, 2, 2, 2]), .inl (1, [0, 5, 6, 7, 8, 9, 10, 11, 0, 0, 12, 13, 0]), .inr (.inl (0, 10)), .inr (.inl (0, 10)), .inr (.inl (0, 10)), .inr (.inl (0, 10)), .inr (.inl (0, 4)), .inr (.inl (0, 4)), .inr (.inl (0, 4)), .inr (.inl (0, 6)), .inr (.inl (0, 10)), .inl (1, [0, 15, 16, 17, 18, 19, 20, 21, 0, 0, 22, 23, 0]), .inr (.inl (0, 10)), .inr (.inl (0, 10)), .inr (.inl (0, 10)), .inr (.inl (0, 10)), .inr (.inl (0, 4)), .inr (.inl (0, 4)), .inr (.inl (0, 4)), .inr (.inl (0, 6)), .inr (.inl (0, 10)), .inl (1, [0, 25, 26, 27, 28, 29, 30, 31, 0, 0, 32, 33, 0]), .inr (.inl (0, 10)), .inr (.inl (0, 10)), .inr (.inl (0, 10)), .inr (.inl (0, 10)), .inr (.inl (0, 4)), .inr (.inl (0, 4)), .inr (.inl (0, 4)), .inr (.inl (0, 6)), .inr (.inl (0, 10)), .inl (3, [2]), .inl (2, [2, 0, 0, 0, 0, 0]), .inr (.inl (1, 120))]
def sh_65 : List ShN := [.inl (5, [4, 14, 24, 0, 2, 2, 2, 2, 2, 2]), .inl (1, [0, 5, 6, 7, 8, 9, 10, 11, 0, 0, 12, 13, 0]), .inr (.inl (0, 10)), .inr (.inl (0, 10)), .inr (.inl (0, 10)), .inr (.inl (0, 10)), .inr (.inl (0, 4)), .inr (.inl (0, 4)), .inr (.inl (0, 4)), .inr (.inl (0, 6)), .inr (.inl (0, 10)), .inl (1, [0, 15, 16, 17, 18, 19, 20, 21, 0, 0, 22, 23, 0]), .inr (.inl (0, 10)), .inr (.inl (0, 10)), .inr (.inl (0, 10)), .inr (.inl (0, 10)), .inr (.inl (0, 4)), .inr (.inl (0, 4)), .inr (.inl (0, 4)), .inr (.inl (0, 6)), .inr (.inl (0, 10)), .inl (1, [0, 25, 26, 27, 28, 29, 30, 31, 0, 0, 32, 33, 0]), .inr (.inl (0, 10)), .inr (.inl (0, 10)), .inr (.inl (0, 10)), .inr (.inl (0, 10)), .inr (.inl (0, 4)), .inr (.inl (0, 4)), .inr (.inl (0, 4)), .inr (.inl (0, 6)), .inr (.inl (0, 10)), .inl (3, [2]), .inl (2, [36, 0, 0, 0, 0, 0]), .inr (.inl (1, 120))]
def S_5 : ST := (wr (wr (wr (wr (wr S_4 32 1 0) 32 2 0) 32 3 0) 32 4 0) 32 5 0)
set_option maxHeartbeats 8000000 in
set_option maxRecDepth 100000 in
theorem C_6 (E : EV) {Q : Option Value → List va_E → Prop} (K : Q none (hN sh_65 E S_5)) : SA E mX2_init true true 1 120 0 (lv_args 0 [.ref (eB E + 32)]) [] (hN sh_63 E S_4) Q := by
  refine s_aload_n (q := 1) dX2_init_0 rfl rfl 0 rfl ?_
  refine s_objInit (q := 4) dX2_init_1 rfl lX2_3 iObj oObj (Nat.le_of_ble_eq_true rfl) (Nat.le_of_ble_eq_true rfl) ?_
  refine s_aload_n (q := 5) dX2_init_4 rfl rfl 0 rfl ?_
  refine s_bipush (q := 7) (v := 120) dX2_init_5 rfl rfl ?_
  refine n_newb (q := 9) (mc := 0) (ms := 0) (n := 120) (L := 33) (sh' := sh_64) dX2_init_7 rfl (by decide) (by decide) (by decide) rfl rfl rfl ?_
  refine n_putR (q := 12) (k0 := 32) (f := 0) (t := 33) (sh' := sh_65) dX2_init_9 rfl rfl rfl inX2 tyX2_ok nmX2 (Nat.le_of_ble_eq_true rfl) fX2_9 rfl rfl rfl (fun _ => rfl) (fun _ => rfl) (Nat.le_of_ble_eq_true rfl) rfl ?_
  refine s_aload_n (q := 13) dX2_init_12 rfl rfl 0 rfl ?_
  refine s_iconst (q := 14) (v := 0) dX2_init_13 rfl rfl ?_
  refine n_putI (q := 17) (k0 := 32) (f := 1) dX2_init_14 rfl rfl rfl rfl inX2 tyX2_ok nmX2 (Nat.le_of_ble_eq_true rfl) fX2_15 rfl rfl rfl ?_
  refine s_aload_n (q := 18) dX2_init_17 rfl rfl 0 rfl ?_
  refine s_iconst (q := 19) (v := 0) dX2_init_18 rfl rfl ?_
  refine n_putI (q := 22) (k0 := 32) (f := 2) dX2_init_19 rfl rfl rfl rfl inX2 tyX2_ok nmX2 (Nat.le_of_ble_eq_true rfl) fX2_19 rfl rfl rfl ?_
  refine s_aload_n (q := 23) dX2_init_22 rfl rfl 0 rfl ?_
  refine s_iconst (q := 24) (v := 0) dX2_init_23 rfl rfl ?_
  refine n_putI (q := 27) (k0 := 32) (f := 3) dX2_init_24 rfl rfl rfl rfl inX2 tyX2_ok nmX2 (Nat.le_of_ble_eq_true rfl) fX2_22 rfl rfl rfl ?_
  refine s_aload_n (q := 28) dX2_init_27 rfl rfl 0 rfl ?_
  refine s_iconst (q := 29) (v := 0) dX2_init_28 rfl rfl ?_
  refine n_putI (q := 32) (k0 := 32) (f := 4) dX2_init_29 rfl rfl rfl rfl inX2 tyX2_ok nmX2 (Nat.le_of_ble_eq_true rfl) fX2_25 rfl rfl rfl ?_
  refine s_aload_n (q := 33) dX2_init_32 rfl rfl 0 rfl ?_
  refine s_iconst (q := 34) (v := 0) dX2_init_33 rfl rfl ?_
  refine n_putI (q := 37) (k0 := 32) (f := 5) dX2_init_34 rfl rfl rfl rfl inX2 tyX2_ok nmX2 (Nat.le_of_ble_eq_true rfl) fX2_28 rfl rfl rfl ?_
  exact s_vret dX2_init_37 rfl (fun h => h) K
def sh_66 : List ShN := [.inl (5, [4, 14, 24, 0, 2, 2, 2, 2, 2, 2]), .inl (1, [0, 5, 6, 7, 8, 9, 10, 11, 0, 0, 12, 13, 0]), .inr (.inl (0, 10)), .inr (.inl (0, 10)), .inr (.inl (0, 10)), .inr (.inl (0, 10)), .inr (.inl (0, 4)), .inr (.inl (0, 4)), .inr (.inl (0, 4)), .inr (.inl (0, 6)), .inr (.inl (0, 10)), .inl (1, [0, 15, 16, 17, 18, 19, 20, 21, 0, 0, 22, 23, 0]), .inr (.inl (0, 10)), .inr (.inl (0, 10)), .inr (.inl (0, 10)), .inr (.inl (0, 10)), .inr (.inl (0, 4)), .inr (.inl (0, 4)), .inr (.inl (0, 4)), .inr (.inl (0, 6)), .inr (.inl (0, 10)), .inl (1, [0, 25, 26, 27, 28, 29, 30, 31, 0, 0, 32, 33, 0]), .inr (.inl (0, 10)), .inr (.inl (0, 10)), .inr (.inl (0, 10)), .inr (.inl (0, 10)), .inr (.inl (0, 4)), .inr (.inl (0, 4)), .inr (.inl (0, 4)), .inr (.inl (0, 6)), .inr (.inl (0, 10)), .inl (3, [35]), .inl (2, [36, 0, 0, 0, 0, 0]), .inr (.inl (1, 120))]
set_option maxHeartbeats 8000000 in
set_option maxRecDepth 100000 in
theorem C_5 (E : EV) {Q : Option Value → List va_E → Prop} (K : Q none (hN sh_66 E S_5)) : SA E mX3_init true true 2 126 0 (lv_args 0 [.ref (eB E + 31)]) [] (hN sh_62 E S_4) Q := by
  refine s_aload_n (q := 1) dX3_init_0 rfl rfl 0 rfl ?_
  refine s_objInit (q := 4) dX3_init_1 rfl lX3_3 iObj oObj (Nat.le_of_ble_eq_true rfl) (Nat.le_of_ble_eq_true rfl) ?_
  refine s_aload_n (q := 5) dX3_init_4 rfl rfl 0 rfl ?_
  refine n_new (q := 8) (mc := 1) (ms := 120) (L := 32) (fl := [2, 0, 0, 0, 0, 0]) (sh' := sh_63) (ty0 := tyX2) dX3_init_5 rfl rfl inX2 tyX2_ok cX3_9 qX2 nX2 rfl (fun j hj => by rcases (show j = 0 ∨ j = 1 ∨ j = 2 ∨ j = 3 ∨ j = 4 ∨ j = 5 by omega) with rfl | rfl | rfl | rfl | rfl | rfl <;> rfl) rfl ?_
  refine s_dup (q := 9) dX3_init_8 rfl rfl ?_
  refine s_callIN (q := 12) (host := "StarCrew") (N := mX2_init) (a := eB E + 32) (mc1 := 1) (ms1 := 120) (mc := 0) (ms := 0) [] dX3_init_9 rfl nkX2_init iX2_init rfl rfl (by decide +kernel) ⟨Nat.le_of_ble_eq_true rfl, Nat.le_of_ble_eq_true rfl⟩ rfl rfl (Nat.le_of_ble_eq_true rfl) (Nat.le_of_ble_eq_true rfl) (C_6 E ?_)
  refine n_putR (q := 15) (k0 := 31) (f := 0) (t := 32) (sh' := sh_66) dX3_init_12 rfl rfl rfl inX3 tyX3_ok nmX3 (Nat.le_of_ble_eq_true rfl) fX3_12 rfl rfl rfl (fun _ => rfl) (fun _ => rfl) (Nat.le_of_ble_eq_true rfl) rfl ?_
  exact s_vret dX3_init_15 rfl (fun h => h) K
def sh_67 : List ShN := [.inl (5, [4, 14, 24, 0, 34, 2, 2, 2, 2, 2]), .inl (1, [0, 5, 6, 7, 8, 9, 10, 11, 0, 0, 12, 13, 0]), .inr (.inl (0, 10)), .inr (.inl (0, 10)), .inr (.inl (0, 10)), .inr (.inl (0, 10)), .inr (.inl (0, 4)), .inr (.inl (0, 4)), .inr (.inl (0, 4)), .inr (.inl (0, 6)), .inr (.inl (0, 10)), .inl (1, [0, 15, 16, 17, 18, 19, 20, 21, 0, 0, 22, 23, 0]), .inr (.inl (0, 10)), .inr (.inl (0, 10)), .inr (.inl (0, 10)), .inr (.inl (0, 10)), .inr (.inl (0, 4)), .inr (.inl (0, 4)), .inr (.inl (0, 4)), .inr (.inl (0, 6)), .inr (.inl (0, 10)), .inl (1, [0, 25, 26, 27, 28, 29, 30, 31, 0, 0, 32, 33, 0]), .inr (.inl (0, 10)), .inr (.inl (0, 10)), .inr (.inl (0, 10)), .inr (.inl (0, 10)), .inr (.inl (0, 4)), .inr (.inl (0, 4)), .inr (.inl (0, 4)), .inr (.inl (0, 6)), .inr (.inl (0, 10)), .inl (3, [35]), .inl (2, [36, 0, 0, 0, 0, 0]), .inr (.inl (1, 120))]
def sh_68 : List ShN := [.inl (5, [4, 14, 24, 0, 34, 2, 2, 2, 2, 2]), .inl (1, [0, 5, 6, 7, 8, 9, 10, 11, 0, 0, 12, 13, 0]), .inr (.inl (0, 10)), .inr (.inl (0, 10)), .inr (.inl (0, 10)), .inr (.inl (0, 10)), .inr (.inl (0, 4)), .inr (.inl (0, 4)), .inr (.inl (0, 4)), .inr (.inl (0, 6)), .inr (.inl (0, 10)), .inl (1, [0, 15, 16, 17, 18, 19, 20, 21, 0, 0, 22, 23, 0]), .inr (.inl (0, 10)), .inr (.inl (0, 10)), .inr (.inl (0, 10)), .inr (.inl (0, 10)), .inr (.inl (0, 4)), .inr (.inl (0, 4)), .inr (.inl (0, 4)), .inr (.inl (0, 6)), .inr (.inl (0, 10)), .inl (1, [0, 25, 26, 27, 28, 29, 30, 31, 0, 0, 32, 33, 0]), .inr (.inl (0, 10)), .inr (.inl (0, 10)), .inr (.inl (0, 10)), .inr (.inl (0, 10)), .inr (.inl (0, 4)), .inr (.inl (0, 4)), .inr (.inl (0, 4)), .inr (.inl (0, 6)), .inr (.inl (0, 10)), .inl (3, [35]), .inl (2, [36, 0, 0, 0, 0, 0]), .inr (.inl (1, 120)), .inr (.inr [none, none, none, none])]
def sh_69 : List ShN := [.inl (5, [4, 14, 24, 0, 34, 37, 2, 2, 2, 2]), .inl (1, [0, 5, 6, 7, 8, 9, 10, 11, 0, 0, 12, 13, 0]), .inr (.inl (0, 10)), .inr (.inl (0, 10)), .inr (.inl (0, 10)), .inr (.inl (0, 10)), .inr (.inl (0, 4)), .inr (.inl (0, 4)), .inr (.inl (0, 4)), .inr (.inl (0, 6)), .inr (.inl (0, 10)), .inl (1, [0, 15, 16, 17, 18, 19, 20, 21, 0, 0, 22, 23, 0]), .inr (.inl (0, 10)), .inr (.inl (0, 10)), .inr (.inl (0, 10)), .inr (.inl (0, 10)), .inr (.inl (0, 4)), .inr (.inl (0, 4)), .inr (.inl (0, 4)), .inr (.inl (0, 6)), .inr (.inl (0, 10)), .inl (1, [0, 25, 26, 27, 28, 29, 30, 31, 0, 0, 32, 33, 0]), .inr (.inl (0, 10)), .inr (.inl (0, 10)), .inr (.inl (0, 10)), .inr (.inl (0, 10)), .inr (.inl (0, 4)), .inr (.inl (0, 4)), .inr (.inl (0, 4)), .inr (.inl (0, 6)), .inr (.inl (0, 10)), .inl (3, [35]), .inl (2, [36, 0, 0, 0, 0, 0]), .inr (.inl (1, 120)), .inr (.inr [none, none, none, none])]
def sh_70 : List ShN := [.inl (5, [4, 14, 24, 0, 34, 37, 2, 2, 2, 2]), .inl (1, [0, 5, 6, 7, 8, 9, 10, 11, 0, 0, 12, 13, 0]), .inr (.inl (0, 10)), .inr (.inl (0, 10)), .inr (.inl (0, 10)), .inr (.inl (0, 10)), .inr (.inl (0, 4)), .inr (.inl (0, 4)), .inr (.inl (0, 4)), .inr (.inl (0, 6)), .inr (.inl (0, 10)), .inl (1, [0, 15, 16, 17, 18, 19, 20, 21, 0, 0, 22, 23, 0]), .inr (.inl (0, 10)), .inr (.inl (0, 10)), .inr (.inl (0, 10)), .inr (.inl (0, 10)), .inr (.inl (0, 4)), .inr (.inl (0, 4)), .inr (.inl (0, 4)), .inr (.inl (0, 6)), .inr (.inl (0, 10)), .inl (1, [0, 25, 26, 27, 28, 29, 30, 31, 0, 0, 32, 33, 0]), .inr (.inl (0, 10)), .inr (.inl (0, 10)), .inr (.inl (0, 10)), .inr (.inl (0, 10)), .inr (.inl (0, 4)), .inr (.inl (0, 4)), .inr (.inl (0, 4)), .inr (.inl (0, 6)), .inr (.inl (0, 10)), .inl (3, [35]), .inl (2, [36, 0, 0, 0, 0, 0]), .inr (.inl (1, 120)), .inr (.inr [none, none, none, none]), .inl (4, [2, 2, 0, 0])]
def sh_71 : List ShN := [.inl (5, [4, 14, 24, 0, 34, 37, 2, 2, 2, 2]), .inl (1, [0, 5, 6, 7, 8, 9, 10, 11, 0, 0, 12, 13, 0]), .inr (.inl (0, 10)), .inr (.inl (0, 10)), .inr (.inl (0, 10)), .inr (.inl (0, 10)), .inr (.inl (0, 4)), .inr (.inl (0, 4)), .inr (.inl (0, 4)), .inr (.inl (0, 6)), .inr (.inl (0, 10)), .inl (1, [0, 15, 16, 17, 18, 19, 20, 21, 0, 0, 22, 23, 0]), .inr (.inl (0, 10)), .inr (.inl (0, 10)), .inr (.inl (0, 10)), .inr (.inl (0, 10)), .inr (.inl (0, 4)), .inr (.inl (0, 4)), .inr (.inl (0, 4)), .inr (.inl (0, 6)), .inr (.inl (0, 10)), .inl (1, [0, 25, 26, 27, 28, 29, 30, 31, 0, 0, 32, 33, 0]), .inr (.inl (0, 10)), .inr (.inl (0, 10)), .inr (.inl (0, 10)), .inr (.inl (0, 10)), .inr (.inl (0, 4)), .inr (.inl (0, 4)), .inr (.inl (0, 4)), .inr (.inl (0, 6)), .inr (.inl (0, 10)), .inl (3, [35]), .inl (2, [36, 0, 0, 0, 0, 0]), .inr (.inl (1, 120)), .inr (.inr [none, none, none, none]), .inl (4, [2, 2, 0, 0]), .inr (.inl (0, 10))]
def sh_72 : List ShN := [.inl (5, [4, 14, 24, 0, 34, 37, 2, 2, 2, 2]), .inl (1, [0, 5, 6, 7, 8, 9, 10, 11, 0, 0, 12, 13, 0]), .inr (.inl (0, 10)), .inr (.inl (0, 10)), .inr (.inl (0, 10)), .inr (.inl (0, 10)), .inr (.inl (0, 4)), .inr (.inl (0, 4)), .inr (.inl (0, 4)), .inr (.inl (0, 6)), .inr (.inl (0, 10)), .inl (1, [0, 15, 16, 17, 18, 19, 20, 21, 0, 0, 22, 23, 0]), .inr (.inl (0, 10)), .inr (.inl (0, 10)), .inr (.inl (0, 10)), .inr (.inl (0, 10)), .inr (.inl (0, 4)), .inr (.inl (0, 4)), .inr (.inl (0, 4)), .inr (.inl (0, 6)), .inr (.inl (0, 10)), .inl (1, [0, 25, 26, 27, 28, 29, 30, 31, 0, 0, 32, 33, 0]), .inr (.inl (0, 10)), .inr (.inl (0, 10)), .inr (.inl (0, 10)), .inr (.inl (0, 10)), .inr (.inl (0, 4)), .inr (.inl (0, 4)), .inr (.inl (0, 4)), .inr (.inl (0, 6)), .inr (.inl (0, 10)), .inl (3, [35]), .inl (2, [36, 0, 0, 0, 0, 0]), .inr (.inl (1, 120)), .inr (.inr [none, none, none, none]), .inl (4, [39, 2, 0, 0]), .inr (.inl (0, 10))]
def sh_73 : List ShN := [.inl (5, [4, 14, 24, 0, 34, 37, 2, 2, 2, 2]), .inl (1, [0, 5, 6, 7, 8, 9, 10, 11, 0, 0, 12, 13, 0]), .inr (.inl (0, 10)), .inr (.inl (0, 10)), .inr (.inl (0, 10)), .inr (.inl (0, 10)), .inr (.inl (0, 4)), .inr (.inl (0, 4)), .inr (.inl (0, 4)), .inr (.inl (0, 6)), .inr (.inl (0, 10)), .inl (1, [0, 15, 16, 17, 18, 19, 20, 21, 0, 0, 22, 23, 0]), .inr (.inl (0, 10)), .inr (.inl (0, 10)), .inr (.inl (0, 10)), .inr (.inl (0, 10)), .inr (.inl (0, 4)), .inr (.inl (0, 4)), .inr (.inl (0, 4)), .inr (.inl (0, 6)), .inr (.inl (0, 10)), .inl (1, [0, 25, 26, 27, 28, 29, 30, 31, 0, 0, 32, 33, 0]), .inr (.inl (0, 10)), .inr (.inl (0, 10)), .inr (.inl (0, 10)), .inr (.inl (0, 10)), .inr (.inl (0, 4)), .inr (.inl (0, 4)), .inr (.inl (0, 4)), .inr (.inl (0, 6)), .inr (.inl (0, 10)), .inl (3, [35]), .inl (2, [36, 0, 0, 0, 0, 0]), .inr (.inl (1, 120)), .inr (.inr [none, none, none, none]), .inl (4, [39, 2, 0, 0]), .inr (.inl (0, 10)), .inr (.inl (0, 10))]
def sh_74 : List ShN := [.inl (5, [4, 14, 24, 0, 34, 37, 2, 2, 2, 2]), .inl (1, [0, 5, 6, 7, 8, 9, 10, 11, 0, 0, 12, 13, 0]), .inr (.inl (0, 10)), .inr (.inl (0, 10)), .inr (.inl (0, 10)), .inr (.inl (0, 10)), .inr (.inl (0, 4)), .inr (.inl (0, 4)), .inr (.inl (0, 4)), .inr (.inl (0, 6)), .inr (.inl (0, 10)), .inl (1, [0, 15, 16, 17, 18, 19, 20, 21, 0, 0, 22, 23, 0]), .inr (.inl (0, 10)), .inr (.inl (0, 10)), .inr (.inl (0, 10)), .inr (.inl (0, 10)), .inr (.inl (0, 4)), .inr (.inl (0, 4)), .inr (.inl (0, 4)), .inr (.inl (0, 6)), .inr (.inl (0, 10)), .inl (1, [0, 25, 26, 27, 28, 29, 30, 31, 0, 0, 32, 33, 0]), .inr (.inl (0, 10)), .inr (.inl (0, 10)), .inr (.inl (0, 10)), .inr (.inl (0, 10)), .inr (.inl (0, 4)), .inr (.inl (0, 4)), .inr (.inl (0, 4)), .inr (.inl (0, 6)), .inr (.inl (0, 10)), .inl (3, [35]), .inl (2, [36, 0, 0, 0, 0, 0]), .inr (.inl (1, 120)), .inr (.inr [none, none, none, none]), .inl (4, [39, 40, 0, 0]), .inr (.inl (0, 10)), .inr (.inl (0, 10))]
def S_6 : ST := (wr (wr S_5 35 2 0) 35 3 0)
set_option maxHeartbeats 8000000 in
set_option maxRecDepth 100000 in
theorem C_7 (E : EV) {Q : Option Value → List va_E → Prop} (K : Q none (hN sh_74 E S_6)) : SA E mX4_init true true 2 20 0 (lv_args 0 [.ref (eB E + 35)]) [] (hN sh_70 E S_5) Q := by
  refine s_aload_n (q := 1) dX4_init_0 rfl rfl 0 rfl ?_
  refine s_objInit (q := 4) dX4_init_1 rfl lX4_3 iObj oObj (Nat.le_of_ble_eq_true rfl) (Nat.le_of_ble_eq_true rfl) ?_
  refine s_aload_n (q := 5) dX4_init_4 rfl rfl 0 rfl ?_
  refine s_bipush (q := 7) (v := 10) dX4_init_5 rfl rfl ?_
  refine n_newi (q := 9) (mc := 1) (ms := 10) (n := 10) (L := 36) (sh' := sh_71) dX4_init_7 rfl (by decide) (by decide) (by decide) rfl rfl rfl ?_
  refine n_putR (q := 12) (k0 := 35) (f := 0) (t := 36) (sh' := sh_72) dX4_init_9 rfl rfl rfl inX4 tyX4_ok nmX4 (Nat.le_of_ble_eq_true rfl) fX4_9 rfl rfl rfl (fun _ => rfl) (fun _ => rfl) (Nat.le_of_ble_eq_true rfl) rfl ?_
  refine s_aload_n (q := 13) dX4_init_12 rfl rfl 0 rfl ?_
  refine s_bipush (q := 15) (v := 10) dX4_init_13 rfl rfl ?_
  refine n_newi (q := 17) (mc := 0) (ms := 0) (n := 10) (L := 37) (sh' := sh_73) dX4_init_15 rfl (by decide) (by decide) (by decide) rfl rfl rfl ?_
  refine n_putR (q := 20) (k0 := 35) (f := 1) (t := 37) (sh' := sh_74) dX4_init_17 rfl rfl rfl inX4 tyX4_ok nmX4 (Nat.le_of_ble_eq_true rfl) fX4_15 rfl rfl rfl (fun _ => rfl) (fun _ => rfl) (Nat.le_of_ble_eq_true rfl) rfl ?_
  refine s_aload_n (q := 21) dX4_init_20 rfl rfl 0 rfl ?_
  refine s_iconst (q := 22) (v := 0) dX4_init_21 rfl rfl ?_
  refine n_putI (q := 25) (k0 := 35) (f := 2) dX4_init_22 rfl rfl rfl rfl inX4 tyX4_ok nmX4 (Nat.le_of_ble_eq_true rfl) fX4_18 rfl rfl rfl ?_
  refine s_aload_n (q := 26) dX4_init_25 rfl rfl 0 rfl ?_
  refine s_iconst (q := 27) (v := 0) dX4_init_26 rfl rfl ?_
  refine n_putI (q := 30) (k0 := 35) (f := 3) dX4_init_27 rfl rfl rfl rfl inX4 tyX4_ok nmX4 (Nat.le_of_ble_eq_true rfl) fX4_22 rfl rfl rfl ?_
  exact s_vret dX4_init_30 rfl (fun h => h) K
def sh_75 : List ShN := [.inl (5, [4, 14, 24, 0, 34, 37, 38, 2, 2, 2]), .inl (1, [0, 5, 6, 7, 8, 9, 10, 11, 0, 0, 12, 13, 0]), .inr (.inl (0, 10)), .inr (.inl (0, 10)), .inr (.inl (0, 10)), .inr (.inl (0, 10)), .inr (.inl (0, 4)), .inr (.inl (0, 4)), .inr (.inl (0, 4)), .inr (.inl (0, 6)), .inr (.inl (0, 10)), .inl (1, [0, 15, 16, 17, 18, 19, 20, 21, 0, 0, 22, 23, 0]), .inr (.inl (0, 10)), .inr (.inl (0, 10)), .inr (.inl (0, 10)), .inr (.inl (0, 10)), .inr (.inl (0, 4)), .inr (.inl (0, 4)), .inr (.inl (0, 4)), .inr (.inl (0, 6)), .inr (.inl (0, 10)), .inl (1, [0, 25, 26, 27, 28, 29, 30, 31, 0, 0, 32, 33, 0]), .inr (.inl (0, 10)), .inr (.inl (0, 10)), .inr (.inl (0, 10)), .inr (.inl (0, 10)), .inr (.inl (0, 4)), .inr (.inl (0, 4)), .inr (.inl (0, 4)), .inr (.inl (0, 6)), .inr (.inl (0, 10)), .inl (3, [35]), .inl (2, [36, 0, 0, 0, 0, 0]), .inr (.inl (1, 120)), .inr (.inr [none, none, none, none]), .inl (4, [39, 40, 0, 0]), .inr (.inl (0, 10)), .inr (.inl (0, 10))]
def sh_76 : List ShN := [.inl (5, [4, 14, 24, 0, 34, 37, 38, 2, 2, 2]), .inl (1, [0, 5, 6, 7, 8, 9, 10, 11, 0, 0, 12, 13, 0]), .inr (.inl (0, 10)), .inr (.inl (0, 10)), .inr (.inl (0, 10)), .inr (.inl (0, 10)), .inr (.inl (0, 4)), .inr (.inl (0, 4)), .inr (.inl (0, 4)), .inr (.inl (0, 6)), .inr (.inl (0, 10)), .inl (1, [0, 15, 16, 17, 18, 19, 20, 21, 0, 0, 22, 23, 0]), .inr (.inl (0, 10)), .inr (.inl (0, 10)), .inr (.inl (0, 10)), .inr (.inl (0, 10)), .inr (.inl (0, 4)), .inr (.inl (0, 4)), .inr (.inl (0, 4)), .inr (.inl (0, 6)), .inr (.inl (0, 10)), .inl (1, [0, 25, 26, 27, 28, 29, 30, 31, 0, 0, 32, 33, 0]), .inr (.inl (0, 10)), .inr (.inl (0, 10)), .inr (.inl (0, 10)), .inr (.inl (0, 10)), .inr (.inl (0, 4)), .inr (.inl (0, 4)), .inr (.inl (0, 4)), .inr (.inl (0, 6)), .inr (.inl (0, 10)), .inl (3, [35]), .inl (2, [36, 0, 0, 0, 0, 0]), .inr (.inl (1, 120)), .inr (.inr [none, none, none, none]), .inl (4, [39, 40, 0, 0]), .inr (.inl (0, 10)), .inr (.inl (0, 10)), .inl (4, [2, 2, 0, 0])]
def sh_77 : List ShN := [.inl (5, [4, 14, 24, 0, 34, 37, 38, 2, 2, 2]), .inl (1, [0, 5, 6, 7, 8, 9, 10, 11, 0, 0, 12, 13, 0]), .inr (.inl (0, 10)), .inr (.inl (0, 10)), .inr (.inl (0, 10)), .inr (.inl (0, 10)), .inr (.inl (0, 4)), .inr (.inl (0, 4)), .inr (.inl (0, 4)), .inr (.inl (0, 6)), .inr (.inl (0, 10)), .inl (1, [0, 15, 16, 17, 18, 19, 20, 21, 0, 0, 22, 23, 0]), .inr (.inl (0, 10)), .inr (.inl (0, 10)), .inr (.inl (0, 10)), .inr (.inl (0, 10)), .inr (.inl (0, 4)), .inr (.inl (0, 4)), .inr (.inl (0, 4)), .inr (.inl (0, 6)), .inr (.inl (0, 10)), .inl (1, [0, 25, 26, 27, 28, 29, 30, 31, 0, 0, 32, 33, 0]), .inr (.inl (0, 10)), .inr (.inl (0, 10)), .inr (.inl (0, 10)), .inr (.inl (0, 10)), .inr (.inl (0, 4)), .inr (.inl (0, 4)), .inr (.inl (0, 4)), .inr (.inl (0, 6)), .inr (.inl (0, 10)), .inl (3, [35]), .inl (2, [36, 0, 0, 0, 0, 0]), .inr (.inl (1, 120)), .inr (.inr [none, none, none, none]), .inl (4, [39, 40, 0, 0]), .inr (.inl (0, 10)), .inr (.inl (0, 10)), .inl (4, [2, 2, 0, 0]), .inr (.inl (0, 10))]
def sh_78 : List ShN := [.inl (5, [4, 14, 24, 0, 34, 37, 38, 2, 2, 2]), .inl (1, [0, 5, 6, 7, 8, 9, 10, 11, 0, 0, 12, 13, 0]), .inr (.inl (0, 10)), .inr (.inl (0, 10)), .inr (.inl (0, 10)), .inr (.inl (0, 10)), .inr (.inl (0, 4)), .inr (.inl (0, 4)), .inr (.inl (0, 4)), .inr (.inl (0, 6)), .inr (.inl (0, 10)), .inl (1, [0, 15, 16, 17, 18, 19, 20, 21, 0, 0, 22, 23, 0]), .inr (.inl (0, 10)), .inr (.inl (0, 10)), .inr (.inl (0, 10)), .inr (.inl (0, 10)), .inr (.inl (0, 4)), .inr (.inl (0, 4)), .inr (.inl (0, 4)), .inr (.inl (0, 6)), .inr (.inl (0, 10)), .inl (1, [0, 25, 26, 27, 28, 29, 30, 31, 0, 0, 32, 33, 0]), .inr (.inl (0, 10)), .inr (.inl (0, 10)), .inr (.inl (0, 10)), .inr (.inl (0, 10)), .inr (.inl (0, 4)), .inr (.inl (0, 4)), .inr (.inl (0, 4)), .inr (.inl (0, 6)), .inr (.inl (0, 10)), .inl (3, [35]), .inl (2, [36, 0, 0, 0, 0, 0]), .inr (.inl (1, 120)), .inr (.inr [none, none, none, none]), .inl (4, [39, 40, 0, 0]), .inr (.inl (0, 10)), .inr (.inl (0, 10)), .inl (4, [42, 2, 0, 0]), .inr (.inl (0, 10))]
def sh_79 : List ShN := [.inl (5, [4, 14, 24, 0, 34, 37, 38, 2, 2, 2]), .inl (1, [0, 5, 6, 7, 8, 9, 10, 11, 0, 0, 12, 13, 0]), .inr (.inl (0, 10)), .inr (.inl (0, 10)), .inr (.inl (0, 10)), .inr (.inl (0, 10)), .inr (.inl (0, 4)), .inr (.inl (0, 4)), .inr (.inl (0, 4)), .inr (.inl (0, 6)), .inr (.inl (0, 10)), .inl (1, [0, 15, 16, 17, 18, 19, 20, 21, 0, 0, 22, 23, 0]), .inr (.inl (0, 10)), .inr (.inl (0, 10)), .inr (.inl (0, 10)), .inr (.inl (0, 10)), .inr (.inl (0, 4)), .inr (.inl (0, 4)), .inr (.inl (0, 4)), .inr (.inl (0, 6)), .inr (.inl (0, 10)), .inl (1, [0, 25, 26, 27, 28, 29, 30, 31, 0, 0, 32, 33, 0]), .inr (.inl (0, 10)), .inr (.inl (0, 10)), .inr (.inl (0, 10)), .inr (.inl (0, 10)), .inr (.inl (0, 4)), .inr (.inl (0, 4)), .inr (.inl (0, 4)), .inr (.inl (0, 6)), .inr (.inl (0, 10)), .inl (3, [35]), .inl (2, [36, 0, 0, 0, 0, 0]), .inr (.inl (1, 120)), .inr (.inr [none, none, none, none]), .inl (4, [39, 40, 0, 0]), .inr (.inl (0, 10)), .inr (.inl (0, 10)), .inl (4, [42, 2, 0, 0]), .inr (.inl (0, 10)), .inr (.inl (0, 10))]
def sh_80 : List ShN := [.inl (5, [4, 14, 24, 0, 34, 37, 38, 2, 2, 2]), .inl (1, [0, 5, 6, 7, 8, 9, 10, 11, 0, 0, 12, 13, 0]), .inr (.inl (0, 10)), .inr (.inl (0, 10)), .inr (.inl (0, 10)), .inr (.inl (0, 10)), .inr (.inl (0, 4)), .inr (.inl (0, 4)), .inr (.inl (0, 4)), .inr (.inl (0, 6)), .inr (.inl (0, 10)), .inl (1, [0, 15, 16, 17, 18, 19, 20, 21, 0, 0, 22, 23, 0]), .inr (.inl (0, 10)), .inr (.inl (0, 10)), .inr (.inl (0, 10)), .inr (.inl (0, 10)), .inr (.inl (0, 4)), .inr (.inl (0, 4)), .inr (.inl (0, 4)), .inr (.inl (0, 6)), .inr (.inl (0, 10)), .inl (1, [0, 25, 26, 27, 28, 29, 30, 31, 0, 0, 32, 33, 0]), .inr (.inl (0, 10)), .inr (.inl (0, 10)), .inr (.inl (0, 10)), .inr (.inl (0, 10)), .inr (.inl (0, 4)), .inr (.inl (0, 4)), .inr (.inl (0, 4)), .inr (.inl (0, 6)), .inr (.inl (0, 10)), .inl (3, [35]), .inl (2, [36, 0, 0, 0, 0, 0]), .inr (.inl (1, 120)), .inr (.inr [none, none, none, none]), .inl (4, [39, 40, 0, 0]), .inr (.inl (0, 10)), .inr (.inl (0, 10)), .inl (4, [42, 43, 0, 0]), .inr (.inl (0, 10)), .inr (.inl (0, 10))]
def S_7 : ST := (wr (wr S_6 38 2 0) 38 3 0)
set_option maxHeartbeats 8000000 in
set_option maxRecDepth 100000 in
theorem C_8 (E : EV) {Q : Option Value → List va_E → Prop} (K : Q none (hN sh_80 E S_7)) : SA E mX4_init true true 2 20 0 (lv_args 0 [.ref (eB E + 38)]) [] (hN sh_76 E S_6) Q := by
  refine s_aload_n (q := 1) dX4_init_0 rfl rfl 0 rfl ?_
  refine s_objInit (q := 4) dX4_init_1 rfl lX4_3 iObj oObj (Nat.le_of_ble_eq_true rfl) (Nat.le_of_ble_eq_true rfl) ?_
  refine s_aload_n (q := 5) dX4_init_4 rfl rfl 0 rfl ?_
  refine s_bipush (q := 7) (v := 10) dX4_init_5 rfl rfl ?_
  refine n_newi (q := 9) (mc := 1) (ms := 10) (n := 10) (L := 39) (sh' := sh_77) dX4_init_7 rfl (by decide) (by decide) (by decide) rfl rfl rfl ?_
  refine n_putR (q := 12) (k0 := 38) (f := 0) (t := 39) (sh' := sh_78) dX4_init_9 rfl rfl rfl inX4 tyX4_ok nmX4 (Nat.le_of_ble_eq_true rfl) fX4_9 rfl rfl rfl (fun _ => rfl) (fun _ => rfl) (Nat.le_of_ble_eq_true rfl) rfl ?_
  refine s_aload_n (q := 13) dX4_init_12 rfl rfl 0 rfl ?_
  refine s_bipush (q := 15) (v := 10) dX4_init_13 rfl rfl ?_
  refine n_newi (q := 17) (mc := 0) (ms := 0) (n := 10) (L := 40) (sh' := sh_79) dX4_init_15 rfl (by decide) (by decide) (by decide) rfl rfl rfl ?_
  refine n_putR (q := 20) (k0 := 38) (f := 1) (t := 40) (sh' := sh_80) dX4_init_17 rfl rfl rfl inX4 tyX4_ok nmX4 (Nat.le_of_ble_eq_true rfl) fX4_15 rfl rfl rfl (fun _ => rfl) (fun _ => rfl) (Nat.le_of_ble_eq_true rfl) rfl ?_
  refine s_aload_n (q := 21) dX4_init_20 rfl rfl 0 rfl ?_
  refine s_iconst (q := 22) (v := 0) dX4_init_21 rfl rfl ?_
  refine n_putI (q := 25) (k0 := 38) (f := 2) dX4_init_22 rfl rfl rfl rfl inX4 tyX4_ok nmX4 (Nat.le_of_ble_eq_true rfl) fX4_18 rfl rfl rfl ?_
  refine s_aload_n (q := 26) dX4_init_25 rfl rfl 0 rfl ?_
  refine s_iconst (q := 27) (v := 0) dX4_init_26 rfl rfl ?_
  refine n_putI (q := 30) (k0 := 38) (f := 3) dX4_init_27 rfl rfl rfl rfl inX4 tyX4_ok nmX4 (Nat.le_of_ble_eq_true rfl) fX4_22 rfl rfl rfl ?_
  exact s_vret dX4_init_30 rfl (fun h => h) K
def sh_81 : List ShN := [.inl (5, [4, 14, 24, 0, 34, 37, 38, 41, 2, 2]), .inl (1, [0, 5, 6, 7, 8, 9, 10, 11, 0, 0, 12, 13, 0]), .inr (.inl (0, 10)), .inr (.inl (0, 10)), .inr (.inl (0, 10)), .inr (.inl (0, 10)), .inr (.inl (0, 4)), .inr (.inl (0, 4)), .inr (.inl (0, 4)), .inr (.inl (0, 6)), .inr (.inl (0, 10)), .inl (1, [0, 15, 16, 17, 18, 19, 20, 21, 0, 0, 22, 23, 0]), .inr (.inl (0, 10)), .inr (.inl (0, 10)), .inr (.inl (0, 10)), .inr (.inl (0, 10)), .inr (.inl (0, 4)), .inr (.inl (0, 4)), .inr (.inl (0, 4)), .inr (.inl (0, 6)), .inr (.inl (0, 10)), .inl (1, [0, 25, 26, 27, 28, 29, 30, 31, 0, 0, 32, 33, 0]), .inr (.inl (0, 10)), .inr (.inl (0, 10)), .inr (.inl (0, 10)), .inr (.inl (0, 10)), .inr (.inl (0, 4)), .inr (.inl (0, 4)), .inr (.inl (0, 4)), .inr (.inl (0, 6)), .inr (.inl (0, 10)), .inl (3, [35]), .inl (2, [36, 0, 0, 0, 0, 0]), .inr (.inl (1, 120)), .inr (.inr [none, none, none, none]), .inl (4, [39, 40, 0, 0]), .inr (.inl (0, 10)), .inr (.inl (0, 10)), .inl (4, [42, 43, 0, 0]), .inr (.inl (0, 10)), .inr (.inl (0, 10))]
def sh_82 : List ShN := [.inl (5, [4, 14, 24, 0, 34, 37, 38, 41, 2, 2]), .inl (1, [0, 5, 6, 7, 8, 9, 10, 11, 0, 0, 12, 13, 0]), .inr (.inl (0, 10)), .inr (.inl (0, 10)), .inr (.inl (0, 10)), .inr (.inl (0, 10)), .inr (.inl (0, 4)), .inr (.inl (0, 4)), .inr (.inl (0, 4)), .inr (.inl (0, 6)), .inr (.inl (0, 10)), .inl (1, [0, 15, 16, 17, 18, 19, 20, 21, 0, 0, 22, 23, 0]), .inr (.inl (0, 10)), .inr (.inl (0, 10)), .inr (.inl (0, 10)), .inr (.inl (0, 10)), .inr (.inl (0, 4)), .inr (.inl (0, 4)), .inr (.inl (0, 4)), .inr (.inl (0, 6)), .inr (.inl (0, 10)), .inl (1, [0, 25, 26, 27, 28, 29, 30, 31, 0, 0, 32, 33, 0]), .inr (.inl (0, 10)), .inr (.inl (0, 10)), .inr (.inl (0, 10)), .inr (.inl (0, 10)), .inr (.inl (0, 4)), .inr (.inl (0, 4)), .inr (.inl (0, 4)), .inr (.inl (0, 6)), .inr (.inl (0, 10)), .inl (3, [35]), .inl (2, [36, 0, 0, 0, 0, 0]), .inr (.inl (1, 120)), .inr (.inr [none, none, none, none]), .inl (4, [39, 40, 0, 0]), .inr (.inl (0, 10)), .inr (.inl (0, 10)), .inl (4, [42, 43, 0, 0]), .inr (.inl (0, 10)), .inr (.inl (0, 10)), .inr (.inl (0, 10))]
def sh_83 : List ShN := [.inl (5, [4, 14, 24, 0, 34, 37, 38, 41, 44, 2]), .inl (1, [0, 5, 6, 7, 8, 9, 10, 11, 0, 0, 12, 13, 0]), .inr (.inl (0, 10)), .inr (.inl (0, 10)), .inr (.inl (0, 10)), .inr (.inl (0, 10)), .inr (.inl (0, 4)), .inr (.inl (0, 4)), .inr (.inl (0, 4)), .inr (.inl (0, 6)), .inr (.inl (0, 10)), .inl (1, [0, 15, 16, 17, 18, 19, 20, 21, 0, 0, 22, 23, 0]), .inr (.inl (0, 10)), .inr (.inl (0, 10)), .inr (.inl (0, 10)), .inr (.inl (0, 10)), .inr (.inl (0, 4)), .inr (.inl (0, 4)), .inr (.inl (0, 4)), .inr (.inl (0, 6)), .inr (.inl (0, 10)), .inl (1, [0, 25, 26, 27, 28, 29, 30, 31, 0, 0, 32, 33, 0]), .inr (.inl (0, 10)), .inr (.inl (0, 10)), .inr (.inl (0, 10)), .inr (.inl (0, 10)), .inr (.inl (0, 4)), .inr (.inl (0, 4)), .inr (.inl (0, 4)), .inr (.inl (0, 6)), .inr (.inl (0, 10)), .inl (3, [35]), .inl (2, [36, 0, 0, 0, 0, 0]), .inr (.inl (1, 120)), .inr (.inr [none, none, none, none]), .inl (4, [39, 40, 0, 0]), .inr (.inl (0, 10)), .inr (.inl (0, 10)), .inl (4, [42, 43, 0, 0]), .inr (.inl (0, 10)), .inr (.inl (0, 10)), .inr (.inl (0, 10))]
def sh_84 : List ShN := [.inl (5, [4, 14, 24, 0, 34, 37, 38, 41, 44, 2]), .inl (1, [0, 5, 6, 7, 8, 9, 10, 11, 0, 0, 12, 13, 0]), .inr (.inl (0, 10)), .inr (.inl (0, 10)), .inr (.inl (0, 10)), .inr (.inl (0, 10)), .inr (.inl (0, 4)), .inr (.inl (0, 4)), .inr (.inl (0, 4)), .inr (.inl (0, 6)), .inr (.inl (0, 10)), .inl (1, [0, 15, 16, 17, 18, 19, 20, 21, 0, 0, 22, 23, 0]), .inr (.inl (0, 10)), .inr (.inl (0, 10)), .inr (.inl (0, 10)), .inr (.inl (0, 10)), .inr (.inl (0, 4)), .inr (.inl (0, 4)), .inr (.inl (0, 4)), .inr (.inl (0, 6)), .inr (.inl (0, 10)), .inl (1, [0, 25, 26, 27, 28, 29, 30, 31, 0, 0, 32, 33, 0]), .inr (.inl (0, 10)), .inr (.inl (0, 10)), .inr (.inl (0, 10)), .inr (.inl (0, 10)), .inr (.inl (0, 4)), .inr (.inl (0, 4)), .inr (.inl (0, 4)), .inr (.inl (0, 6)), .inr (.inl (0, 10)), .inl (3, [35]), .inl (2, [36, 0, 0, 0, 0, 0]), .inr (.inl (1, 120)), .inr (.inr [none, none, none, none]), .inl (4, [39, 40, 0, 0]), .inr (.inl (0, 10)), .inr (.inl (0, 10)), .inl (4, [42, 43, 0, 0]), .inr (.inl (0, 10)), .inr (.inl (0, 10)), .inr (.inl (0, 10)), .inr (.inl (0, 7))]
def sh_85 : List ShN := [.inl (5, [4, 14, 24, 0, 34, 37, 38, 41, 44, 45]), .inl (1, [0, 5, 6, 7, 8, 9, 10, 11, 0, 0, 12, 13, 0]), .inr (.inl (0, 10)), .inr (.inl (0, 10)), .inr (.inl (0, 10)), .inr (.inl (0, 10)), .inr (.inl (0, 4)), .inr (.inl (0, 4)), .inr (.inl (0, 4)), .inr (.inl (0, 6)), .inr (.inl (0, 10)), .inl (1, [0, 15, 16, 17, 18, 19, 20, 21, 0, 0, 22, 23, 0]), .inr (.inl (0, 10)), .inr (.inl (0, 10)), .inr (.inl (0, 10)), .inr (.inl (0, 10)), .inr (.inl (0, 4)), .inr (.inl (0, 4)), .inr (.inl (0, 4)), .inr (.inl (0, 6)), .inr (.inl (0, 10)), .inl (1, [0, 25, 26, 27, 28, 29, 30, 31, 0, 0, 32, 33, 0]), .inr (.inl (0, 10)), .inr (.inl (0, 10)), .inr (.inl (0, 10)), .inr (.inl (0, 10)), .inr (.inl (0, 4)), .inr (.inl (0, 4)), .inr (.inl (0, 4)), .inr (.inl (0, 6)), .inr (.inl (0, 10)), .inl (3, [35]), .inl (2, [36, 0, 0, 0, 0, 0]), .inr (.inl (1, 120)), .inr (.inr [none, none, none, none]), .inl (4, [39, 40, 0, 0]), .inr (.inl (0, 10)), .inr (.inl (0, 10)), .inl (4, [42, 43, 0, 0]), .inr (.inl (0, 10)), .inr (.inl (0, 10)), .inr (.inl (0, 10)), .inr (.inl (0, 7))]
def sh_86 : List ShN := [.inl (5, [4, 14, 24, 0, 34, 37, 38, 41, 44, 45]), .inl (1, [0, 5, 6, 7, 8, 9, 10, 11, 0, 0, 12, 13, 0]), .inr (.inl (0, 10)), .inr (.inl (0, 10)), .inr (.inl (0, 10)), .inr (.inl (0, 10)), .inr (.inl (0, 4)), .inr (.inl (0, 4)), .inr (.inl (0, 4)), .inr (.inl (0, 6)), .inr (.inl (0, 10)), .inl (1, [0, 15, 16, 17, 18, 19, 20, 21, 0, 0, 22, 23, 0]), .inr (.inl (0, 10)), .inr (.inl (0, 10)), .inr (.inl (0, 10)), .inr (.inl (0, 10)), .inr (.inl (0, 4)), .inr (.inl (0, 4)), .inr (.inl (0, 4)), .inr (.inl (0, 6)), .inr (.inl (0, 10)), .inl (1, [0, 25, 26, 27, 28, 29, 30, 31, 0, 0, 32, 33, 0]), .inr (.inl (0, 10)), .inr (.inl (0, 10)), .inr (.inl (0, 10)), .inr (.inl (0, 10)), .inr (.inl (0, 4)), .inr (.inl (0, 4)), .inr (.inl (0, 4)), .inr (.inl (0, 6)), .inr (.inl (0, 10)), .inl (3, [35]), .inl (2, [36, 0, 0, 0, 0, 0]), .inr (.inl (1, 120)), .inr (.inr [none, none, none, none]), .inl (4, [39, 40, 0, 0]), .inr (.inl (0, 10)), .inr (.inl (0, 10)), .inl (4, [42, 43, 0, 0]), .inr (.inl (0, 10)), .inr (.inl (0, 10)), .inr (.inl (0, 10)), .inr (.inl (0, 7)), .inl (0, [0, 0, 2])]
def sh_87 : List ShN := [.inl (5, [4, 14, 24, 0, 34, 37, 38, 41, 44, 45]), .inl (1, [0, 5, 6, 7, 8, 9, 10, 11, 0, 0, 12, 13, 0]), .inr (.inl (0, 10)), .inr (.inl (0, 10)), .inr (.inl (0, 10)), .inr (.inl (0, 10)), .inr (.inl (0, 4)), .inr (.inl (0, 4)), .inr (.inl (0, 4)), .inr (.inl (0, 6)), .inr (.inl (0, 10)), .inl (1, [0, 15, 16, 17, 18, 19, 20, 21, 0, 0, 22, 23, 0]), .inr (.inl (0, 10)), .inr (.inl (0, 10)), .inr (.inl (0, 10)), .inr (.inl (0, 10)), .inr (.inl (0, 4)), .inr (.inl (0, 4)), .inr (.inl (0, 4)), .inr (.inl (0, 6)), .inr (.inl (0, 10)), .inl (1, [0, 25, 26, 27, 28, 29, 30, 31, 0, 0, 32, 33, 0]), .inr (.inl (0, 10)), .inr (.inl (0, 10)), .inr (.inl (0, 10)), .inr (.inl (0, 10)), .inr (.inl (0, 4)), .inr (.inl (0, 4)), .inr (.inl (0, 4)), .inr (.inl (0, 6)), .inr (.inl (0, 10)), .inl (3, [35]), .inl (2, [36, 0, 0, 0, 0, 0]), .inr (.inl (1, 120)), .inr (.inr [none, none, none, none]), .inl (4, [39, 40, 0, 0]), .inr (.inl (0, 10)), .inr (.inl (0, 10)), .inl (4, [42, 43, 0, 0]), .inr (.inl (0, 10)), .inr (.inl (0, 10)), .inr (.inl (0, 10)), .inr (.inl (0, 7)), .inl (0, [0, 0, 2]), .inr (.inl (0, 40))]
def sh_88 : List ShN := [.inl (5, [4, 14, 24, 0, 34, 37, 38, 41, 44, 45]), .inl (1, [0, 5, 6, 7, 8, 9, 10, 11, 0, 0, 12, 13, 0]), .inr (.inl (0, 10)), .inr (.inl (0, 10)), .inr (.inl (0, 10)), .inr (.inl (0, 10)), .inr (.inl (0, 4)), .inr (.inl (0, 4)), .inr (.inl (0, 4)), .inr (.inl (0, 6)), .inr (.inl (0, 10)), .inl (1, [0, 15, 16, 17, 18, 19, 20, 21, 0, 0, 22, 23, 0]), .inr (.inl (0, 10)), .inr (.inl (0, 10)), .inr (.inl (0, 10)), .inr (.inl (0, 10)), .inr (.inl (0, 4)), .inr (.inl (0, 4)), .inr (.inl (0, 4)), .inr (.inl (0, 6)), .inr (.inl (0, 10)), .inl (1, [0, 25, 26, 27, 28, 29, 30, 31, 0, 0, 32, 33, 0]), .inr (.inl (0, 10)), .inr (.inl (0, 10)), .inr (.inl (0, 10)), .inr (.inl (0, 10)), .inr (.inl (0, 4)), .inr (.inl (0, 4)), .inr (.inl (0, 4)), .inr (.inl (0, 6)), .inr (.inl (0, 10)), .inl (3, [35]), .inl (2, [36, 0, 0, 0, 0, 0]), .inr (.inl (1, 120)), .inr (.inr [none, none, none, none]), .inl (4, [39, 40, 0, 0]), .inr (.inl (0, 10)), .inr (.inl (0, 10)), .inl (4, [42, 43, 0, 0]), .inr (.inl (0, 10)), .inr (.inl (0, 10)), .inr (.inl (0, 10)), .inr (.inl (0, 7)), .inl (0, [0, 0, 47]), .inr (.inl (0, 40))]
def S_8 : ST := (wr (wr S_7 43 0 0) 43 1 0)
set_option maxHeartbeats 8000000 in
set_option maxRecDepth 100000 in
theorem C_9 (E : EV) {Q : Option Value → List va_E → Prop} (K : Q none (hN sh_88 E S_8)) : SA E mX0_init true true 1 40 0 (lv_args 0 [.ref (eB E + 43)]) [] (hN sh_86 E S_7) Q := by
  refine s_aload_n (q := 1) dX0_init_0 rfl rfl 0 rfl ?_
  refine s_objInit (q := 4) dX0_init_1 rfl lX0_3 iObj oObj (Nat.le_of_ble_eq_true rfl) (Nat.le_of_ble_eq_true rfl) ?_
  refine s_aload_n (q := 5) dX0_init_4 rfl rfl 0 rfl ?_
  refine s_iconst (q := 6) (v := 0) dX0_init_5 rfl rfl ?_
  refine n_putI (q := 9) (k0 := 43) (f := 0) dX0_init_6 rfl rfl rfl rfl inX0 tyX0_ok nmX0 (Nat.le_of_ble_eq_true rfl) fX0_9 rfl rfl rfl ?_
  refine s_aload_n (q := 10) dX0_init_9 rfl rfl 0 rfl ?_
  refine s_iconst (q := 11) (v := 0) dX0_init_10 rfl rfl ?_
  refine n_putI (q := 14) (k0 := 43) (f := 1) dX0_init_11 rfl rfl rfl rfl inX0 tyX0_ok nmX0 (Nat.le_of_ble_eq_true rfl) fX0_15 rfl rfl rfl ?_
  refine s_aload_n (q := 15) dX0_init_14 rfl rfl 0 rfl ?_
  refine s_bipush (q := 17) (v := 40) dX0_init_15 rfl rfl ?_
  refine n_newi (q := 19) (mc := 0) (ms := 0) (n := 40) (L := 44) (sh' := sh_87) dX0_init_17 rfl (by decide) (by decide) (by decide) rfl rfl rfl ?_
  refine n_putR (q := 22) (k0 := 43) (f := 2) (t := 44) (sh' := sh_88) dX0_init_19 rfl rfl rfl inX0 tyX0_ok nmX0 (Nat.le_of_ble_eq_true rfl) fX0_18 rfl rfl rfl (fun _ => rfl) (fun _ => rfl) (Nat.le_of_ble_eq_true rfl) rfl ?_
  exact s_vret dX0_init_22 rfl (fun h => h) K
def sh_89 : List ShN := [.inl (5, [4, 14, 24, 0, 34, 37, 38, 41, 44, 45]), .inl (1, [0, 5, 6, 7, 8, 9, 10, 11, 0, 0, 12, 13, 0]), .inr (.inl (0, 10)), .inr (.inl (0, 10)), .inr (.inl (0, 10)), .inr (.inl (0, 10)), .inr (.inl (0, 4)), .inr (.inl (0, 4)), .inr (.inl (0, 4)), .inr (.inl (0, 6)), .inr (.inl (0, 10)), .inl (1, [0, 15, 16, 17, 18, 19, 20, 21, 0, 0, 22, 23, 0]), .inr (.inl (0, 10)), .inr (.inl (0, 10)), .inr (.inl (0, 10)), .inr (.inl (0, 10)), .inr (.inl (0, 4)), .inr (.inl (0, 4)), .inr (.inl (0, 4)), .inr (.inl (0, 6)), .inr (.inl (0, 10)), .inl (1, [0, 25, 26, 27, 28, 29, 30, 31, 0, 0, 32, 33, 0]), .inr (.inl (0, 10)), .inr (.inl (0, 10)), .inr (.inl (0, 10)), .inr (.inl (0, 10)), .inr (.inl (0, 4)), .inr (.inl (0, 4)), .inr (.inl (0, 4)), .inr (.inl (0, 6)), .inr (.inl (0, 10)), .inl (3, [35]), .inl (2, [36, 0, 0, 0, 0, 0]), .inr (.inl (1, 120)), .inr (.inr [some 43, none, none, none]), .inl (4, [39, 40, 0, 0]), .inr (.inl (0, 10)), .inr (.inl (0, 10)), .inl (4, [42, 43, 0, 0]), .inr (.inl (0, 10)), .inr (.inl (0, 10)), .inr (.inl (0, 10)), .inr (.inl (0, 7)), .inl (0, [0, 0, 47]), .inr (.inl (0, 40))]
def sh_90 : List ShN := [.inl (5, [4, 14, 24, 0, 34, 37, 38, 41, 44, 45]), .inl (1, [0, 5, 6, 7, 8, 9, 10, 11, 0, 0, 12, 13, 0]), .inr (.inl (0, 10)), .inr (.inl (0, 10)), .inr (.inl (0, 10)), .inr (.inl (0, 10)), .inr (.inl (0, 4)), .inr (.inl (0, 4)), .inr (.inl (0, 4)), .inr (.inl (0, 6)), .inr (.inl (0, 10)), .inl (1, [0, 15, 16, 17, 18, 19, 20, 21, 0, 0, 22, 23, 0]), .inr (.inl (0, 10)), .inr (.inl (0, 10)), .inr (.inl (0, 10)), .inr (.inl (0, 10)), .inr (.inl (0, 4)), .inr (.inl (0, 4)), .inr (.inl (0, 4)), .inr (.inl (0, 6)), .inr (.inl (0, 10)), .inl (1, [0, 25, 26, 27, 28, 29, 30, 31, 0, 0, 32, 33, 0]), .inr (.inl (0, 10)), .inr (.inl (0, 10)), .inr (.inl (0, 10)), .inr (.inl (0, 10)), .inr (.inl (0, 4)), .inr (.inl (0, 4)), .inr (.inl (0, 4)), .inr (.inl (0, 6)), .inr (.inl (0, 10)), .inl (3, [35]), .inl (2, [36, 0, 0, 0, 0, 0]), .inr (.inl (1, 120)), .inr (.inr [some 43, none, none, none]), .inl (4, [39, 40, 0, 0]), .inr (.inl (0, 10)), .inr (.inl (0, 10)), .inl (4, [42, 43, 0, 0]), .inr (.inl (0, 10)), .inr (.inl (0, 10)), .inr (.inl (0, 10)), .inr (.inl (0, 7)), .inl (0, [0, 0, 47]), .inr (.inl (0, 40)), .inl (0, [0, 0, 2])]
def sh_91 : List ShN := [.inl (5, [4, 14, 24, 0, 34, 37, 38, 41, 44, 45]), .inl (1, [0, 5, 6, 7, 8, 9, 10, 11, 0, 0, 12, 13, 0]), .inr (.inl (0, 10)), .inr (.inl (0, 10)), .inr (.inl (0, 10)), .inr (.inl (0, 10)), .inr (.inl (0, 4)), .inr (.inl (0, 4)), .inr (.inl (0, 4)), .inr (.inl (0, 6)), .inr (.inl (0, 10)), .inl (1, [0, 15, 16, 17, 18, 19, 20, 21, 0, 0, 22, 23, 0]), .inr (.inl (0, 10)), .inr (.inl (0, 10)), .inr (.inl (0, 10)), .inr (.inl (0, 10)), .inr (.inl (0, 4)), .inr (.inl (0, 4)), .inr (.inl (0, 4)), .inr (.inl (0, 6)), .inr (.inl (0, 10)), .inl (1, [0, 25, 26, 27, 28, 29, 30, 31, 0, 0, 32, 33, 0]), .inr (.inl (0, 10)), .inr (.inl (0, 10)), .inr (.inl (0, 10)), .inr (.inl (0, 10)), .inr (.inl (0, 4)), .inr (.inl (0, 4)), .inr (.inl (0, 4)), .inr (.inl (0, 6)), .inr (.inl (0, 10)), .inl (3, [35]), .inl (2, [36, 0, 0, 0, 0, 0]), .inr (.inl (1, 120)), .inr (.inr [some 43, none, none, none]), .inl (4, [39, 40, 0, 0]), .inr (.inl (0, 10)), .inr (.inl (0, 10)), .inl (4, [42, 43, 0, 0]), .inr (.inl (0, 10)), .inr (.inl (0, 10)), .inr (.inl (0, 10)), .inr (.inl (0, 7)), .inl (0, [0, 0, 47]), .inr (.inl (0, 40)), .inl (0, [0, 0, 2]), .inr (.inl (0, 40))]
def sh_92 : List ShN := [.inl (5, [4, 14, 24, 0, 34, 37, 38, 41, 44, 45]), .inl (1, [0, 5, 6, 7, 8, 9, 10, 11, 0, 0, 12, 13, 0]), .inr (.inl (0, 10)), .inr (.inl (0, 10)), .inr (.inl (0, 10)), .inr (.inl (0, 10)), .inr (.inl (0, 4)), .inr (.inl (0, 4)), .inr (.inl (0, 4)), .inr (.inl (0, 6)), .inr (.inl (0, 10)), .inl (1, [0, 15, 16, 17, 18, 19, 20, 21, 0, 0, 22, 23, 0]), .inr (.inl (0, 10)), .inr (.inl (0, 10)), .inr (.inl (0, 10)), .inr (.inl (0, 10)), .inr (.inl (0, 4)), .inr (.inl (0, 4)), .inr (.inl (0, 4)), .inr (.inl (0, 6)), .inr (.inl (0, 10)), .inl (1, [0, 25, 26, 27, 28, 29, 30, 31, 0, 0, 32, 33, 0]), .inr (.inl (0, 10)), .inr (.inl (0, 10)), .inr (.inl (0, 10)), .inr (.inl (0, 10)), .inr (.inl (0, 4)), .inr (.inl (0, 4)), .inr (.inl (0, 4)), .inr (.inl (0, 6)), .inr (.inl (0, 10)), .inl (3, [35]), .inl (2, [36, 0, 0, 0, 0, 0]), .inr (.inl (1, 120)), .inr (.inr [some 43, none, none, none]), .inl (4, [39, 40, 0, 0]), .inr (.inl (0, 10)), .inr (.inl (0, 10)), .inl (4, [42, 43, 0, 0]), .inr (.inl (0, 10)), .inr (.inl (0, 10)), .inr (.inl (0, 10)), .inr (.inl (0, 7)), .inl (0, [0, 0, 47]), .inr (.inl (0, 40)), .inl (0, [0, 0, 49]), .inr (.inl (0, 40))]
def S_9 : ST := (wr (wr S_8 45 0 0) 45 1 0)
set_option maxHeartbeats 8000000 in
set_option maxRecDepth 100000 in
theorem C_10 (E : EV) {Q : Option Value → List va_E → Prop} (K : Q none (hN sh_92 E S_9)) : SA E mX0_init true true 1 40 0 (lv_args 0 [.ref (eB E + 45)]) [] (hN sh_90 E S_8) Q := by
  refine s_aload_n (q := 1) dX0_init_0 rfl rfl 0 rfl ?_
  refine s_objInit (q := 4) dX0_init_1 rfl lX0_3 iObj oObj (Nat.le_of_ble_eq_true rfl) (Nat.le_of_ble_eq_true rfl) ?_
  refine s_aload_n (q := 5) dX0_init_4 rfl rfl 0 rfl ?_
  refine s_iconst (q := 6) (v := 0) dX0_init_5 rfl rfl ?_
  refine n_putI (q := 9) (k0 := 45) (f := 0) dX0_init_6 rfl rfl rfl rfl inX0 tyX0_ok nmX0 (Nat.le_of_ble_eq_true rfl) fX0_9 rfl rfl rfl ?_
  refine s_aload_n (q := 10) dX0_init_9 rfl rfl 0 rfl ?_
  refine s_iconst (q := 11) (v := 0) dX0_init_10 rfl rfl ?_
  refine n_putI (q := 14) (k0 := 45) (f := 1) dX0_init_11 rfl rfl rfl rfl inX0 tyX0_ok nmX0 (Nat.le_of_ble_eq_true rfl) fX0_15 rfl rfl rfl ?_
  refine s_aload_n (q := 15) dX0_init_14 rfl rfl 0 rfl ?_
  refine s_bipush (q := 17) (v := 40) dX0_init_15 rfl rfl ?_
  refine n_newi (q := 19) (mc := 0) (ms := 0) (n := 40) (L := 46) (sh' := sh_91) dX0_init_17 rfl (by decide) (by decide) (by decide) rfl rfl rfl ?_
  refine n_putR (q := 22) (k0 := 45) (f := 2) (t := 46) (sh' := sh_92) dX0_init_19 rfl rfl rfl inX0 tyX0_ok nmX0 (Nat.le_of_ble_eq_true rfl) fX0_18 rfl rfl rfl (fun _ => rfl) (fun _ => rfl) (Nat.le_of_ble_eq_true rfl) rfl ?_
  exact s_vret dX0_init_22 rfl (fun h => h) K
def sh_93 : List ShN := [.inl (5, [4, 14, 24, 0, 34, 37, 38, 41, 44, 45]), .inl (1, [0, 5, 6, 7, 8, 9, 10, 11, 0, 0, 12, 13, 0]), .inr (.inl (0, 10)), .inr (.inl (0, 10)), .inr (.inl (0, 10)), .inr (.inl (0, 10)), .inr (.inl (0, 4)), .inr (.inl (0, 4)), .inr (.inl (0, 4)), .inr (.inl (0, 6)), .inr (.inl (0, 10)), .inl (1, [0, 15, 16, 17, 18, 19, 20, 21, 0, 0, 22, 23, 0]), .inr (.inl (0, 10)), .inr (.inl (0, 10)), .inr (.inl (0, 10)), .inr (.inl (0, 10)), .inr (.inl (0, 4)), .inr (.inl (0, 4)), .inr (.inl (0, 4)), .inr (.inl (0, 6)), .inr (.inl (0, 10)), .inl (1, [0, 25, 26, 27, 28, 29, 30, 31, 0, 0, 32, 33, 0]), .inr (.inl (0, 10)), .inr (.inl (0, 10)), .inr (.inl (0, 10)), .inr (.inl (0, 10)), .inr (.inl (0, 4)), .inr (.inl (0, 4)), .inr (.inl (0, 4)), .inr (.inl (0, 6)), .inr (.inl (0, 10)), .inl (3, [35]), .inl (2, [36, 0, 0, 0, 0, 0]), .inr (.inl (1, 120)), .inr (.inr [some 43, some 45, none, none]), .inl (4, [39, 40, 0, 0]), .inr (.inl (0, 10)), .inr (.inl (0, 10)), .inl (4, [42, 43, 0, 0]), .inr (.inl (0, 10)), .inr (.inl (0, 10)), .inr (.inl (0, 10)), .inr (.inl (0, 7)), .inl (0, [0, 0, 47]), .inr (.inl (0, 40)), .inl (0, [0, 0, 49]), .inr (.inl (0, 40))]
def sh_94 : List ShN := [.inl (5, [4, 14, 24, 0, 34, 37, 38, 41, 44, 45]), .inl (1, [0, 5, 6, 7, 8, 9, 10, 11, 0, 0, 12, 13, 0]), .inr (.inl (0, 10)), .inr (.inl (0, 10)), .inr (.inl (0, 10)), .inr (.inl (0, 10)), .inr (.inl (0, 4)), .inr (.inl (0, 4)), .inr (.inl (0, 4)), .inr (.inl (0, 6)), .inr (.inl (0, 10)), .inl (1, [0, 15, 16, 17, 18, 19, 20, 21, 0, 0, 22, 23, 0]), .inr (.inl (0, 10)), .inr (.inl (0, 10)), .inr (.inl (0, 10)), .inr (.inl (0, 10)), .inr (.inl (0, 4)), .inr (.inl (0, 4)), .inr (.inl (0, 4)), .inr (.inl (0, 6)), .inr (.inl (0, 10)), .inl (1, [0, 25, 26, 27, 28, 29, 30, 31, 0, 0, 32, 33, 0]), .inr (.inl (0, 10)), .inr (.inl (0, 10)), .inr (.inl (0, 10)), .inr (.inl (0, 10)), .inr (.inl (0, 4)), .inr (.inl (0, 4)), .inr (.inl (0, 4)), .inr (.inl (0, 6)), .inr (.inl (0, 10)), .inl (3, [35]), .inl (2, [36, 0, 0, 0, 0, 0]), .inr (.inl (1, 120)), .inr (.inr [some 43, some 45, none, none]), .inl (4, [39, 40, 0, 0]), .inr (.inl (0, 10)), .inr (.inl (0, 10)), .inl (4, [42, 43, 0, 0]), .inr (.inl (0, 10)), .inr (.inl (0, 10)), .inr (.inl (0, 10)), .inr (.inl (0, 7)), .inl (0, [0, 0, 47]), .inr (.inl (0, 40)), .inl (0, [0, 0, 49]), .inr (.inl (0, 40)), .inl (0, [0, 0, 2])]
def sh_95 : List ShN := [.inl (5, [4, 14, 24, 0, 34, 37, 38, 41, 44, 45]), .inl (1, [0, 5, 6, 7, 8, 9, 10, 11, 0, 0, 12, 13, 0]), .inr (.inl (0, 10)), .inr (.inl (0, 10)), .inr (.inl (0, 10)), .inr (.inl (0, 10)), .inr (.inl (0, 4)), .inr (.inl (0, 4)), .inr (.inl (0, 4)), .inr (.inl (0, 6)), .inr (.inl (0, 10)), .inl (1, [0, 15, 16, 17, 18, 19, 20, 21, 0, 0, 22, 23, 0]), .inr (.inl (0, 10)), .inr (.inl (0, 10)), .inr (.inl (0, 10)), .inr (.inl (0, 10)), .inr (.inl (0, 4)), .inr (.inl (0, 4)), .inr (.inl (0, 4)), .inr (.inl (0, 6)), .inr (.inl (0, 10)), .inl (1, [0, 25, 26, 27, 28, 29, 30, 31, 0, 0, 32, 33, 0]), .inr (.inl (0, 10)), .inr (.inl (0, 10)), .inr (.inl (0, 10)), .inr (.inl (0, 10)), .inr (.inl (0, 4)), .inr (.inl (0, 4)), .inr (.inl (0, 4)), .inr (.inl (0, 6)), .inr (.inl (0, 10)), .inl (3, [35]), .inl (2, [36, 0, 0, 0, 0, 0]), .inr (.inl (1, 120)), .inr (.inr [some 43, some 45, none, none]), .inl (4, [39, 40, 0, 0]), .inr (.inl (0, 10)), .inr (.inl (0, 10)), .inl (4, [42, 43, 0, 0]), .inr (.inl (0, 10)), .inr (.inl (0, 10)), .inr (.inl (0, 10)), .inr (.inl (0, 7)), .inl (0, [0, 0, 47]), .inr (.inl (0, 40)), .inl (0, [0, 0, 49]), .inr (.inl (0, 40)), .inl (0, [0, 0, 2]), .inr (.inl (0, 40))]
def sh_96 : List ShN := [.inl (5, [4, 14, 24, 0, 34, 37, 38, 41, 44, 45]), .inl (1, [0, 5, 6, 7, 8, 9, 10, 11, 0, 0, 12, 13, 0]), .inr (.inl (0, 10)), .inr (.inl (0, 10)), .inr (.inl (0, 10)), .inr (.inl (0, 10)), .inr (.inl (0, 4)), .inr (.inl (0, 4)), .inr (.inl (0, 4)), .inr (.inl (0, 6)), .inr (.inl (0, 10)), .inl (1, [0, 15, 16, 17, 18, 19, 20, 21, 0, 0, 22, 23, 0]), .inr (.inl (0, 10)), .inr (.inl (0, 10)), .inr (.inl (0, 10)), .inr (.inl (0, 10)), .inr (.inl (0, 4)), .inr (.inl (0, 4)), .inr (.inl (0, 4)), .inr (.inl (0, 6)), .inr (.inl (0, 10)), .inl (1, [0, 25, 26, 27, 28, 29, 30, 31, 0, 0, 32, 33, 0]), .inr (.inl (0, 10)), .inr (.inl (0, 10)), .inr (.inl (0, 10)), .inr (.inl (0, 10)), .inr (.inl (0, 4)), .inr (.inl (0, 4)), .inr (.inl (0, 4)), .inr (.inl (0, 6)), .inr (.inl (0, 10)), .inl (3, [35]), .inl (2, [36, 0, 0, 0, 0, 0]), .inr (.inl (1, 120)), .inr (.inr [some 43, some 45, none, none]), .inl (4, [39, 40, 0, 0]), .inr (.inl (0, 10)), .inr (.inl (0, 10)), .inl (4, [42, 43, 0, 0]), .inr (.inl (0, 10)), .inr (.inl (0, 10)), .inr (.inl (0, 10)), .inr (.inl (0, 7)), .inl (0, [0, 0, 47]), .inr (.inl (0, 40)), .inl (0, [0, 0, 49]), .inr (.inl (0, 40)), .inl (0, [0, 0, 51]), .inr (.inl (0, 40))]
def S_10 : ST := (wr (wr S_9 47 0 0) 47 1 0)
set_option maxHeartbeats 8000000 in
set_option maxRecDepth 100000 in
theorem C_11 (E : EV) {Q : Option Value → List va_E → Prop} (K : Q none (hN sh_96 E S_10)) : SA E mX0_init true true 1 40 0 (lv_args 0 [.ref (eB E + 47)]) [] (hN sh_94 E S_9) Q := by
  refine s_aload_n (q := 1) dX0_init_0 rfl rfl 0 rfl ?_
  refine s_objInit (q := 4) dX0_init_1 rfl lX0_3 iObj oObj (Nat.le_of_ble_eq_true rfl) (Nat.le_of_ble_eq_true rfl) ?_
  refine s_aload_n (q := 5) dX0_init_4 rfl rfl 0 rfl ?_
  refine s_iconst (q := 6) (v := 0) dX0_init_5 rfl rfl ?_
  refine n_putI (q := 9) (k0 := 47) (f := 0) dX0_init_6 rfl rfl rfl rfl inX0 tyX0_ok nmX0 (Nat.le_of_ble_eq_true rfl) fX0_9 rfl rfl rfl ?_
  refine s_aload_n (q := 10) dX0_init_9 rfl rfl 0 rfl ?_
  refine s_iconst (q := 11) (v := 0) dX0_init_10 rfl rfl ?_
  refine n_putI (q := 14) (k0 := 47) (f := 1) dX0_init_11 rfl rfl rfl rfl inX0 tyX0_ok nmX0 (Nat.le_of_ble_eq_true rfl) fX0_15 rfl rfl rfl ?_
  refine s_aload_n (q := 15) dX0_init_14 rfl rfl 0 rfl ?_
  refine s_bipush (q := 17) (v := 40) dX0_init_15 rfl rfl ?_
  refine n_newi (q := 19) (mc := 0) (ms := 0) (n := 40) (L := 48) (sh' := sh_95) dX0_init_17 rfl (by decide) (by decide) (by decide) rfl rfl rfl ?_
  refine n_putR (q := 22) (k0 := 47) (f := 2) (t := 48) (sh' := sh_96) dX0_init_19 rfl rfl rfl inX0 tyX0_ok nmX0 (Nat.le_of_ble_eq_true rfl) fX0_18 rfl rfl rfl (fun _ => rfl) (fun _ => rfl) (Nat.le_of_ble_eq_true rfl) rfl ?_
  exact s_vret dX0_init_22 rfl (fun h => h) K
def sh_97 : List ShN := [.inl (5, [4, 14, 24, 0, 34, 37, 38, 41, 44, 45]), .inl (1, [0, 5, 6, 7, 8, 9, 10, 11, 0, 0, 12, 13, 0]), .inr (.inl (0, 10)), .inr (.inl (0, 10)), .inr (.inl (0, 10)), .inr (.inl (0, 10)), .inr (.inl (0, 4)), .inr (.inl (0, 4)), .inr (.inl (0, 4)), .inr (.inl (0, 6)), .inr (.inl (0, 10)), .inl (1, [0, 15, 16, 17, 18, 19, 20, 21, 0, 0, 22, 23, 0]), .inr (.inl (0, 10)), .inr (.inl (0, 10)), .inr (.inl (0, 10)), .inr (.inl (0, 10)), .inr (.inl (0, 4)), .inr (.inl (0, 4)), .inr (.inl (0, 4)), .inr (.inl (0, 6)), .inr (.inl (0, 10)), .inl (1, [0, 25, 26, 27, 28, 29, 30, 31, 0, 0, 32, 33, 0]), .inr (.inl (0, 10)), .inr (.inl (0, 10)), .inr (.inl (0, 10)), .inr (.inl (0, 10)), .inr (.inl (0, 4)), .inr (.inl (0, 4)), .inr (.inl (0, 4)), .inr (.inl (0, 6)), .inr (.inl (0, 10)), .inl (3, [35]), .inl (2, [36, 0, 0, 0, 0, 0]), .inr (.inl (1, 120)), .inr (.inr [some 43, some 45, some 47, none]), .inl (4, [39, 40, 0, 0]), .inr (.inl (0, 10)), .inr (.inl (0, 10)), .inl (4, [42, 43, 0, 0]), .inr (.inl (0, 10)), .inr (.inl (0, 10)), .inr (.inl (0, 10)), .inr (.inl (0, 7)), .inl (0, [0, 0, 47]), .inr (.inl (0, 40)), .inl (0, [0, 0, 49]), .inr (.inl (0, 40)), .inl (0, [0, 0, 51]), .inr (.inl (0, 40))]
def sh_98 : List ShN := [.inl (5, [4, 14, 24, 0, 34, 37, 38, 41, 44, 45]), .inl (1, [0, 5, 6, 7, 8, 9, 10, 11, 0, 0, 12, 13, 0]), .inr (.inl (0, 10)), .inr (.inl (0, 10)), .inr (.inl (0, 10)), .inr (.inl (0, 10)), .inr (.inl (0, 4)), .inr (.inl (0, 4)), .inr (.inl (0, 4)), .inr (.inl (0, 6)), .inr (.inl (0, 10)), .inl (1, [0, 15, 16, 17, 18, 19, 20, 21, 0, 0, 22, 23, 0]), .inr (.inl (0, 10)), .inr (.inl (0, 10)), .inr (.inl (0, 10)), .inr (.inl (0, 10)), .inr (.inl (0, 4)), .inr (.inl (0, 4)), .inr (.inl (0, 4)), .inr (.inl (0, 6)), .inr (.inl (0, 10)), .inl (1, [0, 25, 26, 27, 28, 29, 30, 31, 0, 0, 32, 33, 0]), .inr (.inl (0, 10)), .inr (.inl (0, 10)), .inr (.inl (0, 10)), .inr (.inl (0, 10)), .inr (.inl (0, 4)), .inr (.inl (0, 4)), .inr (.inl (0, 4)), .inr (.inl (0, 6)), .inr (.inl (0, 10)), .inl (3, [35]), .inl (2, [36, 0, 0, 0, 0, 0]), .inr (.inl (1, 120)), .inr (.inr [some 43, some 45, some 47, none]), .inl (4, [39, 40, 0, 0]), .inr (.inl (0, 10)), .inr (.inl (0, 10)), .inl (4, [42, 43, 0, 0]), .inr (.inl (0, 10)), .inr (.inl (0, 10)), .inr (.inl (0, 10)), .inr (.inl (0, 7)), .inl (0, [0, 0, 47]), .inr (.inl (0, 40)), .inl (0, [0, 0, 49]), .inr (.inl (0, 40)), .inl (0, [0, 0, 51]), .inr (.inl (0, 40)), .inl (0, [0, 0, 2])]
def sh_99 : List ShN := [.inl (5, [4, 14, 24, 0, 34, 37, 38, 41, 44, 45]), .inl (1, [0, 5, 6, 7, 8, 9, 10, 11, 0, 0, 12, 13, 0]), .inr (.inl (0, 10)), .inr (.inl (0, 10)), .inr (.inl (0, 10)), .inr (.inl (0, 10)), .inr (.inl (0, 4)), .inr (.inl (0, 4)), .inr (.inl (0, 4)), .inr (.inl (0, 6)), .inr (.inl (0, 10)), .inl (1, [0, 15, 16, 17, 18, 19, 20, 21, 0, 0, 22, 23, 0]), .inr (.inl (0, 10)), .inr (.inl (0, 10)), .inr (.inl (0, 10)), .inr (.inl (0, 10)), .inr (.inl (0, 4)), .inr (.inl (0, 4)), .inr (.inl (0, 4)), .inr (.inl (0, 6)), .inr (.inl (0, 10)), .inl (1, [0, 25, 26, 27, 28, 29, 30, 31, 0, 0, 32, 33, 0]), .inr (.inl (0, 10)), .inr (.inl (0, 10)), .inr (.inl (0, 10)), .inr (.inl (0, 10)), .inr (.inl (0, 4)), .inr (.inl (0, 4)), .inr (.inl (0, 4)), .inr (.inl (0, 6)), .inr (.inl (0, 10)), .inl (3, [35]), .inl (2, [36, 0, 0, 0, 0, 0]), .inr (.inl (1, 120)), .inr (.inr [some 43, some 45, some 47, none]), .inl (4, [39, 40, 0, 0]), .inr (.inl (0, 10)), .inr (.inl (0, 10)), .inl (4, [42, 43, 0, 0]), .inr (.inl (0, 10)), .inr (.inl (0, 10)), .inr (.inl (0, 10)), .inr (.inl (0, 7)), .inl (0, [0, 0, 47]), .inr (.inl (0, 40)), .inl (0, [0, 0, 49]), .inr (.inl (0, 40)), .inl (0, [0, 0, 51]), .inr (.inl (0, 40)), .inl (0, [0, 0, 2]), .inr (.inl (0, 40))]
def sh_100 : List ShN := [.inl (5, [4, 14, 24, 0, 34, 37, 38, 41, 44, 45]), .inl (1, [0, 5, 6, 7, 8, 9, 10, 11, 0, 0, 12, 13, 0]), .inr (.inl (0, 10)), .inr (.inl (0, 10)), .inr (.inl (0, 10)), .inr (.inl (0, 10)), .inr (.inl (0, 4)), .inr (.inl (0, 4)), .inr (.inl (0, 4)), .inr (.inl (0, 6)), .inr (.inl (0, 10)), .inl (1, [0, 15, 16, 17, 18, 19, 20, 21, 0, 0, 22, 23, 0]), .inr (.inl (0, 10)), .inr (.inl (0, 10)), .inr (.inl (0, 10)), .inr (.inl (0, 10)), .inr (.inl (0, 4)), .inr (.inl (0, 4)), .inr (.inl (0, 4)), .inr (.inl (0, 6)), .inr (.inl (0, 10)), .inl (1, [0, 25, 26, 27, 28, 29, 30, 31, 0, 0, 32, 33, 0]), .inr (.inl (0, 10)), .inr (.inl (0, 10)), .inr (.inl (0, 10)), .inr (.inl (0, 10)), .inr (.inl (0, 4)), .inr (.inl (0, 4)), .inr (.inl (0, 4)), .inr (.inl (0, 6)), .inr (.inl (0, 10)), .inl (3, [35]), .inl (2, [36, 0, 0, 0, 0, 0]), .inr (.inl (1, 120)), .inr (.inr [some 43, some 45, some 47, none]), .inl (4, [39, 40, 0, 0]), .inr (.inl (0, 10)), .inr (.inl (0, 10)), .inl (4, [42, 43, 0, 0]), .inr (.inl (0, 10)), .inr (.inl (0, 10)), .inr (.inl (0, 10)), .inr (.inl (0, 7)), .inl (0, [0, 0, 47]), .inr (.inl (0, 40)), .inl (0, [0, 0, 49]), .inr (.inl (0, 40)), .inl (0, [0, 0, 51]), .inr (.inl (0, 40)), .inl (0, [0, 0, 53]), .inr (.inl (0, 40))]
def S_11 : ST := (wr (wr S_10 49 0 0) 49 1 0)
set_option maxHeartbeats 8000000 in
set_option maxRecDepth 100000 in
theorem C_12 (E : EV) {Q : Option Value → List va_E → Prop} (K : Q none (hN sh_100 E S_11)) : SA E mX0_init true true 1 40 0 (lv_args 0 [.ref (eB E + 49)]) [] (hN sh_98 E S_10) Q := by
  refine s_aload_n (q := 1) dX0_init_0 rfl rfl 0 rfl ?_
  refine s_objInit (q := 4) dX0_init_1 rfl lX0_3 iObj oObj (Nat.le_of_ble_eq_true rfl) (Nat.le_of_ble_eq_true rfl) ?_
  refine s_aload_n (q := 5) dX0_init_4 rfl rfl 0 rfl ?_
  refine s_iconst (q := 6) (v := 0) dX0_init_5 rfl rfl ?_
  refine n_putI (q := 9) (k0 := 49) (f := 0) dX0_init_6 rfl rfl rfl rfl inX0 tyX0_ok nmX0 (Nat.le_of_ble_eq_true rfl) fX0_9 rfl rfl rfl ?_
  refine s_aload_n (q := 10) dX0_init_9 rfl rfl 0 rfl ?_
  refine s_iconst (q := 11) (v := 0) dX0_init_10 rfl rfl ?_
  refine n_putI (q := 14) (k0 := 49) (f := 1) dX0_init_11 rfl rfl rfl rfl inX0 tyX0_ok nmX0 (Nat.le_of_ble_eq_true rfl) fX0_15 rfl rfl rfl ?_
  refine s_aload_n (q := 15) dX0_init_14 rfl rfl 0 rfl ?_
  refine s_bipush (q := 17) (v := 40) dX0_init_15 rfl rfl ?_
  refine n_newi (q := 19) (mc := 0) (ms := 0) (n := 40) (L := 50) (sh' := sh_99) dX0_init_17 rfl (by decide) (by decide) (by decide) rfl rfl rfl ?_
  refine n_putR (q := 22) (k0 := 49) (f := 2) (t := 50) (sh' := sh_100) dX0_init_19 rfl rfl rfl inX0 tyX0_ok nmX0 (Nat.le_of_ble_eq_true rfl) fX0_18 rfl rfl rfl (fun _ => rfl) (fun _ => rfl) (Nat.le_of_ble_eq_true rfl) rfl ?_
  exact s_vret dX0_init_22 rfl (fun h => h) K
def sh_101 : List ShN := [.inl (5, [4, 14, 24, 0, 34, 37, 38, 41, 44, 45]), .inl (1, [0, 5, 6, 7, 8, 9, 10, 11, 0, 0, 12, 13, 0]), .inr (.inl (0, 10)), .inr (.inl (0, 10)), .inr (.inl (0, 10)), .inr (.inl (0, 10)), .inr (.inl (0, 4)), .inr (.inl (0, 4)), .inr (.inl (0, 4)), .inr (.inl (0, 6)), .inr (.inl (0, 10)), .inl (1, [0, 15, 16, 17, 18, 19, 20, 21, 0, 0, 22, 23, 0]), .inr (.inl (0, 10)), .inr (.inl (0, 10)), .inr (.inl (0, 10)), .inr (.inl (0, 10)), .inr (.inl (0, 4)), .inr (.inl (0, 4)), .inr (.inl (0, 4)), .inr (.inl (0, 6)), .inr (.inl (0, 10)), .inl (1, [0, 25, 26, 27, 28, 29, 30, 31, 0, 0, 32, 33, 0]), .inr (.inl (0, 10)), .inr (.inl (0, 10)), .inr (.inl (0, 10)), .inr (.inl (0, 10)), .inr (.inl (0, 4)), .inr (.inl (0, 4)), .inr (.inl (0, 4)), .inr (.inl (0, 6)), .inr (.inl (0, 10)), .inl (3, [35]), .inl (2, [36, 0, 0, 0, 0, 0]), .inr (.inl (1, 120)), .inr (.inr [some 43, some 45, some 47, some 49]), .inl (4, [39, 40, 0, 0]), .inr (.inl (0, 10)), .inr (.inl (0, 10)), .inl (4, [42, 43, 0, 0]), .inr (.inl (0, 10)), .inr (.inl (0, 10)), .inr (.inl (0, 10)), .inr (.inl (0, 7)), .inl (0, [0, 0, 47]), .inr (.inl (0, 40)), .inl (0, [0, 0, 49]), .inr (.inl (0, 40)), .inl (0, [0, 0, 51]), .inr (.inl (0, 40)), .inl (0, [0, 0, 53]), .inr (.inl (0, 40))]
set_option maxHeartbeats 8000000 in
set_option maxRecDepth 100000 in
theorem C_1 (E : EV) {Q : Option Value → List va_E → Prop} (K : Q none (hN sh_101 E S_11)) : SA E mX5_init true true 50 611 0 (lv_args 0 [.ref (eB E + 0)]) [] (hN sh_1 E S_0) Q := by
  refine s_aload_n (q := 1) dX5_init_0 rfl rfl 0 rfl ?_
  refine s_objInit (q := 4) dX5_init_1 rfl lX5_1 iObj oObj (Nat.le_of_ble_eq_true rfl) (Nat.le_of_ble_eq_true rfl) ?_
  refine s_aload_n (q := 5) dX5_init_4 rfl rfl 0 rfl ?_
  refine n_new (q := 8) (mc := 49) (ms := 598) (L := 1) (fl := [0, 2, 2, 2, 2, 2, 2, 2, 0, 0, 2, 2, 0]) (sh' := sh_2) (ty0 := tyX1) dX5_init_5 rfl rfl inX1 tyX1_ok cX5_7 qX1 nX1 rfl (fun j hj => by rcases (show j = 0 ∨ j = 1 ∨ j = 2 ∨ j = 3 ∨ j = 4 ∨ j = 5 ∨ j = 6 ∨ j = 7 ∨ j = 8 ∨ j = 9 ∨ j = 10 ∨ j = 11 ∨ j = 12 by omega) with rfl | rfl | rfl | rfl | rfl | rfl | rfl | rfl | rfl | rfl | rfl | rfl | rfl <;> rfl) rfl ?_
  refine s_dup (q := 9) dX5_init_8 rfl rfl ?_
  refine s_callI (q := 12) (N := mX1_init) (a := eB E + 1) (mc1 := 9) (ms1 := 68) (mc := 40) (ms := 530) [] dX5_init_9 rfl nkX1_init iX1_init rfl rfl lX5_9 ⟨Nat.le_of_ble_eq_true rfl, Nat.le_of_ble_eq_true rfl⟩ rfl rfl (Nat.le_of_ble_eq_true rfl) (Nat.le_of_ble_eq_true rfl) (C_2 E ?_)
  refine n_putR (q := 15) (k0 := 0) (f := 0) (t := 1) (sh' := sh_21) dX5_init_12 rfl rfl rfl inX5 tyX5_ok nmX5 (Nat.le_of_ble_eq_true rfl) fX5_10 rfl rfl rfl (fun _ => rfl) (fun _ => rfl) (Nat.le_of_ble_eq_true rfl) rfl ?_
  refine s_aload_n (q := 16) dX5_init_15 rfl rfl 0 rfl ?_
  refine n_new (q := 19) (mc := 39) (ms := 517) (L := 11) (fl := [0, 2, 2, 2, 2, 2, 2, 2, 0, 0, 2, 2, 0]) (sh' := sh_22) (ty0 := tyX1) dX5_init_16 rfl rfl inX1 tyX1_ok cX5_7 qX1 nX1 rfl (fun j hj => by rcases (show j = 0 ∨ j = 1 ∨ j = 2 ∨ j = 3 ∨ j = 4 ∨ j = 5 ∨ j = 6 ∨ j = 7 ∨ j = 8 ∨ j = 9 ∨ j = 10 ∨ j = 11 ∨ j = 12 by omega) with rfl | rfl | rfl | rfl | rfl | rfl | rfl | rfl | rfl | rfl | rfl | rfl | rfl <;> rfl) rfl ?_
  refine s_dup (q := 20) dX5_init_19 rfl rfl ?_
  refine s_callI (q := 23) (N := mX1_init) (a := eB E + 11) (mc1 := 9) (ms1 := 68) (mc := 30) (ms := 449) [] dX5_init_20 rfl nkX1_init iX1_init rfl rfl lX5_9 ⟨Nat.le_of_ble_eq_true rfl, Nat.le_of_ble_eq_true rfl⟩ rfl rfl (Nat.le_of_ble_eq_true rfl) (Nat.le_of_ble_eq_true rfl) (C_3 E ?_)
  refine n_putR (q := 26) (k0 := 0) (f := 1) (t := 11) (sh' := sh_41) dX5_init_23 rfl rfl rfl inX5 tyX5_ok nmX5 (Nat.le_of_ble_eq_true rfl) fX5_16 rfl rfl rfl (fun _ => rfl) (fun _ => rfl) (Nat.le_of_ble_eq_true rfl) rfl ?_
  refine s_aload_n (q := 27) dX5_init_26 rfl rfl 0 rfl ?_
  refine n_new (q := 30) (mc := 29) (ms := 436) (L := 21) (fl := [0, 2, 2, 2, 2, 2, 2, 2, 0, 0, 2, 2, 0]) (sh' := sh_42) (ty0 := tyX1) dX5_init_27 rfl rfl inX1 tyX1_ok cX5_7 qX1 nX1 rfl (fun j hj => by rcases (show j = 0 ∨ j = 1 ∨ j = 2 ∨ j = 3 ∨ j = 4 ∨ j = 5 ∨ j = 6 ∨ j = 7 ∨ j = 8 ∨ j = 9 ∨ j = 10 ∨ j = 11 ∨ j = 12 by omega) with rfl | rfl | rfl | rfl | rfl | rfl | rfl | rfl | rfl | rfl | rfl | rfl | rfl <;> rfl) rfl ?_
  refine s_dup (q := 31) dX5_init_30 rfl rfl ?_
  refine s_callI (q := 34) (N := mX1_init) (a := eB E + 21) (mc1 := 9) (ms1 := 68) (mc := 20) (ms := 368) [] dX5_init_31 rfl nkX1_init iX1_init rfl rfl lX5_9 ⟨Nat.le_of_ble_eq_true rfl, Nat.le_of_ble_eq_true rfl⟩ rfl rfl (Nat.le_of_ble_eq_true rfl) (Nat.le_of_ble_eq_true rfl) (C_4 E ?_)
  refine n_putR (q := 37) (k0 := 0) (f := 2) (t := 21) (sh' := sh_61) dX5_init_34 rfl rfl rfl inX5 tyX5_ok nmX5 (Nat.le_of_ble_eq_true rfl) fX5_19 rfl rfl rfl (fun _ => rfl) (fun _ => rfl) (Nat.le_of_ble_eq_true rfl) rfl ?_
  refine s_aload_n (q := 38) dX5_init_37 rfl rfl 0 rfl ?_
  refine s_iconst (q := 39) (v := 0) dX5_init_38 rfl rfl ?_
  refine n_putI (q := 42) (k0 := 0) (f := 3) dX5_init_39 rfl rfl rfl rfl inX5 tyX5_ok nmX5 (Nat.le_of_ble_eq_true rfl) fX5_22 rfl rfl rfl ?_
  refine s_aload_n (q := 43) dX5_init_42 rfl rfl 0 rfl ?_
  refine n_new (q := 46) (mc := 19) (ms := 367) (L := 31) (fl := [2]) (sh' := sh_62) (ty0 := tyX3) dX5_init_43 rfl rfl inX3 tyX3_ok cX5_26 qX3 nX3 rfl (fun j hj => by rcases (show j = 0 by omega) with rfl <;> rfl) rfl ?_
  refine s_dup (q := 47) dX5_init_46 rfl rfl ?_
  refine s_callIN (q := 50) (host := "StarCrew") (N := mX3_init) (a := eB E + 31) (mc1 := 2) (ms1 := 126) (mc := 17) (ms := 241) [] dX5_init_47 rfl nkX3_init iX3_init rfl rfl (by decide +kernel) ⟨Nat.le_of_ble_eq_true rfl, Nat.le_of_ble_eq_true rfl⟩ rfl rfl (Nat.le_of_ble_eq_true rfl) (Nat.le_of_ble_eq_true rfl) (C_5 E ?_)
  refine n_putR (q := 53) (k0 := 0) (f := 4) (t := 31) (sh' := sh_67) dX5_init_50 rfl rfl rfl inX5 tyX5_ok nmX5 (Nat.le_of_ble_eq_true rfl) fX5_29 rfl rfl rfl (fun _ => rfl) (fun _ => rfl) (Nat.le_of_ble_eq_true rfl) rfl ?_
  refine s_aload_n (q := 54) dX5_init_53 rfl rfl 0 rfl ?_
  refine s_iconst (q := 55) (v := 4) dX5_init_54 rfl rfl ?_
  refine n_anew (q := 58) (mc := 16) (ms := 237) (n := 4) (L := 34) (sh' := sh_68) dX5_init_55 rfl cX5_33 (by decide) (by decide) (by decide) rfl rfl ?_
  refine n_putR (q := 61) (k0 := 0) (f := 5) (t := 34) (sh' := sh_69) dX5_init_58 rfl rfl rfl inX5 tyX5_ok nmX5 (Nat.le_of_ble_eq_true rfl) fX5_35 rfl rfl rfl (fun _ => rfl) (fun _ => rfl) (Nat.le_of_ble_eq_true rfl) rfl ?_
  refine s_aload_n (q := 62) dX5_init_61 rfl rfl 0 rfl ?_
  refine n_new (q := 65) (mc := 15) (ms := 233) (L := 35) (fl := [2, 2, 0, 0]) (sh' := sh_70) (ty0 := tyX4) dX5_init_62 rfl rfl inX4 tyX4_ok cX5_39 qX4 nX4 rfl (fun j hj => by rcases (show j = 0 ∨ j = 1 ∨ j = 2 ∨ j = 3 by omega) with rfl | rfl | rfl | rfl <;> rfl) rfl ?_
  refine s_dup (q := 66) dX5_init_65 rfl rfl ?_
  refine s_callIN (q := 69) (host := "StarCrew") (N := mX4_init) (a := eB E + 35) (mc1 := 2) (ms1 := 20) (mc := 13) (ms := 213) [] dX5_init_66 rfl nkX4_init iX4_init rfl rfl (by decide +kernel) ⟨Nat.le_of_ble_eq_true rfl, Nat.le_of_ble_eq_true rfl⟩ rfl rfl (Nat.le_of_ble_eq_true rfl) (Nat.le_of_ble_eq_true rfl) (C_7 E ?_)
  refine n_putR (q := 72) (k0 := 0) (f := 6) (t := 35) (sh' := sh_75) dX5_init_69 rfl rfl rfl inX5 tyX5_ok nmX5 (Nat.le_of_ble_eq_true rfl) fX5_42 rfl rfl rfl (fun _ => rfl) (fun _ => rfl) (Nat.le_of_ble_eq_true rfl) rfl ?_
  refine s_aload_n (q := 73) dX5_init_72 rfl rfl 0 rfl ?_
  refine n_new (q := 76) (mc := 12) (ms := 209) (L := 38) (fl := [2, 2, 0, 0]) (sh' := sh_76) (ty0 := tyX4) dX5_init_73 rfl rfl inX4 tyX4_ok cX5_39 qX4 nX4 rfl (fun j hj => by rcases (show j = 0 ∨ j = 1 ∨ j = 2 ∨ j = 3 by omega) with rfl | rfl | rfl | rfl <;> rfl) rfl ?_
  refine s_dup (q := 77) dX5_init_76 rfl rfl ?_
  refine s_callIN (q := 80) (host := "StarCrew") (N := mX4_init) (a := eB E + 38) (mc1 := 2) (ms1 := 20) (mc := 10) (ms := 189) [] dX5_init_77 rfl nkX4_init iX4_init rfl rfl (by decide +kernel) ⟨Nat.le_of_ble_eq_true rfl, Nat.le_of_ble_eq_true rfl⟩ rfl rfl (Nat.le_of_ble_eq_true rfl) (Nat.le_of_ble_eq_true rfl) (C_8 E ?_)
  refine n_putR (q := 83) (k0 := 0) (f := 7) (t := 38) (sh' := sh_81) dX5_init_80 rfl rfl rfl inX5 tyX5_ok nmX5 (Nat.le_of_ble_eq_true rfl) fX5_46 rfl rfl rfl (fun _ => rfl) (fun _ => rfl) (Nat.le_of_ble_eq_true rfl) rfl ?_
  refine s_aload_n (q := 84) dX5_init_83 rfl rfl 0 rfl ?_
  refine s_bipush (q := 86) (v := 10) dX5_init_84 rfl rfl ?_
  refine n_newi (q := 88) (mc := 9) (ms := 179) (n := 10) (L := 41) (sh' := sh_82) dX5_init_86 rfl (by decide) (by decide) (by decide) rfl rfl rfl ?_
  refine n_putR (q := 91) (k0 := 0) (f := 8) (t := 41) (sh' := sh_83) dX5_init_88 rfl rfl rfl inX5 tyX5_ok nmX5 (Nat.le_of_ble_eq_true rfl) fX5_49 rfl rfl rfl (fun _ => rfl) (fun _ => rfl) (Nat.le_of_ble_eq_true rfl) rfl ?_
  refine s_aload_n (q := 92) dX5_init_91 rfl rfl 0 rfl ?_
  refine s_bipush (q := 94) (v := 7) dX5_init_92 rfl rfl ?_
  refine n_newi (q := 96) (mc := 8) (ms := 172) (n := 7) (L := 42) (sh' := sh_84) dX5_init_94 rfl (by decide) (by decide) (by decide) rfl rfl rfl ?_
  refine n_putR (q := 99) (k0 := 0) (f := 9) (t := 42) (sh' := sh_85) dX5_init_96 rfl rfl rfl inX5 tyX5_ok nmX5 (Nat.le_of_ble_eq_true rfl) fX5_53 rfl rfl rfl (fun _ => rfl) (fun _ => rfl) (Nat.le_of_ble_eq_true rfl) rfl ?_
  refine s_iconst (q := 100) (v := 0) dX5_init_99 rfl rfl ?_
  refine s_istore_n (q := 101) (lv' := [(1, .int 0), (0, .ref (eB E + 0))]) dX5_init_100 rfl rfl (Nat.le_of_ble_eq_true rfl) rfl ?_
  refine s_iload_n (q := 102) dX5_init_101 rfl rfl 0 rfl ?_
  refine s_iconst (q := 103) (v := 4) dX5_init_102 rfl rfl ?_
  refine s_icmp_ge (q := 106) (tgt := 125) dX5_init_103 rfl rfl (fun hb => absurd hb (by decide)) (fun _ => ?_)
  refine s_aload_n (q := 107) dX5_init_106 rfl rfl 1 rfl ?_
  refine n_getR (q := 110) (k0 := 0) (f := 5) (t := 34) dX5_init_107 rfl rfl rfl rfl inX5 (Nat.le_of_ble_eq_true rfl) fX5_35 ?_
  refine s_iload_n (q := 111) dX5_init_110 rfl rfl 0 rfl ?_
  refine n_new (q := 114) (mc := 7) (ms := 169) (L := 43) (fl := [0, 0, 2]) (sh' := sh_86) (ty0 := tyX0) dX5_init_111 rfl rfl inX0 tyX0_ok cX5_33 qX0 nX0 rfl (fun j hj => by rcases (show j = 0 ∨ j = 1 ∨ j = 2 by omega) with rfl | rfl | rfl <;> rfl) rfl ?_
  refine s_dup (q := 115) dX5_init_114 rfl rfl ?_
  refine s_callIN (q := 118) (host := "StarCrew") (N := mX0_init) (a := eB E + 43) (mc1 := 1) (ms1 := 40) (mc := 6) (ms := 129) [] dX5_init_115 rfl nkX0_init iX0_init rfl rfl (by decide +kernel) ⟨Nat.le_of_ble_eq_true rfl, Nat.le_of_ble_eq_true rfl⟩ rfl rfl (Nat.le_of_ble_eq_true rfl) (Nat.le_of_ble_eq_true rfl) (C_9 E ?_)
  refine n_aast (q := 119) (k0 := 34) (k1 := 43) (j := 0) (sh' := sh_89) dX5_init_118 rfl rfl rfl rfl rfl (inB_in (by decide)) (by decide) rfl ?_
  refine s_iinc (q := 122) (j := 0) (v := 1) (lv' := [(1, .int 1), (0, .ref (eB E + 0))]) dX5_init_119 rfl rfl rfl (Nat.le_of_ble_eq_true rfl) rfl ?_
  refine s_goto (tgt := 101) dX5_init_122 rfl ?_
  refine s_iload_n (q := 102) dX5_init_101 rfl rfl 0 rfl ?_
  refine s_iconst (q := 103) (v := 4) dX5_init_102 rfl rfl ?_
  refine s_icmp_ge (q := 106) (tgt := 125) dX5_init_103 rfl rfl (fun hb => absurd hb (by decide)) (fun _ => ?_)
  refine s_aload_n (q := 107) dX5_init_106 rfl rfl 1 rfl ?_
  refine n_getR (q := 110) (k0 := 0) (f := 5) (t := 34) dX5_init_107 rfl rfl rfl rfl inX5 (Nat.le_of_ble_eq_true rfl) fX5_35 ?_
  refine s_iload_n (q := 111) dX5_init_110 rfl rfl 0 rfl ?_
  refine n_new (q := 114) (mc := 5) (ms := 126) (L := 45) (fl := [0, 0, 2]) (sh' := sh_90) (ty0 := tyX0) dX5_init_111 rfl rfl inX0 tyX0_ok cX5_33 qX0 nX0 rfl (fun j hj => by rcases (show j = 0 ∨ j = 1 ∨ j = 2 by omega) with rfl | rfl | rfl <;> rfl) rfl ?_
  refine s_dup (q := 115) dX5_init_114 rfl rfl ?_
  refine s_callIN (q := 118) (host := "StarCrew") (N := mX0_init) (a := eB E + 45) (mc1 := 1) (ms1 := 40) (mc := 4) (ms := 86) [] dX5_init_115 rfl nkX0_init iX0_init rfl rfl (by decide +kernel) ⟨Nat.le_of_ble_eq_true rfl, Nat.le_of_ble_eq_true rfl⟩ rfl rfl (Nat.le_of_ble_eq_true rfl) (Nat.le_of_ble_eq_true rfl) (C_10 E ?_)
  refine n_aast (q := 119) (k0 := 34) (k1 := 45) (j := 1) (sh' := sh_93) dX5_init_118 rfl rfl rfl rfl rfl (inB_in (by decide)) (by decide) rfl ?_
  refine s_iinc (q := 122) (j := 0) (v := 2) (lv' := [(1, .int 2), (0, .ref (eB E + 0))]) dX5_init_119 rfl rfl rfl (Nat.le_of_ble_eq_true rfl) rfl ?_
  refine s_goto (tgt := 101) dX5_init_122 rfl ?_
  refine s_iload_n (q := 102) dX5_init_101 rfl rfl 0 rfl ?_
  refine s_iconst (q := 103) (v := 4) dX5_init_102 rfl rfl ?_
  refine s_icmp_ge (q := 106) (tgt := 125) dX5_init_103 rfl rfl (fun hb => absurd hb (by decide)) (fun _ => ?_)
  refine s_aload_n (q := 107) dX5_init_106 rfl rfl 1 rfl ?_
  refine n_getR (q := 110) (k0 := 0) (f := 5) (t := 34) dX5_init_107 rfl rfl rfl rfl inX5 (Nat.le_of_ble_eq_true rfl) fX5_35 ?_
  refine s_iload_n (q := 111) dX5_init_110 rfl rfl 0 rfl ?_
  refine n_new (q := 114) (mc := 3) (ms := 83) (L := 47) (fl := [0, 0, 2]) (sh' := sh_94) (ty0 := tyX0) dX5_init_111 rfl rfl inX0 tyX0_ok cX5_33 qX0 nX0 rfl (fun j hj => by rcases (show j = 0 ∨ j = 1 ∨ j = 2 by omega) with rfl | rfl | rfl <;> rfl) rfl ?_
  refine s_dup (q := 115) dX5_init_114 rfl rfl ?_
  refine s_callIN (q := 118) (host := "StarCrew") (N := mX0_init) (a := eB E + 47) (mc1 := 1) (ms1 := 40) (mc := 2) (ms := 43) [] dX5_init_115 rfl nkX0_init iX0_init rfl rfl (by decide +kernel) ⟨Nat.le_of_ble_eq_true rfl, Nat.le_of_ble_eq_true rfl⟩ rfl rfl (Nat.le_of_ble_eq_true rfl) (Nat.le_of_ble_eq_true rfl) (C_11 E ?_)
  refine n_aast (q := 119) (k0 := 34) (k1 := 47) (j := 2) (sh' := sh_97) dX5_init_118 rfl rfl rfl rfl rfl (inB_in (by decide)) (by decide) rfl ?_
  refine s_iinc (q := 122) (j := 0) (v := 3) (lv' := [(1, .int 3), (0, .ref (eB E + 0))]) dX5_init_119 rfl rfl rfl (Nat.le_of_ble_eq_true rfl) rfl ?_
  refine s_goto (tgt := 101) dX5_init_122 rfl ?_
  refine s_iload_n (q := 102) dX5_init_101 rfl rfl 0 rfl ?_
  refine s_iconst (q := 103) (v := 4) dX5_init_102 rfl rfl ?_
  refine s_icmp_ge (q := 106) (tgt := 125) dX5_init_103 rfl rfl (fun hb => absurd hb (by decide)) (fun _ => ?_)
  refine s_aload_n (q := 107) dX5_init_106 rfl rfl 1 rfl ?_
  refine n_getR (q := 110) (k0 := 0) (f := 5) (t := 34) dX5_init_107 rfl rfl rfl rfl inX5 (Nat.le_of_ble_eq_true rfl) fX5_35 ?_
  refine s_iload_n (q := 111) dX5_init_110 rfl rfl 0 rfl ?_
  refine n_new (q := 114) (mc := 1) (ms := 40) (L := 49) (fl := [0, 0, 2]) (sh' := sh_98) (ty0 := tyX0) dX5_init_111 rfl rfl inX0 tyX0_ok cX5_33 qX0 nX0 rfl (fun j hj => by rcases (show j = 0 ∨ j = 1 ∨ j = 2 by omega) with rfl | rfl | rfl <;> rfl) rfl ?_
  refine s_dup (q := 115) dX5_init_114 rfl rfl ?_
  refine s_callIN (q := 118) (host := "StarCrew") (N := mX0_init) (a := eB E + 49) (mc1 := 1) (ms1 := 40) (mc := 0) (ms := 0) [] dX5_init_115 rfl nkX0_init iX0_init rfl rfl (by decide +kernel) ⟨Nat.le_of_ble_eq_true rfl, Nat.le_of_ble_eq_true rfl⟩ rfl rfl (Nat.le_of_ble_eq_true rfl) (Nat.le_of_ble_eq_true rfl) (C_12 E ?_)
  refine n_aast (q := 119) (k0 := 34) (k1 := 49) (j := 3) (sh' := sh_101) dX5_init_118 rfl rfl rfl rfl rfl (inB_in (by decide)) (by decide) rfl ?_
  refine s_iinc (q := 122) (j := 0) (v := 4) (lv' := [(1, .int 4), (0, .ref (eB E + 0))]) dX5_init_119 rfl rfl rfl (Nat.le_of_ble_eq_true rfl) rfl ?_
  refine s_goto (tgt := 101) dX5_init_122 rfl ?_
  refine s_iload_n (q := 102) dX5_init_101 rfl rfl 0 rfl ?_
  refine s_iconst (q := 103) (v := 4) dX5_init_102 rfl rfl ?_
  refine s_icmp_ge (q := 106) (tgt := 125) dX5_init_103 rfl rfl (fun _ => ?_) (fun hb => absurd (by decide) hb)
  exact s_vret dX5_init_125 rfl (fun h => h) K
def sh_102 : List ShN := [.inl (5, [4, 14, 24, 0, 34, 37, 38, 41, 44, 45]), .inl (1, [0, 5, 6, 7, 8, 9, 10, 11, 0, 0, 12, 13, 0]), .inr (.inl (0, 10)), .inr (.inl (0, 10)), .inr (.inl (0, 10)), .inr (.inl (0, 10)), .inr (.inl (0, 4)), .inr (.inl (0, 4)), .inr (.inl (0, 4)), .inr (.inl (0, 6)), .inr (.inl (0, 10)), .inl (1, [0, 15, 16, 17, 18, 19, 20, 21, 0, 0, 22, 23, 0]), .inr (.inl (0, 10)), .inr (.inl (0, 10)), .inr (.inl (0, 10)), .inr (.inl (0, 10)), .inr (.inl (0, 4)), .inr (.inl (0, 4)), .inr (.inl (0, 4)), .inr (.inl (0, 6)), .inr (.inl (0, 10)), .inl (1, [0, 25, 26, 27, 28, 29, 30, 31, 0, 0, 32, 33, 0]), .inr (.inl (0, 10)), .inr (.inl (0, 10)), .inr (.inl (0, 10)), .inr (.inl (0, 10)), .inr (.inl (0, 4)), .inr (.inl (0, 4)), .inr (.inl (0, 4)), .inr (.inl (0, 6)), .inr (.inl (0, 10)), .inl (3, [35]), .inl (2, [36, 0, 0, 0, 0, 0]), .inr (.inl (1, 120)), .inr (.inr [some 43, some 45, some 47, some 49]), .inl (4, [39, 40, 0, 0]), .inr (.inl (0, 10)), .inr (.inl (0, 10)), .inl (4, [42, 43, 0, 0]), .inr (.inl (0, 10)), .inr (.inl (0, 10)), .inr (.inl (0, 10)), .inr (.inl (0, 7)), .inl (0, [0, 0, 47]), .inr (.inl (0, 40)), .inl (0, [0, 0, 49]), .inr (.inl (0, 40)), .inl (0, [0, 0, 51]), .inr (.inl (0, 40)), .inl (0, [0, 0, 53]), .inr (.inl (0, 40)), .inl (6, [2, 2, 2, 0, 2, 2, 2, 0, 0, 0, 0, 1, 2, 2, 2, 2, 2, 2, 2, 2])]
def sh_103 : List ShN := [.inl (5, [4, 14, 24, 0, 34, 37, 38, 41, 44, 45]), .inl (1, [0, 5, 6, 7, 8, 9, 10, 11, 0, 0, 12, 13, 0]), .inr (.inl (0, 10)), .inr (.inl (0, 10)), .inr (.inl (0, 10)), .inr (.inl (0, 10)), .inr (.inl (0, 4)), .inr (.inl (0, 4)), .inr (.inl (0, 4)), .inr (.inl (0, 6)), .inr (.inl (0, 10)), .inl (1, [0, 15, 16, 17, 18, 19, 20, 21, 0, 0, 22, 23, 0]), .inr (.inl (0, 10)), .inr (.inl (0, 10)), .inr (.inl (0, 10)), .inr (.inl (0, 10)), .inr (.inl (0, 4)), .inr (.inl (0, 4)), .inr (.inl (0, 4)), .inr (.inl (0, 6)), .inr (.inl (0, 10)), .inl (1, [0, 25, 26, 27, 28, 29, 30, 31, 0, 0, 32, 33, 0]), .inr (.inl (0, 10)), .inr (.inl (0, 10)), .inr (.inl (0, 10)), .inr (.inl (0, 10)), .inr (.inl (0, 4)), .inr (.inl (0, 4)), .inr (.inl (0, 4)), .inr (.inl (0, 6)), .inr (.inl (0, 10)), .inl (3, [35]), .inl (2, [36, 0, 0, 0, 0, 0]), .inr (.inl (1, 120)), .inr (.inr [some 43, some 45, some 47, some 49]), .inl (4, [39, 40, 0, 0]), .inr (.inl (0, 10)), .inr (.inl (0, 10)), .inl (4, [42, 43, 0, 0]), .inr (.inl (0, 10)), .inr (.inl (0, 10)), .inr (.inl (0, 10)), .inr (.inl (0, 7)), .inl (0, [0, 0, 47]), .inr (.inl (0, 40)), .inl (0, [0, 0, 49]), .inr (.inl (0, 40)), .inl (0, [0, 0, 51]), .inr (.inl (0, 40)), .inl (0, [0, 0, 53]), .inr (.inl (0, 40)), .inl (6, [2, 2, 2, 0, 2, 2, 2, 0, 0, 0, 0, 1, 2, 2, 2, 2, 2, 2, 2, 2]), .inr (.inl (0, 72))]
def sh_104 : List ShN := [.inl (5, [4, 14, 24, 0, 34, 37, 38, 41, 44, 45]), .inl (1, [0, 5, 6, 7, 8, 9, 10, 11, 0, 0, 12, 13, 0]), .inr (.inl (0, 10)), .inr (.inl (0, 10)), .inr (.inl (0, 10)), .inr (.inl (0, 10)), .inr (.inl (0, 4)), .inr (.inl (0, 4)), .inr (.inl (0, 4)), .inr (.inl (0, 6)), .inr (.inl (0, 10)), .inl (1, [0, 15, 16, 17, 18, 19, 20, 21, 0, 0, 22, 23, 0]), .inr (.inl (0, 10)), .inr (.inl (0, 10)), .inr (.inl (0, 10)), .inr (.inl (0, 10)), .inr (.inl (0, 4)), .inr (.inl (0, 4)), .inr (.inl (0, 4)), .inr (.inl (0, 6)), .inr (.inl (0, 10)), .inl (1, [0, 25, 26, 27, 28, 29, 30, 31, 0, 0, 32, 33, 0]), .inr (.inl (0, 10)), .inr (.inl (0, 10)), .inr (.inl (0, 10)), .inr (.inl (0, 10)), .inr (.inl (0, 4)), .inr (.inl (0, 4)), .inr (.inl (0, 4)), .inr (.inl (0, 6)), .inr (.inl (0, 10)), .inl (3, [35]), .inl (2, [36, 0, 0, 0, 0, 0]), .inr (.inl (1, 120)), .inr (.inr [some 43, some 45, some 47, some 49]), .inl (4, [39, 40, 0, 0]), .inr (.inl (0, 10)), .inr (.inl (0, 10)), .inl (4, [42, 43, 0, 0]), .inr (.inl (0, 10)), .inr (.inl (0, 10)), .inr (.inl (0, 10)), .inr (.inl (0, 7)), .inl (0, [0, 0, 47]), .inr (.inl (0, 40)), .inl (0, [0, 0, 49]), .inr (.inl (0, 40)), .inl (0, [0, 0, 51]), .inr (.inl (0, 40)), .inl (0, [0, 0, 53]), .inr (.inl (0, 40)), .inl (6, [55, 2, 2, 0, 2, 2, 2, 0, 0, 0, 0, 1, 2, 2, 2, 2, 2, 2, 2, 2]), .inr (.inl (0, 72))]
def sh_105 : List ShN := [.inl (5, [4, 14, 24, 0, 34, 37, 38, 41, 44, 45]), .inl (1, [0, 5, 6, 7, 8, 9, 10, 11, 0, 0, 12, 13, 0]), .inr (.inl (0, 10)), .inr (.inl (0, 10)), .inr (.inl (0, 10)), .inr (.inl (0, 10)), .inr (.inl (0, 4)), .inr (.inl (0, 4)), .inr (.inl (0, 4)), .inr (.inl (0, 6)), .inr (.inl (0, 10)), .inl (1, [0, 15, 16, 17, 18, 19, 20, 21, 0, 0, 22, 23, 0]), .inr (.inl (0, 10)), .inr (.inl (0, 10)), .inr (.inl (0, 10)), .inr (.inl (0, 10)), .inr (.inl (0, 4)), .inr (.inl (0, 4)), .inr (.inl (0, 4)), .inr (.inl (0, 6)), .inr (.inl (0, 10)), .inl (1, [0, 25, 26, 27, 28, 29, 30, 31, 0, 0, 32, 33, 0]), .inr (.inl (0, 10)), .inr (.inl (0, 10)), .inr (.inl (0, 10)), .inr (.inl (0, 10)), .inr (.inl (0, 4)), .inr (.inl (0, 4)), .inr (.inl (0, 4)), .inr (.inl (0, 6)), .inr (.inl (0, 10)), .inl (3, [35]), .inl (2, [36, 0, 0, 0, 0, 0]), .inr (.inl (1, 120)), .inr (.inr [some 43, some 45, some 47, some 49]), .inl (4, [39, 40, 0, 0]), .inr (.inl (0, 10)), .inr (.inl (0, 10)), .inl (4, [42, 43, 0, 0]), .inr (.inl (0, 10)), .inr (.inl (0, 10)), .inr (.inl (0, 10)), .inr (.inl (0, 7)), .inl (0, [0, 0, 47]), .inr (.inl (0, 40)), .inl (0, [0, 0, 49]), .inr (.inl (0, 40)), .inl (0, [0, 0, 51]), .inr (.inl (0, 40)), .inl (0, [0, 0, 53]), .inr (.inl (0, 40)), .inl (6, [55, 2, 2, 0, 2, 2, 2, 0, 0, 0, 0, 1, 2, 2, 2, 2, 2, 2, 2, 2]), .inr (.inl (0, 72)), .inr (.inl (0, 72))]
def sh_106 : List ShN := [.inl (5, [4, 14, 24, 0, 34, 37, 38, 41, 44, 45]), .inl (1, [0, 5, 6, 7, 8, 9, 10, 11, 0, 0, 12, 13, 0]), .inr (.inl (0, 10)), .inr (.inl (0, 10)), .inr (.inl (0, 10)), .inr (.inl (0, 10)), .inr (.inl (0, 4)), .inr (.inl (0, 4)), .inr (.inl (0, 4)), .inr (.inl (0, 6)), .inr (.inl (0, 10)), .inl (1, [0, 15, 16, 17, 18, 19, 20, 21, 0, 0, 22, 23, 0]), .inr (.inl (0, 10)), .inr (.inl (0, 10)), .inr (.inl (0, 10)), .inr (.inl (0, 10)), .inr (.inl (0, 4)), .inr (.inl (0, 4)), .inr (.inl (0, 4)), .inr (.inl (0, 6)), .inr (.inl (0, 10)), .inl (1, [0, 25, 26, 27, 28, 29, 30, 31, 0, 0, 32, 33, 0]), .inr (.inl (0, 10)), .inr (.inl (0, 10)), .inr (.inl (0, 10)), .inr (.inl (0, 10)), .inr (.inl (0, 4)), .inr (.inl (0, 4)), .inr (.inl (0, 4)), .inr (.inl (0, 6)), .inr (.inl (0, 10)), .inl (3, [35]), .inl (2, [36, 0, 0, 0, 0, 0]), .inr (.inl (1, 120)), .inr (.inr [some 43, some 45, some 47, some 49]), .inl (4, [39, 40, 0, 0]), .inr (.inl (0, 10)), .inr (.inl (0, 10)), .inl (4, [42, 43, 0, 0]), .inr (.inl (0, 10)), .inr (.inl (0, 10)), .inr (.inl (0, 10)), .inr (.inl (0, 7)), .inl (0, [0, 0, 47]), .inr (.inl (0, 40)), .inl (0, [0, 0, 49]), .inr (.inl (0, 40)), .inl (0, [0, 0, 51]), .inr (.inl (0, 40)), .inl (0, [0, 0, 53]), .inr (.inl (0, 40)), .inl (6, [55, 56, 2, 0, 2, 2, 2, 0, 0, 0, 0, 1, 2, 2, 2, 2, 2, 2, 2, 2]), .inr (.inl (0, 72)), .inr (.inl (0, 72))]
def sh_107 : List ShN := [.inl (5, [4, 14, 24, 0, 34, 37, 38, 41, 44, 45]), .inl (1, [0, 5, 6, 7, 8, 9, 10, 11, 0, 0, 12, 13, 0]), .inr (.inl (0, 10)), .inr (.inl (0, 10)), .inr (.inl (0, 10)), .inr (.inl (0, 10)), .inr (.inl (0, 4)), .inr (.inl (0, 4)), .inr (.inl (0, 4)), .inr (.inl (0, 6)), .inr (.inl (0, 10)), .inl (1, [0, 15, 16, 17, 18, 19, 20, 21, 0, 0, 22, 23, 0]), .inr (.inl (0, 10)), .inr (.inl (0, 10)), .inr (.inl (0, 10)), .inr (.inl (0, 10)), .inr (.inl (0, 4)), .inr (.inl (0, 4)), .inr (.inl (0, 4)), .inr (.inl (0, 6)), .inr (.inl (0, 10)), .inl (1, [0, 25, 26, 27, 28, 29, 30, 31, 0, 0, 32, 33, 0]), .inr (.inl (0, 10)), .inr (.inl (0, 10)), .inr (.inl (0, 10)), .inr (.inl (0, 10)), .inr (.inl (0, 4)), .inr (.inl (0, 4)), .inr (.inl (0, 4)), .inr (.inl (0, 6)), .inr (.inl (0, 10)), .inl (3, [35]), .inl (2, [36, 0, 0, 0, 0, 0]), .inr (.inl (1, 120)), .inr (.inr [some 43, some 45, some 47, some 49]), .inl (4, [39, 40, 0, 0]), .inr (.inl (0, 10)), .inr (.inl (0, 10)), .inl (4, [42, 43, 0, 0]), .inr (.inl (0, 10)), .inr (.inl (0, 10)), .inr (.inl (0, 10)), .inr (.inl (0, 7)), .inl (0, [0, 0, 47]), .inr (.inl (0, 40)), .inl (0, [0, 0, 49]), .inr (.inl (0, 40)), .inl (0, [0, 0, 51]), .inr (.inl (0, 40)), .inl (0, [0, 0, 53]), .inr (.inl (0, 40)), .inl (6, [55, 56, 2, 0, 2, 2, 2, 0, 0, 0, 0, 1, 2, 2, 2, 2, 2, 2, 2, 2]), .inr (.inl (0, 72)), .inr (.inl (0, 72)), .inr (.inl (0, 72))]
def sh_108 : List ShN := [.inl (5, [4, 14, 24, 0, 34, 37, 38, 41, 44, 45]), .inl (1, [0, 5, 6, 7, 8, 9, 10, 11, 0, 0, 12, 13, 0]), .inr (.inl (0, 10)), .inr (.inl (0, 10)), .inr (.inl (0, 10)), .inr (.inl (0, 10)), .inr (.inl (0, 4)), .inr (.inl (0, 4)), .inr (.inl (0, 4)), .inr (.inl (0, 6)), .inr (.inl (0, 10)), .inl (1, [0, 15, 16, 17, 18, 19, 20, 21, 0, 0, 22, 23, 0]), .inr (.inl (0, 10)), .inr (.inl (0, 10)), .inr (.inl (0, 10)), .inr (.inl (0, 10)), .inr (.inl (0, 4)), .inr (.inl (0, 4)), .inr (.inl (0, 4)), .inr (.inl (0, 6)), .inr (.inl (0, 10)), .inl (1, [0, 25, 26, 27, 28, 29, 30, 31, 0, 0, 32, 33, 0]), .inr (.inl (0, 10)), .inr (.inl (0, 10)), .inr (.inl (0, 10)), .inr (.inl (0, 10)), .inr (.inl (0, 4)), .inr (.inl (0, 4)), .inr (.inl (0, 4)), .inr (.inl (0, 6)), .inr (.inl (0, 10)), .inl (3, [35]), .inl (2, [36, 0, 0, 0, 0, 0]), .inr (.inl (1, 120)), .inr (.inr [some 43, some 45, some 47, some 49]), .inl (4, [39, 40, 0, 0]), .inr (.inl (0, 10)), .inr (.inl (0, 10)), .inl (4, [42, 43, 0, 0]), .inr (.inl (0, 10)), .inr (.inl (0, 10)), .inr (.inl (0, 10)), .inr (.inl (0, 7)), .inl (0, [0, 0, 47]), .inr (.inl (0, 40)), .inl (0, [0, 0, 49]), .inr (.inl (0, 40)), .inl (0, [0, 0, 51]), .inr (.inl (0, 40)), .inl (0, [0, 0, 53]), .inr (.inl (0, 40)), .inl (6, [55, 56, 57, 0, 2, 2, 2, 0, 0, 0, 0, 1, 2, 2, 2, 2, 2, 2, 2, 2]), .inr (.inl (0, 72)), .inr (.inl (0, 72)), .inr (.inl (0, 72))]
def sh_109 : List ShN := [.inl (5, [4, 14, 24, 0, 34, 37, 38, 41, 44, 45]), .inl (1, [0, 5, 6, 7, 8, 9, 10, 11, 0, 0, 12, 13, 0]), .inr (.inl (0, 10)), .inr (.inl (0, 10)), .inr (.inl (0, 10)), .inr (.inl (0, 10)), .inr (.inl (0, 4)), .inr (.inl (0, 4)), .inr (.inl (0, 4)), .inr (.inl (0, 6)), .inr (.inl (0, 10)), .inl (1, [0, 15, 16, 17, 18, 19, 20, 21, 0, 0, 22, 23, 0]), .inr (.inl (0, 10)), .inr (.inl (0, 10)), .inr (.inl (0, 10)), .inr (.inl (0, 10)), .inr (.inl (0, 4)), .inr (.inl (0, 4)), .inr (.inl (0, 4)), .inr (.inl (0, 6)), .inr (.inl (0, 10)), .inl (1, [0, 25, 26, 27, 28, 29, 30, 31, 0, 0, 32, 33, 0]), .inr (.inl (0, 10)), .inr (.inl (0, 10)), .inr (.inl (0, 10)), .inr (.inl (0, 10)), .inr (.inl (0, 4)), .inr (.inl (0, 4)), .inr (.inl (0, 4)), .inr (.inl (0, 6)), .inr (.inl (0, 10)), .inl (3, [35]), .inl (2, [36, 0, 0, 0, 0, 0]), .inr (.inl (1, 120)), .inr (.inr [some 43, some 45, some 47, some 49]), .inl (4, [39, 40, 0, 0]), .inr (.inl (0, 10)), .inr (.inl (0, 10)), .inl (4, [42, 43, 0, 0]), .inr (.inl (0, 10)), .inr (.inl (0, 10)), .inr (.inl (0, 10)), .inr (.inl (0, 7)), .inl (0, [0, 0, 47]), .inr (.inl (0, 40)), .inl (0, [0, 0, 49]), .inr (.inl (0, 40)), .inl (0, [0, 0, 51]), .inr (.inl (0, 40)), .inl (0, [0, 0, 53]), .inr (.inl (0, 40)), .inl (6, [55, 56, 57, 0, 2, 2, 2, 0, 0, 0, 0, 1, 2, 2, 2, 2, 2, 2, 2, 2]), .inr (.inl (0, 72)), .inr (.inl (0, 72)), .inr (.inl (0, 72)), .inr (.inl (0, 7))]
def sh_110 : List ShN := [.inl (5, [4, 14, 24, 0, 34, 37, 38, 41, 44, 45]), .inl (1, [0, 5, 6, 7, 8, 9, 10, 11, 0, 0, 12, 13, 0]), .inr (.inl (0, 10)), .inr (.inl (0, 10)), .inr (.inl (0, 10)), .inr (.inl (0, 10)), .inr (.inl (0, 4)), .inr (.inl (0, 4)), .inr (.inl (0, 4)), .inr (.inl (0, 6)), .inr (.inl (0, 10)), .inl (1, [0, 15, 16, 17, 18, 19, 20, 21, 0, 0, 22, 23, 0]), .inr (.inl (0, 10)), .inr (.inl (0, 10)), .inr (.inl (0, 10)), .inr (.inl (0, 10)), .inr (.inl (0, 4)), .inr (.inl (0, 4)), .inr (.inl (0, 4)), .inr (.inl (0, 6)), .inr (.inl (0, 10)), .inl (1, [0, 25, 26, 27, 28, 29, 30, 31, 0, 0, 32, 33, 0]), .inr (.inl (0, 10)), .inr (.inl (0, 10)), .inr (.inl (0, 10)), .inr (.inl (0, 10)), .inr (.inl (0, 4)), .inr (.inl (0, 4)), .inr (.inl (0, 4)), .inr (.inl (0, 6)), .inr (.inl (0, 10)), .inl (3, [35]), .inl (2, [36, 0, 0, 0, 0, 0]), .inr (.inl (1, 120)), .inr (.inr [some 43, some 45, some 47, some 49]), .inl (4, [39, 40, 0, 0]), .inr (.inl (0, 10)), .inr (.inl (0, 10)), .inl (4, [42, 43, 0, 0]), .inr (.inl (0, 10)), .inr (.inl (0, 10)), .inr (.inl (0, 10)), .inr (.inl (0, 7)), .inl (0, [0, 0, 47]), .inr (.inl (0, 40)), .inl (0, [0, 0, 49]), .inr (.inl (0, 40)), .inl (0, [0, 0, 51]), .inr (.inl (0, 40)), .inl (0, [0, 0, 53]), .inr (.inl (0, 40)), .inl (6, [55, 56, 57, 0, 58, 2, 2, 0, 0, 0, 0, 1, 2, 2, 2, 2, 2, 2, 2, 2]), .inr (.inl (0, 72)), .inr (.inl (0, 72)), .inr (.inl (0, 72)), .inr (.inl (0, 7))]
def sh_111 : List ShN := [.inl (5, [4, 14, 24, 0, 34, 37, 38, 41, 44, 45]), .inl (1, [0, 5, 6, 7, 8, 9, 10, 11, 0, 0, 12, 13, 0]), .inr (.inl (0, 10)), .inr (.inl (0, 10)), .inr (.inl (0, 10)), .inr (.inl (0, 10)), .inr (.inl (0, 4)), .inr (.inl (0, 4)), .inr (.inl (0, 4)), .inr (.inl (0, 6)), .inr (.inl (0, 10)), .inl (1, [0, 15, 16, 17, 18, 19, 20, 21, 0, 0, 22, 23, 0]), .inr (.inl (0, 10)), .inr (.inl (0, 10)), .inr (.inl (0, 10)), .inr (.inl (0, 10)), .inr (.inl (0, 4)), .inr (.inl (0, 4)), .inr (.inl (0, 4)), .inr (.inl (0, 6)), .inr (.inl (0, 10)), .inl (1, [0, 25, 26, 27, 28, 29, 30, 31, 0, 0, 32, 33, 0]), .inr (.inl (0, 10)), .inr (.inl (0, 10)), .inr (.inl (0, 10)), .inr (.inl (0, 10)), .inr (.inl (0, 4)), .inr (.inl (0, 4)), .inr (.inl (0, 4)), .inr (.inl (0, 6)), .inr (.inl (0, 10)), .inl (3, [35]), .inl (2, [36, 0, 0, 0, 0, 0]), .inr (.inl (1, 120)), .inr (.inr [some 43, some 45, some 47, some 49]), .inl (4, [39, 40, 0, 0]), .inr (.inl (0, 10)), .inr (.inl (0, 10)), .inl (4, [42, 43, 0, 0]), .inr (.inl (0, 10)), .inr (.inl (0, 10)), .inr (.inl (0, 10)), .inr (.inl (0, 7)), .inl (0, [0, 0, 47]), .inr (.inl (0, 40)), .inl (0, [0, 0, 49]), .inr (.inl (0, 40)), .inl (0, [0, 0, 51]), .inr (.inl (0, 40)), .inl (0, [0, 0, 53]), .inr (.inl (0, 40)), .inl (6, [55, 56, 57, 0, 58, 2, 2, 0, 0, 0, 0, 1, 2, 2, 2, 2, 2, 2, 2, 2]), .inr (.inl (0, 72)), .inr (.inl (0, 72)), .inr (.inl (0, 72)), .inr (.inl (0, 7)), .inr (.inl (0, 11))]
def sh_112 : List ShN := [.inl (5, [4, 14, 24, 0, 34, 37, 38, 41, 44, 45]), .inl (1, [0, 5, 6, 7, 8, 9, 10, 11, 0, 0, 12, 13, 0]), .inr (.inl (0, 10)), .inr (.inl (0, 10)), .inr (.inl (0, 10)), .inr (.inl (0, 10)), .inr (.inl (0, 4)), .inr (.inl (0, 4)), .inr (.inl (0, 4)), .inr (.inl (0, 6)), .inr (.inl (0, 10)), .inl (1, [0, 15, 16, 17, 18, 19, 20, 21, 0, 0, 22, 23, 0]), .inr (.inl (0, 10)), .inr (.inl (0, 10)), .inr (.inl (0, 10)), .inr (.inl (0, 10)), .inr (.inl (0, 4)), .inr (.inl (0, 4)), .inr (.inl (0, 4)), .inr (.inl (0, 6)), .inr (.inl (0, 10)), .inl (1, [0, 25, 26, 27, 28, 29, 30, 31, 0, 0, 32, 33, 0]), .inr (.inl (0, 10)), .inr (.inl (0, 10)), .inr (.inl (0, 10)), .inr (.inl (0, 10)), .inr (.inl (0, 4)), .inr (.inl (0, 4)), .inr (.inl (0, 4)), .inr (.inl (0, 6)), .inr (.inl (0, 10)), .inl (3, [35]), .inl (2, [36, 0, 0, 0, 0, 0]), .inr (.inl (1, 120)), .inr (.inr [some 43, some 45, some 47, some 49]), .inl (4, [39, 40, 0, 0]), .inr (.inl (0, 10)), .inr (.inl (0, 10)), .inl (4, [42, 43, 0, 0]), .inr (.inl (0, 10)), .inr (.inl (0, 10)), .inr (.inl (0, 10)), .inr (.inl (0, 7)), .inl (0, [0, 0, 47]), .inr (.inl (0, 40)), .inl (0, [0, 0, 49]), .inr (.inl (0, 40)), .inl (0, [0, 0, 51]), .inr (.inl (0, 40)), .inl (0, [0, 0, 53]), .inr (.inl (0, 40)), .inl (6, [55, 56, 57, 0, 58, 59, 2, 0, 0, 0, 0, 1, 2, 2, 2, 2, 2, 2, 2, 2]), .inr (.inl (0, 72)), .inr (.inl (0, 72)), .inr (.inl (0, 72)), .inr (.inl (0, 7)), .inr (.inl (0, 11))]
def sh_113 : List ShN := [.inl (5, [4, 14, 24, 0, 34, 37, 38, 41, 44, 45]), .inl (1, [0, 5, 6, 7, 8, 9, 10, 11, 0, 0, 12, 13, 0]), .inr (.inl (0, 10)), .inr (.inl (0, 10)), .inr (.inl (0, 10)), .inr (.inl (0, 10)), .inr (.inl (0, 4)), .inr (.inl (0, 4)), .inr (.inl (0, 4)), .inr (.inl (0, 6)), .inr (.inl (0, 10)), .inl (1, [0, 15, 16, 17, 18, 19, 20, 21, 0, 0, 22, 23, 0]), .inr (.inl (0, 10)), .inr (.inl (0, 10)), .inr (.inl (0, 10)), .inr (.inl (0, 10)), .inr (.inl (0, 4)), .inr (.inl (0, 4)), .inr (.inl (0, 4)), .inr (.inl (0, 6)), .inr (.inl (0, 10)), .inl (1, [0, 25, 26, 27, 28, 29, 30, 31, 0, 0, 32, 33, 0]), .inr (.inl (0, 10)), .inr (.inl (0, 10)), .inr (.inl (0, 10)), .inr (.inl (0, 10)), .inr (.inl (0, 4)), .inr (.inl (0, 4)), .inr (.inl (0, 4)), .inr (.inl (0, 6)), .inr (.inl (0, 10)), .inl (3, [35]), .inl (2, [36, 0, 0, 0, 0, 0]), .inr (.inl (1, 120)), .inr (.inr [some 43, some 45, some 47, some 49]), .inl (4, [39, 40, 0, 0]), .inr (.inl (0, 10)), .inr (.inl (0, 10)), .inl (4, [42, 43, 0, 0]), .inr (.inl (0, 10)), .inr (.inl (0, 10)), .inr (.inl (0, 10)), .inr (.inl (0, 7)), .inl (0, [0, 0, 47]), .inr (.inl (0, 40)), .inl (0, [0, 0, 49]), .inr (.inl (0, 40)), .inl (0, [0, 0, 51]), .inr (.inl (0, 40)), .inl (0, [0, 0, 53]), .inr (.inl (0, 40)), .inl (6, [55, 56, 57, 0, 58, 59, 2, 0, 0, 0, 0, 1, 2, 2, 2, 2, 2, 2, 2, 2]), .inr (.inl (0, 72)), .inr (.inl (0, 72)), .inr (.inl (0, 72)), .inr (.inl (0, 7)), .inr (.inl (0, 11)), .inr (.inl (0, 120))]
def sh_114 : List ShN := [.inl (5, [4, 14, 24, 0, 34, 37, 38, 41, 44, 45]), .inl (1, [0, 5, 6, 7, 8, 9, 10, 11, 0, 0, 12, 13, 0]), .inr (.inl (0, 10)), .inr (.inl (0, 10)), .inr (.inl (0, 10)), .inr (.inl (0, 10)), .inr (.inl (0, 4)), .inr (.inl (0, 4)), .inr (.inl (0, 4)), .inr (.inl (0, 6)), .inr (.inl (0, 10)), .inl (1, [0, 15, 16, 17, 18, 19, 20, 21, 0, 0, 22, 23, 0]), .inr (.inl (0, 10)), .inr (.inl (0, 10)), .inr (.inl (0, 10)), .inr (.inl (0, 10)), .inr (.inl (0, 4)), .inr (.inl (0, 4)), .inr (.inl (0, 4)), .inr (.inl (0, 6)), .inr (.inl (0, 10)), .inl (1, [0, 25, 26, 27, 28, 29, 30, 31, 0, 0, 32, 33, 0]), .inr (.inl (0, 10)), .inr (.inl (0, 10)), .inr (.inl (0, 10)), .inr (.inl (0, 10)), .inr (.inl (0, 4)), .inr (.inl (0, 4)), .inr (.inl (0, 4)), .inr (.inl (0, 6)), .inr (.inl (0, 10)), .inl (3, [35]), .inl (2, [36, 0, 0, 0, 0, 0]), .inr (.inl (1, 120)), .inr (.inr [some 43, some 45, some 47, some 49]), .inl (4, [39, 40, 0, 0]), .inr (.inl (0, 10)), .inr (.inl (0, 10)), .inl (4, [42, 43, 0, 0]), .inr (.inl (0, 10)), .inr (.inl (0, 10)), .inr (.inl (0, 10)), .inr (.inl (0, 7)), .inl (0, [0, 0, 47]), .inr (.inl (0, 40)), .inl (0, [0, 0, 49]), .inr (.inl (0, 40)), .inl (0, [0, 0, 51]), .inr (.inl (0, 40)), .inl (0, [0, 0, 53]), .inr (.inl (0, 40)), .inl (6, [55, 56, 57, 0, 58, 59, 60, 0, 0, 0, 0, 1, 2, 2, 2, 2, 2, 2, 2, 2]), .inr (.inl (0, 72)), .inr (.inl (0, 72)), .inr (.inl (0, 72)), .inr (.inl (0, 7)), .inr (.inl (0, 11)), .inr (.inl (0, 120))]
def sh_115 : List ShN := [.inl (5, [4, 14, 24, 0, 34, 37, 38, 41, 44, 45]), .inl (1, [0, 5, 6, 7, 8, 9, 10, 11, 0, 0, 12, 13, 0]), .inr (.inl (0, 10)), .inr (.inl (0, 10)), .inr (.inl (0, 10)), .inr (.inl (0, 10)), .inr (.inl (0, 4)), .inr (.inl (0, 4)), .inr (.inl (0, 4)), .inr (.inl (0, 6)), .inr (.inl (0, 10)), .inl (1, [0, 15, 16, 17, 18, 19, 20, 21, 0, 0, 22, 23, 0]), .inr (.inl (0, 10)), .inr (.inl (0, 10)), .inr (.inl (0, 10)), .inr (.inl (0, 10)), .inr (.inl (0, 4)), .inr (.inl (0, 4)), .inr (.inl (0, 4)), .inr (.inl (0, 6)), .inr (.inl (0, 10)), .inl (1, [0, 25, 26, 27, 28, 29, 30, 31, 0, 0, 32, 33, 0]), .inr (.inl (0, 10)), .inr (.inl (0, 10)), .inr (.inl (0, 10)), .inr (.inl (0, 10)), .inr (.inl (0, 4)), .inr (.inl (0, 4)), .inr (.inl (0, 4)), .inr (.inl (0, 6)), .inr (.inl (0, 10)), .inl (3, [35]), .inl (2, [36, 0, 0, 0, 0, 0]), .inr (.inl (1, 120)), .inr (.inr [some 43, some 45, some 47, some 49]), .inl (4, [39, 40, 0, 0]), .inr (.inl (0, 10)), .inr (.inl (0, 10)), .inl (4, [42, 43, 0, 0]), .inr (.inl (0, 10)), .inr (.inl (0, 10)), .inr (.inl (0, 10)), .inr (.inl (0, 7)), .inl (0, [0, 0, 47]), .inr (.inl (0, 40)), .inl (0, [0, 0, 49]), .inr (.inl (0, 40)), .inl (0, [0, 0, 51]), .inr (.inl (0, 40)), .inl (0, [0, 0, 53]), .inr (.inl (0, 40)), .inl (6, [55, 56, 57, 0, 58, 59, 60, 0, 0, 0, 0, 1, 2, 2, 2, 2, 2, 2, 2, 2]), .inr (.inl (0, 72)), .inr (.inl (0, 72)), .inr (.inl (0, 72)), .inr (.inl (0, 7)), .inr (.inl (0, 11)), .inr (.inl (0, 120)), .inr (.inl (2, 56))]
def sh_116 : List ShN := [.inl (5, [4, 14, 24, 0, 34, 37, 38, 41, 44, 45]), .inl (1, [0, 5, 6, 7, 8, 9, 10, 11, 0, 0, 12, 13, 0]), .inr (.inl (0, 10)), .inr (.inl (0, 10)), .inr (.inl (0, 10)), .inr (.inl (0, 10)), .inr (.inl (0, 4)), .inr (.inl (0, 4)), .inr (.inl (0, 4)), .inr (.inl (0, 6)), .inr (.inl (0, 10)), .inl (1, [0, 15, 16, 17, 18, 19, 20, 21, 0, 0, 22, 23, 0]), .inr (.inl (0, 10)), .inr (.inl (0, 10)), .inr (.inl (0, 10)), .inr (.inl (0, 10)), .inr (.inl (0, 4)), .inr (.inl (0, 4)), .inr (.inl (0, 4)), .inr (.inl (0, 6)), .inr (.inl (0, 10)), .inl (1, [0, 25, 26, 27, 28, 29, 30, 31, 0, 0, 32, 33, 0]), .inr (.inl (0, 10)), .inr (.inl (0, 10)), .inr (.inl (0, 10)), .inr (.inl (0, 10)), .inr (.inl (0, 4)), .inr (.inl (0, 4)), .inr (.inl (0, 4)), .inr (.inl (0, 6)), .inr (.inl (0, 10)), .inl (3, [35]), .inl (2, [36, 0, 0, 0, 0, 0]), .inr (.inl (1, 120)), .inr (.inr [some 43, some 45, some 47, some 49]), .inl (4, [39, 40, 0, 0]), .inr (.inl (0, 10)), .inr (.inl (0, 10)), .inl (4, [42, 43, 0, 0]), .inr (.inl (0, 10)), .inr (.inl (0, 10)), .inr (.inl (0, 10)), .inr (.inl (0, 7)), .inl (0, [0, 0, 47]), .inr (.inl (0, 40)), .inl (0, [0, 0, 49]), .inr (.inl (0, 40)), .inl (0, [0, 0, 51]), .inr (.inl (0, 40)), .inl (0, [0, 0, 53]), .inr (.inl (0, 40)), .inl (6, [55, 56, 57, 0, 58, 59, 60, 0, 0, 0, 0, 1, 61, 2, 2, 2, 2, 2, 2, 2]), .inr (.inl (0, 72)), .inr (.inl (0, 72)), .inr (.inl (0, 72)), .inr (.inl (0, 7)), .inr (.inl (0, 11)), .inr (.inl (0, 120)), .inr (.inl (2, 56))]
def sh_117 : List ShN := [.inl (5, [4, 14, 24, 0, 34, 37, 38, 41, 44, 45]), .inl (1, [0, 5, 6, 7, 8, 9, 10, 11, 0, 0, 12, 13, 0]), .inr (.inl (0, 10)), .inr (.inl (0, 10)), .inr (.inl (0, 10)), .inr (.inl (0, 10)), .inr (.inl (0, 4)), .inr (.inl (0, 4)), .inr (.inl (0, 4)), .inr (.inl (0, 6)), .inr (.inl (0, 10)), .inl (1, [0, 15, 16, 17, 18, 19, 20, 21, 0, 0, 22, 23, 0]), .inr (.inl (0, 10)), .inr (.inl (0, 10)), .inr (.inl (0, 10)), .inr (.inl (0, 10)), .inr (.inl (0, 4)), .inr (.inl (0, 4)), .inr (.inl (0, 4)), .inr (.inl (0, 6)), .inr (.inl (0, 10)), .inl (1, [0, 25, 26, 27, 28, 29, 30, 31, 0, 0, 32, 33, 0]), .inr (.inl (0, 10)), .inr (.inl (0, 10)), .inr (.inl (0, 10)), .inr (.inl (0, 10)), .inr (.inl (0, 4)), .inr (.inl (0, 4)), .inr (.inl (0, 4)), .inr (.inl (0, 6)), .inr (.inl (0, 10)), .inl (3, [35]), .inl (2, [36, 0, 0, 0, 0, 0]), .inr (.inl (1, 120)), .inr (.inr [some 43, some 45, some 47, some 49]), .inl (4, [39, 40, 0, 0]), .inr (.inl (0, 10)), .inr (.inl (0, 10)), .inl (4, [42, 43, 0, 0]), .inr (.inl (0, 10)), .inr (.inl (0, 10)), .inr (.inl (0, 10)), .inr (.inl (0, 7)), .inl (0, [0, 0, 47]), .inr (.inl (0, 40)), .inl (0, [0, 0, 49]), .inr (.inl (0, 40)), .inl (0, [0, 0, 51]), .inr (.inl (0, 40)), .inl (0, [0, 0, 53]), .inr (.inl (0, 40)), .inl (6, [55, 56, 57, 0, 58, 59, 60, 0, 0, 0, 0, 1, 61, 2, 2, 2, 2, 2, 2, 2]), .inr (.inl (0, 72)), .inr (.inl (0, 72)), .inr (.inl (0, 72)), .inr (.inl (0, 7)), .inr (.inl (0, 11)), .inr (.inl (0, 120)), .inr (.inl (2, 56)), .inr (.inl (2, 24))]
def sh_118 : List ShN := [.inl (5, [4, 14, 24, 0, 34, 37, 38, 41, 44, 45]), .inl (1, [0, 5, 6, 7, 8, 9, 10, 11, 0, 0, 12, 13, 0]), .inr (.inl (0, 10)), .inr (.inl (0, 10)), .inr (.inl (0, 10)), .inr (.inl (0, 10)), .inr (.inl (0, 4)), .inr (.inl (0, 4)), .inr (.inl (0, 4)), .inr (.inl (0, 6)), .inr (.inl (0, 10)), .inl (1, [0, 15, 16, 17, 18, 19, 20, 21, 0, 0, 22, 23, 0]), .inr (.inl (0, 10)), .inr (.inl (0, 10)), .inr (.inl (0, 10)), .inr (.inl (0, 10)), .inr (.inl (0, 4)), .inr (.inl (0, 4)), .inr (.inl (0, 4)), .inr (.inl (0, 6)), .inr (.inl (0, 10)), .inl (1, [0, 25, 26, 27, 28, 29, 30, 31, 0, 0, 32, 33, 0]), .inr (.inl (0, 10)), .inr (.inl (0, 10)), .inr (.inl (0, 10)), .inr (.inl (0, 10)), .inr (.inl (0, 4)), .inr (.inl (0, 4)), .inr (.inl (0, 4)), .inr (.inl (0, 6)), .inr (.inl (0, 10)), .inl (3, [35]), .inl (2, [36, 0, 0, 0, 0, 0]), .inr (.inl (1, 120)), .inr (.inr [some 43, some 45, some 47, some 49]), .inl (4, [39, 40, 0, 0]), .inr (.inl (0, 10)), .inr (.inl (0, 10)), .inl (4, [42, 43, 0, 0]), .inr (.inl (0, 10)), .inr (.inl (0, 10)), .inr (.inl (0, 10)), .inr (.inl (0, 7)), .inl (0, [0, 0, 47]), .inr (.inl (0, 40)), .inl (0, [0, 0, 49]), .inr (.inl (0, 40)), .inl (0, [0, 0, 51]), .inr (.inl (0, 40)), .inl (0, [0, 0, 53]), .inr (.inl (0, 40)), .inl (6, [55, 56, 57, 0, 58, 59, 60, 0, 0, 0, 0, 1, 61, 62, 2, 2, 2, 2, 2, 2]), .inr (.inl (0, 72)), .inr (.inl (0, 72)), .inr (.inl (0, 72)), .inr (.inl (0, 7)), .inr (.inl (0, 11)), .inr (.inl (0, 120)), .inr (.inl (2, 56)), .inr (.inl (2, 24))]
def sh_119 : List ShN := [.inl (5, [4, 14, 24, 0, 34, 37, 38, 41, 44, 45]), .inl (1, [0, 5, 6, 7, 8, 9, 10, 11, 0, 0, 12, 13, 0]), .inr (.inl (0, 10)), .inr (.inl (0, 10)), .inr (.inl (0, 10)), .inr (.inl (0, 10)), .inr (.inl (0, 4)), .inr (.inl (0, 4)), .inr (.inl (0, 4)), .inr (.inl (0, 6)), .inr (.inl (0, 10)), .inl (1, [0, 15, 16, 17, 18, 19, 20, 21, 0, 0, 22, 23, 0]), .inr (.inl (0, 10)), .inr (.inl (0, 10)), .inr (.inl (0, 10)), .inr (.inl (0, 10)), .inr (.inl (0, 4)), .inr (.inl (0, 4)), .inr (.inl (0, 4)), .inr (.inl (0, 6)), .inr (.inl (0, 10)), .inl (1, [0, 25, 26, 27, 28, 29, 30, 31, 0, 0, 32, 33, 0]), .inr (.inl (0, 10)), .inr (.inl (0, 10)), .inr (.inl (0, 10)), .inr (.inl (0, 10)), .inr (.inl (0, 4)), .inr (.inl (0, 4)), .inr (.inl (0, 4)), .inr (.inl (0, 6)), .inr (.inl (0, 10)), .inl (3, [35]), .inl (2, [36, 0, 0, 0, 0, 0]), .inr (.inl (1, 120)), .inr (.inr [some 43, some 45, some 47, some 49]), .inl (4, [39, 40, 0, 0]), .inr (.inl (0, 10)), .inr (.inl (0, 10)), .inl (4, [42, 43, 0, 0]), .inr (.inl (0, 10)), .inr (.inl (0, 10)), .inr (.inl (0, 10)), .inr (.inl (0, 7)), .inl (0, [0, 0, 47]), .inr (.inl (0, 40)), .inl (0, [0, 0, 49]), .inr (.inl (0, 40)), .inl (0, [0, 0, 51]), .inr (.inl (0, 40)), .inl (0, [0, 0, 53]), .inr (.inl (0, 40)), .inl (6, [55, 56, 57, 0, 58, 59, 60, 0, 0, 0, 0, 1, 61, 62, 2, 2, 2, 2, 2, 2]), .inr (.inl (0, 72)), .inr (.inl (0, 72)), .inr (.inl (0, 72)), .inr (.inl (0, 7)), .inr (.inl (0, 11)), .inr (.inl (0, 120)), .inr (.inl (2, 56)), .inr (.inl (2, 24)), .inr (.inl (2, 16))]
def sh_120 : List ShN := [.inl (5, [4, 14, 24, 0, 34, 37, 38, 41, 44, 45]), .inl (1, [0, 5, 6, 7, 8, 9, 10, 11, 0, 0, 12, 13, 0]), .inr (.inl (0, 10)), .inr (.inl (0, 10)), .inr (.inl (0, 10)), .inr (.inl (0, 10)), .inr (.inl (0, 4)), .inr (.inl (0, 4)), .inr (.inl (0, 4)), .inr (.inl (0, 6)), .inr (.inl (0, 10)), .inl (1, [0, 15, 16, 17, 18, 19, 20, 21, 0, 0, 22, 23, 0]), .inr (.inl (0, 10)), .inr (.inl (0, 10)), .inr (.inl (0, 10)), .inr (.inl (0, 10)), .inr (.inl (0, 4)), .inr (.inl (0, 4)), .inr (.inl (0, 4)), .inr (.inl (0, 6)), .inr (.inl (0, 10)), .inl (1, [0, 25, 26, 27, 28, 29, 30, 31, 0, 0, 32, 33, 0]), .inr (.inl (0, 10)), .inr (.inl (0, 10)), .inr (.inl (0, 10)), .inr (.inl (0, 10)), .inr (.inl (0, 4)), .inr (.inl (0, 4)), .inr (.inl (0, 4)), .inr (.inl (0, 6)), .inr (.inl (0, 10)), .inl (3, [35]), .inl (2, [36, 0, 0, 0, 0, 0]), .inr (.inl (1, 120)), .inr (.inr [some 43, some 45, some 47, some 49]), .inl (4, [39, 40, 0, 0]), .inr (.inl (0, 10)), .inr (.inl (0, 10)), .inl (4, [42, 43, 0, 0]), .inr (.inl (0, 10)), .inr (.inl (0, 10)), .inr (.inl (0, 10)), .inr (.inl (0, 7)), .inl (0, [0, 0, 47]), .inr (.inl (0, 40)), .inl (0, [0, 0, 49]), .inr (.inl (0, 40)), .inl (0, [0, 0, 51]), .inr (.inl (0, 40)), .inl (0, [0, 0, 53]), .inr (.inl (0, 40)), .inl (6, [55, 56, 57, 0, 58, 59, 60, 0, 0, 0, 0, 1, 61, 62, 63, 2, 2, 2, 2, 2]), .inr (.inl (0, 72)), .inr (.inl (0, 72)), .inr (.inl (0, 72)), .inr (.inl (0, 7)), .inr (.inl (0, 11)), .inr (.inl (0, 120)), .inr (.inl (2, 56)), .inr (.inl (2, 24)), .inr (.inl (2, 16))]
def sh_121 : List ShN := [.inl (5, [4, 14, 24, 0, 34, 37, 38, 41, 44, 45]), .inl (1, [0, 5, 6, 7, 8, 9, 10, 11, 0, 0, 12, 13, 0]), .inr (.inl (0, 10)), .inr (.inl (0, 10)), .inr (.inl (0, 10)), .inr (.inl (0, 10)), .inr (.inl (0, 4)), .inr (.inl (0, 4)), .inr (.inl (0, 4)), .inr (.inl (0, 6)), .inr (.inl (0, 10)), .inl (1, [0, 15, 16, 17, 18, 19, 20, 21, 0, 0, 22, 23, 0]), .inr (.inl (0, 10)), .inr (.inl (0, 10)), .inr (.inl (0, 10)), .inr (.inl (0, 10)), .inr (.inl (0, 4)), .inr (.inl (0, 4)), .inr (.inl (0, 4)), .inr (.inl (0, 6)), .inr (.inl (0, 10)), .inl (1, [0, 25, 26, 27, 28, 29, 30, 31, 0, 0, 32, 33, 0]), .inr (.inl (0, 10)), .inr (.inl (0, 10)), .inr (.inl (0, 10)), .inr (.inl (0, 10)), .inr (.inl (0, 4)), .inr (.inl (0, 4)), .inr (.inl (0, 4)), .inr (.inl (0, 6)), .inr (.inl (0, 10)), .inl (3, [35]), .inl (2, [36, 0, 0, 0, 0, 0]), .inr (.inl (1, 120)), .inr (.inr [some 43, some 45, some 47, some 49]), .inl (4, [39, 40, 0, 0]), .inr (.inl (0, 10)), .inr (.inl (0, 10)), .inl (4, [42, 43, 0, 0]), .inr (.inl (0, 10)), .inr (.inl (0, 10)), .inr (.inl (0, 10)), .inr (.inl (0, 7)), .inl (0, [0, 0, 47]), .inr (.inl (0, 40)), .inl (0, [0, 0, 49]), .inr (.inl (0, 40)), .inl (0, [0, 0, 51]), .inr (.inl (0, 40)), .inl (0, [0, 0, 53]), .inr (.inl (0, 40)), .inl (6, [55, 56, 57, 0, 58, 59, 60, 0, 0, 0, 0, 1, 61, 62, 63, 2, 2, 2, 2, 2]), .inr (.inl (0, 72)), .inr (.inl (0, 72)), .inr (.inl (0, 72)), .inr (.inl (0, 7)), .inr (.inl (0, 11)), .inr (.inl (0, 120)), .inr (.inl (2, 56)), .inr (.inl (2, 24)), .inr (.inl (2, 16)), .inr (.inl (2, 48))]
def sh_122 : List ShN := [.inl (5, [4, 14, 24, 0, 34, 37, 38, 41, 44, 45]), .inl (1, [0, 5, 6, 7, 8, 9, 10, 11, 0, 0, 12, 13, 0]), .inr (.inl (0, 10)), .inr (.inl (0, 10)), .inr (.inl (0, 10)), .inr (.inl (0, 10)), .inr (.inl (0, 4)), .inr (.inl (0, 4)), .inr (.inl (0, 4)), .inr (.inl (0, 6)), .inr (.inl (0, 10)), .inl (1, [0, 15, 16, 17, 18, 19, 20, 21, 0, 0, 22, 23, 0]), .inr (.inl (0, 10)), .inr (.inl (0, 10)), .inr (.inl (0, 10)), .inr (.inl (0, 10)), .inr (.inl (0, 4)), .inr (.inl (0, 4)), .inr (.inl (0, 4)), .inr (.inl (0, 6)), .inr (.inl (0, 10)), .inl (1, [0, 25, 26, 27, 28, 29, 30, 31, 0, 0, 32, 33, 0]), .inr (.inl (0, 10)), .inr (.inl (0, 10)), .inr (.inl (0, 10)), .inr (.inl (0, 10)), .inr (.inl (0, 4)), .inr (.inl (0, 4)), .inr (.inl (0, 4)), .inr (.inl (0, 6)), .inr (.inl (0, 10)), .inl (3, [35]), .inl (2, [36, 0, 0, 0, 0, 0]), .inr (.inl (1, 120)), .inr (.inr [some 43, some 45, some 47, some 49]), .inl (4, [39, 40, 0, 0]), .inr (.inl (0, 10)), .inr (.inl (0, 10)), .inl (4, [42, 43, 0, 0]), .inr (.inl (0, 10)), .inr (.inl (0, 10)), .inr (.inl (0, 10)), .inr (.inl (0, 7)), .inl (0, [0, 0, 47]), .inr (.inl (0, 40)), .inl (0, [0, 0, 49]), .inr (.inl (0, 40)), .inl (0, [0, 0, 51]), .inr (.inl (0, 40)), .inl (0, [0, 0, 53]), .inr (.inl (0, 40)), .inl (6, [55, 56, 57, 0, 58, 59, 60, 0, 0, 0, 0, 1, 61, 62, 63, 64, 2, 2, 2, 2]), .inr (.inl (0, 72)), .inr (.inl (0, 72)), .inr (.inl (0, 72)), .inr (.inl (0, 7)), .inr (.inl (0, 11)), .inr (.inl (0, 120)), .inr (.inl (2, 56)), .inr (.inl (2, 24)), .inr (.inl (2, 16)), .inr (.inl (2, 48))]
def sh_123 : List ShN := [.inl (5, [4, 14, 24, 0, 34, 37, 38, 41, 44, 45]), .inl (1, [0, 5, 6, 7, 8, 9, 10, 11, 0, 0, 12, 13, 0]), .inr (.inl (0, 10)), .inr (.inl (0, 10)), .inr (.inl (0, 10)), .inr (.inl (0, 10)), .inr (.inl (0, 4)), .inr (.inl (0, 4)), .inr (.inl (0, 4)), .inr (.inl (0, 6)), .inr (.inl (0, 10)), .inl (1, [0, 15, 16, 17, 18, 19, 20, 21, 0, 0, 22, 23, 0]), .inr (.inl (0, 10)), .inr (.inl (0, 10)), .inr (.inl (0, 10)), .inr (.inl (0, 10)), .inr (.inl (0, 4)), .inr (.inl (0, 4)), .inr (.inl (0, 4)), .inr (.inl (0, 6)), .inr (.inl (0, 10)), .inl (1, [0, 25, 26, 27, 28, 29, 30, 31, 0, 0, 32, 33, 0]), .inr (.inl (0, 10)), .inr (.inl (0, 10)), .inr (.inl (0, 10)), .inr (.inl (0, 10)), .inr (.inl (0, 4)), .inr (.inl (0, 4)), .inr (.inl (0, 4)), .inr (.inl (0, 6)), .inr (.inl (0, 10)), .inl (3, [35]), .inl (2, [36, 0, 0, 0, 0, 0]), .inr (.inl (1, 120)), .inr (.inr [some 43, some 45, some 47, some 49]), .inl (4, [39, 40, 0, 0]), .inr (.inl (0, 10)), .inr (.inl (0, 10)), .inl (4, [42, 43, 0, 0]), .inr (.inl (0, 10)), .inr (.inl (0, 10)), .inr (.inl (0, 10)), .inr (.inl (0, 7)), .inl (0, [0, 0, 47]), .inr (.inl (0, 40)), .inl (0, [0, 0, 49]), .inr (.inl (0, 40)), .inl (0, [0, 0, 51]), .inr (.inl (0, 40)), .inl (0, [0, 0, 53]), .inr (.inl (0, 40)), .inl (6, [55, 56, 57, 0, 58, 59, 60, 0, 0, 0, 0, 1, 61, 62, 63, 64, 2, 2, 2, 2]), .inr (.inl (0, 72)), .inr (.inl (0, 72)), .inr (.inl (0, 72)), .inr (.inl (0, 7)), .inr (.inl (0, 11)), .inr (.inl (0, 120)), .inr (.inl (2, 56)), .inr (.inl (2, 24)), .inr (.inl (2, 16)), .inr (.inl (2, 48)), .inr (.inl (0, 4))]
def sh_124 : List ShN := [.inl (5, [4, 14, 24, 0, 34, 37, 38, 41, 44, 45]), .inl (1, [0, 5, 6, 7, 8, 9, 10, 11, 0, 0, 12, 13, 0]), .inr (.inl (0, 10)), .inr (.inl (0, 10)), .inr (.inl (0, 10)), .inr (.inl (0, 10)), .inr (.inl (0, 4)), .inr (.inl (0, 4)), .inr (.inl (0, 4)), .inr (.inl (0, 6)), .inr (.inl (0, 10)), .inl (1, [0, 15, 16, 17, 18, 19, 20, 21, 0, 0, 22, 23, 0]), .inr (.inl (0, 10)), .inr (.inl (0, 10)), .inr (.inl (0, 10)), .inr (.inl (0, 10)), .inr (.inl (0, 4)), .inr (.inl (0, 4)), .inr (.inl (0, 4)), .inr (.inl (0, 6)), .inr (.inl (0, 10)), .inl (1, [0, 25, 26, 27, 28, 29, 30, 31, 0, 0, 32, 33, 0]), .inr (.inl (0, 10)), .inr (.inl (0, 10)), .inr (.inl (0, 10)), .inr (.inl (0, 10)), .inr (.inl (0, 4)), .inr (.inl (0, 4)), .inr (.inl (0, 4)), .inr (.inl (0, 6)), .inr (.inl (0, 10)), .inl (3, [35]), .inl (2, [36, 0, 0, 0, 0, 0]), .inr (.inl (1, 120)), .inr (.inr [some 43, some 45, some 47, some 49]), .inl (4, [39, 40, 0, 0]), .inr (.inl (0, 10)), .inr (.inl (0, 10)), .inl (4, [42, 43, 0, 0]), .inr (.inl (0, 10)), .inr (.inl (0, 10)), .inr (.inl (0, 10)), .inr (.inl (0, 7)), .inl (0, [0, 0, 47]), .inr (.inl (0, 40)), .inl (0, [0, 0, 49]), .inr (.inl (0, 40)), .inl (0, [0, 0, 51]), .inr (.inl (0, 40)), .inl (0, [0, 0, 53]), .inr (.inl (0, 40)), .inl (6, [55, 56, 57, 0, 58, 59, 60, 0, 0, 0, 0, 1, 61, 62, 63, 64, 65, 2, 2, 2]), .inr (.inl (0, 72)), .inr (.inl (0, 72)), .inr (.inl (0, 72)), .inr (.inl (0, 7)), .inr (.inl (0, 11)), .inr (.inl (0, 120)), .inr (.inl (2, 56)), .inr (.inl (2, 24)), .inr (.inl (2, 16)), .inr (.inl (2, 48)), .inr (.inl (0, 4))]
def sh_125 : List ShN := [.inl (5, [4, 14, 24, 0, 34, 37, 38, 41, 44, 45]), .inl (1, [0, 5, 6, 7, 8, 9, 10, 11, 0, 0, 12, 13, 0]), .inr (.inl (0, 10)), .inr (.inl (0, 10)), .inr (.inl (0, 10)), .inr (.inl (0, 10)), .inr (.inl (0, 4)), .inr (.inl (0, 4)), .inr (.inl (0, 4)), .inr (.inl (0, 6)), .inr (.inl (0, 10)), .inl (1, [0, 15, 16, 17, 18, 19, 20, 21, 0, 0, 22, 23, 0]), .inr (.inl (0, 10)), .inr (.inl (0, 10)), .inr (.inl (0, 10)), .inr (.inl (0, 10)), .inr (.inl (0, 4)), .inr (.inl (0, 4)), .inr (.inl (0, 4)), .inr (.inl (0, 6)), .inr (.inl (0, 10)), .inl (1, [0, 25, 26, 27, 28, 29, 30, 31, 0, 0, 32, 33, 0]), .inr (.inl (0, 10)), .inr (.inl (0, 10)), .inr (.inl (0, 10)), .inr (.inl (0, 10)), .inr (.inl (0, 4)), .inr (.inl (0, 4)), .inr (.inl (0, 4)), .inr (.inl (0, 6)), .inr (.inl (0, 10)), .inl (3, [35]), .inl (2, [36, 0, 0, 0, 0, 0]), .inr (.inl (1, 120)), .inr (.inr [some 43, some 45, some 47, some 49]), .inl (4, [39, 40, 0, 0]), .inr (.inl (0, 10)), .inr (.inl (0, 10)), .inl (4, [42, 43, 0, 0]), .inr (.inl (0, 10)), .inr (.inl (0, 10)), .inr (.inl (0, 10)), .inr (.inl (0, 7)), .inl (0, [0, 0, 47]), .inr (.inl (0, 40)), .inl (0, [0, 0, 49]), .inr (.inl (0, 40)), .inl (0, [0, 0, 51]), .inr (.inl (0, 40)), .inl (0, [0, 0, 53]), .inr (.inl (0, 40)), .inl (6, [55, 56, 57, 0, 58, 59, 60, 0, 0, 0, 0, 1, 61, 62, 63, 64, 65, 2, 2, 2]), .inr (.inl (0, 72)), .inr (.inl (0, 72)), .inr (.inl (0, 72)), .inr (.inl (0, 7)), .inr (.inl (0, 11)), .inr (.inl (0, 120)), .inr (.inl (2, 56)), .inr (.inl (2, 24)), .inr (.inl (2, 16)), .inr (.inl (2, 48)), .inr (.inl (0, 4)), .inr (.inl (0, 4))]
def sh_126 : List ShN := [.inl (5, [4, 14, 24, 0, 34, 37, 38, 41, 44, 45]), .inl (1, [0, 5, 6, 7, 8, 9, 10, 11, 0, 0, 12, 13, 0]), .inr (.inl (0, 10)), .inr (.inl (0, 10)), .inr (.inl (0, 10)), .inr (.inl (0, 10)), .inr (.inl (0, 4)), .inr (.inl (0, 4)), .inr (.inl (0, 4)), .inr (.inl (0, 6)), .inr (.inl (0, 10)), .inl (1, [0, 15, 16, 17, 18, 19, 20, 21, 0, 0, 22, 23, 0]), .inr (.inl (0, 10)), .inr (.inl (0, 10)), .inr (.inl (0, 10)), .inr (.inl (0, 10)), .inr (.inl (0, 4)), .inr (.inl (0, 4)), .inr (.inl (0, 4)), .inr (.inl (0, 6)), .inr (.inl (0, 10)), .inl (1, [0, 25, 26, 27, 28, 29, 30, 31, 0, 0, 32, 33, 0]), .inr (.inl (0, 10)), .inr (.inl (0, 10)), .inr (.inl (0, 10)), .inr (.inl (0, 10)), .inr (.inl (0, 4)), .inr (.inl (0, 4)), .inr (.inl (0, 4)), .inr (.inl (0, 6)), .inr (.inl (0, 10)), .inl (3, [35]), .inl (2, [36, 0, 0, 0, 0, 0]), .inr (.inl (1, 120)), .inr (.inr [some 43, some 45, some 47, some 49]), .inl (4, [39, 40, 0, 0]), .inr (.inl (0, 10)), .inr (.inl (0, 10)), .inl (4, [42, 43, 0, 0]), .inr (.inl (0, 10)), .inr (.inl (0, 10)), .inr (.inl (0, 10)), .inr (.inl (0, 7)), .inl (0, [0, 0, 47]), .inr (.inl (0, 40)), .inl (0, [0, 0, 49]), .inr (.inl (0, 40)), .inl (0, [0, 0, 51]), .inr (.inl (0, 40)), .inl (0, [0, 0, 53]), .inr (.inl (0, 40)), .inl (6, [55, 56, 57, 0, 58, 59, 60, 0, 0, 0, 0, 1, 61, 62, 63, 64, 65, 66, 2, 2]), .inr (.inl (0, 72)), .inr (.inl (0, 72)), .inr (.inl (0, 72)), .inr (.inl (0, 7)), .inr (.inl (0, 11)), .inr (.inl (0, 120)), .inr (.inl (2, 56)), .inr (.inl (2, 24)), .inr (.inl (2, 16)), .inr (.inl (2, 48)), .inr (.inl (0, 4)), .inr (.inl (0, 4))]
def sh_127 : List ShN := [.inl (5, [4, 14, 24, 0, 34, 37, 38, 41, 44, 45]), .inl (1, [0, 5, 6, 7, 8, 9, 10, 11, 0, 0, 12, 13, 0]), .inr (.inl (0, 10)), .inr (.inl (0, 10)), .inr (.inl (0, 10)), .inr (.inl (0, 10)), .inr (.inl (0, 4)), .inr (.inl (0, 4)), .inr (.inl (0, 4)), .inr (.inl (0, 6)), .inr (.inl (0, 10)), .inl (1, [0, 15, 16, 17, 18, 19, 20, 21, 0, 0, 22, 23, 0]), .inr (.inl (0, 10)), .inr (.inl (0, 10)), .inr (.inl (0, 10)), .inr (.inl (0, 10)), .inr (.inl (0, 4)), .inr (.inl (0, 4)), .inr (.inl (0, 4)), .inr (.inl (0, 6)), .inr (.inl (0, 10)), .inl (1, [0, 25, 26, 27, 28, 29, 30, 31, 0, 0, 32, 33, 0]), .inr (.inl (0, 10)), .inr (.inl (0, 10)), .inr (.inl (0, 10)), .inr (.inl (0, 10)), .inr (.inl (0, 4)), .inr (.inl (0, 4)), .inr (.inl (0, 4)), .inr (.inl (0, 6)), .inr (.inl (0, 10)), .inl (3, [35]), .inl (2, [36, 0, 0, 0, 0, 0]), .inr (.inl (1, 120)), .inr (.inr [some 43, some 45, some 47, some 49]), .inl (4, [39, 40, 0, 0]), .inr (.inl (0, 10)), .inr (.inl (0, 10)), .inl (4, [42, 43, 0, 0]), .inr (.inl (0, 10)), .inr (.inl (0, 10)), .inr (.inl (0, 10)), .inr (.inl (0, 7)), .inl (0, [0, 0, 47]), .inr (.inl (0, 40)), .inl (0, [0, 0, 49]), .inr (.inl (0, 40)), .inl (0, [0, 0, 51]), .inr (.inl (0, 40)), .inl (0, [0, 0, 53]), .inr (.inl (0, 40)), .inl (6, [55, 56, 57, 0, 58, 59, 60, 0, 0, 0, 0, 1, 61, 62, 63, 64, 65, 66, 2, 2]), .inr (.inl (0, 72)), .inr (.inl (0, 72)), .inr (.inl (0, 72)), .inr (.inl (0, 7)), .inr (.inl (0, 11)), .inr (.inl (0, 120)), .inr (.inl (2, 56)), .inr (.inl (2, 24)), .inr (.inl (2, 16)), .inr (.inl (2, 48)), .inr (.inl (0, 4)), .inr (.inl (0, 4)), .inr (.inl (0, 160))]
def sh_128 : List ShN := [.inl (5, [4, 14, 24, 0, 34, 37, 38, 41, 44, 45]), .inl (1, [0, 5, 6, 7, 8, 9, 10, 11, 0, 0, 12, 13, 0]), .inr (.inl (0, 10)), .inr (.inl (0, 10)), .inr (.inl (0, 10)), .inr (.inl (0, 10)), .inr (.inl (0, 4)), .inr (.inl (0, 4)), .inr (.inl (0, 4)), .inr (.inl (0, 6)), .inr (.inl (0, 10)), .inl (1, [0, 15, 16, 17, 18, 19, 20, 21, 0, 0, 22, 23, 0]), .inr (.inl (0, 10)), .inr (.inl (0, 10)), .inr (.inl (0, 10)), .inr (.inl (0, 10)), .inr (.inl (0, 4)), .inr (.inl (0, 4)), .inr (.inl (0, 4)), .inr (.inl (0, 6)), .inr (.inl (0, 10)), .inl (1, [0, 25, 26, 27, 28, 29, 30, 31, 0, 0, 32, 33, 0]), .inr (.inl (0, 10)), .inr (.inl (0, 10)), .inr (.inl (0, 10)), .inr (.inl (0, 10)), .inr (.inl (0, 4)), .inr (.inl (0, 4)), .inr (.inl (0, 4)), .inr (.inl (0, 6)), .inr (.inl (0, 10)), .inl (3, [35]), .inl (2, [36, 0, 0, 0, 0, 0]), .inr (.inl (1, 120)), .inr (.inr [some 43, some 45, some 47, some 49]), .inl (4, [39, 40, 0, 0]), .inr (.inl (0, 10)), .inr (.inl (0, 10)), .inl (4, [42, 43, 0, 0]), .inr (.inl (0, 10)), .inr (.inl (0, 10)), .inr (.inl (0, 10)), .inr (.inl (0, 7)), .inl (0, [0, 0, 47]), .inr (.inl (0, 40)), .inl (0, [0, 0, 49]), .inr (.inl (0, 40)), .inl (0, [0, 0, 51]), .inr (.inl (0, 40)), .inl (0, [0, 0, 53]), .inr (.inl (0, 40)), .inl (6, [55, 56, 57, 0, 58, 59, 60, 0, 0, 0, 0, 1, 61, 62, 63, 64, 65, 66, 67, 2]), .inr (.inl (0, 72)), .inr (.inl (0, 72)), .inr (.inl (0, 72)), .inr (.inl (0, 7)), .inr (.inl (0, 11)), .inr (.inl (0, 120)), .inr (.inl (2, 56)), .inr (.inl (2, 24)), .inr (.inl (2, 16)), .inr (.inl (2, 48)), .inr (.inl (0, 4)), .inr (.inl (0, 4)), .inr (.inl (0, 160))]
def sh_129 : List ShN := [.inl (5, [4, 14, 24, 0, 34, 37, 38, 41, 44, 45]), .inl (1, [0, 5, 6, 7, 8, 9, 10, 11, 0, 0, 12, 13, 0]), .inr (.inl (0, 10)), .inr (.inl (0, 10)), .inr (.inl (0, 10)), .inr (.inl (0, 10)), .inr (.inl (0, 4)), .inr (.inl (0, 4)), .inr (.inl (0, 4)), .inr (.inl (0, 6)), .inr (.inl (0, 10)), .inl (1, [0, 15, 16, 17, 18, 19, 20, 21, 0, 0, 22, 23, 0]), .inr (.inl (0, 10)), .inr (.inl (0, 10)), .inr (.inl (0, 10)), .inr (.inl (0, 10)), .inr (.inl (0, 4)), .inr (.inl (0, 4)), .inr (.inl (0, 4)), .inr (.inl (0, 6)), .inr (.inl (0, 10)), .inl (1, [0, 25, 26, 27, 28, 29, 30, 31, 0, 0, 32, 33, 0]), .inr (.inl (0, 10)), .inr (.inl (0, 10)), .inr (.inl (0, 10)), .inr (.inl (0, 10)), .inr (.inl (0, 4)), .inr (.inl (0, 4)), .inr (.inl (0, 4)), .inr (.inl (0, 6)), .inr (.inl (0, 10)), .inl (3, [35]), .inl (2, [36, 0, 0, 0, 0, 0]), .inr (.inl (1, 120)), .inr (.inr [some 43, some 45, some 47, some 49]), .inl (4, [39, 40, 0, 0]), .inr (.inl (0, 10)), .inr (.inl (0, 10)), .inl (4, [42, 43, 0, 0]), .inr (.inl (0, 10)), .inr (.inl (0, 10)), .inr (.inl (0, 10)), .inr (.inl (0, 7)), .inl (0, [0, 0, 47]), .inr (.inl (0, 40)), .inl (0, [0, 0, 49]), .inr (.inl (0, 40)), .inl (0, [0, 0, 51]), .inr (.inl (0, 40)), .inl (0, [0, 0, 53]), .inr (.inl (0, 40)), .inl (6, [55, 56, 57, 0, 58, 59, 60, 0, 0, 0, 0, 1, 61, 62, 63, 64, 65, 66, 67, 2]), .inr (.inl (0, 72)), .inr (.inl (0, 72)), .inr (.inl (0, 72)), .inr (.inl (0, 7)), .inr (.inl (0, 11)), .inr (.inl (0, 120)), .inr (.inl (2, 56)), .inr (.inl (2, 24)), .inr (.inl (2, 16)), .inr (.inl (2, 48)), .inr (.inl (0, 4)), .inr (.inl (0, 4)), .inr (.inl (0, 160)), .inr (.inl (0, 40))]
def sh_130 : List ShN := [.inl (5, [4, 14, 24, 0, 34, 37, 38, 41, 44, 45]), .inl (1, [0, 5, 6, 7, 8, 9, 10, 11, 0, 0, 12, 13, 0]), .inr (.inl (0, 10)), .inr (.inl (0, 10)), .inr (.inl (0, 10)), .inr (.inl (0, 10)), .inr (.inl (0, 4)), .inr (.inl (0, 4)), .inr (.inl (0, 4)), .inr (.inl (0, 6)), .inr (.inl (0, 10)), .inl (1, [0, 15, 16, 17, 18, 19, 20, 21, 0, 0, 22, 23, 0]), .inr (.inl (0, 10)), .inr (.inl (0, 10)), .inr (.inl (0, 10)), .inr (.inl (0, 10)), .inr (.inl (0, 4)), .inr (.inl (0, 4)), .inr (.inl (0, 4)), .inr (.inl (0, 6)), .inr (.inl (0, 10)), .inl (1, [0, 25, 26, 27, 28, 29, 30, 31, 0, 0, 32, 33, 0]), .inr (.inl (0, 10)), .inr (.inl (0, 10)), .inr (.inl (0, 10)), .inr (.inl (0, 10)), .inr (.inl (0, 4)), .inr (.inl (0, 4)), .inr (.inl (0, 4)), .inr (.inl (0, 6)), .inr (.inl (0, 10)), .inl (3, [35]), .inl (2, [36, 0, 0, 0, 0, 0]), .inr (.inl (1, 120)), .inr (.inr [some 43, some 45, some 47, some 49]), .inl (4, [39, 40, 0, 0]), .inr (.inl (0, 10)), .inr (.inl (0, 10)), .inl (4, [42, 43, 0, 0]), .inr (.inl (0, 10)), .inr (.inl (0, 10)), .inr (.inl (0, 10)), .inr (.inl (0, 7)), .inl (0, [0, 0, 47]), .inr (.inl (0, 40)), .inl (0, [0, 0, 49]), .inr (.inl (0, 40)), .inl (0, [0, 0, 51]), .inr (.inl (0, 40)), .inl (0, [0, 0, 53]), .inr (.inl (0, 40)), .inl (6, [55, 56, 57, 0, 58, 59, 60, 0, 0, 0, 0, 1, 61, 62, 63, 64, 65, 66, 67, 68]), .inr (.inl (0, 72)), .inr (.inl (0, 72)), .inr (.inl (0, 72)), .inr (.inl (0, 7)), .inr (.inl (0, 11)), .inr (.inl (0, 120)), .inr (.inl (2, 56)), .inr (.inl (2, 24)), .inr (.inl (2, 16)), .inr (.inl (2, 48)), .inr (.inl (0, 4)), .inr (.inl (0, 4)), .inr (.inl (0, 160)), .inr (.inl (0, 40))]
def S_12 : ST := (wr (wr (wr (wr (wr (wr (wr (wr (wr (wr (wr (wr (wr (wr (wr (wr (wr (wr (wr (wr (wr (wr (wr (wr (wr (wr (wr (wr (wr (wr (wr (wr (wr (wr (wr (wr (wr (wr (wr (wr (wr (wr (wr (wr (wr (wr (wr (wr (wr (wr (wr (wr (wr (wr (wr (wr (wr (wr (wr (wr (wr (wr (wr (wr (wr (wr (wr (wr (wr (wr (wr (wr (wr (wr (wr (wr (wr (wr (wr (wr (wr (wr (wr (wr (wr (wr (wr (wr (wr (wr (wr (wr (wr (wr (wr (wr (wr (wr (wr (wr (wr (wr (wr (wr (wr (wr (wr (wr (wr (wr (wr (wr (wr (wr (wr (wr (wr (wr (wr (wr (wr (wr (wr (wr (wr (wr (wr (wr (wr (wr (wr (wr (wr (wr (wr (wr (wr (wr (wr (wr (wr (wr (wr (wr (wr (wr (wr (wr (wr (wr (wr (wr (wr (wr (wr (wr (wr (wr (wr (wr (wr (wr S_11 58 0 108) 58 1 97) 58 2 109) 58 3 112) 58 4 32) 58 5 32) 58 6 32) 58 7 32) 58 8 114) 58 9 101) 58 10 100) 58 11 32) 58 12 32) 58 13 32) 58 14 32) 58 15 32) 58 16 102) 58 17 105) 58 18 120) 58 19 101) 58 20 100) 58 21 32) 58 22 32) 58 23 32) 58 24 112) 58 25 111) 58 26 108) 58 27 101) 58 28 32) 58 29 32) 58 30 32) 58 31 32) 58 32 103) 58 33 117) 58 34 105) 58 35 100) 58 36 101) 58 37 32) 58 38 32) 58 39 32) 58 40 111) 58 41 108) 58 42 100) 58 43 32) 58 44 32) 58 45 32) 58 46 32) 58 47 32) 58 48 103) 58 49 105) 58 50 97) 58 51 110) 58 52 116) 58 53 32) 58 54 32) 58 55 32) 59 0 97) 59 1 116) 59 2 32) 59 3 32) 59 4 32) 59 5 32) 59 6 32) 59 7 32) 59 8 108) 59 9 105) 59 10 102) 59 11 101) 59 12 32) 59 13 32) 59 14 32) 59 15 32) 59 16 119) 59 17 111) 59 18 114) 59 19 116) 59 20 104) 59 21 32) 59 22 32) 59 23 32) 60 0 97) 60 1 116) 60 2 32) 60 3 32) 60 4 32) 60 5 32) 60 6 32) 60 7 32) 60 8 115) 60 9 116) 60 10 101) 60 11 112) 60 12 115) 60 13 32) 60 14 32) 60 15 32) 61 0 100) 61 1 117) 61 2 115) 61 3 116) 61 4 32) 61 5 32) 61 6 32) 61 7 32) 61 8 119) 61 9 105) 61 10 115) 61 11 104) 61 12 101) 61 13 115) 61 14 32) 61 15 32) 61 16 109) 61 17 101) 61 18 110) 61 19 100) 61 20 32) 61 21 32) 61 22 32) 61 23 32) 61 24 112) 61 25 97) 61 26 114) 61 27 116) 61 28 115) 61 29 32) 61 30 32) 61 31 32) 61 32 99) 61 33 114) 61 34 101) 61 35 119) 61 36 32) 61 37 32) 61 38 32) 61 39 32) 61 40 115) 61 41 105) 61 42 103) 61 43 110) 61 44 32) 61 45 32) 61 46 32) 61 47 32) 52 3 1) 52 4 1) 52 6 5) 52 7 20) 52 9 60) 52 11 60) 52 13 60) 52 15 60) 52 62 (-1)) 52 63 (-1)) 52 64 (-1)) 52 65 (-1)) 52 66 (-1)) 52 67 (-1)) 52 68 (-1)) 52 69 (-1)) 52 70 (-1)) 52 71 (-1))
set_option maxHeartbeats 8000000 in
set_option maxRecDepth 100000 in
theorem C_13 (E : EV) {Q : Option Value → List va_E → Prop} (K : Q none (hN sh_130 E S_12)) : SA E mX6_init true true 14 706 0 (lv_args 0 [.ref (eB E + 51)]) [] (hN sh_102 E S_11) Q := by
  refine s_aload_n (q := 1) dX6_init_0 rfl rfl 0 rfl ?_
  refine s_objInit (q := 4) dX6_init_1 rfl lX6_1 iObj oObj (Nat.le_of_ble_eq_true rfl) (Nat.le_of_ble_eq_true rfl) ?_
  refine s_aload_n (q := 5) dX6_init_4 rfl rfl 0 rfl ?_
  refine s_bipush (q := 7) (v := 72) dX6_init_5 rfl rfl ?_
  refine n_newi (q := 9) (mc := 13) (ms := 634) (n := 72) (L := 52) (sh' := sh_103) dX6_init_7 rfl (by decide) (by decide) (by decide) rfl rfl rfl ?_
  refine n_putR (q := 12) (k0 := 51) (f := 0) (t := 52) (sh' := sh_104) dX6_init_9 rfl rfl rfl inX6 tyX6_ok nmX6 (Nat.le_of_ble_eq_true rfl) fX6_9 rfl rfl rfl (fun _ => rfl) (fun _ => rfl) (Nat.le_of_ble_eq_true rfl) rfl ?_
  refine s_aload_n (q := 13) dX6_init_12 rfl rfl 0 rfl ?_
  refine s_bipush (q := 15) (v := 72) dX6_init_13 rfl rfl ?_
  refine n_newi (q := 17) (mc := 12) (ms := 562) (n := 72) (L := 53) (sh' := sh_105) dX6_init_15 rfl (by decide) (by decide) (by decide) rfl rfl rfl ?_
  refine n_putR (q := 20) (k0 := 51) (f := 1) (t := 53) (sh' := sh_106) dX6_init_17 rfl rfl rfl inX6 tyX6_ok nmX6 (Nat.le_of_ble_eq_true rfl) fX6_13 rfl rfl rfl (fun _ => rfl) (fun _ => rfl) (Nat.le_of_ble_eq_true rfl) rfl ?_
  refine s_aload_n (q := 21) dX6_init_20 rfl rfl 0 rfl ?_
  refine s_bipush (q := 23) (v := 72) dX6_init_21 rfl rfl ?_
  refine n_newi (q := 25) (mc := 11) (ms := 490) (n := 72) (L := 54) (sh' := sh_107) dX6_init_23 rfl (by decide) (by decide) (by decide) rfl rfl rfl ?_
  refine n_putR (q := 28) (k0 := 51) (f := 2) (t := 54) (sh' := sh_108) dX6_init_25 rfl rfl rfl inX6 tyX6_ok nmX6 (Nat.le_of_ble_eq_true rfl) fX6_16 rfl rfl rfl (fun _ => rfl) (fun _ => rfl) (Nat.le_of_ble_eq_true rfl) rfl ?_
  refine s_aload_n (q := 29) dX6_init_28 rfl rfl 0 rfl ?_
  refine s_bipush (q := 31) (v := 7) dX6_init_29 rfl rfl ?_
  refine n_newi (q := 33) (mc := 10) (ms := 483) (n := 7) (L := 55) (sh' := sh_109) dX6_init_31 rfl (by decide) (by decide) (by decide) rfl rfl rfl ?_
  refine n_putR (q := 36) (k0 := 51) (f := 4) (t := 55) (sh' := sh_110) dX6_init_33 rfl rfl rfl inX6 tyX6_ok nmX6 (Nat.le_of_ble_eq_true rfl) fX6_19 rfl rfl rfl (fun _ => rfl) (fun _ => rfl) (Nat.le_of_ble_eq_true rfl) rfl ?_
  refine s_aload_n (q := 37) dX6_init_36 rfl rfl 0 rfl ?_
  refine s_bipush (q := 39) (v := 11) dX6_init_37 rfl rfl ?_
  refine n_newi (q := 41) (mc := 9) (ms := 472) (n := 11) (L := 56) (sh' := sh_111) dX6_init_39 rfl (by decide) (by decide) (by decide) rfl rfl rfl ?_
  refine n_putR (q := 44) (k0 := 51) (f := 5) (t := 56) (sh' := sh_112) dX6_init_41 rfl rfl rfl inX6 tyX6_ok nmX6 (Nat.le_of_ble_eq_true rfl) fX6_22 rfl rfl rfl (fun _ => rfl) (fun _ => rfl) (Nat.le_of_ble_eq_true rfl) rfl ?_
  refine s_aload_n (q := 45) dX6_init_44 rfl rfl 0 rfl ?_
  refine s_bipush (q := 47) (v := 120) dX6_init_45 rfl rfl ?_
  refine n_newi (q := 49) (mc := 8) (ms := 352) (n := 120) (L := 57) (sh' := sh_113) dX6_init_47 rfl (by decide) (by decide) (by decide) rfl rfl rfl ?_
  refine n_putR (q := 52) (k0 := 51) (f := 6) (t := 57) (sh' := sh_114) dX6_init_49 rfl rfl rfl inX6 tyX6_ok nmX6 (Nat.le_of_ble_eq_true rfl) fX6_25 rfl rfl rfl (fun _ => rfl) (fun _ => rfl) (Nat.le_of_ble_eq_true rfl) rfl ?_
  refine s_aload_n (q := 53) dX6_init_52 rfl rfl 0 rfl ?_
  refine s_bipush (q := 55) (v := 56) dX6_init_53 rfl rfl ?_
  refine n_newc (q := 57) (mc := 7) (ms := 296) (n := 56) (L := 58) (sh' := sh_115) dX6_init_55 rfl (by decide) (by decide) (by decide) rfl rfl rfl ?_
  refine s_dup (q := 58) dX6_init_57 rfl rfl ?_
  refine s_iconst (q := 59) (v := 0) dX6_init_58 rfl rfl ?_
  refine s_bipush (q := 61) (v := 108) dX6_init_59 rfl rfl ?_
  refine n_cast (q := 62) (k0 := 58) (j := 0) (w := 108) dX6_init_61 rfl rfl (inB_in (by decide)) (by decide) rfl ?_
  refine s_dup (q := 63) dX6_init_62 rfl rfl ?_
  refine s_iconst (q := 64) (v := 1) dX6_init_63 rfl rfl ?_
  refine s_bipush (q := 66) (v := 97) dX6_init_64 rfl rfl ?_
  refine n_cast (q := 67) (k0 := 58) (j := 1) (w := 97) dX6_init_66 rfl rfl (inB_in (by decide)) (by decide) rfl ?_
  refine s_dup (q := 68) dX6_init_67 rfl rfl ?_
  refine s_iconst (q := 69) (v := 2) dX6_init_68 rfl rfl ?_
  refine s_bipush (q := 71) (v := 109) dX6_init_69 rfl rfl ?_
  refine n_cast (q := 72) (k0 := 58) (j := 2) (w := 109) dX6_init_71 rfl rfl (inB_in (by decide)) (by decide) rfl ?_
  refine s_dup (q := 73) dX6_init_72 rfl rfl ?_
  refine s_iconst (q := 74) (v := 3) dX6_init_73 rfl rfl ?_
  refine s_bipush (q := 76) (v := 112) dX6_init_74 rfl rfl ?_
  refine n_cast (q := 77) (k0 := 58) (j := 3) (w := 112) dX6_init_76 rfl rfl (inB_in (by decide)) (by decide) rfl ?_
  refine s_dup (q := 78) dX6_init_77 rfl rfl ?_
  refine s_iconst (q := 79) (v := 4) dX6_init_78 rfl rfl ?_
  refine s_bipush (q := 81) (v := 32) dX6_init_79 rfl rfl ?_
  refine n_cast (q := 82) (k0 := 58) (j := 4) (w := 32) dX6_init_81 rfl rfl (inB_in (by decide)) (by decide) rfl ?_
  refine s_dup (q := 83) dX6_init_82 rfl rfl ?_
  refine s_iconst (q := 84) (v := 5) dX6_init_83 rfl rfl ?_
  refine s_bipush (q := 86) (v := 32) dX6_init_84 rfl rfl ?_
  refine n_cast (q := 87) (k0 := 58) (j := 5) (w := 32) dX6_init_86 rfl rfl (inB_in (by decide)) (by decide) rfl ?_
  refine s_dup (q := 88) dX6_init_87 rfl rfl ?_
  refine s_bipush (q := 90) (v := 6) dX6_init_88 rfl rfl ?_
  refine s_bipush (q := 92) (v := 32) dX6_init_90 rfl rfl ?_
  refine n_cast (q := 93) (k0 := 58) (j := 6) (w := 32) dX6_init_92 rfl rfl (inB_in (by decide)) (by decide) rfl ?_
  refine s_dup (q := 94) dX6_init_93 rfl rfl ?_
  refine s_bipush (q := 96) (v := 7) dX6_init_94 rfl rfl ?_
  refine s_bipush (q := 98) (v := 32) dX6_init_96 rfl rfl ?_
  refine n_cast (q := 99) (k0 := 58) (j := 7) (w := 32) dX6_init_98 rfl rfl (inB_in (by decide)) (by decide) rfl ?_
  refine s_dup (q := 100) dX6_init_99 rfl rfl ?_
  refine s_bipush (q := 102) (v := 8) dX6_init_100 rfl rfl ?_
  refine s_bipush (q := 104) (v := 114) dX6_init_102 rfl rfl ?_
  refine n_cast (q := 105) (k0 := 58) (j := 8) (w := 114) dX6_init_104 rfl rfl (inB_in (by decide)) (by decide) rfl ?_
  refine s_dup (q := 106) dX6_init_105 rfl rfl ?_
  refine s_bipush (q := 108) (v := 9) dX6_init_106 rfl rfl ?_
  refine s_bipush (q := 110) (v := 101) dX6_init_108 rfl rfl ?_
  refine n_cast (q := 111) (k0 := 58) (j := 9) (w := 101) dX6_init_110 rfl rfl (inB_in (by decide)) (by decide) rfl ?_
  refine s_dup (q := 112) dX6_init_111 rfl rfl ?_
  refine s_bipush (q := 114) (v := 10) dX6_init_112 rfl rfl ?_
  refine s_bipush (q := 116) (v := 100) dX6_init_114 rfl rfl ?_
  refine n_cast (q := 117) (k0 := 58) (j := 10) (w := 100) dX6_init_116 rfl rfl (inB_in (by decide)) (by decide) rfl ?_
  refine s_dup (q := 118) dX6_init_117 rfl rfl ?_
  refine s_bipush (q := 120) (v := 11) dX6_init_118 rfl rfl ?_
  refine s_bipush (q := 122) (v := 32) dX6_init_120 rfl rfl ?_
  refine n_cast (q := 123) (k0 := 58) (j := 11) (w := 32) dX6_init_122 rfl rfl (inB_in (by decide)) (by decide) rfl ?_
  refine s_dup (q := 124) dX6_init_123 rfl rfl ?_
  refine s_bipush (q := 126) (v := 12) dX6_init_124 rfl rfl ?_
  refine s_bipush (q := 128) (v := 32) dX6_init_126 rfl rfl ?_
  refine n_cast (q := 129) (k0 := 58) (j := 12) (w := 32) dX6_init_128 rfl rfl (inB_in (by decide)) (by decide) rfl ?_
  refine s_dup (q := 130) dX6_init_129 rfl rfl ?_
  refine s_bipush (q := 132) (v := 13) dX6_init_130 rfl rfl ?_
  refine s_bipush (q := 134) (v := 32) dX6_init_132 rfl rfl ?_
  refine n_cast (q := 135) (k0 := 58) (j := 13) (w := 32) dX6_init_134 rfl rfl (inB_in (by decide)) (by decide) rfl ?_
  refine s_dup (q := 136) dX6_init_135 rfl rfl ?_
  refine s_bipush (q := 138) (v := 14) dX6_init_136 rfl rfl ?_
  refine s_bipush (q := 140) (v := 32) dX6_init_138 rfl rfl ?_
  refine n_cast (q := 141) (k0 := 58) (j := 14) (w := 32) dX6_init_140 rfl rfl (inB_in (by decide)) (by decide) rfl ?_
  refine s_dup (q := 142) dX6_init_141 rfl rfl ?_
  refine s_bipush (q := 144) (v := 15) dX6_init_142 rfl rfl ?_
  refine s_bipush (q := 146) (v := 32) dX6_init_144 rfl rfl ?_
  refine n_cast (q := 147) (k0 := 58) (j := 15) (w := 32) dX6_init_146 rfl rfl (inB_in (by decide)) (by decide) rfl ?_
  refine s_dup (q := 148) dX6_init_147 rfl rfl ?_
  refine s_bipush (q := 150) (v := 16) dX6_init_148 rfl rfl ?_
  refine s_bipush (q := 152) (v := 102) dX6_init_150 rfl rfl ?_
  refine n_cast (q := 153) (k0 := 58) (j := 16) (w := 102) dX6_init_152 rfl rfl (inB_in (by decide)) (by decide) rfl ?_
  refine s_dup (q := 154) dX6_init_153 rfl rfl ?_
  refine s_bipush (q := 156) (v := 17) dX6_init_154 rfl rfl ?_
  refine s_bipush (q := 158) (v := 105) dX6_init_156 rfl rfl ?_
  refine n_cast (q := 159) (k0 := 58) (j := 17) (w := 105) dX6_init_158 rfl rfl (inB_in (by decide)) (by decide) rfl ?_
  refine s_dup (q := 160) dX6_init_159 rfl rfl ?_
  refine s_bipush (q := 162) (v := 18) dX6_init_160 rfl rfl ?_
  refine s_bipush (q := 164) (v := 120) dX6_init_162 rfl rfl ?_
  refine n_cast (q := 165) (k0 := 58) (j := 18) (w := 120) dX6_init_164 rfl rfl (inB_in (by decide)) (by decide) rfl ?_
  refine s_dup (q := 166) dX6_init_165 rfl rfl ?_
  refine s_bipush (q := 168) (v := 19) dX6_init_166 rfl rfl ?_
  refine s_bipush (q := 170) (v := 101) dX6_init_168 rfl rfl ?_
  refine n_cast (q := 171) (k0 := 58) (j := 19) (w := 101) dX6_init_170 rfl rfl (inB_in (by decide)) (by decide) rfl ?_
  refine s_dup (q := 172) dX6_init_171 rfl rfl ?_
  refine s_bipush (q := 174) (v := 20) dX6_init_172 rfl rfl ?_
  refine s_bipush (q := 176) (v := 100) dX6_init_174 rfl rfl ?_
  refine n_cast (q := 177) (k0 := 58) (j := 20) (w := 100) dX6_init_176 rfl rfl (inB_in (by decide)) (by decide) rfl ?_
  refine s_dup (q := 178) dX6_init_177 rfl rfl ?_
  refine s_bipush (q := 180) (v := 21) dX6_init_178 rfl rfl ?_
  refine s_bipush (q := 182) (v := 32) dX6_init_180 rfl rfl ?_
  refine n_cast (q := 183) (k0 := 58) (j := 21) (w := 32) dX6_init_182 rfl rfl (inB_in (by decide)) (by decide) rfl ?_
  refine s_dup (q := 184) dX6_init_183 rfl rfl ?_
  refine s_bipush (q := 186) (v := 22) dX6_init_184 rfl rfl ?_
  refine s_bipush (q := 188) (v := 32) dX6_init_186 rfl rfl ?_
  refine n_cast (q := 189) (k0 := 58) (j := 22) (w := 32) dX6_init_188 rfl rfl (inB_in (by decide)) (by decide) rfl ?_
  refine s_dup (q := 190) dX6_init_189 rfl rfl ?_
  refine s_bipush (q := 192) (v := 23) dX6_init_190 rfl rfl ?_
  refine s_bipush (q := 194) (v := 32) dX6_init_192 rfl rfl ?_
  refine n_cast (q := 195) (k0 := 58) (j := 23) (w := 32) dX6_init_194 rfl rfl (inB_in (by decide)) (by decide) rfl ?_
  refine s_dup (q := 196) dX6_init_195 rfl rfl ?_
  refine s_bipush (q := 198) (v := 24) dX6_init_196 rfl rfl ?_
  refine s_bipush (q := 200) (v := 112) dX6_init_198 rfl rfl ?_
  refine n_cast (q := 201) (k0 := 58) (j := 24) (w := 112) dX6_init_200 rfl rfl (inB_in (by decide)) (by decide) rfl ?_
  refine s_dup (q := 202) dX6_init_201 rfl rfl ?_
  refine s_bipush (q := 204) (v := 25) dX6_init_202 rfl rfl ?_
  refine s_bipush (q := 206) (v := 111) dX6_init_204 rfl rfl ?_
  refine n_cast (q := 207) (k0 := 58) (j := 25) (w := 111) dX6_init_206 rfl rfl (inB_in (by decide)) (by decide) rfl ?_
  refine s_dup (q := 208) dX6_init_207 rfl rfl ?_
  refine s_bipush (q := 210) (v := 26) dX6_init_208 rfl rfl ?_
  refine s_bipush (q := 212) (v := 108) dX6_init_210 rfl rfl ?_
  refine n_cast (q := 213) (k0 := 58) (j := 26) (w := 108) dX6_init_212 rfl rfl (inB_in (by decide)) (by decide) rfl ?_
  refine s_dup (q := 214) dX6_init_213 rfl rfl ?_
  refine s_bipush (q := 216) (v := 27) dX6_init_214 rfl rfl ?_
  refine s_bipush (q := 218) (v := 101) dX6_init_216 rfl rfl ?_
  refine n_cast (q := 219) (k0 := 58) (j := 27) (w := 101) dX6_init_218 rfl rfl (inB_in (by decide)) (by decide) rfl ?_
  refine s_dup (q := 220) dX6_init_219 rfl rfl ?_
  refine s_bipush (q := 222) (v := 28) dX6_init_220 rfl rfl ?_
  refine s_bipush (q := 224) (v := 32) dX6_init_222 rfl rfl ?_
  refine n_cast (q := 225) (k0 := 58) (j := 28) (w := 32) dX6_init_224 rfl rfl (inB_in (by decide)) (by decide) rfl ?_
  refine s_dup (q := 226) dX6_init_225 rfl rfl ?_
  refine s_bipush (q := 228) (v := 29) dX6_init_226 rfl rfl ?_
  refine s_bipush (q := 230) (v := 32) dX6_init_228 rfl rfl ?_
  refine n_cast (q := 231) (k0 := 58) (j := 29) (w := 32) dX6_init_230 rfl rfl (inB_in (by decide)) (by decide) rfl ?_
  refine s_dup (q := 232) dX6_init_231 rfl rfl ?_
  refine s_bipush (q := 234) (v := 30) dX6_init_232 rfl rfl ?_
  refine s_bipush (q := 236) (v := 32) dX6_init_234 rfl rfl ?_
  refine n_cast (q := 237) (k0 := 58) (j := 30) (w := 32) dX6_init_236 rfl rfl (inB_in (by decide)) (by decide) rfl ?_
  refine s_dup (q := 238) dX6_init_237 rfl rfl ?_
  refine s_bipush (q := 240) (v := 31) dX6_init_238 rfl rfl ?_
  refine s_bipush (q := 242) (v := 32) dX6_init_240 rfl rfl ?_
  refine n_cast (q := 243) (k0 := 58) (j := 31) (w := 32) dX6_init_242 rfl rfl (inB_in (by decide)) (by decide) rfl ?_
  refine s_dup (q := 244) dX6_init_243 rfl rfl ?_
  refine s_bipush (q := 246) (v := 32) dX6_init_244 rfl rfl ?_
  refine s_bipush (q := 248) (v := 103) dX6_init_246 rfl rfl ?_
  refine n_cast (q := 249) (k0 := 58) (j := 32) (w := 103) dX6_init_248 rfl rfl (inB_in (by decide)) (by decide) rfl ?_
  refine s_dup (q := 250) dX6_init_249 rfl rfl ?_
  refine s_bipush (q := 252) (v := 33) dX6_init_250 rfl rfl ?_
  refine s_bipush (q := 254) (v := 117) dX6_init_252 rfl rfl ?_
  refine n_cast (q := 255) (k0 := 58) (j := 33) (w := 117) dX6_init_254 rfl rfl (inB_in (by decide)) (by decide) rfl ?_
  refine s_dup (q := 256) dX6_init_255 rfl rfl ?_
  refine s_bipush (q := 258) (v := 34) dX6_init_256 rfl rfl ?_
  refine s_bipush (q := 260) (v := 105) dX6_init_258 rfl rfl ?_
  refine n_cast (q := 261) (k0 := 58) (j := 34) (w := 105) dX6_init_260 rfl rfl (inB_in (by decide)) (by decide) rfl ?_
  refine s_dup (q := 262) dX6_init_261 rfl rfl ?_
  refine s_bipush (q := 264) (v := 35) dX6_init_262 rfl rfl ?_
  refine s_bipush (q := 266) (v := 100) dX6_init_264 rfl rfl ?_
  refine n_cast (q := 267) (k0 := 58) (j := 35) (w := 100) dX6_init_266 rfl rfl (inB_in (by decide)) (by decide) rfl ?_
  refine s_dup (q := 268) dX6_init_267 rfl rfl ?_
  refine s_bipush (q := 270) (v := 36) dX6_init_268 rfl rfl ?_
  refine s_bipush (q := 272) (v := 101) dX6_init_270 rfl rfl ?_
  refine n_cast (q := 273) (k0 := 58) (j := 36) (w := 101) dX6_init_272 rfl rfl (inB_in (by decide)) (by decide) rfl ?_
  refine s_dup (q := 274) dX6_init_273 rfl rfl ?_
  refine s_bipush (q := 276) (v := 37) dX6_init_274 rfl rfl ?_
  refine s_bipush (q := 278) (v := 32) dX6_init_276 rfl rfl ?_
  refine n_cast (q := 279) (k0 := 58) (j := 37) (w := 32) dX6_init_278 rfl rfl (inB_in (by decide)) (by decide) rfl ?_
  refine s_dup (q := 280) dX6_init_279 rfl rfl ?_
  refine s_bipush (q := 282) (v := 38) dX6_init_280 rfl rfl ?_
  refine s_bipush (q := 284) (v := 32) dX6_init_282 rfl rfl ?_
  refine n_cast (q := 285) (k0 := 58) (j := 38) (w := 32) dX6_init_284 rfl rfl (inB_in (by decide)) (by decide) rfl ?_
  refine s_dup (q := 286) dX6_init_285 rfl rfl ?_
  refine s_bipush (q := 288) (v := 39) dX6_init_286 rfl rfl ?_
  refine s_bipush (q := 290) (v := 32) dX6_init_288 rfl rfl ?_
  refine n_cast (q := 291) (k0 := 58) (j := 39) (w := 32) dX6_init_290 rfl rfl (inB_in (by decide)) (by decide) rfl ?_
  refine s_dup (q := 292) dX6_init_291 rfl rfl ?_
  refine s_bipush (q := 294) (v := 40) dX6_init_292 rfl rfl ?_
  refine s_bipush (q := 296) (v := 111) dX6_init_294 rfl rfl ?_
  refine n_cast (q := 297) (k0 := 58) (j := 40) (w := 111) dX6_init_296 rfl rfl (inB_in (by decide)) (by decide) rfl ?_
  refine s_dup (q := 298) dX6_init_297 rfl rfl ?_
  refine s_bipush (q := 300) (v := 41) dX6_init_298 rfl rfl ?_
  refine s_bipush (q := 302) (v := 108) dX6_init_300 rfl rfl ?_
  refine n_cast (q := 303) (k0 := 58) (j := 41) (w := 108) dX6_init_302 rfl rfl (inB_in (by decide)) (by decide) rfl ?_
  refine s_dup (q := 304) dX6_init_303 rfl rfl ?_
  refine s_bipush (q := 306) (v := 42) dX6_init_304 rfl rfl ?_
  refine s_bipush (q := 308) (v := 100) dX6_init_306 rfl rfl ?_
  refine n_cast (q := 309) (k0 := 58) (j := 42) (w := 100) dX6_init_308 rfl rfl (inB_in (by decide)) (by decide) rfl ?_
  refine s_dup (q := 310) dX6_init_309 rfl rfl ?_
  refine s_bipush (q := 312) (v := 43) dX6_init_310 rfl rfl ?_
  refine s_bipush (q := 314) (v := 32) dX6_init_312 rfl rfl ?_
  refine n_cast (q := 315) (k0 := 58) (j := 43) (w := 32) dX6_init_314 rfl rfl (inB_in (by decide)) (by decide) rfl ?_
  refine s_dup (q := 316) dX6_init_315 rfl rfl ?_
  refine s_bipush (q := 318) (v := 44) dX6_init_316 rfl rfl ?_
  refine s_bipush (q := 320) (v := 32) dX6_init_318 rfl rfl ?_
  refine n_cast (q := 321) (k0 := 58) (j := 44) (w := 32) dX6_init_320 rfl rfl (inB_in (by decide)) (by decide) rfl ?_
  refine s_dup (q := 322) dX6_init_321 rfl rfl ?_
  refine s_bipush (q := 324) (v := 45) dX6_init_322 rfl rfl ?_
  refine s_bipush (q := 326) (v := 32) dX6_init_324 rfl rfl ?_
  refine n_cast (q := 327) (k0 := 58) (j := 45) (w := 32) dX6_init_326 rfl rfl (inB_in (by decide)) (by decide) rfl ?_
  refine s_dup (q := 328) dX6_init_327 rfl rfl ?_
  refine s_bipush (q := 330) (v := 46) dX6_init_328 rfl rfl ?_
  refine s_bipush (q := 332) (v := 32) dX6_init_330 rfl rfl ?_
  refine n_cast (q := 333) (k0 := 58) (j := 46) (w := 32) dX6_init_332 rfl rfl (inB_in (by decide)) (by decide) rfl ?_
  refine s_dup (q := 334) dX6_init_333 rfl rfl ?_
  refine s_bipush (q := 336) (v := 47) dX6_init_334 rfl rfl ?_
  refine s_bipush (q := 338) (v := 32) dX6_init_336 rfl rfl ?_
  refine n_cast (q := 339) (k0 := 58) (j := 47) (w := 32) dX6_init_338 rfl rfl (inB_in (by decide)) (by decide) rfl ?_
  refine s_dup (q := 340) dX6_init_339 rfl rfl ?_
  refine s_bipush (q := 342) (v := 48) dX6_init_340 rfl rfl ?_
  refine s_bipush (q := 344) (v := 103) dX6_init_342 rfl rfl ?_
  refine n_cast (q := 345) (k0 := 58) (j := 48) (w := 103) dX6_init_344 rfl rfl (inB_in (by decide)) (by decide) rfl ?_
  refine s_dup (q := 346) dX6_init_345 rfl rfl ?_
  refine s_bipush (q := 348) (v := 49) dX6_init_346 rfl rfl ?_
  refine s_bipush (q := 350) (v := 105) dX6_init_348 rfl rfl ?_
  refine n_cast (q := 351) (k0 := 58) (j := 49) (w := 105) dX6_init_350 rfl rfl (inB_in (by decide)) (by decide) rfl ?_
  refine s_dup (q := 352) dX6_init_351 rfl rfl ?_
  refine s_bipush (q := 354) (v := 50) dX6_init_352 rfl rfl ?_
  refine s_bipush (q := 356) (v := 97) dX6_init_354 rfl rfl ?_
  refine n_cast (q := 357) (k0 := 58) (j := 50) (w := 97) dX6_init_356 rfl rfl (inB_in (by decide)) (by decide) rfl ?_
  refine s_dup (q := 358) dX6_init_357 rfl rfl ?_
  refine s_bipush (q := 360) (v := 51) dX6_init_358 rfl rfl ?_
  refine s_bipush (q := 362) (v := 110) dX6_init_360 rfl rfl ?_
  refine n_cast (q := 363) (k0 := 58) (j := 51) (w := 110) dX6_init_362 rfl rfl (inB_in (by decide)) (by decide) rfl ?_
  refine s_dup (q := 364) dX6_init_363 rfl rfl ?_
  refine s_bipush (q := 366) (v := 52) dX6_init_364 rfl rfl ?_
  refine s_bipush (q := 368) (v := 116) dX6_init_366 rfl rfl ?_
  refine n_cast (q := 369) (k0 := 58) (j := 52) (w := 116) dX6_init_368 rfl rfl (inB_in (by decide)) (by decide) rfl ?_
  refine s_dup (q := 370) dX6_init_369 rfl rfl ?_
  refine s_bipush (q := 372) (v := 53) dX6_init_370 rfl rfl ?_
  refine s_bipush (q := 374) (v := 32) dX6_init_372 rfl rfl ?_
  refine n_cast (q := 375) (k0 := 58) (j := 53) (w := 32) dX6_init_374 rfl rfl (inB_in (by decide)) (by decide) rfl ?_
  refine s_dup (q := 376) dX6_init_375 rfl rfl ?_
  refine s_bipush (q := 378) (v := 54) dX6_init_376 rfl rfl ?_
  refine s_bipush (q := 380) (v := 32) dX6_init_378 rfl rfl ?_
  refine n_cast (q := 381) (k0 := 58) (j := 54) (w := 32) dX6_init_380 rfl rfl (inB_in (by decide)) (by decide) rfl ?_
  refine s_dup (q := 382) dX6_init_381 rfl rfl ?_
  refine s_bipush (q := 384) (v := 55) dX6_init_382 rfl rfl ?_
  refine s_bipush (q := 386) (v := 32) dX6_init_384 rfl rfl ?_
  refine n_cast (q := 387) (k0 := 58) (j := 55) (w := 32) dX6_init_386 rfl rfl (inB_in (by decide)) (by decide) rfl ?_
  refine n_putR (q := 390) (k0 := 51) (f := 12) (t := 58) (sh' := sh_116) dX6_init_387 rfl rfl rfl inX6 tyX6_ok nmX6 (Nat.le_of_ble_eq_true rfl) fX6_28 rfl rfl rfl (fun _ => rfl) (fun _ => rfl) (Nat.le_of_ble_eq_true rfl) rfl ?_
  refine s_aload_n (q := 391) dX6_init_390 rfl rfl 0 rfl ?_
  refine s_bipush (q := 393) (v := 24) dX6_init_391 rfl rfl ?_
  refine n_newc (q := 395) (mc := 6) (ms := 272) (n := 24) (L := 59) (sh' := sh_117) dX6_init_393 rfl (by decide) (by decide) (by decide) rfl rfl rfl ?_
  refine s_dup (q := 396) dX6_init_395 rfl rfl ?_
  refine s_iconst (q := 397) (v := 0) dX6_init_396 rfl rfl ?_
  refine s_bipush (q := 399) (v := 97) dX6_init_397 rfl rfl ?_
  refine n_cast (q := 400) (k0 := 59) (j := 0) (w := 97) dX6_init_399 rfl rfl (inB_in (by decide)) (by decide) rfl ?_
  refine s_dup (q := 401) dX6_init_400 rfl rfl ?_
  refine s_iconst (q := 402) (v := 1) dX6_init_401 rfl rfl ?_
  refine s_bipush (q := 404) (v := 116) dX6_init_402 rfl rfl ?_
  refine n_cast (q := 405) (k0 := 59) (j := 1) (w := 116) dX6_init_404 rfl rfl (inB_in (by decide)) (by decide) rfl ?_
  refine s_dup (q := 406) dX6_init_405 rfl rfl ?_
  refine s_iconst (q := 407) (v := 2) dX6_init_406 rfl rfl ?_
  refine s_bipush (q := 409) (v := 32) dX6_init_407 rfl rfl ?_
  refine n_cast (q := 410) (k0 := 59) (j := 2) (w := 32) dX6_init_409 rfl rfl (inB_in (by decide)) (by decide) rfl ?_
  refine s_dup (q := 411) dX6_init_410 rfl rfl ?_
  refine s_iconst (q := 412) (v := 3) dX6_init_411 rfl rfl ?_
  refine s_bipush (q := 414) (v := 32) dX6_init_412 rfl rfl ?_
  refine n_cast (q := 415) (k0 := 59) (j := 3) (w := 32) dX6_init_414 rfl rfl (inB_in (by decide)) (by decide) rfl ?_
  refine s_dup (q := 416) dX6_init_415 rfl rfl ?_
  refine s_iconst (q := 417) (v := 4) dX6_init_416 rfl rfl ?_
  refine s_bipush (q := 419) (v := 32) dX6_init_417 rfl rfl ?_
  refine n_cast (q := 420) (k0 := 59) (j := 4) (w := 32) dX6_init_419 rfl rfl (inB_in (by decide)) (by decide) rfl ?_
  refine s_dup (q := 421) dX6_init_420 rfl rfl ?_
  refine s_iconst (q := 422) (v := 5) dX6_init_421 rfl rfl ?_
  refine s_bipush (q := 424) (v := 32) dX6_init_422 rfl rfl ?_
  refine n_cast (q := 425) (k0 := 59) (j := 5) (w := 32) dX6_init_424 rfl rfl (inB_in (by decide)) (by decide) rfl ?_
  refine s_dup (q := 426) dX6_init_425 rfl rfl ?_
  refine s_bipush (q := 428) (v := 6) dX6_init_426 rfl rfl ?_
  refine s_bipush (q := 430) (v := 32) dX6_init_428 rfl rfl ?_
  refine n_cast (q := 431) (k0 := 59) (j := 6) (w := 32) dX6_init_430 rfl rfl (inB_in (by decide)) (by decide) rfl ?_
  refine s_dup (q := 432) dX6_init_431 rfl rfl ?_
  refine s_bipush (q := 434) (v := 7) dX6_init_432 rfl rfl ?_
  refine s_bipush (q := 436) (v := 32) dX6_init_434 rfl rfl ?_
  refine n_cast (q := 437) (k0 := 59) (j := 7) (w := 32) dX6_init_436 rfl rfl (inB_in (by decide)) (by decide) rfl ?_
  refine s_dup (q := 438) dX6_init_437 rfl rfl ?_
  refine s_bipush (q := 440) (v := 8) dX6_init_438 rfl rfl ?_
  refine s_bipush (q := 442) (v := 108) dX6_init_440 rfl rfl ?_
  refine n_cast (q := 443) (k0 := 59) (j := 8) (w := 108) dX6_init_442 rfl rfl (inB_in (by decide)) (by decide) rfl ?_
  refine s_dup (q := 444) dX6_init_443 rfl rfl ?_
  refine s_bipush (q := 446) (v := 9) dX6_init_444 rfl rfl ?_
  refine s_bipush (q := 448) (v := 105) dX6_init_446 rfl rfl ?_
  refine n_cast (q := 449) (k0 := 59) (j := 9) (w := 105) dX6_init_448 rfl rfl (inB_in (by decide)) (by decide) rfl ?_
  refine s_dup (q := 450) dX6_init_449 rfl rfl ?_
  refine s_bipush (q := 452) (v := 10) dX6_init_450 rfl rfl ?_
  refine s_bipush (q := 454) (v := 102) dX6_init_452 rfl rfl ?_
  refine n_cast (q := 455) (k0 := 59) (j := 10) (w := 102) dX6_init_454 rfl rfl (inB_in (by decide)) (by decide) rfl ?_
  refine s_dup (q := 456) dX6_init_455 rfl rfl ?_
  refine s_bipush (q := 458) (v := 11) dX6_init_456 rfl rfl ?_
  refine s_bipush (q := 460) (v := 101) dX6_init_458 rfl rfl ?_
  refine n_cast (q := 461) (k0 := 59) (j := 11) (w := 101) dX6_init_460 rfl rfl (inB_in (by decide)) (by decide) rfl ?_
  refine s_dup (q := 462) dX6_init_461 rfl rfl ?_
  refine s_bipush (q := 464) (v := 12) dX6_init_462 rfl rfl ?_
  refine s_bipush (q := 466) (v := 32) dX6_init_464 rfl rfl ?_
  refine n_cast (q := 467) (k0 := 59) (j := 12) (w := 32) dX6_init_466 rfl rfl (inB_in (by decide)) (by decide) rfl ?_
  refine s_dup (q := 468) dX6_init_467 rfl rfl ?_
  refine s_bipush (q := 470) (v := 13) dX6_init_468 rfl rfl ?_
  refine s_bipush (q := 472) (v := 32) dX6_init_470 rfl rfl ?_
  refine n_cast (q := 473) (k0 := 59) (j := 13) (w := 32) dX6_init_472 rfl rfl (inB_in (by decide)) (by decide) rfl ?_
  refine s_dup (q := 474) dX6_init_473 rfl rfl ?_
  refine s_bipush (q := 476) (v := 14) dX6_init_474 rfl rfl ?_
  refine s_bipush (q := 478) (v := 32) dX6_init_476 rfl rfl ?_
  refine n_cast (q := 479) (k0 := 59) (j := 14) (w := 32) dX6_init_478 rfl rfl (inB_in (by decide)) (by decide) rfl ?_
  refine s_dup (q := 480) dX6_init_479 rfl rfl ?_
  refine s_bipush (q := 482) (v := 15) dX6_init_480 rfl rfl ?_
  refine s_bipush (q := 484) (v := 32) dX6_init_482 rfl rfl ?_
  refine n_cast (q := 485) (k0 := 59) (j := 15) (w := 32) dX6_init_484 rfl rfl (inB_in (by decide)) (by decide) rfl ?_
  refine s_dup (q := 486) dX6_init_485 rfl rfl ?_
  refine s_bipush (q := 488) (v := 16) dX6_init_486 rfl rfl ?_
  refine s_bipush (q := 490) (v := 119) dX6_init_488 rfl rfl ?_
  refine n_cast (q := 491) (k0 := 59) (j := 16) (w := 119) dX6_init_490 rfl rfl (inB_in (by decide)) (by decide) rfl ?_
  refine s_dup (q := 492) dX6_init_491 rfl rfl ?_
  refine s_bipush (q := 494) (v := 17) dX6_init_492 rfl rfl ?_
  refine s_bipush (q := 496) (v := 111) dX6_init_494 rfl rfl ?_
  refine n_cast (q := 497) (k0 := 59) (j := 17) (w := 111) dX6_init_496 rfl rfl (inB_in (by decide)) (by decide) rfl ?_
  refine s_dup (q := 498) dX6_init_497 rfl rfl ?_
  refine s_bipush (q := 500) (v := 18) dX6_init_498 rfl rfl ?_
  refine s_bipush (q := 502) (v := 114) dX6_init_500 rfl rfl ?_
  refine n_cast (q := 503) (k0 := 59) (j := 18) (w := 114) dX6_init_502 rfl rfl (inB_in (by decide)) (by decide) rfl ?_
  refine s_dup (q := 504) dX6_init_503 rfl rfl ?_
  refine s_bipush (q := 506) (v := 19) dX6_init_504 rfl rfl ?_
  refine s_bipush (q := 508) (v := 116) dX6_init_506 rfl rfl ?_
  refine n_cast (q := 509) (k0 := 59) (j := 19) (w := 116) dX6_init_508 rfl rfl (inB_in (by decide)) (by decide) rfl ?_
  refine s_dup (q := 510) dX6_init_509 rfl rfl ?_
  refine s_bipush (q := 512) (v := 20) dX6_init_510 rfl rfl ?_
  refine s_bipush (q := 514) (v := 104) dX6_init_512 rfl rfl ?_
  refine n_cast (q := 515) (k0 := 59) (j := 20) (w := 104) dX6_init_514 rfl rfl (inB_in (by decide)) (by decide) rfl ?_
  refine s_dup (q := 516) dX6_init_515 rfl rfl ?_
  refine s_bipush (q := 518) (v := 21) dX6_init_516 rfl rfl ?_
  refine s_bipush (q := 520) (v := 32) dX6_init_518 rfl rfl ?_
  refine n_cast (q := 521) (k0 := 59) (j := 21) (w := 32) dX6_init_520 rfl rfl (inB_in (by decide)) (by decide) rfl ?_
  refine s_dup (q := 522) dX6_init_521 rfl rfl ?_
  refine s_bipush (q := 524) (v := 22) dX6_init_522 rfl rfl ?_
  refine s_bipush (q := 526) (v := 32) dX6_init_524 rfl rfl ?_
  refine n_cast (q := 527) (k0 := 59) (j := 22) (w := 32) dX6_init_526 rfl rfl (inB_in (by decide)) (by decide) rfl ?_
  refine s_dup (q := 528) dX6_init_527 rfl rfl ?_
  refine s_bipush (q := 530) (v := 23) dX6_init_528 rfl rfl ?_
  refine s_bipush (q := 532) (v := 32) dX6_init_530 rfl rfl ?_
  refine n_cast (q := 533) (k0 := 59) (j := 23) (w := 32) dX6_init_532 rfl rfl (inB_in (by decide)) (by decide) rfl ?_
  refine n_putR (q := 536) (k0 := 51) (f := 13) (t := 59) (sh' := sh_118) dX6_init_533 rfl rfl rfl inX6 tyX6_ok nmX6 (Nat.le_of_ble_eq_true rfl) fX6_32 rfl rfl rfl (fun _ => rfl) (fun _ => rfl) (Nat.le_of_ble_eq_true rfl) rfl ?_
  refine s_aload_n (q := 537) dX6_init_536 rfl rfl 0 rfl ?_
  refine s_bipush (q := 539) (v := 16) dX6_init_537 rfl rfl ?_
  refine n_newc (q := 541) (mc := 5) (ms := 256) (n := 16) (L := 60) (sh' := sh_119) dX6_init_539 rfl (by decide) (by decide) (by decide) rfl rfl rfl ?_
  refine s_dup (q := 542) dX6_init_541 rfl rfl ?_
  refine s_iconst (q := 543) (v := 0) dX6_init_542 rfl rfl ?_
  refine s_bipush (q := 545) (v := 97) dX6_init_543 rfl rfl ?_
  refine n_cast (q := 546) (k0 := 60) (j := 0) (w := 97) dX6_init_545 rfl rfl (inB_in (by decide)) (by decide) rfl ?_
  refine s_dup (q := 547) dX6_init_546 rfl rfl ?_
  refine s_iconst (q := 548) (v := 1) dX6_init_547 rfl rfl ?_
  refine s_bipush (q := 550) (v := 116) dX6_init_548 rfl rfl ?_
  refine n_cast (q := 551) (k0 := 60) (j := 1) (w := 116) dX6_init_550 rfl rfl (inB_in (by decide)) (by decide) rfl ?_
  refine s_dup (q := 552) dX6_init_551 rfl rfl ?_
  refine s_iconst (q := 553) (v := 2) dX6_init_552 rfl rfl ?_
  refine s_bipush (q := 555) (v := 32) dX6_init_553 rfl rfl ?_
  refine n_cast (q := 556) (k0 := 60) (j := 2) (w := 32) dX6_init_555 rfl rfl (inB_in (by decide)) (by decide) rfl ?_
  refine s_dup (q := 557) dX6_init_556 rfl rfl ?_
  refine s_iconst (q := 558) (v := 3) dX6_init_557 rfl rfl ?_
  refine s_bipush (q := 560) (v := 32) dX6_init_558 rfl rfl ?_
  refine n_cast (q := 561) (k0 := 60) (j := 3) (w := 32) dX6_init_560 rfl rfl (inB_in (by decide)) (by decide) rfl ?_
  refine s_dup (q := 562) dX6_init_561 rfl rfl ?_
  refine s_iconst (q := 563) (v := 4) dX6_init_562 rfl rfl ?_
  refine s_bipush (q := 565) (v := 32) dX6_init_563 rfl rfl ?_
  refine n_cast (q := 566) (k0 := 60) (j := 4) (w := 32) dX6_init_565 rfl rfl (inB_in (by decide)) (by decide) rfl ?_
  refine s_dup (q := 567) dX6_init_566 rfl rfl ?_
  refine s_iconst (q := 568) (v := 5) dX6_init_567 rfl rfl ?_
  refine s_bipush (q := 570) (v := 32) dX6_init_568 rfl rfl ?_
  refine n_cast (q := 571) (k0 := 60) (j := 5) (w := 32) dX6_init_570 rfl rfl (inB_in (by decide)) (by decide) rfl ?_
  refine s_dup (q := 572) dX6_init_571 rfl rfl ?_
  refine s_bipush (q := 574) (v := 6) dX6_init_572 rfl rfl ?_
  refine s_bipush (q := 576) (v := 32) dX6_init_574 rfl rfl ?_
  refine n_cast (q := 577) (k0 := 60) (j := 6) (w := 32) dX6_init_576 rfl rfl (inB_in (by decide)) (by decide) rfl ?_
  refine s_dup (q := 578) dX6_init_577 rfl rfl ?_
  refine s_bipush (q := 580) (v := 7) dX6_init_578 rfl rfl ?_
  refine s_bipush (q := 582) (v := 32) dX6_init_580 rfl rfl ?_
  refine n_cast (q := 583) (k0 := 60) (j := 7) (w := 32) dX6_init_582 rfl rfl (inB_in (by decide)) (by decide) rfl ?_
  refine s_dup (q := 584) dX6_init_583 rfl rfl ?_
  refine s_bipush (q := 586) (v := 8) dX6_init_584 rfl rfl ?_
  refine s_bipush (q := 588) (v := 115) dX6_init_586 rfl rfl ?_
  refine n_cast (q := 589) (k0 := 60) (j := 8) (w := 115) dX6_init_588 rfl rfl (inB_in (by decide)) (by decide) rfl ?_
  refine s_dup (q := 590) dX6_init_589 rfl rfl ?_
  refine s_bipush (q := 592) (v := 9) dX6_init_590 rfl rfl ?_
  refine s_bipush (q := 594) (v := 116) dX6_init_592 rfl rfl ?_
  refine n_cast (q := 595) (k0 := 60) (j := 9) (w := 116) dX6_init_594 rfl rfl (inB_in (by decide)) (by decide) rfl ?_
  refine s_dup (q := 596) dX6_init_595 rfl rfl ?_
  refine s_bipush (q := 598) (v := 10) dX6_init_596 rfl rfl ?_
  refine s_bipush (q := 600) (v := 101) dX6_init_598 rfl rfl ?_
  refine n_cast (q := 601) (k0 := 60) (j := 10) (w := 101) dX6_init_600 rfl rfl (inB_in (by decide)) (by decide) rfl ?_
  refine s_dup (q := 602) dX6_init_601 rfl rfl ?_
  refine s_bipush (q := 604) (v := 11) dX6_init_602 rfl rfl ?_
  refine s_bipush (q := 606) (v := 112) dX6_init_604 rfl rfl ?_
  refine n_cast (q := 607) (k0 := 60) (j := 11) (w := 112) dX6_init_606 rfl rfl (inB_in (by decide)) (by decide) rfl ?_
  refine s_dup (q := 608) dX6_init_607 rfl rfl ?_
  refine s_bipush (q := 610) (v := 12) dX6_init_608 rfl rfl ?_
  refine s_bipush (q := 612) (v := 115) dX6_init_610 rfl rfl ?_
  refine n_cast (q := 613) (k0 := 60) (j := 12) (w := 115) dX6_init_612 rfl rfl (inB_in (by decide)) (by decide) rfl ?_
  refine s_dup (q := 614) dX6_init_613 rfl rfl ?_
  refine s_bipush (q := 616) (v := 13) dX6_init_614 rfl rfl ?_
  refine s_bipush (q := 618) (v := 32) dX6_init_616 rfl rfl ?_
  refine n_cast (q := 619) (k0 := 60) (j := 13) (w := 32) dX6_init_618 rfl rfl (inB_in (by decide)) (by decide) rfl ?_
  refine s_dup (q := 620) dX6_init_619 rfl rfl ?_
  refine s_bipush (q := 622) (v := 14) dX6_init_620 rfl rfl ?_
  refine s_bipush (q := 624) (v := 32) dX6_init_622 rfl rfl ?_
  refine n_cast (q := 625) (k0 := 60) (j := 14) (w := 32) dX6_init_624 rfl rfl (inB_in (by decide)) (by decide) rfl ?_
  refine s_dup (q := 626) dX6_init_625 rfl rfl ?_
  refine s_bipush (q := 628) (v := 15) dX6_init_626 rfl rfl ?_
  refine s_bipush (q := 630) (v := 32) dX6_init_628 rfl rfl ?_
  refine n_cast (q := 631) (k0 := 60) (j := 15) (w := 32) dX6_init_630 rfl rfl (inB_in (by decide)) (by decide) rfl ?_
  refine n_putR (q := 634) (k0 := 51) (f := 14) (t := 60) (sh' := sh_120) dX6_init_631 rfl rfl rfl inX6 tyX6_ok nmX6 (Nat.le_of_ble_eq_true rfl) fX6_35 rfl rfl rfl (fun _ => rfl) (fun _ => rfl) (Nat.le_of_ble_eq_true rfl) rfl ?_
  refine s_aload_n (q := 635) dX6_init_634 rfl rfl 0 rfl ?_
  refine s_bipush (q := 637) (v := 48) dX6_init_635 rfl rfl ?_
  refine n_newc (q := 639) (mc := 4) (ms := 208) (n := 48) (L := 61) (sh' := sh_121) dX6_init_637 rfl (by decide) (by decide) (by decide) rfl rfl rfl ?_
  refine s_dup (q := 640) dX6_init_639 rfl rfl ?_
  refine s_iconst (q := 641) (v := 0) dX6_init_640 rfl rfl ?_
  refine s_bipush (q := 643) (v := 100) dX6_init_641 rfl rfl ?_
  refine n_cast (q := 644) (k0 := 61) (j := 0) (w := 100) dX6_init_643 rfl rfl (inB_in (by decide)) (by decide) rfl ?_
  refine s_dup (q := 645) dX6_init_644 rfl rfl ?_
  refine s_iconst (q := 646) (v := 1) dX6_init_645 rfl rfl ?_
  refine s_bipush (q := 648) (v := 117) dX6_init_646 rfl rfl ?_
  refine n_cast (q := 649) (k0 := 61) (j := 1) (w := 117) dX6_init_648 rfl rfl (inB_in (by decide)) (by decide) rfl ?_
  refine s_dup (q := 650) dX6_init_649 rfl rfl ?_
  refine s_iconst (q := 651) (v := 2) dX6_init_650 rfl rfl ?_
  refine s_bipush (q := 653) (v := 115) dX6_init_651 rfl rfl ?_
  refine n_cast (q := 654) (k0 := 61) (j := 2) (w := 115) dX6_init_653 rfl rfl (inB_in (by decide)) (by decide) rfl ?_
  refine s_dup (q := 655) dX6_init_654 rfl rfl ?_
  refine s_iconst (q := 656) (v := 3) dX6_init_655 rfl rfl ?_
  refine s_bipush (q := 658) (v := 116) dX6_init_656 rfl rfl ?_
  refine n_cast (q := 659) (k0 := 61) (j := 3) (w := 116) dX6_init_658 rfl rfl (inB_in (by decide)) (by decide) rfl ?_
  refine s_dup (q := 660) dX6_init_659 rfl rfl ?_
  refine s_iconst (q := 661) (v := 4) dX6_init_660 rfl rfl ?_
  refine s_bipush (q := 663) (v := 32) dX6_init_661 rfl rfl ?_
  refine n_cast (q := 664) (k0 := 61) (j := 4) (w := 32) dX6_init_663 rfl rfl (inB_in (by decide)) (by decide) rfl ?_
  refine s_dup (q := 665) dX6_init_664 rfl rfl ?_
  refine s_iconst (q := 666) (v := 5) dX6_init_665 rfl rfl ?_
  refine s_bipush (q := 668) (v := 32) dX6_init_666 rfl rfl ?_
  refine n_cast (q := 669) (k0 := 61) (j := 5) (w := 32) dX6_init_668 rfl rfl (inB_in (by decide)) (by decide) rfl ?_
  refine s_dup (q := 670) dX6_init_669 rfl rfl ?_
  refine s_bipush (q := 672) (v := 6) dX6_init_670 rfl rfl ?_
  refine s_bipush (q := 674) (v := 32) dX6_init_672 rfl rfl ?_
  refine n_cast (q := 675) (k0 := 61) (j := 6) (w := 32) dX6_init_674 rfl rfl (inB_in (by decide)) (by decide) rfl ?_
  refine s_dup (q := 676) dX6_init_675 rfl rfl ?_
  refine s_bipush (q := 678) (v := 7) dX6_init_676 rfl rfl ?_
  refine s_bipush (q := 680) (v := 32) dX6_init_678 rfl rfl ?_
  refine n_cast (q := 681) (k0 := 61) (j := 7) (w := 32) dX6_init_680 rfl rfl (inB_in (by decide)) (by decide) rfl ?_
  refine s_dup (q := 682) dX6_init_681 rfl rfl ?_
  refine s_bipush (q := 684) (v := 8) dX6_init_682 rfl rfl ?_
  refine s_bipush (q := 686) (v := 119) dX6_init_684 rfl rfl ?_
  refine n_cast (q := 687) (k0 := 61) (j := 8) (w := 119) dX6_init_686 rfl rfl (inB_in (by decide)) (by decide) rfl ?_
  refine s_dup (q := 688) dX6_init_687 rfl rfl ?_
  refine s_bipush (q := 690) (v := 9) dX6_init_688 rfl rfl ?_
  refine s_bipush (q := 692) (v := 105) dX6_init_690 rfl rfl ?_
  refine n_cast (q := 693) (k0 := 61) (j := 9) (w := 105) dX6_init_692 rfl rfl (inB_in (by decide)) (by decide) rfl ?_
  refine s_dup (q := 694) dX6_init_693 rfl rfl ?_
  refine s_bipush (q := 696) (v := 10) dX6_init_694 rfl rfl ?_
  refine s_bipush (q := 698) (v := 115) dX6_init_696 rfl rfl ?_
  refine n_cast (q := 699) (k0 := 61) (j := 10) (w := 115) dX6_init_698 rfl rfl (inB_in (by decide)) (by decide) rfl ?_
  refine s_dup (q := 700) dX6_init_699 rfl rfl ?_
  refine s_bipush (q := 702) (v := 11) dX6_init_700 rfl rfl ?_
  refine s_bipush (q := 704) (v := 104) dX6_init_702 rfl rfl ?_
  refine n_cast (q := 705) (k0 := 61) (j := 11) (w := 104) dX6_init_704 rfl rfl (inB_in (by decide)) (by decide) rfl ?_
  refine s_dup (q := 706) dX6_init_705 rfl rfl ?_
  refine s_bipush (q := 708) (v := 12) dX6_init_706 rfl rfl ?_
  refine s_bipush (q := 710) (v := 101) dX6_init_708 rfl rfl ?_
  refine n_cast (q := 711) (k0 := 61) (j := 12) (w := 101) dX6_init_710 rfl rfl (inB_in (by decide)) (by decide) rfl ?_
  refine s_dup (q := 712) dX6_init_711 rfl rfl ?_
  refine s_bipush (q := 714) (v := 13) dX6_init_712 rfl rfl ?_
  refine s_bipush (q := 716) (v := 115) dX6_init_714 rfl rfl ?_
  refine n_cast (q := 717) (k0 := 61) (j := 13) (w := 115) dX6_init_716 rfl rfl (inB_in (by decide)) (by decide) rfl ?_
  refine s_dup (q := 718) dX6_init_717 rfl rfl ?_
  refine s_bipush (q := 720) (v := 14) dX6_init_718 rfl rfl ?_
  refine s_bipush (q := 722) (v := 32) dX6_init_720 rfl rfl ?_
  refine n_cast (q := 723) (k0 := 61) (j := 14) (w := 32) dX6_init_722 rfl rfl (inB_in (by decide)) (by decide) rfl ?_
  refine s_dup (q := 724) dX6_init_723 rfl rfl ?_
  refine s_bipush (q := 726) (v := 15) dX6_init_724 rfl rfl ?_
  refine s_bipush (q := 728) (v := 32) dX6_init_726 rfl rfl ?_
  refine n_cast (q := 729) (k0 := 61) (j := 15) (w := 32) dX6_init_728 rfl rfl (inB_in (by decide)) (by decide) rfl ?_
  refine s_dup (q := 730) dX6_init_729 rfl rfl ?_
  refine s_bipush (q := 732) (v := 16) dX6_init_730 rfl rfl ?_
  refine s_bipush (q := 734) (v := 109) dX6_init_732 rfl rfl ?_
  refine n_cast (q := 735) (k0 := 61) (j := 16) (w := 109) dX6_init_734 rfl rfl (inB_in (by decide)) (by decide) rfl ?_
  refine s_dup (q := 736) dX6_init_735 rfl rfl ?_
  refine s_bipush (q := 738) (v := 17) dX6_init_736 rfl rfl ?_
  refine s_bipush (q := 740) (v := 101) dX6_init_738 rfl rfl ?_
  refine n_cast (q := 741) (k0 := 61) (j := 17) (w := 101) dX6_init_740 rfl rfl (inB_in (by decide)) (by decide) rfl ?_
  refine s_dup (q := 742) dX6_init_741 rfl rfl ?_
  refine s_bipush (q := 744) (v := 18) dX6_init_742 rfl rfl ?_
  refine s_bipush (q := 746) (v := 110) dX6_init_744 rfl rfl ?_
  refine n_cast (q := 747) (k0 := 61) (j := 18) (w := 110) dX6_init_746 rfl rfl (inB_in (by decide)) (by decide) rfl ?_
  refine s_dup (q := 748) dX6_init_747 rfl rfl ?_
  refine s_bipush (q := 750) (v := 19) dX6_init_748 rfl rfl ?_
  refine s_bipush (q := 752) (v := 100) dX6_init_750 rfl rfl ?_
  refine n_cast (q := 753) (k0 := 61) (j := 19) (w := 100) dX6_init_752 rfl rfl (inB_in (by decide)) (by decide) rfl ?_
  refine s_dup (q := 754) dX6_init_753 rfl rfl ?_
  refine s_bipush (q := 756) (v := 20) dX6_init_754 rfl rfl ?_
  refine s_bipush (q := 758) (v := 32) dX6_init_756 rfl rfl ?_
  refine n_cast (q := 759) (k0 := 61) (j := 20) (w := 32) dX6_init_758 rfl rfl (inB_in (by decide)) (by decide) rfl ?_
  refine s_dup (q := 760) dX6_init_759 rfl rfl ?_
  refine s_bipush (q := 762) (v := 21) dX6_init_760 rfl rfl ?_
  refine s_bipush (q := 764) (v := 32) dX6_init_762 rfl rfl ?_
  refine n_cast (q := 765) (k0 := 61) (j := 21) (w := 32) dX6_init_764 rfl rfl (inB_in (by decide)) (by decide) rfl ?_
  refine s_dup (q := 766) dX6_init_765 rfl rfl ?_
  refine s_bipush (q := 768) (v := 22) dX6_init_766 rfl rfl ?_
  refine s_bipush (q := 770) (v := 32) dX6_init_768 rfl rfl ?_
  refine n_cast (q := 771) (k0 := 61) (j := 22) (w := 32) dX6_init_770 rfl rfl (inB_in (by decide)) (by decide) rfl ?_
  refine s_dup (q := 772) dX6_init_771 rfl rfl ?_
  refine s_bipush (q := 774) (v := 23) dX6_init_772 rfl rfl ?_
  refine s_bipush (q := 776) (v := 32) dX6_init_774 rfl rfl ?_
  refine n_cast (q := 777) (k0 := 61) (j := 23) (w := 32) dX6_init_776 rfl rfl (inB_in (by decide)) (by decide) rfl ?_
  refine s_dup (q := 778) dX6_init_777 rfl rfl ?_
  refine s_bipush (q := 780) (v := 24) dX6_init_778 rfl rfl ?_
  refine s_bipush (q := 782) (v := 112) dX6_init_780 rfl rfl ?_
  refine n_cast (q := 783) (k0 := 61) (j := 24) (w := 112) dX6_init_782 rfl rfl (inB_in (by decide)) (by decide) rfl ?_
  refine s_dup (q := 784) dX6_init_783 rfl rfl ?_
  refine s_bipush (q := 786) (v := 25) dX6_init_784 rfl rfl ?_
  refine s_bipush (q := 788) (v := 97) dX6_init_786 rfl rfl ?_
  refine n_cast (q := 789) (k0 := 61) (j := 25) (w := 97) dX6_init_788 rfl rfl (inB_in (by decide)) (by decide) rfl ?_
  refine s_dup (q := 790) dX6_init_789 rfl rfl ?_
  refine s_bipush (q := 792) (v := 26) dX6_init_790 rfl rfl ?_
  refine s_bipush (q := 794) (v := 114) dX6_init_792 rfl rfl ?_
  refine n_cast (q := 795) (k0 := 61) (j := 26) (w := 114) dX6_init_794 rfl rfl (inB_in (by decide)) (by decide) rfl ?_
  refine s_dup (q := 796) dX6_init_795 rfl rfl ?_
  refine s_bipush (q := 798) (v := 27) dX6_init_796 rfl rfl ?_
  refine s_bipush (q := 800) (v := 116) dX6_init_798 rfl rfl ?_
  refine n_cast (q := 801) (k0 := 61) (j := 27) (w := 116) dX6_init_800 rfl rfl (inB_in (by decide)) (by decide) rfl ?_
  refine s_dup (q := 802) dX6_init_801 rfl rfl ?_
  refine s_bipush (q := 804) (v := 28) dX6_init_802 rfl rfl ?_
  refine s_bipush (q := 806) (v := 115) dX6_init_804 rfl rfl ?_
  refine n_cast (q := 807) (k0 := 61) (j := 28) (w := 115) dX6_init_806 rfl rfl (inB_in (by decide)) (by decide) rfl ?_
  refine s_dup (q := 808) dX6_init_807 rfl rfl ?_
  refine s_bipush (q := 810) (v := 29) dX6_init_808 rfl rfl ?_
  refine s_bipush (q := 812) (v := 32) dX6_init_810 rfl rfl ?_
  refine n_cast (q := 813) (k0 := 61) (j := 29) (w := 32) dX6_init_812 rfl rfl (inB_in (by decide)) (by decide) rfl ?_
  refine s_dup (q := 814) dX6_init_813 rfl rfl ?_
  refine s_bipush (q := 816) (v := 30) dX6_init_814 rfl rfl ?_
  refine s_bipush (q := 818) (v := 32) dX6_init_816 rfl rfl ?_
  refine n_cast (q := 819) (k0 := 61) (j := 30) (w := 32) dX6_init_818 rfl rfl (inB_in (by decide)) (by decide) rfl ?_
  refine s_dup (q := 820) dX6_init_819 rfl rfl ?_
  refine s_bipush (q := 822) (v := 31) dX6_init_820 rfl rfl ?_
  refine s_bipush (q := 824) (v := 32) dX6_init_822 rfl rfl ?_
  refine n_cast (q := 825) (k0 := 61) (j := 31) (w := 32) dX6_init_824 rfl rfl (inB_in (by decide)) (by decide) rfl ?_
  refine s_dup (q := 826) dX6_init_825 rfl rfl ?_
  refine s_bipush (q := 828) (v := 32) dX6_init_826 rfl rfl ?_
  refine s_bipush (q := 830) (v := 99) dX6_init_828 rfl rfl ?_
  refine n_cast (q := 831) (k0 := 61) (j := 32) (w := 99) dX6_init_830 rfl rfl (inB_in (by decide)) (by decide) rfl ?_
  refine s_dup (q := 832) dX6_init_831 rfl rfl ?_
  refine s_bipush (q := 834) (v := 33) dX6_init_832 rfl rfl ?_
  refine s_bipush (q := 836) (v := 114) dX6_init_834 rfl rfl ?_
  refine n_cast (q := 837) (k0 := 61) (j := 33) (w := 114) dX6_init_836 rfl rfl (inB_in (by decide)) (by decide) rfl ?_
  refine s_dup (q := 838) dX6_init_837 rfl rfl ?_
  refine s_bipush (q := 840) (v := 34) dX6_init_838 rfl rfl ?_
  refine s_bipush (q := 842) (v := 101) dX6_init_840 rfl rfl ?_
  refine n_cast (q := 843) (k0 := 61) (j := 34) (w := 101) dX6_init_842 rfl rfl (inB_in (by decide)) (by decide) rfl ?_
  refine s_dup (q := 844) dX6_init_843 rfl rfl ?_
  refine s_bipush (q := 846) (v := 35) dX6_init_844 rfl rfl ?_
  refine s_bipush (q := 848) (v := 119) dX6_init_846 rfl rfl ?_
  refine n_cast (q := 849) (k0 := 61) (j := 35) (w := 119) dX6_init_848 rfl rfl (inB_in (by decide)) (by decide) rfl ?_
  refine s_dup (q := 850) dX6_init_849 rfl rfl ?_
  refine s_bipush (q := 852) (v := 36) dX6_init_850 rfl rfl ?_
  refine s_bipush (q := 854) (v := 32) dX6_init_852 rfl rfl ?_
  refine n_cast (q := 855) (k0 := 61) (j := 36) (w := 32) dX6_init_854 rfl rfl (inB_in (by decide)) (by decide) rfl ?_
  refine s_dup (q := 856) dX6_init_855 rfl rfl ?_
  refine s_bipush (q := 858) (v := 37) dX6_init_856 rfl rfl ?_
  refine s_bipush (q := 860) (v := 32) dX6_init_858 rfl rfl ?_
  refine n_cast (q := 861) (k0 := 61) (j := 37) (w := 32) dX6_init_860 rfl rfl (inB_in (by decide)) (by decide) rfl ?_
  refine s_dup (q := 862) dX6_init_861 rfl rfl ?_
  refine s_bipush (q := 864) (v := 38) dX6_init_862 rfl rfl ?_
  refine s_bipush (q := 866) (v := 32) dX6_init_864 rfl rfl ?_
  refine n_cast (q := 867) (k0 := 61) (j := 38) (w := 32) dX6_init_866 rfl rfl (inB_in (by decide)) (by decide) rfl ?_
  refine s_dup (q := 868) dX6_init_867 rfl rfl ?_
  refine s_bipush (q := 870) (v := 39) dX6_init_868 rfl rfl ?_
  refine s_bipush (q := 872) (v := 32) dX6_init_870 rfl rfl ?_
  refine n_cast (q := 873) (k0 := 61) (j := 39) (w := 32) dX6_init_872 rfl rfl (inB_in (by decide)) (by decide) rfl ?_
  refine s_dup (q := 874) dX6_init_873 rfl rfl ?_
  refine s_bipush (q := 876) (v := 40) dX6_init_874 rfl rfl ?_
  refine s_bipush (q := 878) (v := 115) dX6_init_876 rfl rfl ?_
  refine n_cast (q := 879) (k0 := 61) (j := 40) (w := 115) dX6_init_878 rfl rfl (inB_in (by decide)) (by decide) rfl ?_
  refine s_dup (q := 880) dX6_init_879 rfl rfl ?_
  refine s_bipush (q := 882) (v := 41) dX6_init_880 rfl rfl ?_
  refine s_bipush (q := 884) (v := 105) dX6_init_882 rfl rfl ?_
  refine n_cast (q := 885) (k0 := 61) (j := 41) (w := 105) dX6_init_884 rfl rfl (inB_in (by decide)) (by decide) rfl ?_
  refine s_dup (q := 886) dX6_init_885 rfl rfl ?_
  refine s_bipush (q := 888) (v := 42) dX6_init_886 rfl rfl ?_
  refine s_bipush (q := 890) (v := 103) dX6_init_888 rfl rfl ?_
  refine n_cast (q := 891) (k0 := 61) (j := 42) (w := 103) dX6_init_890 rfl rfl (inB_in (by decide)) (by decide) rfl ?_
  refine s_dup (q := 892) dX6_init_891 rfl rfl ?_
  refine s_bipush (q := 894) (v := 43) dX6_init_892 rfl rfl ?_
  refine s_bipush (q := 896) (v := 110) dX6_init_894 rfl rfl ?_
  refine n_cast (q := 897) (k0 := 61) (j := 43) (w := 110) dX6_init_896 rfl rfl (inB_in (by decide)) (by decide) rfl ?_
  refine s_dup (q := 898) dX6_init_897 rfl rfl ?_
  refine s_bipush (q := 900) (v := 44) dX6_init_898 rfl rfl ?_
  refine s_bipush (q := 902) (v := 32) dX6_init_900 rfl rfl ?_
  refine n_cast (q := 903) (k0 := 61) (j := 44) (w := 32) dX6_init_902 rfl rfl (inB_in (by decide)) (by decide) rfl ?_
  refine s_dup (q := 904) dX6_init_903 rfl rfl ?_
  refine s_bipush (q := 906) (v := 45) dX6_init_904 rfl rfl ?_
  refine s_bipush (q := 908) (v := 32) dX6_init_906 rfl rfl ?_
  refine n_cast (q := 909) (k0 := 61) (j := 45) (w := 32) dX6_init_908 rfl rfl (inB_in (by decide)) (by decide) rfl ?_
  refine s_dup (q := 910) dX6_init_909 rfl rfl ?_
  refine s_bipush (q := 912) (v := 46) dX6_init_910 rfl rfl ?_
  refine s_bipush (q := 914) (v := 32) dX6_init_912 rfl rfl ?_
  refine n_cast (q := 915) (k0 := 61) (j := 46) (w := 32) dX6_init_914 rfl rfl (inB_in (by decide)) (by decide) rfl ?_
  refine s_dup (q := 916) dX6_init_915 rfl rfl ?_
  refine s_bipush (q := 918) (v := 47) dX6_init_916 rfl rfl ?_
  refine s_bipush (q := 920) (v := 32) dX6_init_918 rfl rfl ?_
  refine n_cast (q := 921) (k0 := 61) (j := 47) (w := 32) dX6_init_920 rfl rfl (inB_in (by decide)) (by decide) rfl ?_
  refine n_putR (q := 924) (k0 := 51) (f := 15) (t := 61) (sh' := sh_122) dX6_init_921 rfl rfl rfl inX6 tyX6_ok nmX6 (Nat.le_of_ble_eq_true rfl) fX6_38 rfl rfl rfl (fun _ => rfl) (fun _ => rfl) (Nat.le_of_ble_eq_true rfl) rfl ?_
  refine s_aload_n (q := 925) dX6_init_924 rfl rfl 0 rfl ?_
  refine s_iconst (q := 926) (v := 4) dX6_init_925 rfl rfl ?_
  refine n_newi (q := 928) (mc := 3) (ms := 204) (n := 4) (L := 62) (sh' := sh_123) dX6_init_926 rfl (by decide) (by decide) (by decide) rfl rfl rfl ?_
  refine n_putR (q := 931) (k0 := 51) (f := 16) (t := 62) (sh' := sh_124) dX6_init_928 rfl rfl rfl inX6 tyX6_ok nmX6 (Nat.le_of_ble_eq_true rfl) fX6_41 rfl rfl rfl (fun _ => rfl) (fun _ => rfl) (Nat.le_of_ble_eq_true rfl) rfl ?_
  refine s_aload_n (q := 932) dX6_init_931 rfl rfl 0 rfl ?_
  refine s_iconst (q := 933) (v := 4) dX6_init_932 rfl rfl ?_
  refine n_newi (q := 935) (mc := 2) (ms := 200) (n := 4) (L := 63) (sh' := sh_125) dX6_init_933 rfl (by decide) (by decide) (by decide) rfl rfl rfl ?_
  refine n_putR (q := 938) (k0 := 51) (f := 17) (t := 63) (sh' := sh_126) dX6_init_935 rfl rfl rfl inX6 tyX6_ok nmX6 (Nat.le_of_ble_eq_true rfl) fX6_44 rfl rfl rfl (fun _ => rfl) (fun _ => rfl) (Nat.le_of_ble_eq_true rfl) rfl ?_
  refine s_aload_n (q := 939) dX6_init_938 rfl rfl 0 rfl ?_
  refine s_sipush (q := 942) (v := 160) dX6_init_939 rfl rfl ?_
  refine n_newi (q := 944) (mc := 1) (ms := 40) (n := 160) (L := 64) (sh' := sh_127) dX6_init_942 rfl (by decide) (by decide) (by decide) rfl rfl rfl ?_
  refine n_putR (q := 947) (k0 := 51) (f := 18) (t := 64) (sh' := sh_128) dX6_init_944 rfl rfl rfl inX6 tyX6_ok nmX6 (Nat.le_of_ble_eq_true rfl) fX6_47 rfl rfl rfl (fun _ => rfl) (fun _ => rfl) (Nat.le_of_ble_eq_true rfl) rfl ?_
  refine s_aload_n (q := 948) dX6_init_947 rfl rfl 0 rfl ?_
  refine s_bipush (q := 950) (v := 40) dX6_init_948 rfl rfl ?_
  refine n_newi (q := 952) (mc := 0) (ms := 0) (n := 40) (L := 65) (sh' := sh_129) dX6_init_950 rfl (by decide) (by decide) (by decide) rfl rfl rfl ?_
  refine n_putR (q := 955) (k0 := 51) (f := 19) (t := 65) (sh' := sh_130) dX6_init_952 rfl rfl rfl inX6 tyX6_ok nmX6 (Nat.le_of_ble_eq_true rfl) fX6_50 rfl rfl rfl (fun _ => rfl) (fun _ => rfl) (Nat.le_of_ble_eq_true rfl) rfl ?_
  refine s_aload_n (q := 956) dX6_init_955 rfl rfl 0 rfl ?_
  refine n_getR (q := 959) (k0 := 51) (f := 0) (t := 52) dX6_init_956 rfl rfl rfl rfl inX6 (Nat.le_of_ble_eq_true rfl) fX6_9 ?_
  refine s_iconst (q := 960) (v := 3) dX6_init_959 rfl rfl ?_
  refine s_iconst (q := 961) (v := 1) dX6_init_960 rfl rfl ?_
  refine n_iast (q := 962) (k0 := 52) (j := 3) dX6_init_961 rfl rfl (inB_in (by decide)) (by decide) ?_
  refine s_aload_n (q := 963) dX6_init_962 rfl rfl 0 rfl ?_
  refine n_getR (q := 966) (k0 := 51) (f := 0) (t := 52) dX6_init_963 rfl rfl rfl rfl inX6 (Nat.le_of_ble_eq_true rfl) fX6_9 ?_
  refine s_iconst (q := 967) (v := 4) dX6_init_966 rfl rfl ?_
  refine s_iconst (q := 968) (v := 1) dX6_init_967 rfl rfl ?_
  refine n_iast (q := 969) (k0 := 52) (j := 4) dX6_init_968 rfl rfl (inB_in (by decide)) (by decide) ?_
  refine s_aload_n (q := 970) dX6_init_969 rfl rfl 0 rfl ?_
  refine n_getR (q := 973) (k0 := 51) (f := 0) (t := 52) dX6_init_970 rfl rfl rfl rfl inX6 (Nat.le_of_ble_eq_true rfl) fX6_9 ?_
  refine s_bipush (q := 975) (v := 6) dX6_init_973 rfl rfl ?_
  refine s_iconst (q := 976) (v := 5) dX6_init_975 rfl rfl ?_
  refine n_iast (q := 977) (k0 := 52) (j := 6) dX6_init_976 rfl rfl (inB_in (by decide)) (by decide) ?_
  refine s_aload_n (q := 978) dX6_init_977 rfl rfl 0 rfl ?_
  refine n_getR (q := 981) (k0 := 51) (f := 0) (t := 52) dX6_init_978 rfl rfl rfl rfl inX6 (Nat.le_of_ble_eq_true rfl) fX6_9 ?_
  refine s_bipush (q := 983) (v := 7) dX6_init_981 rfl rfl ?_
  refine s_bipush (q := 985) (v := 20) dX6_init_983 rfl rfl ?_
  refine n_iast (q := 986) (k0 := 52) (j := 7) dX6_init_985 rfl rfl (inB_in (by decide)) (by decide) ?_
  refine s_iconst (q := 987) (v := 0) dX6_init_986 rfl rfl ?_
  refine s_istore_n (q := 988) (lv' := [(1, .int 0), (0, .ref (eB E + 51))]) dX6_init_987 rfl rfl (Nat.le_of_ble_eq_true rfl) rfl ?_
  refine s_iload_n (q := 989) dX6_init_988 rfl rfl 0 rfl ?_
  refine s_iconst (q := 990) (v := 4) dX6_init_989 rfl rfl ?_
  refine s_icmp_ge (q := 993) (tgt := 1014) dX6_init_990 rfl rfl (fun hb => absurd hb (by decide)) (fun _ => ?_)
  refine s_aload_n (q := 994) dX6_init_993 rfl rfl 1 rfl ?_
  refine n_getR (q := 997) (k0 := 51) (f := 0) (t := 52) dX6_init_994 rfl rfl rfl rfl inX6 (Nat.le_of_ble_eq_true rfl) fX6_9 ?_
  refine s_bipush (q := 999) (v := 8) dX6_init_997 rfl rfl ?_
  refine s_iconst (q := 1000) (v := 2) dX6_init_999 rfl rfl ?_
  refine s_iload_n (q := 1001) dX6_init_1000 rfl rfl 0 rfl ?_
  refine s_imul (q := 1002) dX6_init_1001 rfl ?_
  refine s_iadd (q := 1003) dX6_init_1002 rfl ?_
  refine s_iconst (q := 1004) (v := 1) dX6_init_1003 rfl rfl ?_
  refine s_iadd (q := 1005) dX6_init_1004 rfl ?_
  refine s_bipush (q := 1007) (v := 60) dX6_init_1005 rfl rfl ?_
  refine n_iast (q := 1008) (k0 := 52) (j := 9) dX6_init_1007 rfl rfl (inB_in (by decide)) (by decide) ?_
  refine s_iinc (q := 1011) (j := 0) (v := 1) (lv' := [(1, .int 1), (0, .ref (eB E + 51))]) dX6_init_1008 rfl rfl rfl (Nat.le_of_ble_eq_true rfl) rfl ?_
  refine s_goto (tgt := 988) dX6_init_1011 rfl ?_
  refine s_iload_n (q := 989) dX6_init_988 rfl rfl 0 rfl ?_
  refine s_iconst (q := 990) (v := 4) dX6_init_989 rfl rfl ?_
  refine s_icmp_ge (q := 993) (tgt := 1014) dX6_init_990 rfl rfl (fun hb => absurd hb (by decide)) (fun _ => ?_)
  refine s_aload_n (q := 994) dX6_init_993 rfl rfl 1 rfl ?_
  refine n_getR (q := 997) (k0 := 51) (f := 0) (t := 52) dX6_init_994 rfl rfl rfl rfl inX6 (Nat.le_of_ble_eq_true rfl) fX6_9 ?_
  refine s_bipush (q := 999) (v := 8) dX6_init_997 rfl rfl ?_
  refine s_iconst (q := 1000) (v := 2) dX6_init_999 rfl rfl ?_
  refine s_iload_n (q := 1001) dX6_init_1000 rfl rfl 0 rfl ?_
  refine s_imul (q := 1002) dX6_init_1001 rfl ?_
  refine s_iadd (q := 1003) dX6_init_1002 rfl ?_
  refine s_iconst (q := 1004) (v := 1) dX6_init_1003 rfl rfl ?_
  refine s_iadd (q := 1005) dX6_init_1004 rfl ?_
  refine s_bipush (q := 1007) (v := 60) dX6_init_1005 rfl rfl ?_
  refine n_iast (q := 1008) (k0 := 52) (j := 11) dX6_init_1007 rfl rfl (inB_in (by decide)) (by decide) ?_
  refine s_iinc (q := 1011) (j := 0) (v := 2) (lv' := [(1, .int 2), (0, .ref (eB E + 51))]) dX6_init_1008 rfl rfl rfl (Nat.le_of_ble_eq_true rfl) rfl ?_
  refine s_goto (tgt := 988) dX6_init_1011 rfl ?_
  refine s_iload_n (q := 989) dX6_init_988 rfl rfl 0 rfl ?_
  refine s_iconst (q := 990) (v := 4) dX6_init_989 rfl rfl ?_
  refine s_icmp_ge (q := 993) (tgt := 1014) dX6_init_990 rfl rfl (fun hb => absurd hb (by decide)) (fun _ => ?_)
  refine s_aload_n (q := 994) dX6_init_993 rfl rfl 1 rfl ?_
  refine n_getR (q := 997) (k0 := 51) (f := 0) (t := 52) dX6_init_994 rfl rfl rfl rfl inX6 (Nat.le_of_ble_eq_true rfl) fX6_9 ?_
  refine s_bipush (q := 999) (v := 8) dX6_init_997 rfl rfl ?_
  refine s_iconst (q := 1000) (v := 2) dX6_init_999 rfl rfl ?_
  refine s_iload_n (q := 1001) dX6_init_1000 rfl rfl 0 rfl ?_
  refine s_imul (q := 1002) dX6_init_1001 rfl ?_
  refine s_iadd (q := 1003) dX6_init_1002 rfl ?_
  refine s_iconst (q := 1004) (v := 1) dX6_init_1003 rfl rfl ?_
  refine s_iadd (q := 1005) dX6_init_1004 rfl ?_
  refine s_bipush (q := 1007) (v := 60) dX6_init_1005 rfl rfl ?_
  refine n_iast (q := 1008) (k0 := 52) (j := 13) dX6_init_1007 rfl rfl (inB_in (by decide)) (by decide) ?_
  refine s_iinc (q := 1011) (j := 0) (v := 3) (lv' := [(1, .int 3), (0, .ref (eB E + 51))]) dX6_init_1008 rfl rfl rfl (Nat.le_of_ble_eq_true rfl) rfl ?_
  refine s_goto (tgt := 988) dX6_init_1011 rfl ?_
  refine s_iload_n (q := 989) dX6_init_988 rfl rfl 0 rfl ?_
  refine s_iconst (q := 990) (v := 4) dX6_init_989 rfl rfl ?_
  refine s_icmp_ge (q := 993) (tgt := 1014) dX6_init_990 rfl rfl (fun hb => absurd hb (by decide)) (fun _ => ?_)
  refine s_aload_n (q := 994) dX6_init_993 rfl rfl 1 rfl ?_
  refine n_getR (q := 997) (k0 := 51) (f := 0) (t := 52) dX6_init_994 rfl rfl rfl rfl inX6 (Nat.le_of_ble_eq_true rfl) fX6_9 ?_
  refine s_bipush (q := 999) (v := 8) dX6_init_997 rfl rfl ?_
  refine s_iconst (q := 1000) (v := 2) dX6_init_999 rfl rfl ?_
  refine s_iload_n (q := 1001) dX6_init_1000 rfl rfl 0 rfl ?_
  refine s_imul (q := 1002) dX6_init_1001 rfl ?_
  refine s_iadd (q := 1003) dX6_init_1002 rfl ?_
  refine s_iconst (q := 1004) (v := 1) dX6_init_1003 rfl rfl ?_
  refine s_iadd (q := 1005) dX6_init_1004 rfl ?_
  refine s_bipush (q := 1007) (v := 60) dX6_init_1005 rfl rfl ?_
  refine n_iast (q := 1008) (k0 := 52) (j := 15) dX6_init_1007 rfl rfl (inB_in (by decide)) (by decide) ?_
  refine s_iinc (q := 1011) (j := 0) (v := 4) (lv' := [(1, .int 4), (0, .ref (eB E + 51))]) dX6_init_1008 rfl rfl rfl (Nat.le_of_ble_eq_true rfl) rfl ?_
  refine s_goto (tgt := 988) dX6_init_1011 rfl ?_
  refine s_iload_n (q := 989) dX6_init_988 rfl rfl 0 rfl ?_
  refine s_iconst (q := 990) (v := 4) dX6_init_989 rfl rfl ?_
  refine s_icmp_ge (q := 993) (tgt := 1014) dX6_init_990 rfl rfl (fun _ => ?_) (fun hb => absurd (by decide) hb)
  refine s_iconst (q := 1015) (v := 0) dX6_init_1014 rfl rfl ?_
  refine s_istore_n (q := 1016) (lv' := [(1, .int 0), (0, .ref (eB E + 51))]) dX6_init_1015 rfl rfl (Nat.le_of_ble_eq_true rfl) rfl ?_
  refine s_iload_n (q := 1017) dX6_init_1016 rfl rfl 0 rfl ?_
  refine s_bipush (q := 1019) (v := 10) dX6_init_1017 rfl rfl ?_
  refine s_icmp_ge (q := 1022) (tgt := 1038) dX6_init_1019 rfl rfl (fun hb => absurd hb (by decide)) (fun _ => ?_)
  refine s_aload_n (q := 1023) dX6_init_1022 rfl rfl 1 rfl ?_
  refine n_getR (q := 1026) (k0 := 51) (f := 0) (t := 52) dX6_init_1023 rfl rfl rfl rfl inX6 (Nat.le_of_ble_eq_true rfl) fX6_9 ?_
  refine s_bipush (q := 1028) (v := 62) dX6_init_1026 rfl rfl ?_
  refine s_iload_n (q := 1029) dX6_init_1028 rfl rfl 0 rfl ?_
  refine s_iadd (q := 1030) dX6_init_1029 rfl ?_
  refine s_iconst (q := 1031) (v := (-1)) dX6_init_1030 rfl rfl ?_
  refine n_iast (q := 1032) (k0 := 52) (j := 62) dX6_init_1031 rfl rfl (inB_in (by decide)) (by decide) ?_
  refine s_iinc (q := 1035) (j := 0) (v := 1) (lv' := [(1, .int 1), (0, .ref (eB E + 51))]) dX6_init_1032 rfl rfl rfl (Nat.le_of_ble_eq_true rfl) rfl ?_
  refine s_goto (tgt := 1016) dX6_init_1035 rfl ?_
  refine s_iload_n (q := 1017) dX6_init_1016 rfl rfl 0 rfl ?_
  refine s_bipush (q := 1019) (v := 10) dX6_init_1017 rfl rfl ?_
  refine s_icmp_ge (q := 1022) (tgt := 1038) dX6_init_1019 rfl rfl (fun hb => absurd hb (by decide)) (fun _ => ?_)
  refine s_aload_n (q := 1023) dX6_init_1022 rfl rfl 1 rfl ?_
  refine n_getR (q := 1026) (k0 := 51) (f := 0) (t := 52) dX6_init_1023 rfl rfl rfl rfl inX6 (Nat.le_of_ble_eq_true rfl) fX6_9 ?_
  refine s_bipush (q := 1028) (v := 62) dX6_init_1026 rfl rfl ?_
  refine s_iload_n (q := 1029) dX6_init_1028 rfl rfl 0 rfl ?_
  refine s_iadd (q := 1030) dX6_init_1029 rfl ?_
  refine s_iconst (q := 1031) (v := (-1)) dX6_init_1030 rfl rfl ?_
  refine n_iast (q := 1032) (k0 := 52) (j := 63) dX6_init_1031 rfl rfl (inB_in (by decide)) (by decide) ?_
  refine s_iinc (q := 1035) (j := 0) (v := 2) (lv' := [(1, .int 2), (0, .ref (eB E + 51))]) dX6_init_1032 rfl rfl rfl (Nat.le_of_ble_eq_true rfl) rfl ?_
  refine s_goto (tgt := 1016) dX6_init_1035 rfl ?_
  refine s_iload_n (q := 1017) dX6_init_1016 rfl rfl 0 rfl ?_
  refine s_bipush (q := 1019) (v := 10) dX6_init_1017 rfl rfl ?_
  refine s_icmp_ge (q := 1022) (tgt := 1038) dX6_init_1019 rfl rfl (fun hb => absurd hb (by decide)) (fun _ => ?_)
  refine s_aload_n (q := 1023) dX6_init_1022 rfl rfl 1 rfl ?_
  refine n_getR (q := 1026) (k0 := 51) (f := 0) (t := 52) dX6_init_1023 rfl rfl rfl rfl inX6 (Nat.le_of_ble_eq_true rfl) fX6_9 ?_
  refine s_bipush (q := 1028) (v := 62) dX6_init_1026 rfl rfl ?_
  refine s_iload_n (q := 1029) dX6_init_1028 rfl rfl 0 rfl ?_
  refine s_iadd (q := 1030) dX6_init_1029 rfl ?_
  refine s_iconst (q := 1031) (v := (-1)) dX6_init_1030 rfl rfl ?_
  refine n_iast (q := 1032) (k0 := 52) (j := 64) dX6_init_1031 rfl rfl (inB_in (by decide)) (by decide) ?_
  refine s_iinc (q := 1035) (j := 0) (v := 3) (lv' := [(1, .int 3), (0, .ref (eB E + 51))]) dX6_init_1032 rfl rfl rfl (Nat.le_of_ble_eq_true rfl) rfl ?_
  refine s_goto (tgt := 1016) dX6_init_1035 rfl ?_
  refine s_iload_n (q := 1017) dX6_init_1016 rfl rfl 0 rfl ?_
  refine s_bipush (q := 1019) (v := 10) dX6_init_1017 rfl rfl ?_
  refine s_icmp_ge (q := 1022) (tgt := 1038) dX6_init_1019 rfl rfl (fun hb => absurd hb (by decide)) (fun _ => ?_)
  refine s_aload_n (q := 1023) dX6_init_1022 rfl rfl 1 rfl ?_
  refine n_getR (q := 1026) (k0 := 51) (f := 0) (t := 52) dX6_init_1023 rfl rfl rfl rfl inX6 (Nat.le_of_ble_eq_true rfl) fX6_9 ?_
  refine s_bipush (q := 1028) (v := 62) dX6_init_1026 rfl rfl ?_
  refine s_iload_n (q := 1029) dX6_init_1028 rfl rfl 0 rfl ?_
  refine s_iadd (q := 1030) dX6_init_1029 rfl ?_
  refine s_iconst (q := 1031) (v := (-1)) dX6_init_1030 rfl rfl ?_
  refine n_iast (q := 1032) (k0 := 52) (j := 65) dX6_init_1031 rfl rfl (inB_in (by decide)) (by decide) ?_
  refine s_iinc (q := 1035) (j := 0) (v := 4) (lv' := [(1, .int 4), (0, .ref (eB E + 51))]) dX6_init_1032 rfl rfl rfl (Nat.le_of_ble_eq_true rfl) rfl ?_
  refine s_goto (tgt := 1016) dX6_init_1035 rfl ?_
  refine s_iload_n (q := 1017) dX6_init_1016 rfl rfl 0 rfl ?_
  refine s_bipush (q := 1019) (v := 10) dX6_init_1017 rfl rfl ?_
  refine s_icmp_ge (q := 1022) (tgt := 1038) dX6_init_1019 rfl rfl (fun hb => absurd hb (by decide)) (fun _ => ?_)
  refine s_aload_n (q := 1023) dX6_init_1022 rfl rfl 1 rfl ?_
  refine n_getR (q := 1026) (k0 := 51) (f := 0) (t := 52) dX6_init_1023 rfl rfl rfl rfl inX6 (Nat.le_of_ble_eq_true rfl) fX6_9 ?_
  refine s_bipush (q := 1028) (v := 62) dX6_init_1026 rfl rfl ?_
  refine s_iload_n (q := 1029) dX6_init_1028 rfl rfl 0 rfl ?_
  refine s_iadd (q := 1030) dX6_init_1029 rfl ?_
  refine s_iconst (q := 1031) (v := (-1)) dX6_init_1030 rfl rfl ?_
  refine n_iast (q := 1032) (k0 := 52) (j := 66) dX6_init_1031 rfl rfl (inB_in (by decide)) (by decide) ?_
  refine s_iinc (q := 1035) (j := 0) (v := 5) (lv' := [(1, .int 5), (0, .ref (eB E + 51))]) dX6_init_1032 rfl rfl rfl (Nat.le_of_ble_eq_true rfl) rfl ?_
  refine s_goto (tgt := 1016) dX6_init_1035 rfl ?_
  refine s_iload_n (q := 1017) dX6_init_1016 rfl rfl 0 rfl ?_
  refine s_bipush (q := 1019) (v := 10) dX6_init_1017 rfl rfl ?_
  refine s_icmp_ge (q := 1022) (tgt := 1038) dX6_init_1019 rfl rfl (fun hb => absurd hb (by decide)) (fun _ => ?_)
  refine s_aload_n (q := 1023) dX6_init_1022 rfl rfl 1 rfl ?_
  refine n_getR (q := 1026) (k0 := 51) (f := 0) (t := 52) dX6_init_1023 rfl rfl rfl rfl inX6 (Nat.le_of_ble_eq_true rfl) fX6_9 ?_
  refine s_bipush (q := 1028) (v := 62) dX6_init_1026 rfl rfl ?_
  refine s_iload_n (q := 1029) dX6_init_1028 rfl rfl 0 rfl ?_
  refine s_iadd (q := 1030) dX6_init_1029 rfl ?_
  refine s_iconst (q := 1031) (v := (-1)) dX6_init_1030 rfl rfl ?_
  refine n_iast (q := 1032) (k0 := 52) (j := 67) dX6_init_1031 rfl rfl (inB_in (by decide)) (by decide) ?_
  refine s_iinc (q := 1035) (j := 0) (v := 6) (lv' := [(1, .int 6), (0, .ref (eB E + 51))]) dX6_init_1032 rfl rfl rfl (Nat.le_of_ble_eq_true rfl) rfl ?_
  refine s_goto (tgt := 1016) dX6_init_1035 rfl ?_
  refine s_iload_n (q := 1017) dX6_init_1016 rfl rfl 0 rfl ?_
  refine s_bipush (q := 1019) (v := 10) dX6_init_1017 rfl rfl ?_
  refine s_icmp_ge (q := 1022) (tgt := 1038) dX6_init_1019 rfl rfl (fun hb => absurd hb (by decide)) (fun _ => ?_)
  refine s_aload_n (q := 1023) dX6_init_1022 rfl rfl 1 rfl ?_
  refine n_getR (q := 1026) (k0 := 51) (f := 0) (t := 52) dX6_init_1023 rfl rfl rfl rfl inX6 (Nat.le_of_ble_eq_true rfl) fX6_9 ?_
  refine s_bipush (q := 1028) (v := 62) dX6_init_1026 rfl rfl ?_
  refine s_iload_n (q := 1029) dX6_init_1028 rfl rfl 0 rfl ?_
  refine s_iadd (q := 1030) dX6_init_1029 rfl ?_
  refine s_iconst (q := 1031) (v := (-1)) dX6_init_1030 rfl rfl ?_
  refine n_iast (q := 1032) (k0 := 52) (j := 68) dX6_init_1031 rfl rfl (inB_in (by decide)) (by decide) ?_
  refine s_iinc (q := 1035) (j := 0) (v := 7) (lv' := [(1, .int 7), (0, .ref (eB E + 51))]) dX6_init_1032 rfl rfl rfl (Nat.le_of_ble_eq_true rfl) rfl ?_
  refine s_goto (tgt := 1016) dX6_init_1035 rfl ?_
  refine s_iload_n (q := 1017) dX6_init_1016 rfl rfl 0 rfl ?_
  refine s_bipush (q := 1019) (v := 10) dX6_init_1017 rfl rfl ?_
  refine s_icmp_ge (q := 1022) (tgt := 1038) dX6_init_1019 rfl rfl (fun hb => absurd hb (by decide)) (fun _ => ?_)
  refine s_aload_n (q := 1023) dX6_init_1022 rfl rfl 1 rfl ?_
  refine n_getR (q := 1026) (k0 := 51) (f := 0) (t := 52) dX6_init_1023 rfl rfl rfl rfl inX6 (Nat.le_of_ble_eq_true rfl) fX6_9 ?_
  refine s_bipush (q := 1028) (v := 62) dX6_init_1026 rfl rfl ?_
  refine s_iload_n (q := 1029) dX6_init_1028 rfl rfl 0 rfl ?_
  refine s_iadd (q := 1030) dX6_init_1029 rfl ?_
  refine s_iconst (q := 1031) (v := (-1)) dX6_init_1030 rfl rfl ?_
  refine n_iast (q := 1032) (k0 := 52) (j := 69) dX6_init_1031 rfl rfl (inB_in (by decide)) (by decide) ?_
  refine s_iinc (q := 1035) (j := 0) (v := 8) (lv' := [(1, .int 8), (0, .ref (eB E + 51))]) dX6_init_1032 rfl rfl rfl (Nat.le_of_ble_eq_true rfl) rfl ?_
  refine s_goto (tgt := 1016) dX6_init_1035 rfl ?_
  refine s_iload_n (q := 1017) dX6_init_1016 rfl rfl 0 rfl ?_
  refine s_bipush (q := 1019) (v := 10) dX6_init_1017 rfl rfl ?_
  refine s_icmp_ge (q := 1022) (tgt := 1038) dX6_init_1019 rfl rfl (fun hb => absurd hb (by decide)) (fun _ => ?_)
  refine s_aload_n (q := 1023) dX6_init_1022 rfl rfl 1 rfl ?_
  refine n_getR (q := 1026) (k0 := 51) (f := 0) (t := 52) dX6_init_1023 rfl rfl rfl rfl inX6 (Nat.le_of_ble_eq_true rfl) fX6_9 ?_
  refine s_bipush (q := 1028) (v := 62) dX6_init_1026 rfl rfl ?_
  refine s_iload_n (q := 1029) dX6_init_1028 rfl rfl 0 rfl ?_
  refine s_iadd (q := 1030) dX6_init_1029 rfl ?_
  refine s_iconst (q := 1031) (v := (-1)) dX6_init_1030 rfl rfl ?_
  refine n_iast (q := 1032) (k0 := 52) (j := 70) dX6_init_1031 rfl rfl (inB_in (by decide)) (by decide) ?_
  refine s_iinc (q := 1035) (j := 0) (v := 9) (lv' := [(1, .int 9), (0, .ref (eB E + 51))]) dX6_init_1032 rfl rfl rfl (Nat.le_of_ble_eq_true rfl) rfl ?_
  refine s_goto (tgt := 1016) dX6_init_1035 rfl ?_
  refine s_iload_n (q := 1017) dX6_init_1016 rfl rfl 0 rfl ?_
  refine s_bipush (q := 1019) (v := 10) dX6_init_1017 rfl rfl ?_
  refine s_icmp_ge (q := 1022) (tgt := 1038) dX6_init_1019 rfl rfl (fun hb => absurd hb (by decide)) (fun _ => ?_)
  refine s_aload_n (q := 1023) dX6_init_1022 rfl rfl 1 rfl ?_
  refine n_getR (q := 1026) (k0 := 51) (f := 0) (t := 52) dX6_init_1023 rfl rfl rfl rfl inX6 (Nat.le_of_ble_eq_true rfl) fX6_9 ?_
  refine s_bipush (q := 1028) (v := 62) dX6_init_1026 rfl rfl ?_
  refine s_iload_n (q := 1029) dX6_init_1028 rfl rfl 0 rfl ?_
  refine s_iadd (q := 1030) dX6_init_1029 rfl ?_
  refine s_iconst (q := 1031) (v := (-1)) dX6_init_1030 rfl rfl ?_
  refine n_iast (q := 1032) (k0 := 52) (j := 71) dX6_init_1031 rfl rfl (inB_in (by decide)) (by decide) ?_
  refine s_iinc (q := 1035) (j := 0) (v := 10) (lv' := [(1, .int 10), (0, .ref (eB E + 51))]) dX6_init_1032 rfl rfl rfl (Nat.le_of_ble_eq_true rfl) rfl ?_
  refine s_goto (tgt := 1016) dX6_init_1035 rfl ?_
  refine s_iload_n (q := 1017) dX6_init_1016 rfl rfl 0 rfl ?_
  refine s_bipush (q := 1019) (v := 10) dX6_init_1017 rfl rfl ?_
  refine s_icmp_ge (q := 1022) (tgt := 1038) dX6_init_1019 rfl rfl (fun _ => ?_) (fun hb => absurd (by decide) hb)
  exact s_vret dX6_init_1038 rfl (fun h => h) K
set_option maxRecDepth 100000 in
theorem hN_C (E : EV) : hN sh_130 E S_12 = hC E S_12 := by
  apply List.ext_getElem?
  intro i
  by_cases hl : i < 66
  · match i, hl with
    | 0, _ => rfl
    | 1, _ => rfl
    | 2, _ => rfl
    | 3, _ => rfl
    | 4, _ => rfl
    | 5, _ => rfl
    | 6, _ => rfl
    | 7, _ => rfl
    | 8, _ => rfl
    | 9, _ => rfl
    | 10, _ => rfl
    | 11, _ => rfl
    | 12, _ => rfl
    | 13, _ => rfl
    | 14, _ => rfl
    | 15, _ => rfl
    | 16, _ => rfl
    | 17, _ => rfl
    | 18, _ => rfl
    | 19, _ => rfl
    | 20, _ => rfl
    | 21, _ => rfl
    | 22, _ => rfl
    | 23, _ => rfl
    | 24, _ => rfl
    | 25, _ => rfl
    | 26, _ => rfl
    | 27, _ => rfl
    | 28, _ => rfl
    | 29, _ => rfl
    | 30, _ => rfl
    | 31, _ => rfl
    | 32, _ => rfl
    | 33, _ => rfl
    | 34, _ =>
      have e : (fun i : Nat => (([some 43, some 45, some 47, some 49] : List (Option Nat)).getD i none).map (fun t => eB E + t)) = (fun i : Nat => (([43, 45, 47, 49] : List Nat)[i]?).map (fun t => eB E + t)) := by
        funext i
        match i with
        | 0 => rfl
        | 1 => rfl
        | 2 => rfl
        | 3 => rfl
        | i + 4 => rfl
      rw [hN_at (x := .inr (.inr [some 43, some 45, some 47, some 49])) rfl, hC_at (x := .inr (.inr [43, 45, 47, 49])) rfl]
      simp only [cellN, cellOf, e]
      rfl
    | 35, _ => rfl
    | 36, _ => rfl
    | 37, _ => rfl
    | 38, _ => rfl
    | 39, _ => rfl
    | 40, _ => rfl
    | 41, _ => rfl
    | 42, _ => rfl
    | 43, _ => rfl
    | 44, _ => rfl
    | 45, _ => rfl
    | 46, _ => rfl
    | 47, _ => rfl
    | 48, _ => rfl
    | 49, _ => rfl
    | 50, _ => rfl
    | 51, _ => rfl
    | 52, _ => rfl
    | 53, _ => rfl
    | 54, _ => rfl
    | 55, _ => rfl
    | 56, _ => rfl
    | 57, _ => rfl
    | 58, _ => rfl
    | 59, _ => rfl
    | 60, _ => rfl
    | 61, _ => rfl
    | 62, _ => rfl
    | 63, _ => rfl
    | 64, _ => rfl
    | 65, _ => rfl
    | i + 66, h => omega
  · rw [List.getElem?_eq_none (by rw [hN_len]; exact Nat.le_of_not_lt hl), List.getElem?_eq_none (by rw [hC_len]; exact Nat.le_of_not_lt hl)]
set_option maxHeartbeats 8000000 in
set_option maxRecDepth 100000 in
theorem law_start (E : EV) {xb : Nat} {Q : Option Value → ST → Prop} (K : SS E mL_law 18 [(0, .ref xb), (1, .ref (eB E + 0)), (2, .ref (eB E + 51)), (3, .int 0)] [] S_12 Q) : SA E mL_law true false 66 1347 0 [(0, .ref xb)] [] [] (QS E Q) := by
  show SA E mL_law true false 66 1347 0 [(0, .ref xb)] [] (hN sh_0 E S_0) (QS E Q)
  refine n_new (q := 3) (mc := 65) (ms := 1337) (L := 0) (fl := [2, 2, 2, 0, 2, 2, 2, 2, 2, 2]) (sh' := sh_1) (ty0 := tyX5) dL_law_0 rfl rfl inX5 tyX5_ok cL_7 qX5 nX5 rfl (fun j hj => by rcases (show j = 0 ∨ j = 1 ∨ j = 2 ∨ j = 3 ∨ j = 4 ∨ j = 5 ∨ j = 6 ∨ j = 7 ∨ j = 8 ∨ j = 9 by omega) with rfl | rfl | rfl | rfl | rfl | rfl | rfl | rfl | rfl | rfl <;> rfl) rfl ?_
  refine s_dup (q := 4) dL_law_3 rfl rfl ?_
  refine s_callI (q := 7) (N := mX5_init) (a := eB E + 0) (mc1 := 50) (ms1 := 611) (mc := 15) (ms := 726) [] dL_law_4 rfl nkX5_init iX5_init rfl rfl lL_9 ⟨Nat.le_of_ble_eq_true rfl, Nat.le_of_ble_eq_true rfl⟩ rfl rfl (Nat.le_of_ble_eq_true rfl) (Nat.le_of_ble_eq_true rfl) (C_1 E ?_)
  refine s_astore_n (q := 8) (lv' := [(1, .ref (eB E + 0)), (0, .ref xb)]) dL_law_7 rfl rfl (Nat.le_of_ble_eq_true rfl) rfl ?_
  refine n_new (q := 11) (mc := 14) (ms := 706) (L := 51) (fl := [2, 2, 2, 0, 2, 2, 2, 0, 0, 0, 0, 1, 2, 2, 2, 2, 2, 2, 2, 2]) (sh' := sh_102) (ty0 := tyX6) dL_law_8 rfl rfl inX6 tyX6_ok cL_10 qX6 nX6 rfl (fun j hj => by rcases (show j = 0 ∨ j = 1 ∨ j = 2 ∨ j = 3 ∨ j = 4 ∨ j = 5 ∨ j = 6 ∨ j = 7 ∨ j = 8 ∨ j = 9 ∨ j = 10 ∨ j = 11 ∨ j = 12 ∨ j = 13 ∨ j = 14 ∨ j = 15 ∨ j = 16 ∨ j = 17 ∨ j = 18 ∨ j = 19 by omega) with rfl | rfl | rfl | rfl | rfl | rfl | rfl | rfl | rfl | rfl | rfl | rfl | rfl | rfl | rfl | rfl | rfl | rfl | rfl | rfl <;> rfl) rfl ?_
  refine s_dup (q := 12) dL_law_11 rfl rfl ?_
  refine s_callI (q := 15) (N := mX6_init) (a := eB E + 51) (mc1 := 14) (ms1 := 706) (mc := 0) (ms := 0) [] dL_law_12 rfl nkX6_init iX6_init rfl rfl lL_12 ⟨Nat.le_of_ble_eq_true rfl, Nat.le_of_ble_eq_true rfl⟩ rfl rfl (Nat.le_of_ble_eq_true rfl) (Nat.le_of_ble_eq_true rfl) (C_13 E ?_)
  refine s_astore_n (q := 16) (lv' := [(2, .ref (eB E + 51)), (1, .ref (eB E + 0)), (0, .ref xb)]) dL_law_15 rfl rfl (Nat.le_of_ble_eq_true rfl) rfl ?_
  refine s_iconst (q := 17) (v := 0) dL_law_16 rfl rfl ?_
  refine s_istore_n (q := 18) (lv' := [(3, .int 0), (2, .ref (eB E + 51)), (1, .ref (eB E + 0)), (0, .ref xb)]) dL_law_17 rfl rfl (Nat.le_of_ble_eq_true rfl) rfl ?_
  show SA E mL_law true false 0 0 18 _ _ (hN sh_130 E S_12) _
  rw [hN_C]
  exact SA.weak (t_sub [3, 2, 1, 0] rfl K)
