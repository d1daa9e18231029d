/-! THE LAW'S LOOP -/
theorem stepOk {f g F : ST → Option (Int32 × ST)} (ho : Ok f g) {S : ST} (h : Inv S) (hF : ∀ T, Inv T → ∃ S', F T = some (1, S')) : ∃ S', ((f S).bind fun q6 => (g q6.2).bind fun q9 => if q6.1 = q9.1 then F q9.2 else some (0, q9.2)) = some (1, S') := by
  obtain ⟨r, S1, S2, e1, e2, e3⟩ := ho S h
  rw [e1, bndS]
  simp only []
  rw [e2, bndS]
  simp only [if_true]
  exact hF S2 e3
theorem stepOkL {f g : ST → Option (Int64 × ST)} {F : ST → Option (Int32 × ST)} (ho : OkL f g) {S : ST} (h : Inv S) (hF : ∀ T, Inv T → ∃ S', F T = some (1, S')) : ∃ S', ((f S).bind fun q6 => (g q6.2).bind fun q9 => if lg_cmp q6.1 q9.1 = 0 then F q9.2 else some (0, q9.2)) = some (1, S') := by
  obtain ⟨r, S1, S2, e1, e2, e3⟩ := ho S h
  rw [e1, bndS]
  simp only []
  rw [e2, bndS]
  simp only [lg_cmp_eq, if_true]
  exact hF S2 e3
theorem cl4 {k : Nat} (h : k < 4000) : (nI k).toNatClampNeg = k := nI_clamp (by omega)
set_option maxRecDepth 20000 in
set_option maxHeartbeats 4000000 in
theorem law_all (xs : Nat → Int32) (L : Nat) (hL : L ≤ 3072) : ∀ (n k : Nat) (S : ST), Inv S → k ≤ L + 6 → L + 6 - k < 6 * n → ∃ S', G_L_law_18 xs L n (nI k) S = some (1, S') := by
  intro n
  induction n with
  | zero =>
    intro k S h h1 h2
    omega
  | succ n ih =>
    intro k S h h1 h2
    unfold G_L_law_18
    by_cases hk : L < k + 6
    · have hlt : (Int32.ofNat L) - 6 < nI k := by
        show nI L - nI 6 < nI k
        by_cases h6 : 6 ≤ L
        · rw [pk_sub h6]
          exact nI_lt (by omega) (by omega)
        · have h7 := pk_sneg (a := L) (b := 6) (by decide) (by omega)
          have h8 := nI_pos' (n := k) (by omega)
          generalize nI L - nI 6 = x at *
          generalize nI k = y at *
          grind
      rw [if_pos hlt]
      exact ⟨S, rfl⟩
    · have hlt : ¬ (Int32.ofNat L) - 6 < nI k := by
        show ¬ nI L - nI 6 < nI k
        rw [pk_sub (by omega)]
        exact nI_nlt (by omega) (by omega)
      have b0 : inB (nI k) L = true := inB_nI (by omega) (by omega)
      have b1 : inB (nI k + 1) L = true := by rw [nI_1]; exact inB_nI (by omega) (by omega)
      have b2 : inB (nI k + 2) L = true := by rw [show nI k + 2 = nI (k + 2) from nI_add k 2]; exact inB_nI (by omega) (by omega)
      have b3 : inB (nI k + 3) L = true := by rw [show nI k + 3 = nI (k + 3) from nI_add k 3]; exact inB_nI (by omega) (by omega)
      have b4 : inB (nI k + 4) L = true := by rw [show nI k + 4 = nI (k + 4) from nI_add k 4]; exact inB_nI (by omega) (by omega)
      have b5 : inB (nI k + 5) L = true := by rw [show nI k + 5 = nI (k + 5) from nI_add k 5]; exact inB_nI (by omega) (by omega)
      have hF : ∀ T, Inv T → ∃ S', G_L_law_18 xs L n (nI k + 6) T = some (1, S') := by
        intro T hT
        rw [show nI k + 6 = nI (k + 6) from nI_add k 6]
        exact ih (k + 6) T hT (by omega) (by omega)
      rw [if_neg hlt, if_pos b0]
      generalize (nI k).toNatClampNeg = i0
      generalize xs i0 &&& 63 = X
      by_cases h0 : X = 0
      · rw [if_pos h0]
        simp only [b1, b2, if_true]
        exact stepOk (op_star (xs (nI k + 1).toNatClampNeg) (xs (nI k + 2).toNatClampNeg)) h hF
      rw [if_neg h0]
      by_cases h1 : X = 1
      · rw [if_pos h1]
        simp only [b1, b2, if_true]
        exact stepOk (op_of (xs (nI k + 1).toNatClampNeg) (xs (nI k + 2).toNatClampNeg)) h hF
      rw [if_neg h1]
      by_cases h2 : X = 2
      · rw [if_pos h2]
        simp only [b1, b2, b3, if_true]
        exact stepOk (op_change (xs (nI k + 1).toNatClampNeg) (xs (nI k + 2).toNatClampNeg) (xs (nI k + 3).toNatClampNeg)) h hF
      rw [if_neg h2]
      by_cases h3 : X = 3
      · rw [if_pos h3]
        simp only [b1, b2, b3, if_true]
        exact stepOk (op_crew (xs (nI k + 1).toNatClampNeg) (xs (nI k + 2).toNatClampNeg) (xs (nI k + 3).toNatClampNeg)) h hF
      rw [if_neg h3]
      by_cases h4 : X = 4
      · rw [if_pos h4]
        simp only [b1, b2, if_true]
        exact stepOk (op_crewOf (xs (nI k + 1).toNatClampNeg) (xs (nI k + 2).toNatClampNeg)) h hF
      rw [if_neg h4]
      by_cases h5 : X = 5
      · rw [if_pos h5]
        simp only [b1, b2, if_true]
        exact stepOk (op_set (xs (nI k + 1).toNatClampNeg) (xs (nI k + 2).toNatClampNeg)) h hF
      rw [if_neg h5]
      by_cases h6 : X = 6
      · rw [if_pos h6]
        simp only [b1, b2, if_true]
        exact stepOk (op_apart (xs (nI k + 1).toNatClampNeg) (xs (nI k + 2).toNatClampNeg)) h hF
      rw [if_neg h6]
      by_cases h7 : X = 7
      · rw [if_pos h7]
        simp only [b1, if_true]
        exact stepOk (op_go (xs (nI k + 1).toNatClampNeg)) h hF
      rw [if_neg h7]
      by_cases h8 : X = 8
      · rw [if_pos h8]
        simp only [b1, if_true]
        exact stepOk (op_now (xs (nI k + 1).toNatClampNeg)) h hF
      rw [if_neg h8]
      by_cases h9 : X = 9
      · rw [if_pos h9]
        simp only [b1, b2, if_true]
        exact stepOk (op_mends (xs (nI k + 1).toNatClampNeg) (xs (nI k + 2).toNatClampNeg)) h hF
      rw [if_neg h9]
      by_cases h10 : X = 10
      · rw [if_pos h10]
        simp only [b1, b2, if_true]
        exact stepOk (op_ahead (xs (nI k + 1).toNatClampNeg) (xs (nI k + 2).toNatClampNeg)) h hF
      rw [if_neg h10]
      by_cases h11 : X = 11
      · rw [if_pos h11]
        simp only [b1, if_true]
        exact stepOk (op_lasts (xs (nI k + 1).toNatClampNeg)) h hF
      rw [if_neg h11]
      by_cases h12 : X = 12
      · rw [if_pos h12]
        simp only [b1, if_true]
        exact stepOk (op_shine (xs (nI k + 1).toNatClampNeg)) h hF
      rw [if_neg h12]
      by_cases h13 : X = 13
      · rw [if_pos h13]
        simp only [b1, if_true]
        exact stepOk (op_dark (xs (nI k + 1).toNatClampNeg)) h hF
      rw [if_neg h13]
      by_cases h14 : X = 14
      · rw [if_pos h14]
        simp only [b1, if_true]
        exact stepOk (op_kindFor (xs (nI k + 1).toNatClampNeg)) h hF
      rw [if_neg h14]
      by_cases h15 : X = 15
      · rw [if_pos h15]
        simp only [b1, b2, if_true]
        exact stepOk (op_dustFor (xs (nI k + 1).toNatClampNeg) (xs (nI k + 2).toNatClampNeg)) h hF
      rw [if_neg h15]
      by_cases h16 : X = 16
      · rw [if_pos h16]
        simp only [b1, if_true]
        exact stepOk (op_uses (xs (nI k + 1).toNatClampNeg)) h hF
      rw [if_neg h16]
      by_cases h17 : X = 17
      · rw [if_pos h17]
        simp only [b1, b2, if_true]
        exact stepOk (op_round (xs (nI k + 1).toNatClampNeg) (xs (nI k + 2).toNatClampNeg)) h hF
      rw [if_neg h17]
      by_cases h18 : X = 18
      · rw [if_pos h18]
        simp only [b1, if_true]
        exact stepOk (op_best (xs (nI k + 1).toNatClampNeg)) h hF
      rw [if_neg h18]
      by_cases h19 : X = 19
      · rw [if_pos h19]
        simp only [b1, if_true]
        exact stepOk (op_bestWorth (xs (nI k + 1).toNatClampNeg)) h hF
      rw [if_neg h19]
      by_cases h20 : X = 20
      · rw [if_pos h20]
        simp only [b1, b2, if_true]
        exact stepOk (op_from (xs (nI k + 1).toNatClampNeg) (xs (nI k + 2).toNatClampNeg)) h hF
      rw [if_neg h20]
      by_cases h21 : X = 21
      · rw [if_pos h21]
        simp only [b1, b2, b3, if_true]
        exact stepOk (op_share (xs (nI k + 1).toNatClampNeg) (xs (nI k + 2).toNatClampNeg) (xs (nI k + 3).toNatClampNeg)) h hF
      rw [if_neg h21]
      by_cases h22 : X = 22
      · rw [if_pos h22]
        simp only [b1, b2, b3, if_true]
        exact stepOk (op_longer (xs (nI k + 1).toNatClampNeg) (xs (nI k + 2).toNatClampNeg) (xs (nI k + 3).toNatClampNeg)) h hF
      rw [if_neg h22]
      by_cases h23 : X = 23
      · rw [if_pos h23]
        simp only [b1, if_true]
        exact stepOk (op_sign (xs (nI k + 1).toNatClampNeg)) h hF
      rw [if_neg h23]
      by_cases h24 : X = 24
      · rw [if_pos h24]
        simp only [b1, if_true]
        exact stepOk (op_signOf (xs (nI k + 1).toNatClampNeg)) h hF
      rw [if_neg h24]
      by_cases h25 : X = 25
      · rw [if_pos h25]
        simp only [b1, if_true]
        exact stepOk (op_may (xs (nI k + 1).toNatClampNeg)) h hF
      rw [if_neg h25]
      by_cases h26 : X = 26
      · rw [if_pos h26]
        simp only [b1, if_true]
        exact stepOk (op_tells (xs (nI k + 1).toNatClampNeg)) h hF
      rw [if_neg h26]
      by_cases h27 : X = 27
      · rw [if_pos h27]
        exact stepOk op_told h hF
      rw [if_neg h27]
      by_cases h28 : X = 28
      · rw [if_pos h28]
        simp only [b1, if_true]
        exact stepOk (op_steers (xs (nI k + 1).toNatClampNeg)) h hF
      rw [if_neg h28]
      by_cases h29 : X = 29
      · rw [if_pos h29]
        simp only [b1, if_true]
        exact stepOk (op_sees (xs (nI k + 1).toNatClampNeg)) h hF
      rw [if_neg h29]
      by_cases h30 : X = 30
      · rw [if_pos h30]
        simp only [b1, if_true]
        exact stepOk (op_which (xs (nI k + 1).toNatClampNeg)) h hF
      rw [if_neg h30]
      by_cases h31 : X = 31
      · rw [if_pos h31]
        simp only [b1, b2, if_true]
        exact stepOk (op_kinds (xs (nI k + 1).toNatClampNeg) (xs (nI k + 2).toNatClampNeg)) h hF
      rw [if_neg h31]
      by_cases h32 : X = 32
      · rw [if_pos h32]
        simp only [b1, if_true]
        exact stepOk (op_drops (xs (nI k + 1).toNatClampNeg)) h hF
      rw [if_neg h32]
      by_cases h33 : X = 33
      · rw [if_pos h33]
        simp only [b1, b2, if_true]
        exact stepOkL (op_odds (xs (nI k + 1).toNatClampNeg) (xs (nI k + 2).toNatClampNeg)) h hF
      rw [if_neg h33]
      by_cases h34 : X = 34
      · rw [if_pos h34]
        simp only [b1, if_true]
        exact stepOk (op_seed (xs (nI k + 1).toNatClampNeg)) h hF
      rw [if_neg h34]
      by_cases h35 : X = 35
      · rw [if_pos h35]
        simp only [b1, b2, if_true]
        exact stepOk (op_feed (xs (nI k + 1).toNatClampNeg) (xs (nI k + 2).toNatClampNeg)) h hF
      rw [if_neg h35]
      by_cases h36 : X = 36
      · rw [if_pos h36]
        exact stepOk op_wipe h hF
      rw [if_neg h36]
      by_cases h37 : X = 37
      · rw [if_pos h37]
        exact stepOk op_text h hF
      rw [if_neg h37]
      by_cases h38 : X = 38
      · rw [if_pos h38]
        simp only [b1, b2, if_true]
        exact stepOk (op_hold (xs (nI k + 1).toNatClampNeg) (xs (nI k + 2).toNatClampNeg)) h hF
      rw [if_neg h38]
      by_cases h39 : X = 39
      · rw [if_pos h39]
        simp only [b1, b2, if_true]
        exact stepOk (op_as (xs (nI k + 1).toNatClampNeg) (xs (nI k + 2).toNatClampNeg)) h hF
      rw [if_neg h39]
      by_cases h40 : X = 40
      · rw [if_pos h40]
        simp only [b1, b2, b3, if_true]
        exact stepOk (op_sheet (xs (nI k + 1).toNatClampNeg) (xs (nI k + 2).toNatClampNeg) (xs (nI k + 3).toNatClampNeg)) h hF
      rw [if_neg h40]
      by_cases h41 : X = 41
      · rw [if_pos h41]
        simp only [b1, b2, b3, if_true]
        exact stepOk (op_write (xs (nI k + 1).toNatClampNeg) (xs (nI k + 2).toNatClampNeg) (xs (nI k + 3).toNatClampNeg)) h hF
      rw [if_neg h41]
      by_cases h42 : X = 42
      · rw [if_pos h42]
        simp only [b1, b2, b3, b4, b5, if_true]
        exact stepOk (op_copy (xs (nI k + 1).toNatClampNeg) (xs (nI k + 2).toNatClampNeg) (xs (nI k + 3).toNatClampNeg) (xs (nI k + 4).toNatClampNeg) (xs (nI k + 5).toNatClampNeg)) h hF
      rw [if_neg h42]
      by_cases h43 : X = 43
      · rw [if_pos h43]
        simp only [b1, if_true]
        exact stepOk (op_load (xs (nI k + 1).toNatClampNeg)) h hF
      rw [if_neg h43]
      by_cases h44 : X = 44
      · rw [if_pos h44]
        simp only [b1, if_true]
        exact stepOk (op_judge (xs (nI k + 1).toNatClampNeg)) h hF
      rw [if_neg h44]
      by_cases h45 : X = 45
      · rw [if_pos h45]
        exact stepOk op_image h hF
      rw [if_neg h45]
      by_cases h46 : X = 46
      · rw [if_pos h46]
        exact stepOk op_undo h hF
      rw [if_neg h46]
      by_cases h47 : X = 47
      · rw [if_pos h47]
        exact stepOk op_tear h hF
      rw [if_neg h47]
      by_cases h48 : X = 48
      · rw [if_pos h48]
        simp only [b1, if_true]
        exact stepOk (op_count (xs (nI k + 1).toNatClampNeg)) h hF
      rw [if_neg h48]
      by_cases h49 : X = 49
      · rw [if_pos h49]
        simp only [b1, if_true]
        exact stepOk (op_status (xs (nI k + 1).toNatClampNeg)) h hF
      rw [if_neg h49]
      exact hF S h
