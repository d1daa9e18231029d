theorem Inv.sky {S S' : ST} (h : Inv S) (hr : ∀ c, (c = 0 ∨ (11 ≤ c ∧ c ≤ 20) ∨ c = 33 ∨ (42 ≤ c ∧ c ≤ 50) ∨ c = 53 ∨ c = 55 ∨ (57 ≤ c ∧ c ≤ 64)) → S'.1 c = S.1 c) (r1 : S'.1 32 1 = S.1 32 1) (r2 : S'.1 51 3 = S.1 51 3) (r3 : S'.1 51 7 = S.1 51 7) (hR : SkyR 1 S' (S'.1 52)) (hK : SkyK (S'.1 52)) : Inv S' := by
  obtain ⟨h1, h2, h3, h4, h5, h6, h7⟩ := h
  refine ⟨hR, hK, h3.cong (by rw [hr 0 (by omega)]) r2 (hr 53 (by omega)) (fun c a b => hr c (by omega)), ?_, h5.cong r1 r3 (hr 57 (by omega)) (hr 33 (by omega)), h6.cong (fun c hc => hr c (by omega)), h7.cong (fun c a b => hr c (by omega))⟩
  rw [hr 42 (by omega), hr 55 (by omega)]
  exact h4
theorem Inv.op {S S1 S2 : ST} {d : Nat → Int32} (h : Inv S) (h1 : ∀ c, ¬ (1 ≤ c ∧ c ≤ 10) → S1.1 c = S.1 c) (h2 : ∀ c, c ≠ 52 → S2.1 c = S1.1 c) (hd : S2.1 52 = d) (hR : SkyR 1 S1 d) (hK : SkyK d) : Inv S2 := by
  refine h.sky (fun c hc => (h2 c (by omega)).trans (h1 c (by omega))) (by rw [h2 32 (by omega), h1 32 (by omega)]) (by rw [h2 51 (by omega), h1 51 (by omega)]) (by rw [h2 51 (by omega), h1 51 (by omega)]) ?_ ?_
  · rw [hd]
    exact hR.cong (fun c a b => h2 c (by omega))
  · rw [hd]
    exact hK
theorem w52 {S : ST} {r i p : Nat} {v w : Int32} (hr : r ≠ 52) : (wr (wr S r i v) 52 p w).1 52 = upd (S.1 52) p w := by
  rw [wr_eq, wr_ne (Ne.symm hr)]
theorem crow0 (S : ST) : G_X1_crewRow_1 0 S = some (some 6, S) := rfl
theorem crow1 (S : ST) : G_X1_crewRow_1 1 S = some (some 7, S) := rfl
theorem crowN {w : Int32} (h : ¬ (0 ≤ w ∧ w ≤ 1)) (S : ST) : G_X1_crewRow_1 w S = some (none, S) := by
  unfold G_X1_crewRow_1; grind
theorem srow0 (S : ST) : G_X1_starRow_1 0 S = some (some 2, S) := rfl
theorem srow1 (S : ST) : G_X1_starRow_1 1 S = some (some 3, S) := rfl
theorem srow2 (S : ST) : G_X1_starRow_1 2 S = some (some 4, S) := rfl
theorem srow3 (S : ST) : G_X1_starRow_1 3 S = some (some 5, S) := rfl
theorem srowN {w : Int32} (h : ¬ (0 ≤ w ∧ w ≤ 3)) (S : ST) : G_X1_starRow_1 w S = some (none, S) := by
  unfold G_X1_starRow_1; grind
theorem ix2 (k f : Nat) : (8 + 2 * nI k) + nI f = nI (8 + 2 * k + f) := by
  show (nI 8 + nI 2 * nI k) + nI f = _
  rw [pk_mul, nI_add, nI_add]
theorem ix2' (k : Nat) : (8 : Int32) + 2 * nI k = nI (8 + 2 * k) := by
  show nI 8 + nI 2 * nI k = _
  rw [pk_mul, nI_add]
theorem cl {k : Nat} (h : k < 1000) : (nI k).toNatClampNeg = k := nI_clamp (by omega)
theorem two {w : Int32} (h : 0 ≤ w ∧ w ≤ 1) : w = 0 ∨ w = 1 := by grind
theorem four {w : Int32} (h : 0 ≤ w ∧ w ≤ 3) : w = 0 ∨ w = 1 ∨ w = 2 ∨ w = 3 := by grind
theorem op_crewOf (a w : Int32) : Ok (G_X5_crewOf_0 a w) (G_X6_crewOf_51 a w) := by
  intro S h
  by_cases ha : 0 ≤ a ∧ a ≤ 3
  · by_cases hw : 0 ≤ w ∧ w ≤ 1
    · obtain ⟨k, hk, rfl⟩ := ofR (n := 4) (by decide) ha.1 (by show _ < (4 : Int32); grind)
      obtain ⟨-, -, -, -, -, e5, e6, -⟩ := h.1
      have i1 : (8 + 2 * nI k) + 0 = nI (8 + 2 * k) := ix2 k 0
      have i2 : (8 + 2 * nI k) + 1 = nI (9 + 2 * k) := by rw [show 9 + 2 * k = 8 + 2 * k + 1 by omega]; exact ix2 k 1
      rcases two hw with rfl | rfl
      · refine ⟨S.1 6 k, S, S, ?_, ?_, h⟩
        · simp only [G_X5_crewOf_0, crow0, bndS, nl, bel, ite10]
          rw [if_neg (by grind), show lenI 6 = some 4 from rfl, bndS, if_pos (inB_nI hk (by decide)), cl (by omega)]
        · simp only [G_X6_crewOf_51, isCrew, in1, bndS, ite10]
          rw [if_neg (by grind), if_neg (by grind), i1, if_pos (inB_nI (by omega) (by decide)), cl (by omega), ← e5 k hk]
      · refine ⟨S.1 7 k, S, S, ?_, ?_, h⟩
        · simp only [G_X5_crewOf_0, crow1, bndS, nl, bel, ite10]
          rw [if_neg (by grind), show lenI 7 = some 4 from rfl, bndS, if_pos (inB_nI hk (by decide)), cl (by omega)]
        · simp only [G_X6_crewOf_51, isCrew, in1, bndS, ite10]
          rw [if_neg (by grind), if_neg (by grind), i2, if_pos (inB_nI (by omega) (by decide)), cl (by omega), ← e6 k hk]
    · refine ok_fin h (i := 0) (by decide) ?_ ?_
      · simp only [G_X5_crewOf_0, crowN hw, bndS, nl, fb0]
      · intro S1 _
        simp only [G_X6_crewOf_51, isCrew, in1, bndS, ite10, nb0]
        rw [if_neg (by grind), if_pos hw]
  · refine ok_fin h (i := 0) (by decide) ?_ ?_
    · by_cases hw : 0 ≤ w ∧ w ≤ 1
      · rcases two hw with rfl | rfl
        · simp only [G_X5_crewOf_0, crow0, bndS, nl, bel, ite10, fb0]
          rw [if_pos (by grind)]
        · simp only [G_X5_crewOf_0, crow1, bndS, nl, bel, ite10, fb0]
          rw [if_pos (by grind)]
      · simp only [G_X5_crewOf_0, crowN hw, bndS, nl, fb0]
    · intro S1 _
      simp only [G_X6_crewOf_51, isCrew, in1, bndS, ite10, nb0]
      rw [if_pos ha]
theorem rep_d {r n k : Nat} {v : Int32} {S : ST} (hr : lenI r = some n) (hn : n < 1000) (hk : k < n) : G_X5_replaced_d r (nI k) v S = some (S.1 r k, wr S r k v) := by
  simp only [G_X5_replaced_d, hr, bndS]
  rw [if_pos (inB_nI hk (by omega)), if_pos (inB_nI hk (by omega)), cl (by omega)]
theorem op_crew (a w v : Int32) : Ok (G_X5_crew_0 a w v) (G_X6_crew_51 a w v) := by
  intro S h
  by_cases ha : 0 ≤ a ∧ a ≤ 3
  · by_cases hw : 0 ≤ w ∧ w ≤ 1
    · obtain ⟨k, hk, rfl⟩ := ofR (n := 4) (by decide) ha.1 (by show _ < (4 : Int32); grind)
      have hR := h.1
      have hK := h.2.1
      have i1 : (8 + 2 * nI k) + 0 = nI (8 + 2 * k) := ix2 k 0
      have i2 : (8 + 2 * nI k) + 1 = nI (9 + 2 * k) := by rw [show 9 + 2 * k = 8 + 2 * k + 1 by omega]; exact ix2 k 1
      rcases two hw with rfl | rfl
      · by_cases hv : 0 ≤ v ∧ v ≤ 99
        · refine ⟨S.1 6 k, wr S 6 k v, wr (wr S 6 k v) 52 (8 + 2 * k) v, ?_, ?_, ?_⟩
          · simp only [G_X5_crew_0, crow0, bndS, nl, bel, wit, ite10, G_X1_mostOfCrew]
            rw [if_neg (by grind)]
            simp only [if_true, bndS, wit, ite10]
            rw [if_neg (by grind), rep_d (n := 4) rfl (by decide) hk]
            rfl
          · simp only [G_X6_crew_51, G_X6_crew_51_30, isCrew, in1, bndS, ite10, if_true]
            rw [if_neg (by grind), if_neg (by grind), if_neg (by grind), i1, if_pos (inB_nI (by omega) (by decide)), if_pos (inB_nI (by omega) (by decide)), cl (by omega)]
            have : (wr S 6 k v).1 52 = S.1 52 := wr_ne (by omega)
            rw [this, ← hR.2.2.2.2.2.1 k hk]
          · exact h.op (fun c hc => wr_ne (by omega)) (fun c hc => wr_ne hc) (w52 (by omega)) (hR.crewP hk) (hK.crewP hk hv)
        · refine ok_fin h (i := 0) (by decide) ?_ ?_
          · simp only [G_X5_crew_0, crow0, bndS, nl, bel, wit, ite10, G_X1_mostOfCrew, fb0]
            rw [if_neg (by grind)]
            simp only [if_true, bndS, wit, ite10, fb0]
            rw [if_pos hv]
          · intro S1 _
            simp only [G_X6_crew_51, G_X6_crew_51_30, isCrew, in1, bndS, ite10, nb0, if_true]
            rw [if_neg (by grind), if_neg (by grind), if_pos hv]
      · by_cases hv : 0 ≤ v ∧ v ≤ 999
        · refine ⟨S.1 7 k, wr S 7 k v, wr (wr S 7 k v) 52 (9 + 2 * k) v, ?_, ?_, ?_⟩
          · simp only [G_X5_crew_0, crow1, bndS, nl, bel, wit, ite10, G_X1_mostOfCrew]
            rw [if_neg (by grind), if_neg (by decide)]
            simp only [bndS, wit, ite10]
            rw [if_neg (by grind), rep_d (n := 4) rfl (by decide) hk]
            rfl
          · simp only [G_X6_crew_51, G_X6_crew_51_30, isCrew, in1, bndS, ite10]
            rw [if_neg (by grind), if_neg (by grind), if_neg (by decide), if_neg (by grind), i2, if_pos (inB_nI (by omega) (by decide)), if_pos (inB_nI (by omega) (by decide)), cl (by omega)]
            have : (wr S 7 k v).1 52 = S.1 52 := wr_ne (by omega)
            rw [this, ← hR.2.2.2.2.2.2.1 k hk]
          · exact h.op (fun c hc => wr_ne (by omega)) (fun c hc => wr_ne hc) (w52 (by omega)) (hR.crewS hk) (hK.crewS hk hv)
        · refine ok_fin h (i := 0) (by decide) ?_ ?_
          · simp only [G_X5_crew_0, crow1, bndS, nl, bel, wit, ite10, G_X1_mostOfCrew, fb0]
            rw [if_neg (by grind), if_neg (by decide)]
            simp only [bndS, wit, ite10, fb0]
            rw [if_pos hv]
          · intro S1 _
            simp only [G_X6_crew_51, G_X6_crew_51_30, isCrew, in1, bndS, ite10, nb0]
            rw [if_neg (by grind), if_neg (by grind), if_neg (by decide), if_pos hv]
    · refine ok_fin h (i := 0) (by decide) ?_ ?_
      · simp only [G_X5_crew_0, crowN hw, bndS, nl, fb0]
      · intro S1 _
        simp only [G_X6_crew_51, isCrew, in1, bndS, ite10, nb0]
        rw [if_neg (by grind), if_pos hw]
  · refine ok_fin h (i := 0) (by decide) ?_ ?_
    · by_cases hw : 0 ≤ w ∧ w ≤ 1
      · rcases two hw with rfl | rfl
        · simp only [G_X5_crew_0, crow0, bndS, nl, bel, ite10, fb0]
          rw [if_pos (by grind)]
        · simp only [G_X5_crew_0, crow1, bndS, nl, bel, ite10, fb0]
          rw [if_pos (by grind)]
      · simp only [G_X5_crew_0, crowN hw, bndS, nl, fb0]
    · intro S1 _
      simp only [G_X6_crew_51, isCrew, in1, bndS, ite10, nb0]
      rw [if_pos ha]
