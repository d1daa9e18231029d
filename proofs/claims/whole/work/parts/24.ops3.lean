theorem starK {S : ST} (h : Inv S) {a : Int32} (ha : 0 ≤ a ∧ a ≤ S.1 52 1 - 1) : ∃ k : Nat, k < 10 ∧ a = nI k := by
  have := h.2.1.2.1
  exact ofR (n := 10) (by decide) ha.1 (by show _ < (10 : Int32); grind)
theorem g40 (k : Nat) : (16 + 4 * nI k) + 0 = nI (16 + 4 * k) := ix4 k 0
theorem g41 (k : Nat) : (16 + 4 * nI k) + 1 = nI (17 + 4 * k) := by rw [show 17 + 4 * k = 16 + 4 * k + 1 by omega]; exact ix4 k 1
theorem g42 (k : Nat) : (16 + 4 * nI k) + 2 = nI (18 + 4 * k) := by rw [show 18 + 4 * k = 16 + 4 * k + 2 by omega]; exact ix4 k 2
theorem g43 (k : Nat) : (16 + 4 * nI k) + 3 = nI (19 + 4 * k) := by rw [show 19 + 4 * k = 16 + 4 * k + 3 by omega]; exact ix4 k 3
theorem mget0 {k : Nat} (h : k < 10) (S : ST) : G_X6_get_51 (nI k) 0 S = some (S.1 52 (16 + 4 * k), S) := by
  unfold G_X6_get_51
  rw [g40, if_pos (inB_nI (by omega) (by decide)), cl (by omega)]
theorem mput0 {k : Nat} (h : k < 10) (v : Int32) (S : ST) : G_X6_puts_51 (nI k) 0 v S = some ((), wr S 52 (16 + 4 * k) v) := by
  unfold G_X6_puts_51
  rw [g40, if_pos (inB_nI (by omega) (by decide)), cl (by omega)]
theorem mget1 {k : Nat} (h : k < 10) (S : ST) : G_X6_get_51 (nI k) 1 S = some (S.1 52 (17 + 4 * k), S) := by
  unfold G_X6_get_51
  rw [g41, if_pos (inB_nI (by omega) (by decide)), cl (by omega)]
theorem mput1 {k : Nat} (h : k < 10) (v : Int32) (S : ST) : G_X6_puts_51 (nI k) 1 v S = some ((), wr S 52 (17 + 4 * k) v) := by
  unfold G_X6_puts_51
  rw [g41, if_pos (inB_nI (by omega) (by decide)), cl (by omega)]
theorem mget2 {k : Nat} (h : k < 10) (S : ST) : G_X6_get_51 (nI k) 2 S = some (S.1 52 (18 + 4 * k), S) := by
  unfold G_X6_get_51
  rw [g42, if_pos (inB_nI (by omega) (by decide)), cl (by omega)]
theorem mput2 {k : Nat} (h : k < 10) (v : Int32) (S : ST) : G_X6_puts_51 (nI k) 2 v S = some ((), wr S 52 (18 + 4 * k) v) := by
  unfold G_X6_puts_51
  rw [g42, if_pos (inB_nI (by omega) (by decide)), cl (by omega)]
theorem mget3 {k : Nat} (h : k < 10) (S : ST) : G_X6_get_51 (nI k) 3 S = some (S.1 52 (19 + 4 * k), S) := by
  unfold G_X6_get_51
  rw [g43, if_pos (inB_nI (by omega) (by decide)), cl (by omega)]
theorem mput3 {k : Nat} (h : k < 10) (v : Int32) (S : ST) : G_X6_puts_51 (nI k) 3 v S = some ((), wr S 52 (19 + 4 * k) v) := by
  unfold G_X6_puts_51
  rw [g43, if_pos (inB_nI (by omega) (by decide)), cl (by omega)]
theorem op_change (a w v : Int32) : Ok (G_X5_change_0 a w v) (G_X6_change_51 a w v) := by
  intro S h
  have hm : S.1 1 0 = S.1 52 1 := h.1.1
  have hm2 := h.2.1.2.1
  have hR := h.1
  have hK := h.2.1
  by_cases hw : 0 ≤ w ∧ w ≤ 3
  · by_cases ha : 0 ≤ a ∧ a ≤ S.1 52 1 - 1
    · obtain ⟨k, hk, rfl⟩ := starK h ha
      rcases four hw with rfl | rfl | rfl | rfl
      · have hmo : ∀ S : ST, G_X1_mostOfStar 0 S = some (6, S) := fun _ => rfl
        by_cases hv : 0 ≤ v ∧ v ≤ 6
        · refine ⟨S.1 2 k, wr S 2 k v, wr (wr S 2 k v) 52 (16 + 4 * k) v, ?_, ?_, ?_⟩
          · simp only [G_X5_change_0, srow0, bndS, nl, bel, wit, ite10, hmo]
            rw [if_neg (by grind), if_neg (by grind), rep_d (n := 10) rfl (by decide) hk]
            rfl
          · have e : (wr S 2 k v).1 52 = S.1 52 := wr_ne (by omega)
            simp only [G_X6_change_51, G_X6_change_51_30, isStar, in1, bndS, ite10, mget0 hk, mput0 hk, e]
            rw [if_neg (by grind), if_neg (by grind), if_pos trivial, if_neg (by grind), ← hR.2.2.2.2.2.2.2.1 k hk]
          · exact h.op (fun c hc => wr_ne (by omega)) (fun c hc => wr_ne hc) (w52 (by omega)) (hR.kind hk) (hK.kind hk hv)
        · refine ok_fin h (i := 0) (by decide) ?_ ?_
          · simp only [G_X5_change_0, srow0, bndS, nl, bel, wit, ite10, hmo, fb0]
            rw [if_neg (by grind), if_pos (by grind)]
          · intro S1 h1
            have e : S1.1 52 = S.1 52 := h1 52 (by omega)
            simp only [G_X6_change_51, G_X6_change_51_30, isStar, in1, bndS, ite10, nb0, e]
            rw [if_neg (by grind), if_neg (by grind), if_pos trivial, if_pos (by grind)]
      · have hmo : ∀ S : ST, G_X1_mostOfStar 1 S = some (99, S) := fun _ => rfl
        by_cases hv : 0 ≤ v ∧ v ≤ 99
        · refine ⟨S.1 3 k, wr S 3 k v, wr (wr S 3 k v) 52 (17 + 4 * k) v, ?_, ?_, ?_⟩
          · simp only [G_X5_change_0, srow1, bndS, nl, bel, wit, ite10, hmo]
            rw [if_neg (by grind), if_neg (by grind), rep_d (n := 10) rfl (by decide) hk]
            rfl
          · have e : (wr S 3 k v).1 52 = S.1 52 := wr_ne (by omega)
            simp only [G_X6_change_51, G_X6_change_51_30, isStar, in1, bndS, ite10, mget1 hk, mput1 hk, e]
            rw [if_neg (by grind), if_neg (by grind), if_neg (by decide), if_neg (by grind), ← hR.2.2.2.2.2.2.2.2.1 k hk]
          · exact h.op (fun c hc => wr_ne (by omega)) (fun c hc => wr_ne hc) (w52 (by omega)) (hR.place hk) (hK.place hk hv)
        · refine ok_fin h (i := 0) (by decide) ?_ ?_
          · simp only [G_X5_change_0, srow1, bndS, nl, bel, wit, ite10, hmo, fb0]
            rw [if_neg (by grind), if_pos (by grind)]
          · intro S1 h1
            have e : S1.1 52 = S.1 52 := h1 52 (by omega)
            simp only [G_X6_change_51, G_X6_change_51_30, isStar, in1, bndS, ite10, nb0, e]
            rw [if_neg (by grind), if_neg (by grind), if_neg (by decide), if_pos (by grind)]
      · have hmo : ∀ S : ST, G_X1_mostOfStar 2 S = some (99, S) := fun _ => rfl
        by_cases hv : 0 ≤ v ∧ v ≤ 99
        · refine ⟨S.1 4 k, wr S 4 k v, wr (wr S 4 k v) 52 (18 + 4 * k) v, ?_, ?_, ?_⟩
          · simp only [G_X5_change_0, srow2, bndS, nl, bel, wit, ite10, hmo]
            rw [if_neg (by grind), if_neg (by grind), rep_d (n := 10) rfl (by decide) hk]
            rfl
          · have e : (wr S 4 k v).1 52 = S.1 52 := wr_ne (by omega)
            simp only [G_X6_change_51, G_X6_change_51_30, isStar, in1, bndS, ite10, mget2 hk, mput2 hk, e]
            rw [if_neg (by grind), if_neg (by grind), if_neg (by decide), if_neg (by grind), ← hR.2.2.2.2.2.2.2.2.2.1 k hk]
          · exact h.op (fun c hc => wr_ne (by omega)) (fun c hc => wr_ne hc) (w52 (by omega)) (hR.life hk) (hK.life hk hv)
        · refine ok_fin h (i := 0) (by decide) ?_ ?_
          · simp only [G_X5_change_0, srow2, bndS, nl, bel, wit, ite10, hmo, fb0]
            rw [if_neg (by grind), if_pos (by grind)]
          · intro S1 h1
            have e : S1.1 52 = S.1 52 := h1 52 (by omega)
            simp only [G_X6_change_51, G_X6_change_51_30, isStar, in1, bndS, ite10, nb0, e]
            rw [if_neg (by grind), if_neg (by grind), if_neg (by decide), if_pos (by grind)]
      · have hmo : ∀ S : ST, G_X1_mostOfStar 3 S = some (99, S) := fun _ => rfl
        by_cases hv : 0 ≤ v ∧ v ≤ 99
        · refine ⟨S.1 5 k, wr S 5 k v, wr (wr S 5 k v) 52 (19 + 4 * k) v, ?_, ?_, ?_⟩
          · simp only [G_X5_change_0, srow3, bndS, nl, bel, wit, ite10, hmo]
            rw [if_neg (by grind), if_neg (by grind), rep_d (n := 10) rfl (by decide) hk]
            rfl
          · have e : (wr S 5 k v).1 52 = S.1 52 := wr_ne (by omega)
            simp only [G_X6_change_51, G_X6_change_51_30, isStar, in1, bndS, ite10, mget3 hk, mput3 hk, e]
            rw [if_neg (by grind), if_neg (by grind), if_neg (by decide), if_neg (by grind), ← hR.2.2.2.2.2.2.2.2.2.2.1 k hk]
          · exact h.op (fun c hc => wr_ne (by omega)) (fun c hc => wr_ne hc) (w52 (by omega)) (hR.worth hk) (hK.worth hk hv)
        · refine ok_fin h (i := 0) (by decide) ?_ ?_
          · simp only [G_X5_change_0, srow3, bndS, nl, bel, wit, ite10, hmo, fb0]
            rw [if_neg (by grind), if_pos (by grind)]
          · intro S1 h1
            have e : S1.1 52 = S.1 52 := h1 52 (by omega)
            simp only [G_X6_change_51, G_X6_change_51_30, isStar, in1, bndS, ite10, nb0, e]
            rw [if_neg (by grind), if_neg (by grind), if_neg (by decide), if_pos (by grind)]
    · refine ok_fin h (i := 0) (by decide) ?_ ?_
      · rcases four hw with rfl | rfl | rfl | rfl
        · simp only [G_X5_change_0, srow0, bndS, nl, bel, ite10, fb0]
          rw [if_pos (by grind)]
        · simp only [G_X5_change_0, srow1, bndS, nl, bel, ite10, fb0]
          rw [if_pos (by grind)]
        · simp only [G_X5_change_0, srow2, bndS, nl, bel, ite10, fb0]
          rw [if_pos (by grind)]
        · simp only [G_X5_change_0, srow3, bndS, nl, bel, ite10, fb0]
          rw [if_pos (by grind)]
      · intro S1 h1
        have e : S1.1 52 = S.1 52 := h1 52 (by omega)
        simp only [G_X6_change_51, isStar, in1, bndS, ite10, nb0, e]
        rw [if_pos ha]
  · refine ok_fin h (i := 0) (by decide) ?_ ?_
    · simp only [G_X5_change_0, srowN hw, bndS, nl, fb0]
    · intro S1 h1
      simp only [G_X6_change_51, isStar, in1, bndS, ite10, nb0]
      split
      · rfl
      · first | rfl | rw [if_pos hw]
theorem seven {w : Int32} (h : 0 ≤ w ∧ w ≤ 6) : w = 0 ∨ w = 1 ∨ w = 2 ∨ w = 3 ∨ w = 4 ∨ w = 5 ∨ w = 6 := by grind
theorem op_of (a w : Int32) : Ok (G_X5_of_0 a w) (G_X6_of_51 a w) := by
  intro S h
  have hm : S.1 1 0 = S.1 52 1 := h.1.1
  have hm2 := h.2.1.2.1
  have hR := h.1
  by_cases ha : 0 ≤ a ∧ a ≤ S.1 52 1 - 1
  · by_cases hw : 0 ≤ w ∧ w ≤ 6
    · obtain ⟨k, hk, rfl⟩ := starK h ha
      have b10 := inB_nI (n := 10) hk (by decide)
      have eK := hR.2.2.2.2.2.2.2.1 k hk
      have eL := hR.2.2.2.2.2.2.2.2.2.1 k hk
      have eD := hR.2.2.2.2.1 0 (by omega)
      have eW := hR.2.2.2.2.1 1 (by omega)
      simp only [Nat.reduceAdd] at eK eL eD eW
      rcases seven hw with rfl | rfl | rfl | rfl | rfl | rfl | rfl
      · refine ⟨S.1 2 k, S, S, ?_, ?_, h⟩
        · simp only [G_X5_of_0, srow0, bndS, nl, bel, ite10]
          rw [if_neg (by grind), show lenI 2 = some 10 from rfl, bndS, if_pos b10, cl (by omega)]
        · simp only [G_X6_of_51, isStar, in1, bndS, ite10, mget0 hk]
          rw [if_neg (by grind), if_neg (by grind), if_neg (by decide), ← hR.2.2.2.2.2.2.2.1 k hk]
      · refine ⟨S.1 3 k, S, S, ?_, ?_, h⟩
        · simp only [G_X5_of_0, srow1, bndS, nl, bel, ite10]
          rw [if_neg (by grind), show lenI 3 = some 10 from rfl, bndS, if_pos b10, cl (by omega)]
        · simp only [G_X6_of_51, isStar, in1, bndS, ite10, mget1 hk]
          rw [if_neg (by grind), if_neg (by grind), if_neg (by decide), ← hR.2.2.2.2.2.2.2.2.1 k hk]
      · refine ⟨S.1 4 k, S, S, ?_, ?_, h⟩
        · simp only [G_X5_of_0, srow2, bndS, nl, bel, ite10]
          rw [if_neg (by grind), show lenI 4 = some 10 from rfl, bndS, if_pos b10, cl (by omega)]
        · simp only [G_X6_of_51, isStar, in1, bndS, ite10, mget2 hk]
          rw [if_neg (by grind), if_neg (by grind), if_neg (by decide), ← hR.2.2.2.2.2.2.2.2.2.1 k hk]
      · refine ⟨S.1 5 k, S, S, ?_, ?_, h⟩
        · simp only [G_X5_of_0, srow3, bndS, nl, bel, ite10]
          rw [if_neg (by grind), show lenI 5 = some 10 from rfl, bndS, if_pos b10, cl (by omega)]
        · simp only [G_X6_of_51, isStar, in1, bndS, ite10, mget3 hk]
          rw [if_neg (by grind), if_neg (by grind), if_neg (by decide), ← hR.2.2.2.2.2.2.2.2.2.2.1 k hk]
      · refine ⟨wearK (S.1 8 1) (S.1 2 k) (S.1 4 k) (S.1 8 0), S, S, ?_, ?_, h⟩
        · simp only [G_X5_of_0, srowN (w := 4) (by decide), bndS, nl, bel, ite10, cwear]
          rw [if_neg (by grind), if_pos trivial, if_pos b10, if_pos b10, cl (by omega)]
        · simp only [G_X6_of_51, isStar, in1, bndS, ite10, mwear hk]
          rw [if_neg (by grind), if_neg (by grind), if_pos (by decide), if_pos trivial, eK, eL, eD, eW]
      · refine ⟨dimK (S.1 8 1) (S.1 2 k), S, S, ?_, ?_, h⟩
        · simp only [G_X5_of_0, srowN (w := 5) (by decide), bndS, nl, bel, ite10, cdim]
          rw [if_neg (by grind), if_neg (by decide), if_pos trivial, if_pos b10, cl (by omega)]
        · simp only [G_X6_of_51, isStar, in1, bndS, ite10, mdim hk]
          rw [if_neg (by grind), if_neg (by grind), if_pos (by decide), if_neg (by decide), if_pos trivial, eK, eW]
      · refine ⟨if S.1 4 k ≤ dimK (S.1 8 1) (S.1 2 k) then 0 else 1, S, S, ?_, ?_, h⟩
        · simp only [G_X5_of_0, srowN (w := 6) (by decide), bndS, nl, bel, ite10, cbright]
          rw [if_neg (by grind), if_neg (by decide), if_neg (by decide), if_pos trivial, if_pos b10, if_pos b10, cl (by omega)]
          by_cases hq : S.1 4 k ≤ dimK (S.1 8 1) (S.1 2 k)
          · simp [hq]
          · simp [hq]
        · simp only [G_X6_of_51, isStar, in1, bndS, ite10, mshines hk]
          rw [if_neg (by grind), if_neg (by grind), if_pos (by decide), if_neg (by decide), if_neg (by decide), ← eK, ← eL, ← eW]
          by_cases hq : S.1 4 k ≤ dimK (S.1 8 1) (S.1 2 k)
          · simp [hq]
          · simp [hq]
    · refine ok_fin h (i := 0) (by decide) ?_ ?_
      · simp only [G_X5_of_0, srowN (w := w) (by grind), bndS, nl, bel, ite10, fb0]
        rw [if_neg (by grind), if_neg (by grind), if_neg (by grind), if_neg (by grind)]
      · intro S1 h1
        have e : S1.1 52 = S.1 52 := h1 52 (by omega)
        simp only [G_X6_of_51, isStar, in1, bndS, ite10, nb0, e]
        rw [if_neg (by grind), if_pos hw]
  · refine ok_fin h (i := 0) (by decide) ?_ ?_
    · simp only [G_X5_of_0, bel, bndS, ite10, fb0]
      rw [if_pos (by grind)]
    · intro S1 h1
      have e : S1.1 52 = S.1 52 := h1 52 (by omega)
      simp only [G_X6_of_51, isStar, bndS, ite10, nb0, e]
      rw [if_pos ha]
