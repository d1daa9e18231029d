theorem isSpot (x : Int32) (S : ST) : G_X6_isSpot x S = some (if 0 ≤ x ∧ x ≤ 9 then 1 else 0, S) := by
  simp only [G_X6_isSpot, in1, Option.bind_some, bit01, if_true]
theorem isSign (x : Int32) (S : ST) : G_X6_isSign_51 x S = some (if 0 ≤ x ∧ x ≤ S.1 52 2 - 1 then 1 else 0, S) := by
  simp only [G_X6_isSign_51, in1, Option.bind_some, bit01, if_true]
theorem isSet (x : Int32) (S : ST) : G_X6_isSet_51 x S = some (if 0 ≤ x ∧ x ≤ (1 <<< (S.1 52 1 &&& 31)) - 1 then 1 else 0, S) := by
  simp only [G_X6_isSet_51, in1, Option.bind_some, bit01, if_true]
theorem cset (x : Int32) (S : ST) : G_X5_isSetOfStars_0 x S = some (if 0 ≤ x ∧ x < (1 <<< (S.1 1 0 &&& 31)) then 1 else 0, S) := by
  simp only [G_X5_isSetOfStars_0, bel, Option.bind_some, bit01, if_true]
theorem shl1 {m : Nat} (h : m ≤ 10) : (1 : Int32) <<< (nI m &&& 31) = nI (2 ^ m) := by
  have key : ∀ m, m < 11 → (1 : Int32) <<< (nI m &&& 31) = nI (2 ^ m) := by decide
  exact key m (by omega)
theorem starsN {S : ST} (h : Inv S) : ∃ m : Nat, m ≤ 10 ∧ S.1 52 1 = nI m := by
  have := h.2.1.2.1
  obtain ⟨m, hm, e⟩ := ofR (x := S.1 52 1) (n := 11) (by decide) this.1 (by show _ < (11 : Int32); grind)
  exact ⟨m, by omega, e⟩
theorem signsN {S : ST} (h : Inv S) : ∃ m : Nat, m ≤ 6 ∧ S.1 52 2 = nI m := by
  have := h.2.1.2.2.1
  obtain ⟨m, hm, e⟩ := ofR (x := S.1 52 2) (n := 7) (by decide) this.1 (by show _ < (7 : Int32); grind)
  exact ⟨m, by omega, e⟩
theorem pw_le {m : Nat} (h : m ≤ 10) : 2 ^ m ≤ 1024 := Nat.pow_le_pow_right (by decide) h
theorem ix62 (k : Nat) : (62 : Int32) + nI k = nI (62 + k) := by
  show nI 62 + nI k = _
  rw [nI_add]
theorem ix56 (k : Nat) : (56 : Int32) + nI k = nI (56 + k) := by
  show nI 56 + nI k = _
  rw [nI_add]
theorem op_tear : Ok G_X5_tear_0 G_X6_tear_51 := by
  intro S h
  obtain ⟨h1, h2, h3, h4, h5, h6, h7⟩ := h
  have e := h3.1
  refine ⟨if S.1 51 3 = 0 then 0 else 1, wr S 0 3 0, wr (wr S 0 3 0) 51 3 0, ?_, ?_, ?_⟩
  · simp only [G_X5_tear_0, G_X5_tear_0_12, e]
    split <;> rfl
  · simp only [G_X6_tear_51, G_X6_tear_51_12]
    rw [wr_ne (by omega)]
    split <;> rfl
  · have r : ∀ c, c ≠ 0 → c ≠ 51 → (wr (wr S 0 3 0) 51 3 0).1 c = S.1 c := fun c a b => by rw [wr_ne b, wr_ne a]
    refine ⟨?_, ?_, ⟨by simp [wrAt], Or.inl (by simp [wrAt])⟩, ?_, h5.cong (by rw [r 32 (by omega) (by omega)]) (by simp [wrAt]) (r 57 (by omega) (by omega)) (r 33 (by omega) (by omega)), h6.cong (fun c hc => r c (by omega) (by omega)), h7.cong (fun c a b => r c (by omega) (by omega))⟩
    · rw [r 52 (by omega) (by omega)]
      exact h1.cong (fun c a b => r c (by omega) (by omega))
    · rw [r 52 (by omega) (by omega)]
      exact h2
    · rw [r 42 (by omega) (by omega), r 55 (by omega) (by omega)]
      exact h4
theorem op_wipe : Ok G_X5_wipe_0 G_X6_wipe_51 := by
  intro S h
  obtain ⟨h1, h2, h3, h4, h5, h6, h7⟩ := h
  have e := h5.1
  refine ⟨S.1 51 7, wr S 32 1 0, wr (wr S 32 1 0) 51 7 0, ?_, ?_, ?_⟩
  · simp only [G_X5_wipe_0, e]
  · simp only [G_X6_wipe_51]
    rw [wr_ne (by omega)]
  · have r : ∀ c, c ≠ 32 → c ≠ 51 → (wr (wr S 32 1 0) 51 7 0).1 c = S.1 c := fun c a b => by rw [wr_ne b, wr_ne a]
    refine ⟨?_, ?_, h3.cong (by rw [r 0 (by omega) (by omega)]) (by simp [wrAt]) (r 53 (by omega) (by omega)) (fun c a b => r c (by omega) (by omega)), ?_, ⟨by simp [wrAt], 0, by omega, by simp [wrAt]; rfl, fun j hj => by omega⟩, h6.cong (fun c hc => r c (by omega) (by omega)), h7.cong (fun c a b => r c (by omega) (by omega))⟩
    · rw [r 52 (by omega) (by omega)]
      exact h1.cong (fun c a b => r c (by omega) (by omega))
    · rw [r 52 (by omega) (by omega)]
      exact h2
    · rw [r 42 (by omega) (by omega), r 55 (by omega) (by omega)]
      exact h4
theorem op_hold (a b : Int32) : Ok (G_X5_hold_0 a b) (G_X6_hold_51 a b) := by
  intro S h
  have hm : S.1 1 0 = S.1 52 1 := h.1.1
  have hm2 := h.2.1.2.1
  have hR := h.1
  have hK := h.2.1
  by_cases ha : 0 ≤ a ∧ a ≤ 9
  · obtain ⟨k, hk, rfl⟩ := ofR (n := 10) (by decide) ha.1 (by show _ < (10 : Int32); grind)
    by_cases hb : b = -1 ∨ (0 ≤ b ∧ b ≤ S.1 52 1 - 1)
    · have c1 : G_X5_hold_0_34 (nI k) b S = some (1, wr S 10 k b) := by
        simp only [G_X5_hold_0_34]
        rw [if_pos (inB_nI hk (by decide)), cl (by omega)]
      have c2 : G_X6_hold_51_26 (nI k) b (wr S 10 k b) = some (1, wr (wr S 10 k b) 52 (62 + k) b) := by
        simp only [G_X6_hold_51_26]
        rw [ix62, if_pos (inB_nI (by omega) (by decide)), cl (by omega)]
      refine ⟨1, wr S 10 k b, wr (wr S 10 k b) 52 (62 + k) b, ?_, ?_, h.op (fun c hc => wr_ne (by omega)) (fun c hc => wr_ne hc) (w52 (by omega)) (hR.spot hk) (hK.spot hk hb)⟩
      · simp only [G_X5_hold_0, bel, bndS, ite10, c1]
        rw [if_neg (by grind)]
        split
        · rfl
        · rw [if_neg (by grind)]
      · have e : (wr S 10 k b).1 52 = S.1 52 := wr_ne (by omega)
        simp only [G_X6_hold_51, isSpot, isStar, bndS, ite10, c2, e]
        rw [if_neg (by grind)]
        split
        · rfl
        · rw [if_neg (by grind)]
    · refine ok_fin h (i := 0) (by decide) ?_ ?_
      · simp only [G_X5_hold_0, bel, bndS, ite10, fb0]
        rw [if_neg (by grind), if_neg (by grind), if_pos (by grind)]
      · intro S1 h1
        have e : S1.1 52 = S.1 52 := h1 52 (by omega)
        simp only [G_X6_hold_51, isSpot, isStar, bndS, ite10, nb0, e]
        rw [if_neg (by grind), if_neg (by grind), if_pos (by grind)]
  · refine ok_fin h (i := 0) (by decide) ?_ ?_
    · simp only [G_X5_hold_0, bel, bndS, ite10, fb0]
      rw [if_pos (by grind)]
    · intro S1 h1
      simp only [G_X6_hold_51, isSpot, bndS, ite10, nb0]
      rw [if_pos ha]
theorem op_signOf (a : Int32) : Ok (G_X5_signOf_0 a) (G_X6_signOf_51 a) := by
  intro S h
  have hm : S.1 1 9 = S.1 52 2 := h.1.2.2.1
  have hm2 := h.2.1.2.2.1
  have hR := h.1
  by_cases ha : 0 ≤ a ∧ a ≤ S.1 52 2 - 1
  · obtain ⟨k, hk, rfl⟩ := ofR (x := a) (n := 6) (by decide) ha.1 (by show _ < (6 : Int32); grind)
    have e := hR.2.2.2.2.2.2.2.2.2.2.2.1 k hk
    refine ⟨S.1 9 k, S, S, ?_, ?_, h⟩
    · simp only [G_X5_signOf_0, bel, bndS, ite10]
      rw [if_neg (by grind), if_pos (inB_nI hk (by decide)), cl (by omega)]
    · simp only [G_X6_signOf_51, isSign, bndS, ite10]
      rw [if_neg (by grind), ix56, if_pos (inB_nI (by omega) (by decide)), cl (by omega), ← e]
  · refine ok_fin h (i := 0) (by decide) ?_ ?_
    · simp only [G_X5_signOf_0, bel, bndS, ite10, fb0]
      rw [if_pos (by grind)]
    · intro S1 h1
      have e : S1.1 52 = S.1 52 := h1 52 (by omega)
      simp only [G_X6_signOf_51, isSign, bndS, ite10, nb0, e]
      rw [if_pos ha]
