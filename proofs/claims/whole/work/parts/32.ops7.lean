theorem upd_comm (d : Nat → Int32) {i j : Nat} (h : i ≠ j) (v w : Int32) : upd (upd d i v) j w = upd (upd d j w) i v := by
  funext x
  simp only [updAt]
  by_cases h1 : x = j
  · rw [if_pos h1, if_neg (by omega), if_pos h1]
  · rw [if_neg h1]
    by_cases h2 : x = i
    · rw [if_pos h2, if_pos h2]
    · rw [if_neg h2, if_neg h2, if_neg h1]
theorem upd_upd (d : Nat → Int32) (i : Nat) (v w : Int32) : upd (upd d i v) i w = upd d i w := by
  funext x
  simp only [updAt]
  by_cases h1 : x = i
  · rw [if_pos h1, if_pos h1]
  · rw [if_neg h1, if_neg h1, if_neg h1]
theorem upd_self (d : Nat → Int32) (i : Nat) : upd d i (d i) = d := by
  funext x
  simp only [updAt]
  by_cases h1 : x = i
  · rw [if_pos h1, h1]
  · rw [if_neg h1]
theorem updI (d : Nat → Int32) (i : Nat) (v : Int32) : upd d i v i = v := if_pos rfl
theorem updN (d : Nat → Int32) {i j : Nat} (v : Int32) (h : j ≠ i) : upd d i v j = d j := if_neg h
theorem SkyK.starsUp {d : Nat → Int32} {m : Nat} (h : SkyK d) (hd : d 1 = nI m) (hm : m < 10) : SkyK (upd d 1 (nI (m + 1))) := by
  obtain ⟨a1, a2, a3, a4, a5, a6, a7, a8, a9, a10, a11, a12, a13, a14, a15⟩ := h
  refine ⟨?_, ?_, ?_, ?_, ?_, ?_, ?_, fun x hx => ?_, fun x hx => ?_, fun x hx => ?_, fun x hx => ?_, fun x hx => ?_, fun x hx => ?_, fun x hx => ?_, fun x hx => ?_⟩
  · rw [updN _ _ (by omega)]; exact a1
  · rw [updI]; exact ⟨nI_pos' (by omega), nI_le (b := 10) (by omega) (by omega)⟩
  · rw [updN _ _ (by omega)]; exact a3
  · rw [updN _ _ (by omega)]; exact a4
  · rw [updN _ _ (by omega)]; exact a5
  · rw [updN _ _ (by omega)]; exact a6
  · rw [updN _ _ (by omega)]; exact a7
  · rw [updN _ _ (by omega)]; exact a8 x hx
  · rw [updN _ _ (by omega)]; exact a9 x hx
  · rw [updN _ _ (by omega)]; exact a10 x hx
  · rw [updN _ _ (by omega)]; exact a11 x hx
  · rw [updN _ _ (by omega)]; exact a12 x hx
  · rw [updN _ _ (by omega)]; exact a13 x hx
  · rw [updI, updN _ _ (show 2 ≠ 1 by omega), updN _ _ (show 56 + x ≠ 1 by omega)]
    intro q
    have := a14 x hx q
    rw [hd, shl1 (by omega)] at this
    rw [shl1 (by omega)]
    refine ⟨this.1, ?_⟩
    have h1 := pw_le (show m ≤ 10 by omega)
    have h2 := pw_le (show m + 1 ≤ 10 by omega)
    have h3 : 2 ^ m ≤ 2 ^ (m + 1) := Nat.pow_le_pow_right (by decide) (by omega)
    have h4 : nI (2 ^ m) ≤ nI (2 ^ (m + 1)) := nI_le h3 (by omega)
    have h5 : nI (2 ^ (m + 1)) ≤ 1024 := nI_le (b := 1024) h2 (by omega)
    have h6 : 0 ≤ nI (2 ^ m) := nI_pos' (by omega)
    generalize nI (2 ^ m) = x1 at *
    generalize nI (2 ^ (m + 1)) = x2 at *
    grind
  · rw [updI, updN _ _ (show 62 + x ≠ 1 by omega)]
    have := a15 x hx
    rw [hd] at this
    have h1 : nI (m + 1) = nI m + 1 := (nI_1 m).symm
    have h2 : nI m ≤ 10 := nI_le (b := 10) (by omega) (by omega)
    have h3 : 0 ≤ nI m := nI_pos' (by omega)
    rw [h1]
    generalize nI m = y at *
    generalize d (62 + x) = z at *
    grind
theorem pick {x : Int32} (h : ¬ x = nI 10) {m : Nat} (hm : m ≤ 10) (e : x = nI m) : m < 10 := by
  have : m ≠ 10 := fun q => h (by rw [e, q])
  omega
theorem op_star (a b : Int32) : Ok (G_X5_star_0 a b) (G_X6_star_51 a b) := by
  intro S h
  obtain ⟨m, hm, hs⟩ := starsN h
  have hR := h.1
  have hK := h.2.1
  have e0 : S.1 1 0 = nI m := hR.1.trans hs
  by_cases ha : 0 ≤ a ∧ a ≤ 6
  · by_cases hb : 0 ≤ b ∧ b ≤ 99
    · by_cases hm1 : m = 10
      · refine ok_fin h (i := 1) (by decide) ?_ ?_
        · simp only [G_X5_star_0, bel, bndS, ite10, fb1, e0]
          rw [if_neg (by grind), if_neg (by grind), if_neg (by rw [hm1]; decide)]
        · intro S1 h1
          simp only [G_X6_star_51, in1, isPlace, bndS, ite10, nb1, h1 52 (by omega)]
          rw [if_neg (not_not_intro ha), if_neg (not_not_intro hb), if_pos (by rw [hs, hm1]; rfl)]
      · have hm2 : m < 10 := by omega
        refine ⟨nI m, wr (wr (wr (wr (wr S 2 m a) 3 m b) 4 m 50) 5 m 1) 1 0 (nI (m + 1)), wr (wr (wr (wr (wr (wr (wr (wr (wr (wr S 2 m a) 3 m b) 4 m 50) 5 m 1) 1 0 (nI (m + 1))) 52 (16 + 4 * m) a) 52 (17 + 4 * m) b) 52 (18 + 4 * m) 50) 52 (19 + 4 * m) 1) 52 1 (nI (m + 1)), ?_, ?_, ?_⟩
        · simp only [G_X5_star_0, bel, bndS, ite10, G_X1_addStar_1]
          rw [if_neg (by grind), if_neg (by grind), e0, if_pos (show nI m < (10 : Int32) from nI_lt (b := 10) hm2 (by omega))]
          simp only [inB_nI hm2 (by decide), if_true, cl (show m < 1000 by omega), bndS, nI_1, nI_pred]
        · have e52 : (wr (wr (wr (wr (wr S 2 m a) 3 m b) 4 m 50) 5 m 1) 1 0 (nI (m + 1))).1 52 = S.1 52 := by
            simp only [wr_ne (show 52 ≠ 1 by omega), wr_ne (show 52 ≠ 2 by omega), wr_ne (show 52 ≠ 3 by omega), wr_ne (show 52 ≠ 4 by omega), wr_ne (show 52 ≠ 5 by omega)]
          generalize wr (wr (wr (wr (wr S 2 m a) 3 m b) 4 m 50) 5 m 1) 1 0 (nI (m + 1)) = T at e52
          simp only [G_X6_star_51, in1, isPlace, bndS, ite10, e52]
          rw [if_neg (not_not_intro ha), if_neg (not_not_intro hb), hs, if_neg (show ¬ nI m = (10 : Int32) from fun q => hm1 ((nI_eq (a := m) (b := 10) (by omega) (by omega)).mp q))]
          simp only [G_X6_addsStar_51, e52, hs, mput0 hm2, mput1 hm2, mput2 hm2, mput3 hm2, bndS, wr_eq]
          rw [updI, updN _ _ (show 1 ≠ 19 + 4 * m by omega), updN _ _ (show 1 ≠ 18 + 4 * m by omega), updN _ _ (show 1 ≠ 17 + 4 * m by omega), updN _ _ (show 1 ≠ 16 + 4 * m by omega), hs, nI_1, nI_pred]
        · refine h.op (d := upd (upd (upd (upd (upd (S.1 52) (16 + 4 * m) a) (17 + 4 * m) b) (18 + 4 * m) 50) (19 + 4 * m) 1) 1 (nI (m + 1))) (S1 := wr (wr (wr (wr (wr S 2 m a) 3 m b) 4 m 50) 5 m 1) 1 0 (nI (m + 1))) ?_ ?_ ?_ ?_ ?_
          · intro c hc
            rw [wr_ne (by omega), wr_ne (by omega), wr_ne (by omega), wr_ne (by omega), wr_ne (by omega)]
          · intro c hc
            rw [wr_ne hc, wr_ne hc, wr_ne hc, wr_ne hc, wr_ne hc]
          · simp only [wr_eq, wr_ne (show 52 ≠ 1 by omega), wr_ne (show 52 ≠ 2 by omega), wr_ne (show 52 ≠ 3 by omega), wr_ne (show 52 ≠ 4 by omega), wr_ne (show 52 ≠ 5 by omega)]
          · exact ((((hR.kind hm2).place hm2).life hm2).worth hm2).stars
          · refine SkyK.starsUp ((((hK.kind hm2 ha).place hm2 hb).life hm2 (by decide)).worth hm2 (by decide)) ?_ hm2
            rw [updN _ _ (by omega), updN _ _ (by omega), updN _ _ (by omega), updN _ _ (by omega), hs]
    · refine ok_fin h (i := 0) (by decide) ?_ ?_
      · simp only [G_X5_star_0, bel, bndS, ite10, fb0]
        rw [if_neg (by grind), if_pos (by grind)]
      · intro S1 h1
        simp only [G_X6_star_51, in1, isPlace, bndS, ite10, nb0, h1 52 (by omega)]
        rw [if_neg (not_not_intro ha), if_pos hb]
  · refine ok_fin h (i := 0) (by decide) ?_ ?_
    · simp only [G_X5_star_0, bel, bndS, ite10, fb0]
      rw [if_pos (by grind)]
    · intro S1 h1
      simp only [G_X6_star_51, in1, isPlace, bndS, ite10, nb0, h1 52 (by omega)]
      rw [if_pos ha]
theorem SkyK.signUp {d : Nat → Int32} {z : Nat} {v : Int32} (h : SkyK d) (hd : d 2 = nI z) (hz : z < 6) (hv : 0 < v ∧ v ≤ (1 <<< (d 1 &&& 31)) - 1) : SkyK (upd (upd d (56 + z) v) 2 (nI (z + 1))) := by
  obtain ⟨a1, a2, a3, a4, a5, a6, a7, a8, a9, a10, a11, a12, a13, a14, a15⟩ := h
  refine ⟨?_, ?_, ?_, ?_, ?_, ?_, ?_, fun x hx => ?_, fun x hx => ?_, fun x hx => ?_, fun x hx => ?_, fun x hx => ?_, fun x hx => ?_, fun x hx => ?_, fun x hx => ?_⟩
  · rw [updN _ _ (by omega), updN _ _ (by omega)]; exact a1
  · rw [updN _ _ (by omega), updN _ _ (by omega)]; exact a2
  · rw [updI]; exact ⟨nI_pos' (by omega), nI_le (b := 6) (by omega) (by omega)⟩
  · rw [updN _ _ (by omega), updN _ _ (by omega)]; exact a4
  · rw [updN _ _ (by omega), updN _ _ (by omega)]; exact a5
  · rw [updN _ _ (by omega), updN _ _ (by omega)]; exact a6
  · rw [updN _ _ (by omega), updN _ _ (by omega)]; exact a7
  · rw [updN _ _ (by omega), updN _ _ (by omega)]; exact a8 x hx
  · rw [updN _ _ (by omega), updN _ _ (by omega)]; exact a9 x hx
  · rw [updN _ _ (by omega), updN _ _ (by omega)]; exact a10 x hx
  · rw [updN _ _ (by omega), updN _ _ (by omega)]; exact a11 x hx
  · rw [updN _ _ (by omega), updN _ _ (by omega)]; exact a12 x hx
  · rw [updN _ _ (by omega), updN _ _ (by omega)]; exact a13 x hx
  · rw [updI, updN _ _ (show 56 + x ≠ 2 by omega), updN _ _ (show 1 ≠ 2 by omega), updN _ _ (show 1 ≠ 56 + z by omega)]
    intro q
    have q2 := (nI_ltI (by omega) (by omega)).mp q
    by_cases hxz : x = z
    · subst hxz
      rw [updI]; exact hv
    · rw [updN _ _ (by omega)]
      exact a14 x hx (by rw [hd]; exact nI_lt (by omega) (by omega))
  · rw [updN _ _ (by omega), updN _ _ (by omega), updN _ _ (by omega), updN _ _ (by omega)]; exact a15 x hx
theorem op_sign (a : Int32) : Ok (G_X5_sign_0 a) (G_X6_sign_51 a) := by
  intro S h
  obtain ⟨m, hm, hs⟩ := starsN h
  obtain ⟨z, hz, hzs⟩ := signsN h
  have hR := h.1
  have hK := h.2.1
  have e0 : S.1 1 0 = S.1 52 1 := hR.1
  have e9 : S.1 1 9 = nI z := hR.2.2.1.trans hzs
  have hsh : (0 ≤ a ∧ a < 1 <<< (S.1 1 0 &&& 31)) ↔ (0 ≤ a ∧ a ≤ (1 <<< (S.1 52 1 &&& 31)) - 1) := by
    rw [e0, hs, shl1 hm]
    have h2 := pw_le hm
    have h5 : nI (2 ^ m) ≤ 1024 := nI_le (b := 1024) h2 (by omega)
    have h6 : 0 ≤ nI (2 ^ m) := nI_pos' (by omega)
    generalize nI (2 ^ m) = x1 at *
    grind
  by_cases ha : 0 ≤ a ∧ a < 1 <<< (S.1 1 0 &&& 31)
  · have ha2 := hsh.mp ha
    by_cases hb : a = 0
    · refine ok_fin h (i := 0) (by decide) ?_ ?_
      · simp only [G_X5_sign_0, fb0]
        rw [if_pos hb]
      · intro S1 h1
        simp only [G_X6_sign_51, isSet, bndS, ite10, nb0, h1 52 (by omega)]
        rw [if_neg (not_not_intro ha2), if_pos hb]
    · by_cases hz1 : z = 6
      · refine ok_fin h (i := 1) (by decide) ?_ ?_
        · simp only [G_X5_sign_0, cset, bndS, ite10, fb1, e9]
          rw [if_neg hb, if_neg (not_not_intro ha), if_neg (by rw [hz1]; decide)]
        · intro S1 h1
          simp only [G_X6_sign_51, isSet, bndS, ite10, nb1, h1 52 (by omega)]
          rw [if_neg (not_not_intro ha2), if_neg hb, if_pos (by rw [hzs, hz1]; rfl)]
      · have hz2 : z < 6 := by omega
        refine ⟨nI z, wr (wr S 9 z a) 1 9 (nI (z + 1)), wr (wr (wr (wr S 9 z a) 1 9 (nI (z + 1))) 52 (56 + z) a) 52 2 (nI (z + 1)), ?_, ?_, ?_⟩
        · simp only [G_X5_sign_0, cset, bndS, ite10, G_X1_addSign_1]
          rw [if_neg hb, if_neg (not_not_intro ha), e9, if_pos (show nI z < (6 : Int32) from nI_lt (b := 6) hz2 (by omega))]
          simp only [inB_nI hz2 (by decide), if_true, cl (show z < 1000 by omega), bndS, nI_1, nI_pred]
        · have e52 : (wr (wr S 9 z a) 1 9 (nI (z + 1))).1 52 = S.1 52 := by
            rw [wr_ne (by omega), wr_ne (by omega)]
          generalize wr (wr S 9 z a) 1 9 (nI (z + 1)) = T at e52
          simp only [G_X6_sign_51, isSet, bndS, ite10, e52, G_X6_addsSign_51]
          rw [if_neg (not_not_intro ha2), if_neg hb, hzs, if_neg (show ¬ nI z = (6 : Int32) from fun q => hz1 ((nI_eq (a := z) (b := 6) (by omega) (by omega)).mp q))]
          simp only [ix56, inB_nI (show 56 + z < 72 by omega) (by decide), if_true, cl (show 56 + z < 1000 by omega), bndS, wr_eq, e52]
          rw [updN _ _ (show 2 ≠ 56 + z by omega), hzs, updI, nI_1, nI_pred]
        · refine h.op (d := upd (upd (S.1 52) (56 + z) a) 2 (nI (z + 1))) (S1 := wr (wr S 9 z a) 1 9 (nI (z + 1))) ?_ ?_ ?_ ?_ ?_
          · intro c hc
            rw [wr_ne (by omega), wr_ne (by omega)]
          · intro c hc
            rw [wr_ne hc, wr_ne hc]
          · simp only [wr_eq, wr_ne (show 52 ≠ 1 by omega), wr_ne (show 52 ≠ 9 by omega)]
          · exact (hR.signAt hz2).signs
          · exact hK.signUp hzs hz2 ⟨by grind, ha2.2⟩
  · refine ok_fin h (i := 0) (by decide) ?_ ?_
    · simp only [G_X5_sign_0, cset, bndS, ite10, fb0]
      by_cases hb : a = 0
      · rw [if_pos hb]
      · rw [if_neg hb, if_pos ha]
    · intro S1 h1
      simp only [G_X6_sign_51, isSet, bndS, ite10, nb0, h1 52 (by omega)]
      rw [if_pos (fun q => ha (hsh.mpr q))]
theorem mapart {a b : Int32} (ha : 0 ≤ a ∧ a ≤ 99) (hb : 0 ≤ b ∧ b ≤ 99) (S : ST) : G_X6_apartOf a b S = some (imn (iab (a - b)) (100 - iab (a - b)), S) := by
  simp only [G_X6_apartOf, G_X6_less]
  rw [← apart_eq ha.1 ha.2 hb.1 hb.2]
  split <;> rfl
theorem op_mends (a b : Int32) : Ok (G_X5_mends_0 a b) (G_X6_mends_51 a b) := by
  intro S h
  obtain ⟨m, hm, hs⟩ := starsN h
  have hR := h.1
  have hK := h.2.1
  have e0 : S.1 1 0 = nI m := hR.1.trans hs
  have e83 : S.1 8 3 = S.1 52 7 := hR.2.2.2.2.1 3 (by omega)
  have b7 := hK.2.2.2.2.2.2.1
  by_cases ha : 0 ≤ a ∧ a ≤ 3
  · by_cases hb : 0 ≤ b ∧ b < S.1 1 0
    · have hb2 := (starB h).mp hb
      by_cases hq : (1 : Int32) ≤ S.1 8 3
      · obtain ⟨c, hc, rfl⟩ := ofR (n := 4) (by decide) ha.1 (by show _ < (4 : Int32); grind)
        rw [e0] at hb
        obtain ⟨k, hk, rfl⟩ := ofR (by omega) hb.1 hb.2
        have hk2 : k < 10 := by omega
        have e6 : S.1 6 c = S.1 52 (8 + 2 * c) := hR.2.2.2.2.2.1 c hc
        have e3 : S.1 3 k = S.1 52 (17 + 4 * k) := hR.2.2.2.2.2.2.2.2.1 k hk2
        have c1 := hK.2.2.2.2.2.2.2.1 c hc
        have c2 := hK.2.2.2.2.2.2.2.2.2.2.1 k hk2
        refine ⟨imn (iab (S.1 6 c - S.1 3 k)) (100 - iab (S.1 6 c - S.1 3 k)), wr (wr (wr S 8 3 (S.1 8 3 - 1)) 4 k 99) 6 c (S.1 3 k), wr (wr (wr (wr (wr (wr S 8 3 (S.1 8 3 - 1)) 4 k 99) 6 c (S.1 3 k)) 52 (18 + 4 * k) 99) 52 7 (S.1 52 7 - 1)) 52 (8 + 2 * c) (S.1 52 (17 + 4 * k)), ?_, ?_, ?_⟩
        · simp only [G_X5_mends_0, bel, bndS, ite10, e0]
          rw [if_neg (by grind), if_neg (not_not_intro hb), if_pos hq]
          simp only [inB_nI hk2 (by decide), inB_nI hc (by decide), if_true, cl (show k < 1000 by omega), cl (show c < 1000 by omega), G_X5_replaced_6, bndS, G_X5_stepsBetween]
          rw [wr_ne (show 6 ≠ 4 by omega), wr_ne (show 6 ≠ 8 by omega), wr_ne (show 3 ≠ 6 by omega), wr_ne (show 3 ≠ 4 by omega), wr_ne (show 3 ≠ 8 by omega)]
        · have e52 : (wr (wr (wr S 8 3 (S.1 8 3 - 1)) 4 k 99) 6 c (S.1 3 k)).1 52 = S.1 52 := by
            rw [wr_ne (by omega), wr_ne (by omega), wr_ne (by omega)]
          generalize wr (wr (wr S 8 3 (S.1 8 3 - 1)) 4 k 99) 6 c (S.1 3 k) = T at e52
          simp only [G_X6_mends_51, isCrew, isStar, bndS, ite10, e52]
          rw [if_neg (not_not_intro ha), if_neg (not_not_intro hb2), if_neg (by rw [← e83]; grind)]
          simp only [G_X6_at_51, ix2', inB_nI (show 8 + 2 * c < 72 by omega) (by decide), if_true, cl (show 8 + 2 * c < 1000 by omega), bndS, mget1 hk2, e52, mapart c1 c2, mput2 hk2, wr_eq]
          rw [updN _ _ (show 7 ≠ 18 + 4 * k by omega), updN _ _ (show 17 + 4 * k ≠ 7 by omega), updN _ _ (show 17 + 4 * k ≠ 18 + 4 * k by omega), e6, e3]
        · refine h.op (d := upd (upd (upd (S.1 52) (18 + 4 * k) 99) 7 (S.1 52 7 - 1)) (8 + 2 * c) (S.1 52 (17 + 4 * k))) (S1 := wr (wr (wr S 8 3 (S.1 8 3 - 1)) 4 k 99) 6 c (S.1 3 k)) ?_ ?_ ?_ ?_ ?_
          · intro c hc
            rw [wr_ne (by omega), wr_ne (by omega), wr_ne (by omega)]
          · intro c hc
            rw [wr_ne hc, wr_ne hc, wr_ne hc]
          · simp only [wr_eq, wr_ne (show 52 ≠ 8 by omega), wr_ne (show 52 ≠ 4 by omega), wr_ne (show 52 ≠ 6 by omega)]
          · have := ((hR.setting (k := 3) (v := S.1 52 7 - 1) (by omega)).life (v := 99) hk2).crewP (v := S.1 52 (17 + 4 * k)) hc
            rw [e83, e3, upd_comm _ (show 18 + 4 * k ≠ 7 by omega)]
            exact this
          · exact ((hK.life hk2 (v := 99) (by decide)).parts (v := S.1 52 7 - 1) (by rw [e83] at hq; grind)).crewP hc c2
      · refine ok_fin h (i := 4) (by decide) ?_ ?_
        · simp only [G_X5_mends_0, bel, bndS, ite10, fb4]
          rw [if_neg (by grind), if_neg (not_not_intro hb), if_neg hq]
        · intro S1 h1
          simp only [G_X6_mends_51, isCrew, isStar, bndS, ite10, nb4, h1 52 (by omega)]
          rw [if_neg (not_not_intro ha), if_neg (not_not_intro hb2), if_pos (by rw [e83] at hq; grind)]
    · refine ok_fin h (i := 0) (by decide) ?_ ?_
      · simp only [G_X5_mends_0, bel, bndS, ite10, fb0]
        rw [if_neg (by grind), if_pos hb]
      · intro S1 h1
        simp only [G_X6_mends_51, isCrew, isStar, bndS, ite10, nb0, h1 52 (by omega)]
        rw [if_neg (not_not_intro ha), if_pos (fun q => hb ((starB h).mpr q))]
  · refine ok_fin h (i := 0) (by decide) ?_ ?_
    · simp only [G_X5_mends_0, bel, bndS, ite10, fb0]
      rw [if_pos (by grind)]
    · intro S1 h1
      simp only [G_X6_mends_51, isCrew, isStar, bndS, ite10, nb0, h1 52 (by omega)]
      rw [if_pos ha]
