/-- copied -/
theorem crange {s : Nat} (hs : s < 4) (f n : Int32) (S : ST) : G_X0_hasRange_d (43 + 2 * s) f n S = some (if 0 ≤ f ∧ 0 ≤ n ∧ f ≤ S.1 (43 + 2 * s) 1 - n then 1 else 0, S) := by
  unfold G_X0_hasRange_d
  rw [if_pos (isShk s hs)]
  by_cases h1 : f < 0
  · rw [if_pos h1, if_neg (by rintro ⟨q, _, _⟩; grind)]
  · rw [if_neg h1]
    by_cases h2 : n < 0
    · rw [if_pos h2, if_neg (by rintro ⟨_, q, _⟩; grind)]
    · rw [if_neg h2]
      by_cases h3 : S.1 (43 + 2 * s) 1 - n < f
      · rw [if_pos h3, if_neg (by rintro ⟨_, _, q⟩; grind)]
      · rw [if_neg h3, if_pos (by refine ⟨?_, ?_, ?_⟩ <;> grind)]
theorem mcp1 {s t f o m : Nat} (hs : s < 4) (ht : t < 4) (hf : f + m ≤ 40) : ∀ (e k n : Nat) (S : ST), k + e = m → e < n → G_X6_copy_51_115 n (nI s) (nI f) (nI t) (nI o) (nI m) (nI k) S = some (nI t, nI o, nI m, sr S 65 (fun i => if k ≤ i ∧ i < m then S.1 64 (40 * s + f + i) else S.1 65 i)) := by
  intro e
  induction e with
  | zero =>
    intro k n S h1 h2
    obtain ⟨n, rfl⟩ : ∃ n', n = n' + 1 := ⟨n - 1, by omega⟩
    unfold G_X6_copy_51_115
    rw [if_pos (nI_le (by omega) (by omega))]
    have : (fun i => if k ≤ i ∧ i < m then S.1 64 (40 * s + f + i) else S.1 65 i) = S.1 65 := by
      funext i
      rw [if_neg (by omega)]
    rw [this, sr_self]
  | succ e ih =>
    intro k n S h1 h2
    obtain ⟨n, rfl⟩ : ∃ n', n = n' + 1 := ⟨n - 1, by omega⟩
    unfold G_X6_copy_51_115
    rw [if_neg (nI_ge (by omega) (by omega)), ix40, nI_add, if_pos (inB_nI (by omega) (by decide)), if_pos (inB_nI (by omega) (by decide)), cl (by omega), cl (by omega), nI_1, ih (k + 1) n _ (by omega) (by omega), wr_sr, sr_sr, sr_eq, sr_ne (show 64 ≠ 65 by omega)]
    congr 5
    funext i
    by_cases hi : i = k
    · subst hi
      rw [if_neg (by omega), if_pos (by omega), updI]
    · rw [updN _ _ hi]
      by_cases h3 : k ≤ i ∧ i < m
      · rw [if_pos (by omega), if_pos h3]
      · rw [if_neg (by omega), if_neg h3]
theorem mcp2 {t o m : Nat} (ht : t < 4) (ho : o + m ≤ 40) : ∀ (e k n : Nat) (S : ST), k + e = m → e < n → G_X6_copy_51_152 n (nI t) (nI o) (nI m) (nI k) S = some (nI m, sr S 64 (fun i => if 40 * t + o + k ≤ i ∧ i < 40 * t + o + m then S.1 65 (i - (40 * t + o)) else S.1 64 i)) := by
  intro e
  induction e with
  | zero =>
    intro k n S h1 h2
    obtain ⟨n, rfl⟩ : ∃ n', n = n' + 1 := ⟨n - 1, by omega⟩
    unfold G_X6_copy_51_152
    rw [if_pos (nI_le (by omega) (by omega))]
    have : (fun i => if 40 * t + o + k ≤ i ∧ i < 40 * t + o + m then S.1 65 (i - (40 * t + o)) else S.1 64 i) = S.1 64 := by
      funext i
      rw [if_neg (by omega)]
    rw [this, sr_self]
  | succ e ih =>
    intro k n S h1 h2
    obtain ⟨n, rfl⟩ : ∃ n', n = n' + 1 := ⟨n - 1, by omega⟩
    unfold G_X6_copy_51_152
    rw [if_neg (nI_ge (by omega) (by omega)), if_pos (inB_nI (by omega) (by decide)), ix40, nI_add, if_pos (inB_nI (by omega) (by decide)), cl (by omega), cl (by omega), nI_1, ih (k + 1) n _ (by omega) (by omega), wr_sr, sr_sr, sr_eq, sr_ne (show 65 ≠ 64 by omega)]
    congr 3
    funext i
    by_cases hi : i = 40 * t + o + k
    · subst hi
      rw [if_neg (by omega), if_pos (by omega), updI, show 40 * t + o + k - (40 * t + o) = k by omega]
    · rw [updN _ _ hi]
      by_cases h3 : 40 * t + o + k ≤ i ∧ i < 40 * t + o + m
      · rw [if_pos (by omega), if_pos h3]
      · rw [if_neg (by omega), if_neg h3]
theorem cp_inv {S S2 : ST} (h : Inv S) {s t f o m : Nat} (hs : s < 4) (ht : t < 4) (hf : f + m ≤ 40) (ho : o + m ≤ 40) (h2 : ∀ c, c ≠ 64 → c ≠ 65 → S2.1 c = (cpS S (44 + 2 * s) (44 + 2 * t) f o m).1 c) (h64 : S2.1 64 = fun i => if 40 * t + o + 0 ≤ i ∧ i < 40 * t + o + m then S.1 64 (40 * s + f + (i - (40 * t + o))) else S.1 64 i) : Inv S2 := by
  have h6 := h.2.2.2.2.2.1
  refine h.shs ?_ ?_
  · intro c hc
    rw [h2 c (by omega) (by omega), cp_ne (by omega)]
  · intro u hu
    obtain ⟨a1, a2, a3, a4, a5⟩ := h6 u hu
    refine ⟨?_, ?_, ?_, ?_, fun i hi => ?_⟩
    · rw [h2 _ (by omega) (by omega), h2 62 (by omega) (by omega), cp_ne (by omega), cp_ne (by omega)]
      exact a1
    · rw [h2 _ (by omega) (by omega), h2 63 (by omega) (by omega), cp_ne (by omega), cp_ne (by omega)]
      exact a2
    · rw [h2 62 (by omega) (by omega), cp_ne (by omega)]
      exact a3
    · rw [h2 63 (by omega) (by omega), cp_ne (by omega)]
      exact a4
    · rw [h2 _ (by omega) (by omega), h64]
      show _ = if 40 * t + o + 0 ≤ 40 * u + i ∧ 40 * u + i < 40 * t + o + m then _ else _
      by_cases hut : u = t
      · subst hut
        rw [cp_eq]
        by_cases hq : o ≤ i ∧ i < o + m
        · rw [pk_cpy_in hq.1 hq.2, if_pos (by omega), (h6 s hs).2.2.2.2 (f + (i - o)) (by omega)]
          refine congrArg (S.1 64) ?_
          omega
        · rw [pk_cpy_out (by omega), if_neg (by omega)]
          exact a5 i hi
      · rw [cp_ne (by omega), if_neg (by omega)]
        exact a5 i hi
theorem op_copy (a f b o n : Int32) : Ok (G_X5_copy_0 a f b o n) (G_X6_copy_51 a f b o n) := by
  intro S h
  have h6 := h.2.2.2.2.2.1
  by_cases ha : 0 ≤ a ∧ a < 4
  · by_cases hb : 0 ≤ b ∧ b < 4
    · have ha' := ha
      have hb' := hb
      obtain ⟨s, hs, rfl⟩ := ofR (n := 4) (by decide) ha.1 ha.2
      obtain ⟨t, ht, rfl⟩ := ofR (n := 4) (by decide) hb.1 hb.2
      obtain ⟨a1, a2, a3, a4, a5⟩ := h6 s hs
      obtain ⟨b1, b2, b3, b4, b5⟩ := h6 t ht
      obtain ⟨N, hN, eN⟩ := shN h hs
      obtain ⟨M, hM, eM⟩ := shN h ht
      have bs := inB_nI hs (by decide)
      have bt := inB_nI ht (by decide)
      have cs : (nI s).toNatClampNeg = s := cl (by omega)
      have ct : (nI t).toNatClampNeg = t := cl (by omega)
      by_cases h0 : S.1 62 s = 0
      · refine ok_fin h (i := 5) (by decide) ?_ ?_
        · simp only [G_X5_copy_0, bel, bndS, ite10, bs, bt, if_true, shOk hs, shOk ht, a1, b1, fb5]
          rw [if_neg (not_not_intro ha'), if_neg (not_not_intro hb'), if_pos h0]
        · intro S1 h1
          simp only [G_X6_copy_51, misSheet, bndS, ite10, bs, bt, if_true, cs, ct, h1 62 (by omega), nb5]
          rw [if_neg (not_not_intro (shB.mp ha')), if_neg (not_not_intro (shB.mp hb')), if_pos h0]
      · by_cases h00 : S.1 62 t = 0
        · refine ok_fin h (i := 5) (by decide) ?_ ?_
          · simp only [G_X5_copy_0, bel, bndS, ite10, bs, bt, if_true, shOk hs, shOk ht, a1, b1, fb5]
            rw [if_neg (not_not_intro ha'), if_neg (not_not_intro hb'), if_neg h0, if_pos h00]
          · intro S1 h1
            simp only [G_X6_copy_51, misSheet, bndS, ite10, bs, bt, if_true, cs, ct, h1 62 (by omega), nb5]
            rw [if_neg (not_not_intro (shB.mp ha')), if_neg (not_not_intro (shB.mp hb')), if_neg h0, if_pos h00]
        · by_cases hk : S.1 62 s = S.1 62 t
          · by_cases hq : (0 ≤ f ∧ 0 ≤ n ∧ f ≤ nI N - n) ∧ (0 ≤ o ∧ 0 ≤ n ∧ o ≤ nI M - n)
            · obtain ⟨⟨f0, n0, f1⟩, ⟨o0, -, o1⟩⟩ := hq
              have hN' : nI N ≤ 40 := nI_le (b := 40) hN (by decide)
              have hM' : nI M ≤ 40 := nI_le (b := 40) hM (by decide)
              have hN0 : 0 ≤ nI N := nI_pos' (by omega)
              have hM0 : 0 ≤ nI M := nI_pos' (by omega)
              have hn1 : n ≤ 40 := by generalize nI N = w at *; grind
              obtain ⟨n', hn', rfl⟩ := ofR (n := 41) (by decide) n0 (by show _ < (41 : Int32); grind)
              have hf1 : f ≤ 40 := by generalize nI N = w at *; generalize nI n' = v at *; grind
              have ho1 : o ≤ 40 := by generalize nI M = w at *; generalize nI n' = v at *; grind
              obtain ⟨f', hf', rfl⟩ := ofR (n := 41) (by decide) f0 (by show _ < (41 : Int32); grind)
              obtain ⟨o', ho', rfl⟩ := ofR (n := 41) (by decide) o0 (by show _ < (41 : Int32); grind)
              have hfn : f' + n' ≤ N := by
                have : nI (f' + n') ≤ nI N := by
                  rw [← nI_add]
                  generalize nI N = w at *; generalize nI n' = v at *; generalize nI f' = u at *; grind
                exact (nI_leI (by omega) (by omega)).mp this
              have hon : o' + n' ≤ M := by
                have : nI (o' + n') ≤ nI M := by
                  rw [← nI_add]
                  generalize nI M = w at *; generalize nI n' = v at *; generalize nI o' = u at *; grind
                exact (nI_leI (by omega) (by omega)).mp this
              have hcp : cpB (nI f') (nI o') (nI n') 40 40 = true := by
                unfold cpB
                rw [cl (by omega), cl (by omega), cl (by omega), decide_eq_true (nI_pos (n := f') (by omega)), decide_eq_true (nI_pos (n := o') (by omega)), decide_eq_true (nI_pos (n := n') (by omega)), decide_eq_true (show f' + n' ≤ 40 by omega), decide_eq_true (show o' + n' ≤ 40 by omega)]
                rfl
              obtain ⟨C, hC⟩ : ∃ C : ST, C = cpS S (44 + 2 * s) (44 + 2 * t) f' o' n' := ⟨_, rfl⟩
              have e62 : C.1 62 = S.1 62 := by rw [hC]; exact cp_ne (by omega)
              have e63 : C.1 63 = S.1 63 := by rw [hC]; exact cp_ne (by omega)
              have e64 : C.1 64 = S.1 64 := by rw [hC]; exact cp_ne (by omega)
              have m1 := mcp1 (o := o') hs ht (show f' + n' ≤ 40 by omega) n' 0 3000 C (by omega) (by omega)
              obtain ⟨D, hD⟩ : ∃ D : ST, D = sr C 65 (fun i => if 0 ≤ i ∧ i < n' then C.1 64 (40 * s + f' + i) else C.1 65 i) := ⟨_, rfl⟩
              rw [← hD, show nI 0 = 0 from rfl] at m1
              have m2 := mcp2 ht (show o' + n' ≤ 40 by omega) n' 0 3000 D (by omega) (by omega)
              obtain ⟨E, hE⟩ : ∃ E : ST, E = sr D 64 (fun i => if 40 * t + o' + 0 ≤ i ∧ i < 40 * t + o' + n' then D.1 65 (i - (40 * t + o')) else D.1 64 i) := ⟨_, rfl⟩
              rw [← hE, show nI 0 = 0 from rfl] at m2
              refine ⟨nI n', C, E, ?_, ?_, cp_inv h hs ht (show f' + n' ≤ 40 by omega) (show o' + n' ≤ 40 by omega) ?_ ?_⟩
              · simp only [G_X5_copy_0, bel, bndS, ite10, bs, bt, if_true, shOk hs, shOk ht, a1, b1, crange hs, crange ht, a2, b2, eN, eM, hcp, cl (show f' < 1000 by omega), cl (show o' < 1000 by omega), cl (show n' < 1000 by omega)]
                rw [if_neg (not_not_intro ha'), if_neg (not_not_intro hb'), if_neg h0, if_neg h00, if_pos hk, if_neg (not_not_intro ⟨f0, n0, f1⟩), if_neg (not_not_intro ⟨o0, n0, o1⟩), show 43 + 2 * s + 1 = 44 + 2 * s by omega, show 43 + 2 * t + 1 = 44 + 2 * t by omega, hC]
              · simp only [G_X6_copy_51, misSheet, bndS, ite10, bs, bt, if_true, cs, ct, e62, e63, eN, eM, m1, m2]
                rw [if_neg (not_not_intro (shB.mp ha')), if_neg (not_not_intro (shB.mp hb')), if_neg h0, if_neg h00, if_pos hk, if_neg (nI_pos (by omega)), if_neg (nI_pos (by omega)), if_neg (nI_pos (by omega)), if_neg (by generalize nI N = w at *; generalize nI n' = v at *; generalize nI f' = u at *; grind), if_pos o1]
              · intro c x1 x2
                rw [hE, sr_ne x1, hD, sr_ne x2, hC]
              · rw [hE, sr_eq, hD, sr_eq, sr_ne (show 64 ≠ 65 by omega), e64]
                funext i
                by_cases hq : 40 * t + o' + 0 ≤ i ∧ i < 40 * t + o' + n'
                · rw [if_pos hq, if_pos hq, if_pos (by omega)]
                · rw [if_neg hq, if_neg hq]
            · refine ok_fin h (i := 0) (by decide) ?_ ?_
              · simp only [G_X5_copy_0, bel, bndS, ite10, bs, bt, if_true, shOk hs, shOk ht, a1, b1, crange hs, crange ht, a2, b2, eN, eM, fb0]
                rw [if_neg (not_not_intro ha'), if_neg (not_not_intro hb'), if_neg h0, if_neg h00, if_pos hk]
                by_cases q1 : 0 ≤ f ∧ 0 ≤ n ∧ f ≤ nI N - n
                · rw [if_neg (not_not_intro q1), if_pos (fun q2 => hq ⟨q1, q2⟩)]
                · rw [if_pos q1]
              · intro S1 h1
                simp only [G_X6_copy_51, misSheet, bndS, ite10, bs, bt, if_true, cs, ct, h1 62 (by omega), h1 63 (by omega), eN, eM, nb0]
                rw [if_neg (not_not_intro (shB.mp ha')), if_neg (not_not_intro (shB.mp hb')), if_neg h0, if_neg h00, if_pos hk]
                by_cases w1 : n < 0
                · rw [if_pos w1]
                · rw [if_neg w1]
                  by_cases w2 : f < 0
                  · rw [if_pos w2]
                  · rw [if_neg w2]
                    by_cases w3 : o < 0
                    · rw [if_pos w3]
                    · rw [if_neg w3]
                      by_cases w4 : nI N - n < f
                      · rw [if_pos w4]
                      · rw [if_neg w4, if_neg]
                        intro w5
                        exact hq ⟨⟨by grind, by grind, by grind⟩, ⟨by grind, by grind, w5⟩⟩
          · refine ok_fin h (i := 2) (by decide) ?_ ?_
            · simp only [G_X5_copy_0, bel, bndS, ite10, bs, bt, if_true, shOk hs, shOk ht, a1, b1, fb2]
              rw [if_neg (not_not_intro ha'), if_neg (not_not_intro hb'), if_neg h0, if_neg h00, if_neg hk]
            · intro S1 h1
              simp only [G_X6_copy_51, misSheet, bndS, ite10, bs, bt, if_true, cs, ct, h1 62 (by omega), nb2]
              rw [if_neg (not_not_intro (shB.mp ha')), if_neg (not_not_intro (shB.mp hb')), if_neg h0, if_neg h00, if_neg hk]
    · refine ok_fin h (i := 0) (by decide) ?_ ?_
      · simp only [G_X5_copy_0, bel, bndS, ite10, fb0]
        rw [if_neg (not_not_intro ha), if_pos hb]
      · intro S1 _
        simp only [G_X6_copy_51, misSheet, bndS, ite10, nb0]
        rw [if_neg (not_not_intro (shB.mp ha)), if_pos (fun q => hb (shB.mpr q))]
  · refine ok_fin h (i := 0) (by decide) ?_ ?_
    · simp only [G_X5_copy_0, bel, bndS, ite10, fb0]
      rw [if_pos ha]
    · intro S1 _
      simp only [G_X6_copy_51, misSheet, bndS, ite10, nb0]
      rw [if_pos (fun q => ha (shB.mpr q))]
