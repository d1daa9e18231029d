theorem cpass {S : ST} {d : Nat → Int32} {m : Nat} (hm : m ≤ 10) (hR : SkyR 1 S d) (hs : d 1 = nI m) (hn : d 0 + 1 ≤ 99999) : ∃ S', G_X1_passNight_1 S = some ((), S') ∧ SkyR 1 S' (ngD d m) ∧ (∀ c, ¬ (1 ≤ c ∧ c ≤ 10) → S'.1 c = S.1 c) := by
  obtain ⟨e0, e1, e2, e3, e4, e5, e6, e7, e8, e9, e10, e11, e12⟩ := hR
  have q : G_X1_passNight_1 S = some ((), wr (sr S 4 (wdR (S.1 8 1) (S.1 8 0) (S.1 2) 0 m (S.1 4))) 1 8 ((sr S 4 (wdR (S.1 8 1) (S.1 8 0) (S.1 2) 0 m (S.1 4))).1 1 8 + 1)) := by simp only [G_X1_passNight_1, cwear4 hm (e0.trans hs), bndS]
  refine ⟨_, q, ?_, fun c hc => by rw [wr_ne (show c ≠ 1 by omega), sr_ne (show c ≠ 4 by omega)]⟩
  refine ⟨?_, ?_, ?_, ?_, fun i hi => ?_, fun i hi => ?_, fun i hi => ?_, fun i hi => ?_, fun i hi => ?_, fun i hi => ?_, fun i hi => ?_, fun i hi => ?_, fun i hi => ?_⟩
  · rw [wr_eq, updAt, if_neg (by omega), sr_ne (by omega), ngD_1]; exact e0
  · rw [wr_eq, updAt, if_pos rfl, sr_ne (by omega), e1]
    unfold ngD
    simp only [if_true]
    rw [if_pos hn]
  · rw [wr_eq, updAt, if_neg (by omega), sr_ne (by omega), ngD_oth (by omega) (by omega)]; exact e2
  · rw [wr_eq, updAt, if_neg (by omega), sr_ne (by omega), ngD_oth (by omega) (by omega)]; exact e3
  · rw [wr_ne (by omega), sr_ne (by omega), ngD_oth (by omega) (by omega)]; exact e4 i hi
  · rw [wr_ne (by omega), sr_ne (by omega), ngD_oth (by omega) (by omega)]; exact e5 i hi
  · rw [wr_ne (by omega), sr_ne (by omega), ngD_oth (by omega) (by omega)]; exact e6 i hi
  · rw [wr_ne (by omega), sr_ne (by omega), ngD_oth (by omega) (by omega)]; exact e7 i hi
  · rw [wr_ne (by omega), sr_ne (by omega), ngD_oth (by omega) (by omega)]; exact e8 i hi
  · rw [wr_ne (by omega), show 1 + 3 = 4 from rfl, sr_eq]
    unfold wdR
    by_cases hj : i < m
    · rw [if_pos (by omega), ngD_star hj, show S.1 8 1 = _ from e4 1 (by omega), show S.1 8 0 = _ from e4 0 (by omega), show S.1 2 i = _ from e7 i hi, show S.1 4 i = _ from e9 i hi]
    · rw [if_neg (by omega), ngD_oth (by omega) (by omega)]; exact e9 i hi
  · rw [wr_ne (by omega), sr_ne (by omega), ngD_oth (by omega) (by omega)]; exact e10 i hi
  · rw [wr_ne (by omega), sr_ne (by omega), ngD_oth (by omega) (by omega)]; exact e11 i hi
  · rw [wr_ne (by omega), sr_ne (by omega), ngD_oth (by omega) (by omega)]; exact e12 i hi
theorem cgo {m N : Nat} (hm : m ≤ 10) (hN : N < 1000) : ∀ (e k n : Nat) (S : ST) (d : Nat → Int32), SkyR 1 S d → d 1 = nI m → k + e = N → e < n → 0 ≤ d 0 → d 0 ≤ 99999 - nI e → ∃ S', G_X5_go_0_39 n (nI N) (nI k) S = some S' ∧ SkyR 1 S' (ngs m e d) ∧ (∀ c, ¬ (1 ≤ c ∧ c ≤ 10) → S'.1 c = S.1 c) := by
  intro e
  induction e with
  | zero =>
    intro k n S d hR hs h1 h2 h3 h4
    obtain ⟨n, rfl⟩ : ∃ n', n = n' + 1 := ⟨n - 1, by omega⟩
    unfold G_X5_go_0_39
    rw [if_pos (nI_le (by omega) (by omega))]
    exact ⟨S, rfl, hR, fun _ _ => rfl⟩
  | succ e ih =>
    intro k n S d hR hs h1 h2 h3 h4
    obtain ⟨n, rfl⟩ : ∃ n', n = n' + 1 := ⟨n - 1, by omega⟩
    unfold G_X5_go_0_39
    have he : nI (e + 1) = nI e + 1 := (nI_1 e).symm
    have he0 : 0 ≤ nI e := nI_pos' (by omega)
    have he1 : nI e ≤ 1000 := nI_le (b := 1000) (by omega) (by omega)
    have hn : d 0 + 1 ≤ 99999 := by rw [he] at h4; grind
    obtain ⟨S1, q1, q2, q3⟩ := cpass hm hR hs hn
    rw [if_neg (nI_ge (by omega) (by omega)), q1, bndS]
    simp only []
    have e0 : ngD d m 0 = d 0 + 1 := by
      unfold ngD
      simp only [if_true]
      rw [if_pos hn]
    obtain ⟨S2, r1, r2, r3⟩ := ih (k + 1) n S1 (ngD d m) q2 (by rw [ngD_1]; exact hs) (by omega) (by omega) (by rw [e0]; grind) (by rw [e0]; rw [he] at h4; grind)
    rw [nI_1]
    exact ⟨S2, r1, r2, fun c hc => (r3 c hc).trans (q3 c hc)⟩
theorem op_go (a : Int32) : Ok (G_X5_go_0 a) (G_X6_go_51 a) := by
  intro S h
  obtain ⟨m, hm, hs⟩ := starsN h
  have hR := h.1
  have hK := h.2.1
  by_cases ha : 1 ≤ a ∧ a ≤ 60
  · by_cases hq : S.1 1 8 + a ≤ 99999
    · obtain ⟨N, hN, rfl⟩ := ofR (x := a) (n := 61) (by decide) (by grind) (by show _ < (61 : Int32); grind)
      have hn := hK.1
      have e1 := hR.2.1
      obtain ⟨S1, q1, q2, q3⟩ := cgo hm (show N < 1000 by omega) N 0 3000 S (S.1 52) hR hs (by omega) (by omega) hn.1 (by rw [e1] at hq; grind)
      rw [show nI 0 = 0 from rfl] at q1
      have hb := cBright (m := m) q2 hm (by rw [ngs_oth (by omega) (by omega)]; exact hs)
      obtain ⟨x, hx, ex⟩ := brI_lt (d := ngs m N (S.1 52)) hm
      refine ⟨bcF (nI x), S1, sr S1 52 (ngs m N (S.1 52)), ?_, ?_, ?_⟩
      · simp only [G_X5_go_0]
        rw [if_neg (by grind), if_pos (by grind), if_pos hq, q1, bndS, hb, bndS, ex]
        rfl
      · have e52 : S1.1 52 = S.1 52 := q3 52 (by omega)
        simp only [G_X6_go_51, in1, bndS, ite10]
        rw [if_neg (not_not_intro ha), e52, if_pos (by rw [← e1]; exact hq), mnights hm (by rw [e52]; exact hs) (by omega), bndS]
        simp only [e52]
        rw [mshining hm (by rw [sr_eq, ngs_oth (by omega) (by omega)]; exact hs), bndS, sr_eq, ex, mbits (Nat.lt_of_lt_of_le hx (pw_le hm))]
        rfl
      · exact h.op q3 (fun c hc => sr_ne hc) sr_eq q2 (hK.ngsK hm N)
    · refine ok_fin h (i := 4) (by decide) ?_ ?_
      · simp only [G_X5_go_0, fb4]
        rw [if_neg (by grind), if_pos (by grind), if_neg hq]
      · intro S1 h1
        simp only [G_X6_go_51, in1, bndS, ite10, nb4, h1 52 (by omega)]
        rw [if_neg (not_not_intro ha), if_neg (by rw [← hR.2.1]; exact hq)]
  · refine ok_fin h (i := 0) (by decide) ?_ ?_
    · simp only [G_X5_go_0, fb0]
      by_cases h1 : a < 1
      · rw [if_pos h1]
      · rw [if_neg h1, if_neg (by grind)]
    · intro S1 h1
      simp only [G_X6_go_51, isStar, in1, bndS, ite10, nb0]
      rw [if_pos ha]
theorem op_set (a v : Int32) : Ok (G_X5_set_0 a v) (G_X6_set_51 a v) := by
  intro S h
  have hR := h.1
  have hK := h.2.1
  by_cases ha : 0 ≤ a ∧ a ≤ 3
  · obtain ⟨k, hk, rfl⟩ := ofR (n := 4) (by decide) ha.1 (by show _ < (4 : Int32); grind)
    have hg : ∀ T : ST, G_X6_greatest (nI k) T = some (tabS (nI k), T) := by
      intro T
      have : k = 0 ∨ k = 1 ∨ k = 2 ∨ k = 3 := by omega
      rcases this with rfl | rfl | rfl | rfl <;> rfl
    have hix : (4 : Int32) + nI k = nI (4 + k) := nI_add 4 k
    by_cases hv : 0 ≤ v ∧ v ≤ tabS (nI k)
    · refine ⟨S.1 8 k, wr S 8 k v, wr (wr S 8 k v) 52 (4 + k) v, ?_, ?_, ?_⟩
      · simp only [G_X5_set_0, bel, wit, bndS, ite10, G_X5_replaced_8]
        rw [if_neg (by grind), if_pos (inB_nI hk (by decide)), if_neg (not_not_intro hv), if_pos (inB_nI hk (by decide)), if_pos (inB_nI hk (by decide)), cl (by omega)]
        rfl
      · simp only [G_X6_set_51, in1, bndS, ite10, hg]
        rw [if_neg (not_not_intro ha), if_neg (not_not_intro hv), hix, if_pos (inB_nI (by omega) (by decide)), if_pos (inB_nI (by omega) (by decide)), cl (by omega), wr_ne (show 52 ≠ 8 by omega), ← hR.2.2.2.2.1 k hk]
      · refine h.op (fun c hc => wr_ne (by omega)) (fun c hc => wr_ne hc) (w52 (by omega)) (hR.setting hk) ?_
        have : k = 0 ∨ k = 1 ∨ k = 2 ∨ k = 3 := by omega
        rcases this with rfl | rfl | rfl | rfl
        · exact hK.dust hv
        · exact hK.wishes hv
        · exact hK.mend hv
        · exact hK.parts hv
    · refine ok_fin h (i := 0) (by decide) ?_ ?_
      · simp only [G_X5_set_0, bel, wit, bndS, ite10, fb0]
        rw [if_neg (by grind), if_pos (inB_nI hk (by decide)), if_pos hv]
      · intro S1 h1
        simp only [G_X6_set_51, in1, bndS, ite10, hg, nb0]
        rw [if_neg (not_not_intro ha), if_pos hv]
  · refine ok_fin h (i := 0) (by decide) ?_ ?_
    · simp only [G_X5_set_0, bel, bndS, ite10, fb0]
      rw [if_pos (by grind)]
    · intro S1 h1
      simp only [G_X6_set_51, in1, bndS, ite10, nb0]
      rw [if_pos ha]
