theorem byte_and (z : Int32) : (z &&& 255).toInt8 = z.toInt8 := by
  apply Int8.toBitVec_inj.mp
  rw [Int32.toBitVec_toInt8, Int32.toBitVec_toInt8, Int32.toBitVec_and]
  apply BitVec.eq_of_getLsbD_eq
  intro i hi
  have h8 : ∀ i, i < 8 → (255 : Int32).toBitVec.getLsbD i = true := by decide
  rw [BitVec.getLsbD_signExtend, BitVec.getLsbD_signExtend, BitVec.getLsbD_and, h8 i hi, Bool.and_true]
  simp [hi, show i < 32 by omega]
theorem nar_b (z : Int32) : vp_nar .byte z.toInt8.toInt32 = z.toInt8.toInt32 := by
  unfold vp_nar
  rw [pk_nb]
def fdB (x : Int32) (j : Nat) : Int32 := x >>> ((8 * nI j) &&& 31)
theorem cfeed (x : Int32) : ∀ (e t n : Nat) (S : ST), S.1 32 1 = nI t → t + e ≤ 120 → e < n → ∃ S', G_X2_append_32_4 n x (nI e + (-1)) S = some S' ∧ S'.1 32 1 = nI (t + e) ∧ (∀ c, c ≠ 32 → c ≠ 33 → S'.1 c = S.1 c) ∧ (∀ j, j < t → S'.1 33 j = S.1 33 j) ∧ ∀ i, i < e → S'.1 33 (t + i) = (fdB x (e - 1 - i)).toInt8.toInt32 := by
  intro e
  induction e with
  | zero =>
    intro t n S hs h1 h2
    obtain ⟨n, rfl⟩ : ∃ n', n = n' + 1 := ⟨n - 1, by omega⟩
    unfold G_X2_append_32_4
    rw [if_pos (by decide)]
    exact ⟨S, rfl, hs, fun _ _ _ => rfl, fun _ _ => rfl, fun i h => by omega⟩
  | succ e ih =>
    intro t n S hs h1 h2
    obtain ⟨n, rfl⟩ : ∃ n', n = n' + 1 := ⟨n - 1, by omega⟩
    unfold G_X2_append_32_4
    rw [pk_m1, if_neg (nI_pos (by omega)), hs, if_pos (inB_nI (by omega) (by decide)), cl (by omega), nar_b, nI_1, show x >>> ((8 * nI e) &&& 31) = fdB x e from rfl]
    obtain ⟨S', q1, q2, q3, q4, q5⟩ := ih (t + 1) n (wr (wr S 33 t ((fdB x e).toInt8.toInt32)) 32 1 (nI (t + 1))) (by rw [wr_eq, updI]) (by omega) (by omega)
    refine ⟨S', q1, by rw [q2, show t + 1 + e = t + (e + 1) by omega], fun c a b => by rw [q3 c a b, wr_ne a, wr_ne b], fun j hj => by rw [q4 j (by omega), wr_ne (by omega), wr_eq, updN _ _ (by omega)], fun i hi => ?_⟩
    by_cases h0 : i = 0
    · subst h0
      rw [Nat.add_zero, q4 t (by omega), wr_ne (by omega), wr_eq, updI, show e + 1 - 1 - 0 = e by omega]
    · have := q5 (i - 1) (by omega)
      rw [show t + 1 + (i - 1) = t + i by omega, show e - 1 - (i - 1) = e + 1 - 1 - i by omega] at this
      exact this
theorem mfeed (x : Int32) : ∀ (e t n : Nat) (S : ST), S.1 51 7 = nI t → t + e ≤ 120 → e < n → ∃ S', G_X6_feed_51_36 n x (nI e + (-1)) S = some S' ∧ S'.1 51 7 = nI (t + e) ∧ S'.1 51 3 = S.1 51 3 ∧ (∀ c, c ≠ 51 → c ≠ 57 → S'.1 c = S.1 c) ∧ (∀ j, j < t → S'.1 57 j = S.1 57 j) ∧ ∀ i, i < e → S'.1 57 (t + i) = fdB x (e - 1 - i) &&& 255 := by
  intro e
  induction e with
  | zero =>
    intro t n S hs h1 h2
    obtain ⟨n, rfl⟩ : ∃ n', n = n' + 1 := ⟨n - 1, by omega⟩
    unfold G_X6_feed_51_36
    rw [if_pos (by decide)]
    exact ⟨S, rfl, hs, rfl, fun _ _ _ => rfl, fun _ _ => rfl, fun i h => by omega⟩
  | succ e ih =>
    intro t n S hs h1 h2
    obtain ⟨n, rfl⟩ : ∃ n', n = n' + 1 := ⟨n - 1, by omega⟩
    unfold G_X6_feed_51_36
    rw [pk_m1, if_neg (nI_pos (by omega)), hs, if_pos (inB_nI (by omega) (by decide)), cl (by omega), nI_1, show x >>> ((8 * nI e) &&& 31) = fdB x e from rfl]
    obtain ⟨S', q1, q2, q6, q3, q4, q5⟩ := ih (t + 1) n (wr (wr S 57 t (fdB x e &&& 255)) 51 7 (nI (t + 1))) (by rw [wr_eq, updI]) (by omega) (by omega)
    refine ⟨S', q1, by rw [q2, show t + 1 + e = t + (e + 1) by omega], by rw [q6, wr_eq, updN _ _ (by omega), wr_ne (by omega)], fun c a b => by rw [q3 c a b, wr_ne a, wr_ne b], fun j hj => by rw [q4 j (by omega), wr_ne (by omega), wr_eq, updN _ _ (by omega)], fun i hi => ?_⟩
    by_cases h0 : i = 0
    · subst h0
      rw [Nat.add_zero, q4 t (by omega), wr_ne (by omega), wr_eq, updI, show e + 1 - 1 - 0 = e by omega]
    · have := q5 (i - 1) (by omega)
      rw [show t + 1 + (i - 1) = t + i by omega, show e - 1 - (i - 1) = e + 1 - 1 - i by omega] at this
      exact this
theorem and255 (z : Int32) : 0 ≤ z &&& 255 ∧ z &&& 255 ≤ 255 := by
  obtain ⟨j, hj, e⟩ := pk_andE z (m := 255) 8 (by decide)
  rw [e]
  exact ⟨nI_pos' (by omega), nI_le (b := 255) (by omega) (by decide)⟩
theorem op_feed (x a : Int32) : Ok (G_X5_feed_0 x a) (G_X6_feed_51 x a) := by
  intro S h
  obtain ⟨h1, h2, h3, h4, h5, h6, h7⟩ := id h
  obtain ⟨t1, t, ht, t2, t3⟩ := h5
  have e1 : S.1 32 1 = nI t := t1.trans t2
  by_cases ha : 1 ≤ a ∧ a ≤ 4
  · have ha1 : ¬ a < 1 := by grind
    obtain ⟨N, hN, rfl⟩ := ofR (n := 5) (x := a) (by decide) (by grind) (by show _ < (5 : Int32); grind)
    have hN1 : 1 ≤ N := (nI_leI (a := 1) (by omega) (by omega)).mp ha.1
    obtain ⟨e, rfl⟩ : ∃ e, N = e + 1 := ⟨N - 1, by omega⟩
    by_cases hb : nI t + nI (e + 1) ≤ 120
    · have hb2 : t + (e + 1) ≤ 120 := by
        rw [nI_add] at hb
        exact (nI_leI (b := 120) (by omega) (by decide)).mp hb
      obtain ⟨S1, q1, q2, q3, q4, q5⟩ := cfeed x (e + 1) t 3000 S e1 hb2 (by omega)
      obtain ⟨S2, m1, m2, m6, m3, m4, m5⟩ := mfeed x (e + 1) t 3000 S1 (by rw [q3 51 (by omega) (by omega)]; exact t2) hb2 (by omega)
      have hst : nI (e + 1) - 1 = nI (e + 1) + (-1) := by rw [nI_pred, pk_m1]
      have r : ∀ c, c ≠ 32 → c ≠ 33 → c ≠ 51 → c ≠ 57 → S2.1 c = S.1 c := fun c x1 x2 x3 x4 => by rw [m3 c x3 x4, q3 c x1 x2]
      refine ⟨nI (t + (e + 1)), S1, S2, ?_, ?_, ?_, ?_, h3.cong (by rw [r 0 (by omega) (by omega) (by omega) (by omega)]) (by rw [m6, q3 51 (by omega) (by omega)]) (r 53 (by omega) (by omega) (by omega) (by omega)) (fun c a b => r c (by omega) (by omega) (by omega) (by omega)), ?_, ⟨?_, t + (e + 1), hb2, m2, fun j hj => ?_⟩, h6.cong (fun c hc => r c (by omega) (by omega) (by omega) (by omega)), h7.cong (fun c a b => r c (by omega) (by omega) (by omega) (by omega))⟩
      · simp only [G_X5_feed_0, G_X2_append_32, e1, hst, q1, bndS, q2]
        rw [if_neg ha1, if_pos ha.2, if_pos hb]
      · simp only [G_X6_feed_51, in1, bndS, ite10, q3 51 (by omega) (by omega), t2, hst, m1, m2]
        rw [if_neg (not_not_intro ha), if_pos hb]
      · rw [r 52 (by omega) (by omega) (by omega) (by omega)]
        exact h1.cong (fun c a b => r c (by omega) (by omega) (by omega) (by omega))
      · rw [r 52 (by omega) (by omega) (by omega) (by omega)]
        exact h2
      · rw [r 42 (by omega) (by omega) (by omega) (by omega), r 55 (by omega) (by omega) (by omega) (by omega)]
        exact h4
      · rw [m3 32 (by omega) (by omega), q2, m2]
      · rw [m3 33 (by omega) (by omega)]
        by_cases hj2 : j < t
        · rw [m4 j hj2, q4 j hj2, q3 57 (by omega) (by omega)]
          exact t3 j hj2
        · obtain ⟨i, rfl⟩ : ∃ i, j = t + i := ⟨j - t, by omega⟩
          rw [m5 i (by omega), q5 i (by omega), byte_and]
          exact ⟨and255 _, rfl⟩
    · refine ok_fin h (i := 1) (by decide) ?_ ?_
      · simp only [G_X5_feed_0, fb1, e1]
        rw [if_neg ha1, if_pos ha.2, if_neg hb]
      · intro S1 hs
        simp only [G_X6_feed_51, in1, bndS, ite10, nb1, hs 51 (by omega), t2]
        rw [if_neg (not_not_intro ha), if_neg hb]
  · refine ok_fin h (i := 0) (by decide) ?_ ?_
    · simp only [G_X5_feed_0, fb0]
      by_cases h1 : a < 1
      · rw [if_pos h1]
      · rw [if_neg h1, if_neg (by grind)]
    · intro S1 _
      simp only [G_X6_feed_51, in1, bndS, ite10, nb0]
      rw [if_pos ha]
