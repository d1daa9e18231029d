theorem fbind {i : Nat} {S : ST} : ((G_X5_finding_0 (nI i) S).bind fun q => some (q.1, q.2)) = G_X5_finding_0 (nI i) S := by
  cases h : G_X5_finding_0 (nI i) S <;> rfl
theorem nbind {i : Nat} {S : ST} : ((G_X6_no_51 (nI i) S).bind fun q => some (q.1, q.2)) = G_X6_no_51 (nI i) S := by
  cases h : G_X6_no_51 (nI i) S <;> rfl
theorem fb0 {S : ST} : ((G_X5_finding_0 0 S).bind fun q => some (q.1, q.2)) = G_X5_finding_0 (nI 0) S := fbind (i := 0)
theorem fb1 {S : ST} : ((G_X5_finding_0 1 S).bind fun q => some (q.1, q.2)) = G_X5_finding_0 (nI 1) S := fbind (i := 1)
theorem nb0 {S : ST} : ((G_X6_no_51 0 S).bind fun q => some (q.1, q.2)) = G_X6_no_51 (nI 0) S := nbind (i := 0)
theorem nb1 {S : ST} : ((G_X6_no_51 1 S).bind fun q => some (q.1, q.2)) = G_X6_no_51 (nI 1) S := nbind (i := 1)
theorem ite10 {c : Prop} {d : Decidable c} : ((if c then (1 : Int32) else 0) = 0) = ¬ c := by by_cases h : c <;> simp [h]
/-- an index between 0 and a small bound -/
theorem ofR {x : Int32} {n : Nat} (hn : n < 2 ^ 31) (h0 : 0 ≤ x) (h1 : x < nI n) : ∃ k : Nat, k < n ∧ x = nI k := by
  obtain ⟨j, hj, rfl⟩ := nI_of (x := x) (by intro h; grind)
  exact ⟨j, (nI_ltI hj hn).mp h1, rfl⟩
theorem apart_eq {a b : Int32} (h0 : 0 ≤ a) (h1 : a ≤ 99) (h2 : 0 ≤ b) (h3 : b ≤ 99) : (if (100 : Int32) - irm ((a - b) + 100) 100 ≤ irm ((a - b) + 100) 100 then 100 - irm ((a - b) + 100) 100 else irm ((a - b) + 100) 100) = imn (iab (a - b)) (100 - iab (a - b)) := by
  have hx : irm ((a - b) + 100) 100 = if b ≤ a then a - b else a - b + 100 := by
    unfold irm
    obtain ⟨j, hj, e⟩ := ofR (x := (a - b) + 100) (n := 200) (by decide) (by grind) (by show _ < (200 : Int32); grind)
    rw [e]
    show nI j - nI j / nI 100 * nI 100 = _
    rw [pk_rem (by omega) (by decide) (by decide)]
    by_cases hb : b ≤ a
    · rw [if_pos hb]
      have h100 : (100 : Nat) ≤ j := by
        have : nI 100 ≤ nI j := by rw [← e]; show (100 : Int32) ≤ _; grind
        exact (nI_leI (by decide) (by omega)).mp this
      have : a - b = nI (j - 100) := by
        rw [← pk_sub h100, ← e]
        show _ = a - b + 100 - 100
        grind
      rw [this, show j % 100 = j - 100 by omega]
    · rw [if_neg hb]
      try rw [e]
      have h100 : j < 100 := by
        have : nI j < nI 100 := by rw [← e]; show _ < (100 : Int32); grind
        exact (nI_ltI (by omega) (by decide)).mp this
      rw [Nat.mod_eq_of_lt h100]
  rw [hx]
  by_cases hb : b ≤ a
  · have e1 : iab (a - b) = a - b := if_pos (by grind)
    rw [if_pos hb, e1]
    have k0 : 0 ≤ a - b := by grind
    have k1 : a - b ≤ 99 := by grind
    generalize a - b = t at k0 k1
    unfold imn
    split <;> split <;> grind
  · have e1 : iab (a - b) = b - a := by
      have : ¬ 0 ≤ a - b := by grind
      unfold iab
      rw [if_neg this]
      grind
    have e2 : a - b + 100 = 100 - (b - a) := by grind
    rw [if_neg hb, e1, e2]
    have k0 : 1 ≤ b - a := by grind
    have k1 : b - a ≤ 99 := by grind
    generalize b - a = t at k0 k1
    unfold imn
    split <;> split <;> grind
theorem op_seed (v : Int32) : Ok (G_X5_seed_0 v) (G_X6_seed_51 v) := by
  intro S h
  obtain ⟨h1, h2, h3, h4, h5, h6, h7⟩ := h
  refine ⟨S.1 1 12, wr S 1 12 v, wr (wr S 1 12 v) 52 3 v, rfl, ?_, ?_⟩
  · have e : (wr S 1 12 v).1 52 = S.1 52 := wr_ne (by omega)
    rw [G_X6_seed_51, e, h1.2.2.2.1]
  have r : ∀ c, c ≠ 1 → c ≠ 52 → (wr (wr S 1 12 v) 52 3 v).1 c = S.1 c := fun c a b => by simp [wr, a, b]
  refine ⟨?_, ?_, h3.cong (by rw [r 0 (by omega) (by omega)]) (by rw [r 51 (by omega) (by omega)]) (r 53 (by omega) (by omega)) (fun c a b => r c (by omega) (by omega)), ?_, h5.cong (by rw [r 32 (by omega) (by omega)]) (by rw [r 51 (by omega) (by omega)]) (r 57 (by omega) (by omega)) (r 33 (by omega) (by omega)), h6.cong (fun c hc => r c (by omega) (by omega)), h7.cong (fun c a b => r c (by omega) (by omega))⟩
  · unfold SkyR at h1 ⊢
    simp [wr, upd] at h1 ⊢
    grind
  · unfold SkyK at h2 ⊢
    simp [wr, upd] at h2 ⊢
    grind
  · rw [r 42 (by omega) (by omega), r 55 (by omega) (by omega)]
    exact h4
theorem op_apart (a b : Int32) : Ok (G_X5_apart_0 a b) (G_X6_apart_51 a b) := by
  intro S h
  by_cases ha : 0 ≤ a ∧ a ≤ 99
  · by_cases hb : 0 ≤ b ∧ b ≤ 99
    · refine ⟨_, S, S, by
        simp only [G_X5_apart_0, bel, bndS, ite10, G_X5_stepsBetween]
        rw [if_neg (by grind), if_neg (by grind)], ?_, h⟩
      simp only [G_X6_apart_51, isPlace, bndS, ite10, G_X6_apartOf, G_X6_less]
      rw [if_neg (by grind), if_neg (by grind)]
      rw [← apart_eq ha.1 ha.2 hb.1 hb.2]
      split <;> simp_all
    · refine ok_fin h (i := 0) (by decide) ?_ ?_
      · simp only [G_X5_apart_0, bel, bndS, ite10, fb0]
        rw [if_neg (by grind), if_pos (by grind)]
      · intro S1 _
        simp only [G_X6_apart_51, isPlace, bndS, ite10, nb0]
        rw [if_neg (by grind), if_pos (by grind)]
  · refine ok_fin h (i := 0) (by decide) ?_ ?_
    · simp only [G_X5_apart_0, bel, bndS, ite10, fb0]
      rw [if_pos (by grind)]
    · intro S1 _
      simp only [G_X6_apart_51, isPlace, bndS, ite10, nb0]
      rw [if_pos (by grind)]
