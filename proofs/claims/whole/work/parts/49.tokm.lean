/-- the model's token -/
theorem misL (b : Nat) (hb : b < 256) (S : ST) : G_X6_isLetter (nI b) S = some (if isL b = true then 1 else 0, S) := by
  simp only [G_X6_isLetter, in1, bndS, bit01, if_true]
  have : (97 ≤ nI b ∧ nI b ≤ 122) ↔ isL b = true := by
    unfold isL
    rw [decide_eq_true_eq]
    exact and_congr (nI_leI (a := 97) (by omega) (by omega)) (nI_leI (b := 122) (by omega) (by omega))
  by_cases h : isL b = true
  · rw [if_pos (this.mpr h), if_pos h]
  · rw [if_neg (fun q => h (this.mp q)), if_neg h]
theorem misD (b : Nat) (hb : b < 256) (S : ST) : G_X6_isDigit (nI b) S = some (if isD b = true then 1 else 0, S) := by
  simp only [G_X6_isDigit, in1, bndS, bit01, if_true]
  have : (48 ≤ nI b ∧ nI b ≤ 57) ↔ isD b = true := by
    unfold isD
    rw [decide_eq_true_eq]
    exact and_congr (nI_leI (a := 48) (by omega) (by omega)) (nI_leI (b := 57) (by omega) (by omega))
  by_cases h : isD b = true
  · rw [if_pos (this.mpr h), if_pos h]
  · rw [if_neg (fun q => h (this.mp q)), if_neg h]
theorem mskip {B : Nat → Nat} {t : Nat} : ∀ (e k n : Nat) (S : ST), TpM B t S → S.1 51 9 = nI k → k + e = t → e < n → ∃ S', G_X6_nextToken_51_8 n S = some S' ∧ S'.1 51 9 = nI (run isSp B e k) ∧ F51 S S' := by
  intro e
  induction e with
  | zero =>
    intro k n S hT hk h1 h2
    obtain ⟨n, rfl⟩ : ∃ n', n = n' + 1 := ⟨n - 1, by omega⟩
    have ht := hT.1
    unfold G_X6_nextToken_51_8
    rw [hT.2.1, hk, if_pos (nI_le (by omega) (by omega))]
    exact ⟨S, rfl, hk, F51.rf⟩
  | succ e ih =>
    intro k n S hT hk h1 h2
    obtain ⟨n, rfl⟩ : ∃ n', n = n' + 1 := ⟨n - 1, by omega⟩
    have ht := hT.1
    obtain ⟨hb, he⟩ := hT.2.2 k (by omega)
    unfold G_X6_nextToken_51_8
    rw [hT.2.1, hk, if_neg (nI_ge (by omega) (by omega)), if_pos (inB_nI (by omega) (by decide)), cl (by omega), he]
    unfold run
    by_cases hq : isSp (B k) = true
    · have : B k = 32 := of_decide_eq_true hq
      rw [if_pos (by rw [this]; rfl), if_pos hq, nI_1]
      have hF : F51 S (wr S 51 9 (nI (k + 1))) := F51.w (by omega) (by omega)
      obtain ⟨S', q1, q2, q3⟩ := ih (k + 1) n _ (hT.f hF) (by rw [wr_eq, updI]) (by omega) (by omega)
      exact ⟨S', q1, q2, hF.tr q3⟩
    · have : ¬ nI (B k) = 32 := fun q => hq (decide_eq_true ((nI_eq (b := 32) (by omega) (by decide)).mp q))
      rw [if_neg this, if_neg hq]
      exact ⟨S, rfl, hk, F51.rf⟩
theorem l_le {v w : Nat} (hv : v < 2 ^ 62) (hw : w < 2 ^ 62) : (lg_cmp (lN v) (lN w) ≤ 0) ↔ ¬ w < v := by
  rw [lg_cmp_le, pk_lLE (by omega) (by omega)]
  omega
theorem lc1 : (99999 : Int64) = lN 99999 := rfl
theorem lc2 : (9999999999999 : Int64) = lN 9999999999999 := rfl
theorem lstep {v b m s : Nat} (hs : s ≤ b) (hb : b < 256) : lN v * lN m + (nI b).toInt64 - lN s = lN (v * m + (b - s)) := by
  rw [nI_l (by omega), lN_mul, lN_add, lN_sub (by omega), show v * m + b - s = v * m + (b - s) by omega]
theorem mletters {B : Nat → Nat} {t : Nat} : ∀ (e k v n : Nat) (S : ST), TpM B t S → S.1 51 10 = nI k → S.2 = lN v → v < 2 ^ 60 → k + e = t → e < n → ∃ S', G_X6_nextToken_51_98 n S = some S' ∧ S'.1 51 10 = nI (run isL B e k) ∧ S'.1 51 8 = S.1 51 8 ∧ S'.1 51 9 = S.1 51 9 ∧ S'.2 = lN (dwV B e k v) ∧ F51 S S' := by
  intro e
  induction e with
  | zero =>
    intro k v n S hT hk hv hv2 h1 h2
    obtain ⟨n, rfl⟩ : ∃ n', n = n' + 1 := ⟨n - 1, by omega⟩
    have ht := hT.1
    unfold G_X6_nextToken_51_98
    rw [hT.2.1, hk, if_pos (nI_le (by omega) (by omega))]
    exact ⟨S, rfl, hk, rfl, rfl, hv, F51.rf⟩
  | succ e ih =>
    intro k v n S hT hk hv hv2 h1 h2
    obtain ⟨n, rfl⟩ : ∃ n', n = n' + 1 := ⟨n - 1, by omega⟩
    have ht := hT.1
    obtain ⟨hb, he⟩ := hT.2.2 k (by omega)
    have hkk : inB (nI k) 120 = true := inB_nI (by omega) (by decide)
    unfold G_X6_nextToken_51_98
    rw [hT.2.1, hk, if_neg (nI_ge (by omega) (by omega)), if_pos hkk, cl (by omega), he, misL _ hb, bndS]
    simp only [ite10, hk, hkk, if_true, cl (show k < 1000 by omega), he, hv, nI_1]
    unfold run dwV
    by_cases hq : isL (B k) = true
    · have hl := isL_i hq
      rw [if_neg (not_not_intro hq), if_pos hq, if_pos hq]
      rw [lc2]
      by_cases h3 : 9999999999999 < v
      · rw [if_neg (fun q => (l_le (by omega) (by omega)).mp q h3), if_pos h3]
        have hF : F51 S (wr (wL S (lN v)) 51 10 (nI (k + 1))) := F51.l.tr (F51.w (by omega) (by omega))
        obtain ⟨S', q1, q2, q4, q5, q6, q3⟩ := ih (k + 1) v n _ (hT.f hF) (by rw [wr_eq, updI]) rfl hv2 (by omega) (by omega)
        refine ⟨S', q1, q2, ?_, ?_, q6, hF.tr q3⟩
        · rw [q4, wr_eq, updN _ _ (by omega)]; rfl
        · rw [q5, wr_eq, updN _ _ (by omega)]; rfl
      · rw [if_pos ((l_le (by omega) (by omega)).mpr h3), if_neg h3, show lN v * 27 + (nI (B k)).toInt64 - 96 = lN (v * 27 + (B k - 96)) from lstep (m := 27) (s := 96) (by omega) hb]
        have hF : F51 S (wr (wL S (lN (v * 27 + (B k - 96)))) 51 10 (nI (k + 1))) := F51.l.tr (F51.w (by omega) (by omega))
        obtain ⟨S', q1, q2, q4, q5, q6, q3⟩ := ih (k + 1) (v * 27 + (B k - 96)) n _ (hT.f hF) (by rw [wr_eq, updI]) rfl (by omega) (by omega) (by omega)
        refine ⟨S', q1, q2, ?_, ?_, q6, hF.tr q3⟩
        · rw [q4, wr_eq, updN _ _ (by omega)]; rfl
        · rw [q5, wr_eq, updN _ _ (by omega)]; rfl
    · rw [if_pos hq, if_neg hq, if_neg hq]
      exact ⟨S, rfl, hk, rfl, rfl, hv, F51.rf⟩
theorem mdigits {B : Nat → Nat} {t : Nat} : ∀ (e k v n : Nat) (S : ST), TpM B t S → S.1 51 10 = nI k → S.2 = lN v → v < 2 ^ 60 → k + e = t → e < n → ∃ S', G_X6_nextToken_51_197 n S = some S' ∧ S'.1 51 10 = nI (run isD B e k) ∧ S'.1 51 9 = S.1 51 9 ∧ S'.2 = lN (dgV B e k v) ∧ dgV B e k v < 2 ^ 60 ∧ F51 S S' := by
  intro e
  induction e with
  | zero =>
    intro k v n S hT hk hv hv2 h1 h2
    obtain ⟨n, rfl⟩ : ∃ n', n = n' + 1 := ⟨n - 1, by omega⟩
    have ht := hT.1
    unfold G_X6_nextToken_51_197
    rw [hT.2.1, hk, if_pos (nI_le (by omega) (by omega))]
    exact ⟨S, rfl, hk, rfl, hv, hv2, F51.rf⟩
  | succ e ih =>
    intro k v n S hT hk hv hv2 h1 h2
    obtain ⟨n, rfl⟩ : ∃ n', n = n' + 1 := ⟨n - 1, by omega⟩
    have ht := hT.1
    obtain ⟨hb, he⟩ := hT.2.2 k (by omega)
    have hkk : inB (nI k) 120 = true := inB_nI (by omega) (by decide)
    unfold G_X6_nextToken_51_197
    rw [hT.2.1, hk, if_neg (nI_ge (by omega) (by omega)), if_pos hkk, cl (by omega), he, misD _ hb, bndS]
    simp only [ite10, hk, hkk, if_true, cl (show k < 1000 by omega), he, hv, nI_1]
    unfold run dgV
    by_cases hq : isD (B k) = true
    · have hl := isD_i hq
      rw [if_neg (not_not_intro hq), if_pos hq, if_pos hq]
      rw [lc1]
      by_cases h3 : 99999 < v
      · rw [if_neg (fun q => (l_le (by omega) (by omega)).mp q h3), if_pos h3]
        have hF : F51 S (wr (wL S (lN v)) 51 10 (nI (k + 1))) := F51.l.tr (F51.w (by omega) (by omega))
        obtain ⟨S', q1, q2, q5, q6, q7, q3⟩ := ih (k + 1) v n _ (hT.f hF) (by rw [wr_eq, updI]) rfl hv2 (by omega) (by omega)
        refine ⟨S', q1, q2, ?_, q6, q7, hF.tr q3⟩
        rw [q5, wr_eq, updN _ _ (by omega)]; rfl
      · rw [if_pos ((l_le (by omega) (by omega)).mpr h3), if_neg h3, show lN v * 10 + (nI (B k)).toInt64 - 48 = lN (v * 10 + (B k - 48)) from lstep (m := 10) (s := 48) (by omega) hb]
        have hF : F51 S (wr (wL S (lN (v * 10 + (B k - 48)))) 51 10 (nI (k + 1))) := F51.l.tr (F51.w (by omega) (by omega))
        obtain ⟨S', q1, q2, q5, q6, q7, q3⟩ := ih (k + 1) (v * 10 + (B k - 48)) n _ (hT.f hF) (by rw [wr_eq, updI]) rfl (by omega) (by omega) (by omega)
        refine ⟨S', q1, q2, ?_, q6, q7, hF.tr q3⟩
        rw [q5, wr_eq, updN _ _ (by omega)]; rfl
    · rw [if_pos hq, if_neg hq, if_neg hq]
      exact ⟨S, rfl, hk, rfl, hv, hv2, F51.rf⟩
theorem madv {B : Nat → Nat} {t p : Nat} {S : ST} (hT : TpM B t S) (hp : S.1 51 10 = nI p) (h1 : p ≤ t) : ∃ S', G_X6_nextToken_51 S = some ((), S') ∧ MT S' (adv B t p) ∧ F51 S S' := by
  have ht := hT.1
  have hF0 : F51 S (wr S 51 9 (nI p)) := F51.w (by omega) (by omega)
  obtain ⟨S1, q1, q2, q3⟩ := mskip (t - p) p 3000 (wr S 51 9 (nI p)) (hT.f hF0) (by rw [wr_eq, updI]) (by omega) (by omega)
  have hF1 := hF0.tr q3
  have hT1 := hT.f hF1
  unfold G_X6_nextToken_51 adv
  rw [hp, q1, bndS]
  have hs := run_b (P := isSp) (B := B) (t - p) p
  generalize run isSp B (t - p) p = s at q2 hs
  unfold G_X6_nextToken_51_46 tkA
  rw [q2, hT1.2.1]
  have hF3 : F51 S1 (wL (wr S1 51 10 (nI s)) 0) := (F51.w (by omega) (by omega)).tr F51.l
  have h39 : (wL (wr S1 51 10 (nI s)) 0).1 51 9 = nI s := by
    show (wr S1 51 10 (nI s)).1 51 9 = nI s
    rw [wr_eq, updN _ _ (by omega)]
    exact q2
  have h3a : (wL (wr S1 51 10 (nI s)) 0).1 51 10 = nI s := by
    show (wr S1 51 10 (nI s)).1 51 10 = nI s
    rw [wr_eq, updI]
  have h3v : (wL (wr S1 51 10 (nI s)) 0).2 = lN 0 := rfl
  have hT3 := hT1.f hF3
  by_cases hst : s = t
  · rw [if_pos ((nI_eq (by omega) (by omega)).mpr hst), if_pos hst]
    refine ⟨_, rfl, ⟨?_, ?_, ?_, fun h => ?_⟩, hF1.tr (hF3.tr (F51.w (by omega) (by omega)))⟩
    · rw [wr_eq, updI]; rfl
    · rw [wr_eq, updN _ _ (by omega)]; exact h39
    · rw [wr_eq, updN _ _ (by omega)]; exact h3a
    · rcases h with h | h
      · exact absurd h (show ¬ (0 : Nat) = 1 by decide)
      · exact absurd h (show ¬ (0 : Nat) = 2 by decide)
  · obtain ⟨hb, he⟩ := hT1.2.2 s (by omega)
    have he3 := (hT3.2.2 s (by omega)).2
    have hss : inB (nI s) 120 = true := inB_nI (by omega) (by decide)
    rw [if_neg (fun q => hst ((nI_eq (by omega) (by omega)).mp q)), if_neg hst, if_pos hss, cl (by omega), he, misL _ hb, bndS]
    generalize hU : wL (wr S1 51 10 (nI s)) 0 = U at *
    simp only [ite10, h39, hss, if_true, cl (show s < 1000 by omega), he3, misD _ hb, bndS]
    by_cases hl : isL (B s) = true
    · rw [if_neg (not_not_intro hl), if_pos hl]
      have hF4 : F51 S1 (wr U 51 8 1) := hF3.tr (F51.w (by omega) (by omega))
      obtain ⟨S', w1, w2, w6, w7, w9, w8⟩ := mletters (t - s) s 0 3000 (wr U 51 8 1) (hT1.f hF4) (by rw [wr_eq, updN _ _ (by omega)]; exact h3a) h3v (by omega) (by omega) (by omega)
      rw [w1, bndS]
      refine ⟨S', rfl, ⟨?_, ?_, w2, fun _ => w9⟩, hF1.tr (hF4.tr w8)⟩
      · rw [w6, wr_eq, updI]
        unfold tyM
        rw [if_neg (fun q => absurd q.1 (show ¬ (1 : Nat) = 2 by decide))]
        rfl
      · rw [w7, wr_eq, updN _ _ (by omega)]; exact h39
    · rw [if_pos hl, if_neg hl]
      by_cases hd : isD (B s) = true
      · rw [if_neg (not_not_intro hd), if_pos hd]
        obtain ⟨S', w1, w2, w7, w9, w10, w8⟩ := mdigits (t - s) s 0 3000 U hT3 h3a h3v (by omega) (by omega) (by omega)
        rw [w1, bndS]
        unfold G_X6_nextToken_51_281
        rw [w9, lc1]
        by_cases hv : 99999 < dgV B (t - s) s 0
        · rw [if_neg (fun q => (l_le (by omega) (by omega)).mp q hv)]
          refine ⟨_, rfl, ⟨?_, ?_, ?_, fun _ => w9⟩, hF1.tr (hF3.tr (w8.tr (F51.w (by omega) (by omega))))⟩
          · rw [wr_eq, updI]
            unfold tyM
            rw [if_pos ⟨rfl, hv⟩]
            rfl
          · rw [wr_eq, updN _ _ (by omega), w7]; exact h39
          · rw [wr_eq, updN _ _ (by omega)]; exact w2
        · rw [if_pos ((l_le (by omega) (by omega)).mpr hv)]
          refine ⟨_, rfl, ⟨?_, ?_, ?_, fun _ => w9⟩, hF1.tr (hF3.tr (w8.tr (F51.w (by omega) (by omega))))⟩
          · rw [wr_eq, updI]
            unfold tyM
            rw [if_neg (fun q => hv q.2)]
            rfl
          · rw [wr_eq, updN _ _ (by omega), w7]; exact h39
          · rw [wr_eq, updN _ _ (by omega)]; exact w2
      · rw [if_pos hd, if_neg hd]
        unfold G_X6_nextToken_51_324
        rw [h3a, nI_1]
        by_cases h59 : B s = 59
        · rw [if_pos (by rw [h59]; rfl), if_pos h59]
          refine ⟨_, rfl, ⟨?_, ?_, ?_, fun h => ?_⟩, hF1.tr (hF3.tr ((F51.w (by omega) (by omega)).tr (F51.w (by omega) (by omega))))⟩
          · rw [wr_eq, updN _ _ (by omega), wr_eq, updI]
            unfold tyM
            rw [if_neg (fun q => absurd q.1 (show ¬ (3 : Nat) = 2 by decide))]
            rfl
          · rw [wr_eq, updN _ _ (by omega), wr_eq, updN _ _ (by omega)]; exact h39
          · rw [wr_eq, updI]
          · rcases h with h | h
            · exact absurd h (show ¬ (3 : Nat) = 1 by decide)
            · exact absurd h (show ¬ (3 : Nat) = 2 by decide)
        · rw [if_neg (show ¬ nI (B s) = 59 from fun q => h59 ((nI_eq (b := 59) (by omega) (by decide)).mp q)), if_neg h59]
          refine ⟨_, rfl, ⟨?_, ?_, ?_, fun h => ?_⟩, hF1.tr (hF3.tr ((F51.w (by omega) (by omega)).tr (F51.w (by omega) (by omega))))⟩
          · rw [wr_eq, updN _ _ (by omega), wr_eq, updI]
            unfold tyM
            rw [if_neg (fun q => absurd q.1 (show ¬ (4 : Nat) = 2 by decide))]
            rfl
          · rw [wr_eq, updN _ _ (by omega), wr_eq, updN _ _ (by omega)]; exact h39
          · rw [wr_eq, updI]
          · rcases h with h | h
            · exact absurd h (show ¬ (4 : Nat) = 1 by decide)
            · exact absurd h (show ¬ (4 : Nat) = 2 by decide)
