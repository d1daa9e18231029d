/-- sheets -/
theorem shOk {s : Nat} (h : s < 4) : shO (nI s) = 43 + 2 * s := by
  unfold shO
  rw [cl (by omega)]
theorem isShk : ∀ s, s < 4 → isSh (43 + 2 * s) = true := by decide
theorem fneg : ∀ i, i < 7 → ¬ ((-1000001 : Int32) - nI i = 0) := by decide
theorem shB {x : Int32} : (0 ≤ x ∧ x < 4) ↔ (0 ≤ x ∧ x ≤ 3) := crewB
theorem clackN {x : Int32} {S : ST} (hx : ¬ (0 ≤ x ∧ x < 4)) : G_X5_lackOfSheet_0 x S = G_X5_finding_0 (nI 0) S := by
  simp only [G_X5_lackOfSheet_0, bel, bndS, ite10, fb0]
  rw [if_pos hx]
theorem clackM {s : Nat} {S : ST} (h : s < 4) (h0 : S.1 (43 + 2 * s) 0 = 0) : G_X5_lackOfSheet_0 (nI s) S = G_X5_finding_0 (nI 5) S := by
  have hx : 0 ≤ nI s ∧ nI s < 4 := ⟨nI_pos' (by omega), nI_lt (b := 4) h (by decide)⟩
  simp only [G_X5_lackOfSheet_0, bel, bndS, ite10, fb5]
  rw [if_neg (not_not_intro hx), if_pos (inB_nI h (by decide)), shOk h, if_pos h0]
theorem clackO {s : Nat} {S : ST} (h : s < 4) (h0 : ¬ S.1 (43 + 2 * s) 0 = 0) : G_X5_lackOfSheet_0 (nI s) S = some (0, S) := by
  have hx : 0 ≤ nI s ∧ nI s < 4 := ⟨nI_pos' (by omega), nI_lt (b := 4) h (by decide)⟩
  simp only [G_X5_lackOfSheet_0, bel, bndS, ite10]
  rw [if_neg (not_not_intro hx), if_pos (inB_nI h (by decide)), shOk h, if_neg h0]
theorem misSheet (x : Int32) (S : ST) : G_X6_isSheet x S = some (if 0 ≤ x ∧ x ≤ 3 then 1 else 0, S) := by
  simp only [G_X6_isSheet, in1, bndS, bit01, if_true]
theorem mwrN {x : Int32} {S : ST} (hx : ¬ (0 ≤ x ∧ x ≤ 3)) : G_X6_wrongSheet_51 x S = some (0, S) := by
  simp only [G_X6_wrongSheet_51, misSheet, bndS, ite10]
  rw [if_pos hx]
theorem mwrM {s : Nat} {S : ST} (h : s < 4) (h0 : S.1 62 s = 0) : G_X6_wrongSheet_51 (nI s) S = some (5, S) := by
  have hx : 0 ≤ nI s ∧ nI s ≤ 3 := ⟨nI_pos' (by omega), nI_le (b := 3) (by omega) (by decide)⟩
  simp only [G_X6_wrongSheet_51, misSheet, bndS, ite10]
  rw [if_neg (not_not_intro hx), if_pos (inB_nI h (by decide)), cl (by omega), if_pos h0]
theorem mwrO {s : Nat} {S : ST} (h : s < 4) (h0 : ¬ S.1 62 s = 0) : G_X6_wrongSheet_51 (nI s) S = some (-1, S) := by
  have hx : 0 ≤ nI s ∧ nI s ≤ 3 := ⟨nI_pos' (by omega), nI_le (b := 3) (by omega) (by decide)⟩
  simp only [G_X6_wrongSheet_51, misSheet, bndS, ite10]
  rw [if_neg (not_not_intro hx), if_pos (inB_nI h (by decide)), cl (by omega), if_neg h0]
theorem ok_sheet {x : Int32} {f g F H : ST → Option (Int32 × ST)} (hf : ∀ S, f S = (G_X5_lackOfSheet_0 x S).bind fun q1 => if q1.1 = 0 then F q1.2 else some (q1.1, q1.2)) (hg : ∀ S, g S = (G_X6_wrongSheet_51 x S).bind fun q1 => if q1.1 < 0 then H q1.2 else (G_X6_no_51 q1.1 q1.2).bind fun q7 => some (q7.1, q7.2)) (hok : ∀ S s, Inv S → s < 4 → x = nI s → ¬ S.1 62 s = 0 → ∃ r S1 S2, F S = some (r, S1) ∧ S1.1 62 = S.1 62 ∧ H S1 = some (r, S2) ∧ Inv S2) : Ok f g := by
  intro S h
  have h6 := h.2.2.2.2.2.1
  by_cases hx : 0 ≤ x ∧ x < 4
  · obtain ⟨s, hs, rfl⟩ := ofR (n := 4) (by decide) hx.1 hx.2
    have h60 := (h6 s hs).1
    by_cases h0 : S.1 62 s = 0
    · refine ok_fin h (i := 5) (by decide) ?_ ?_
      · rw [hf, clackM hs (by rw [h60]; exact h0), fnd (i := 5) (by decide), bndS]
        simp only []
        rw [if_neg (fneg 5 (by decide))]
      · intro S1 h1
        rw [hg, mwrM hs (by rw [h1 62 (by omega)]; exact h0), bndS]
        simp only [nb5]
        rw [if_neg (by decide)]
    · obtain ⟨r, S1, S2, e1, e2, e3, e4⟩ := hok S s h hs rfl h0
      refine ⟨r, S1, S2, ?_, ?_, e4⟩
      · rw [hf, clackO hs (by rw [h60]; exact h0), bndS]
        simp only [if_true]
        exact e1
      · rw [hg, mwrO hs (by rw [e2]; exact h0), bndS]
        simp only []
        rw [if_pos (by decide)]
        exact e3
  · refine ok_fin h (i := 0) (by decide) ?_ ?_
    · rw [hf, clackN hx, fnd (i := 0) (by decide), bndS]
      simp only []
      rw [if_neg (fneg 0 (by decide))]
    · intro S1 h1
      rw [hg, mwrN (fun q => hx (shB.mpr q)), bndS]
      simp only [nb0]
      rw [if_neg (by decide)]
theorem ix40 (s j : Nat) : (40 : Int32) * nI s + nI j = nI (40 * s + j) := by
  show nI 40 * nI s + nI j = _
  rw [pk_mul, nI_add]
theorem mtoldAt {s j : Nat} (hs : s < 4) (hj : j < 40) (S : ST) : G_X6_toldAt_51 (nI s) (nI j) S = some (S.1 64 (40 * s + j), S) := by
  unfold G_X6_toldAt_51
  rw [ix40, if_pos (inB_nI (by omega) (by decide)), cl (by omega)]
theorem shN {S : ST} (h : Inv S) {s : Nat} (hs : s < 4) : ∃ N : Nat, N ≤ 40 ∧ S.1 63 s = nI N := by
  have := (h.2.2.2.2.2.1 s hs).2.2.2.1
  obtain ⟨N, hN, e⟩ := ofR (n := 41) (by decide) this.1 (by show _ < (41 : Int32); grind)
  exact ⟨N, by omega, e⟩
/-- sheets laid anew -/
theorem Inv.shs {S S1 : ST} (h : Inv S) (hr : ∀ c, c ≤ 42 ∨ (51 ≤ c ∧ c ≤ 61) → S1.1 c = S.1 c) (hs : SheetR S1) : Inv S1 := by
  obtain ⟨h1, h2, h3, h4, h5, h6, h7⟩ := h
  refine ⟨?_, ?_, h3.cong (by rw [hr 0 (by omega)]) (by rw [hr 51 (by omega)]) (hr 53 (by omega)) (fun c a b => hr c (by omega)), ?_, h5.cong (by rw [hr 32 (by omega)]) (by rw [hr 51 (by omega)]) (hr 57 (by omega)) (hr 33 (by omega)), hs, h7.cong (fun c a b => hr c (by omega))⟩
  · rw [hr 52 (by omega)]
    exact h1.cong (fun c a b => hr c (by omega))
  · rw [hr 52 (by omega)]
    exact h2
  · rw [hr 42 (by omega), hr 55 (by omega)]
    exact h4
theorem cfill {c : Nat} (hc : lenI c = some 40) (v : Int32) : ∀ (e k n : Nat) (S : ST), k + e = 40 → e < n → G_J7_fill_53178_d_5 n c v (nI k) (nI 40) S = some (sr S c (fun i => if k ≤ i ∧ i < 40 then v else S.1 c i)) := by
  intro e
  induction e with
  | zero =>
    intro k n S h1 h2
    obtain ⟨n, rfl⟩ : ∃ n', n = n' + 1 := ⟨n - 1, by omega⟩
    unfold G_J7_fill_53178_d_5
    rw [if_pos (nI_le (by omega) (by omega))]
    have : (fun i => if k ≤ i ∧ i < 40 then v else S.1 c i) = S.1 c := by
      funext i
      rw [if_neg (by omega)]
    rw [this, sr_self]
  | succ e ih =>
    intro k n S h1 h2
    obtain ⟨n, rfl⟩ : ∃ n', n = n' + 1 := ⟨n - 1, by omega⟩
    unfold G_J7_fill_53178_d_5
    rw [if_neg (nI_ge (by omega) (by omega)), hc, bndS, if_pos (inB_nI (by omega) (by decide)), cl (by omega), nI_1, ih (k + 1) n _ (by omega) (by omega), wr_sr, sr_sr, sr_eq]
    congr 2
    funext i
    by_cases hi : i = k
    · subst hi
      rw [if_neg (by omega), if_pos (by omega), updI]
    · rw [updN _ _ hi]
      by_cases h3 : k ≤ i ∧ i < 40
      · rw [if_pos (by omega), if_pos h3]
      · rw [if_neg (by omega), if_neg h3]
theorem mfill {s : Nat} (hs : s < 4) : ∀ (e k n : Nat) (S : ST), k + e = 40 → e < n → G_X6_sheet_51_83 n (nI s) (nI k) S = some (nI s, sr S 64 (fun i => if 40 * s + k ≤ i ∧ i < 40 * s + 40 then 0 else S.1 64 i)) := by
  intro e
  induction e with
  | zero =>
    intro k n S h1 h2
    obtain ⟨n, rfl⟩ : ∃ n', n = n' + 1 := ⟨n - 1, by omega⟩
    unfold G_X6_sheet_51_83
    rw [if_pos (show (40 : Int32) ≤ nI k from nI_le (a := 40) (by omega) (by omega))]
    have : (fun i => if 40 * s + k ≤ i ∧ i < 40 * s + 40 then 0 else S.1 64 i) = S.1 64 := by
      funext i
      rw [if_neg (by omega)]
    rw [this, sr_self]
  | succ e ih =>
    intro k n S h1 h2
    obtain ⟨n, rfl⟩ : ∃ n', n = n' + 1 := ⟨n - 1, by omega⟩
    unfold G_X6_sheet_51_83
    rw [if_neg (show ¬ (40 : Int32) ≤ nI k from nI_ge (b := 40) (by omega) (by omega)), ix40, if_pos (inB_nI (by omega) (by decide)), cl (by omega), nI_1, ih (k + 1) n _ (by omega) (by omega), wr_sr, sr_sr, sr_eq]
    congr 3
    funext i
    by_cases hi : i = 40 * s + k
    · subst hi
      rw [if_neg (by omega), if_pos (by omega), updI]
    · rw [updN _ _ hi]
      by_cases h3 : 40 * s + k ≤ i ∧ i < 40 * s + 40
      · rw [if_pos (by omega), if_pos h3]
      · rw [if_neg (by omega), if_neg h3]
theorem lenSh : ∀ s, s < 4 → lenI (43 + 2 * s + 1) = some 40 := by decide
def rnS (S : ST) (s : Nat) (b l : Int32) : ST := sr (wr (wr S (43 + 2 * s) 0 b) (43 + 2 * s) 1 l) (44 + 2 * s) (fun i => if 0 ≤ i ∧ i < 40 then 0 else S.1 (44 + 2 * s) i)
theorem crenew {s : Nat} (hs : s < 4) (b l : Int32) (S : ST) : G_X0_renew_d (43 + 2 * s) b l S = some ((), rnS S s b (if b = 0 then 0 else l)) := by
  have key : ∀ y : Int32, G_X0_renew_d_15 (43 + 2 * s) y (43 + 2 * s) (wr S (43 + 2 * s) 0 b) = some ((), rnS S s b y) := by
    intro y
    have := cfill (lenSh s hs) 0 40 0 3000 (wr (wr S (43 + 2 * s) 0 b) (43 + 2 * s) 1 y) (by omega) (by omega)
    rw [show nI 0 = 0 from rfl, show nI 40 = Int32.ofNat 40 from rfl] at this
    unfold G_X0_renew_d_15
    rw [if_pos (isShk s hs), if_pos (isShk s hs)]
    unfold G_J7_fill_53178_d
    rw [lenSh s hs, bndS, this, bndS, bndS]
    unfold rnS
    rw [show 43 + 2 * s + 1 = 44 + 2 * s by omega, wr_ne (show 44 + 2 * s ≠ 43 + 2 * s by omega), wr_ne (show 44 + 2 * s ≠ 43 + 2 * s by omega)]
  unfold G_X0_renew_d
  rw [if_pos (isShk s hs)]
  by_cases hb : b = 0
  · rw [if_pos hb, if_pos hb, key]
  · rw [if_neg hb, if_neg hb, key]
def rnM (S : ST) (s : Nat) (b l : Int32) : ST := sr (wr (wr S 62 s b) 63 s l) 64 (fun i => if 40 * s + 0 ≤ i ∧ i < 40 * s + 40 then 0 else S.1 64 i)
theorem mrenew {s : Nat} (hs : s < 4) (b l : Int32) (S : ST) : G_X6_sheet_51_79 (nI s) l (nI s) (wr S 62 s b) = some (l, rnM S s b l) := by
  have := mfill hs 40 0 3000 (wr (wr S 62 s b) 63 s l) (by omega) (by omega)
  rw [show nI 0 = 0 from rfl] at this
  unfold G_X6_sheet_51_79
  rw [if_pos (inB_nI hs (by decide)), cl (by omega), this, bndS]
  simp only []
  rw [if_pos (inB_nI hs (by decide)), cl (by omega), sr_ne (by omega), wr_eq, updI]
  unfold rnM
  rw [wr_ne (show 64 ≠ 63 by omega), wr_ne (show 64 ≠ 62 by omega)]
theorem rn_inv {S : ST} (h : Inv S) {s : Nat} (hs : s < 4) {b l : Int32} (hb : b = 0 ∨ b = 8 ∨ b = 16 ∨ b = 32) (hl : 0 ≤ l ∧ l ≤ 40) : Inv (rnM (rnS S s b l) s b l) := by
  have h6 := h.2.2.2.2.2.1
  refine h.shs ?_ ?_
  · intro c hc
    unfold rnM rnS
    rw [sr_ne (by omega), wr_ne (by omega), wr_ne (by omega), sr_ne (by omega), wr_ne (by omega), wr_ne (by omega)]
  · intro t ht
    obtain ⟨a1, a2, a3, a4, a5⟩ := h6 t ht
    unfold rnM rnS
    by_cases hts : t = s
    · subst hts
      refine ⟨?_, ?_, ?_, ?_, fun j hj => ?_⟩
      · rw [sr_ne (by omega), wr_ne (by omega), wr_ne (by omega), sr_ne (by omega), wr_eq, updN _ _ (by omega), wr_eq, updI, sr_ne (by omega), wr_ne (by omega), wr_eq, updI]
      · rw [sr_ne (by omega), wr_ne (by omega), wr_ne (by omega), sr_ne (by omega), wr_eq, updI, sr_ne (by omega), wr_eq, updI]
      · rw [sr_ne (by omega), wr_ne (by omega), wr_eq, updI]
        exact hb
      · rw [sr_ne (by omega), wr_eq, updI]
        exact hl
      · rw [sr_ne (by omega), wr_ne (by omega), wr_ne (by omega), sr_eq, sr_eq]
        rw [if_pos (by omega), if_pos (by omega)]
    · refine ⟨?_, ?_, ?_, ?_, fun j hj => ?_⟩
      · rw [sr_ne (by omega), wr_ne (by omega), wr_ne (by omega), sr_ne (by omega), wr_ne (by omega), wr_ne (by omega), sr_ne (by omega), wr_ne (by omega), wr_eq, updN _ _ hts, sr_ne (by omega), wr_ne (by omega), wr_ne (by omega)]
        exact a1
      · rw [sr_ne (by omega), wr_ne (by omega), wr_ne (by omega), sr_ne (by omega), wr_ne (by omega), wr_ne (by omega), sr_ne (by omega), wr_eq, updN _ _ hts, wr_ne (by omega), sr_ne (by omega), wr_ne (by omega), wr_ne (by omega)]
        exact a2
      · rw [sr_ne (by omega), wr_ne (by omega), wr_eq, updN _ _ hts, sr_ne (by omega), wr_ne (by omega), wr_ne (by omega)]
        exact a3
      · rw [sr_ne (by omega), wr_eq, updN _ _ hts, wr_ne (by omega), sr_ne (by omega), wr_ne (by omega), wr_ne (by omega)]
        exact a4
      · rw [sr_ne (by omega), wr_ne (by omega), wr_ne (by omega), sr_ne (by omega), wr_ne (by omega), wr_ne (by omega), sr_eq]
        rw [if_neg (by omega), sr_ne (by omega), wr_ne (by omega), wr_ne (by omega)]
        exact a5 j hj
theorem csheet36 {s : Nat} (hs : s < 4) (b n : Int32) (S : ST) : G_X5_sheet_0_36 (nI s) b n S = if 0 ≤ n then (if n ≤ 40 then some (if b = 0 then 0 else n, rnS S s b (if b = 0 then 0 else n)) else G_X5_finding_0 (nI 0) S) else G_X5_finding_0 (nI 6) S := by
  unfold G_X5_sheet_0_36
  rw [fb0, fb6]
  by_cases h1 : 0 ≤ n
  · rw [if_pos h1, if_pos h1]
    by_cases h2 : n ≤ 40
    · rw [if_pos h2, if_pos h2, if_pos (inB_nI hs (by decide)), shOk hs, crenew hs, bndS]
      simp only []
      rw [if_pos (inB_nI hs (by decide))]
      unfold rnS
      rw [sr_ne (by omega), wr_eq, updI]
    · rw [if_neg h2, if_neg h2]
  · rw [if_neg h1, if_neg h1]
theorem msheet35 {s : Nat} (hs : s < 4) (b n : Int32) (S : ST) : G_X6_sheet_51_35 (nI s) b n S = if 0 ≤ n then (if n ≤ 40 then some (if b = 0 then 0 else n, rnM S s b (if b = 0 then 0 else n)) else G_X6_no_51 (nI 0) S) else G_X6_no_51 (nI 6) S := by
  unfold G_X6_sheet_51_35
  rw [nb0, nb6]
  by_cases h1 : 0 ≤ n
  · rw [if_pos h1, if_pos h1]
    by_cases h2 : n ≤ 40
    · rw [if_pos h2, if_pos h2, if_pos (inB_nI hs (by decide)), cl (by omega)]
      by_cases hb : b = 0
      · rw [if_pos hb, if_pos hb, mrenew hs]
      · rw [if_neg hb, if_neg hb, mrenew hs]
    · rw [if_neg h2, if_neg h2]
  · rw [if_neg h1, if_neg h1]
theorem op_sheet (a b n : Int32) : Ok (G_X5_sheet_0 a b n) (G_X6_sheet_51 a b n) := by
  intro S h
  by_cases ha : 0 ≤ a ∧ a < 4
  · have ha' := ha
    obtain ⟨s, hs, rfl⟩ := ofR (n := 4) (by decide) ha.1 ha.2
    by_cases hb : b = 0 ∨ b = 8 ∨ b = 16 ∨ b = 32
    · have cc : ∀ T, G_X5_sheet_0 (nI s) b n T = G_X5_sheet_0_36 (nI s) b n T := by
        intro T
        simp only [G_X5_sheet_0, bel, bndS, ite10]
        rw [if_neg (not_not_intro ha')]
        rcases hb with rfl | rfl | rfl | rfl
        · rw [if_pos rfl]
        · rw [if_neg (by decide), if_pos rfl]
        · rw [if_neg (by decide), if_neg (by decide), if_pos rfl]
        · rw [if_neg (by decide), if_neg (by decide), if_neg (by decide), if_pos rfl]
      have mm : ∀ T, G_X6_sheet_51 (nI s) b n T = G_X6_sheet_51_35 (nI s) b n T := by
        intro T
        simp only [G_X6_sheet_51, misSheet, bndS, ite10]
        rw [if_neg (not_not_intro (shB.mp ha'))]
        rcases hb with rfl | rfl | rfl | rfl
        · rw [if_pos rfl]
        · rw [if_neg (by decide), if_pos rfl]
        · rw [if_neg (by decide), if_neg (by decide), if_pos rfl]
        · rw [if_neg (by decide), if_neg (by decide), if_neg (by decide), if_pos rfl]
      by_cases h1 : 0 ≤ n
      · by_cases h2 : n ≤ 40
        · refine ⟨if b = 0 then 0 else n, rnS S s b (if b = 0 then 0 else n), rnM (rnS S s b (if b = 0 then 0 else n)) s b (if b = 0 then 0 else n), ?_, ?_, rn_inv h hs hb ?_⟩
          · rw [cc, csheet36 hs, if_pos h1, if_pos h2]
          · rw [mm, msheet35 hs, if_pos h1, if_pos h2]
          · split
            · decide
            · exact ⟨h1, h2⟩
        · exact ok_fin h (i := 0) (by decide) (by rw [cc, csheet36 hs, if_pos h1, if_neg h2]) (fun S1 _ => by rw [mm, msheet35 hs, if_pos h1, if_neg h2])
      · exact ok_fin h (i := 6) (by decide) (by rw [cc, csheet36 hs, if_neg h1]) (fun S1 _ => by rw [mm, msheet35 hs, if_neg h1])
    · have b0 : ¬ b = 0 := fun q => hb (Or.inl q)
      have b1 : ¬ b = 8 := fun q => hb (Or.inr (Or.inl q))
      have b2 : ¬ b = 16 := fun q => hb (Or.inr (Or.inr (Or.inl q)))
      have b3 : ¬ b = 32 := fun q => hb (Or.inr (Or.inr (Or.inr q)))
      refine ok_fin h (i := 0) (by decide) ?_ ?_
      · simp only [G_X5_sheet_0, bel, bndS, ite10, fb0]
        rw [if_neg (not_not_intro ha'), if_neg b0, if_neg b1, if_neg b2, if_neg b3]
      · intro S1 _
        simp only [G_X6_sheet_51, misSheet, bndS, ite10, nb0]
        rw [if_neg (not_not_intro (shB.mp ha')), if_neg b0, if_neg b1, if_neg b2, if_neg b3]
  · refine ok_fin h (i := 0) (by decide) ?_ ?_
    · simp only [G_X5_sheet_0, bel, bndS, ite10, fb0]
      rw [if_pos ha]
    · intro S1 _
      simp only [G_X6_sheet_51, misSheet, bndS, ite10, nb0]
      rw [if_pos (fun q => ha (shB.mpr q))]
/-- a number written -/
theorem wr_inv {S : ST} (h : Inv S) {s j : Nat} (hs : s < 4) (hj : j < 40) (v : Int32) : Inv (wr (wr S (44 + 2 * s) j v) 64 (40 * s + j) v) := by
  have h6 := h.2.2.2.2.2.1
  refine h.shs ?_ ?_
  · intro c hc
    rw [wr_ne (by omega), wr_ne (by omega)]
  · intro t ht
    obtain ⟨a1, a2, a3, a4, a5⟩ := h6 t ht
    refine ⟨?_, ?_, ?_, ?_, fun i hi => ?_⟩
    · rw [wr_ne (by omega), wr_ne (by omega), wr_ne (by omega), wr_ne (by omega)]
      exact a1
    · rw [wr_ne (by omega), wr_ne (by omega), wr_ne (by omega), wr_ne (by omega)]
      exact a2
    · rw [wr_ne (by omega), wr_ne (by omega)]
      exact a3
    · rw [wr_ne (by omega), wr_ne (by omega)]
      exact a4
    · rw [wr_ne (show 44 + 2 * t ≠ 64 by omega), wr_eq, wr_ne (show 64 ≠ 44 + 2 * s by omega)]
      by_cases hts : t = s
      · subst hts
        rw [wr_eq]
        by_cases hij : i = j
        · subst hij
          rw [updI, updI]
        · rw [updN _ _ hij, updN _ _ (by omega)]
          exact a5 i hi
      · rw [wr_ne (by omega), updN _ _ (by omega)]
        exact a5 i hi
theorem op_write (a b v : Int32) : Ok (G_X5_write_0 a b v) (G_X6_write_51 a b v) := by
  intro S h
  have h6 := h.2.2.2.2.2.1
  by_cases hx : 0 ≤ a ∧ a < 4
  · obtain ⟨s, hs, rfl⟩ := ofR (n := 4) (by decide) hx.1 hx.2
    obtain ⟨a1, a2, a3, a4, a5⟩ := h6 s hs
    obtain ⟨N, hN, eN⟩ := shN h hs
    by_cases h0 : S.1 62 s = 0
    · refine ok_fin h (i := 5) (by decide) ?_ ?_
      · simp only [G_X5_write_0, clackM hs (by rw [a1]; exact h0), fnd (show 5 < 7 by decide), bndS]
        rw [if_neg (fneg 5 (by decide))]
      · intro S1 h1
        simp only [G_X6_write_51, mwrM hs (show S1.1 62 s = 0 by rw [h1 62 (by omega)]; exact h0), bndS, G_X6_write_51_31, nb5]
        rw [if_pos (by decide), if_neg (by decide)]
    · have hb : (0 ≤ b ∧ b < nI N) ↔ (0 ≤ b ∧ b ≤ nI N - 1) := by
        have h4 : nI N ≤ 40 := nI_le (b := 40) hN (by decide)
        have h5 : 0 ≤ nI N := nI_pos' (by omega)
        generalize nI N = w at *
        grind
      by_cases hq : 0 ≤ b ∧ b < nI N
      · have hq' := hq
        obtain ⟨j, hj, rfl⟩ := ofR (by omega) hq.1 hq.2
        obtain ⟨w, hw⟩ : ∃ w : Int32, w = (if S.1 62 s = 8 then v.toInt8.toInt32 else if S.1 62 s = 16 then v.toInt16.toInt32 else v) := ⟨_, rfl⟩
        refine ⟨1, wr S (44 + 2 * s) j w, wr (wr S (44 + 2 * s) j w) 64 (40 * s + j) w, ?_, ?_, wr_inv h hs (by omega) w⟩
        · simp only [G_X5_write_0, clackO hs (by rw [a1]; exact h0), bndS, if_true, inB_nI hs (by decide), shOk hs, bel, a2, eN, ite10]
          rw [if_neg (not_not_intro hq')]
          unfold G_X0_put_d
          rw [if_pos (isShk s hs), a1, inB_nI (show j < 40 by omega) (by decide), cl (by omega), show 43 + 2 * s + 1 = 44 + 2 * s by omega, hw]
          simp only [if_true]
          by_cases w1 : S.1 62 s = 8
          · rw [if_pos w1, if_pos w1, bndS]
          · rw [if_neg w1, if_neg w1]
            by_cases w2 : S.1 62 s = 16
            · rw [if_pos w2, if_pos w2, bndS]
            · rw [if_neg w2, if_neg w2, bndS]
        · have e62 : (wr S (44 + 2 * s) j w).1 62 = S.1 62 := wr_ne (by omega)
          have e63 : (wr S (44 + 2 * s) j w).1 63 = S.1 63 := wr_ne (by omega)
          simp only [G_X6_write_51, mwrO hs (show ¬ (wr S (44 + 2 * s) j w).1 62 s = 0 by rw [e62]; exact h0), bndS, inB_nI hs (by decide), if_true, cl (show s < 1000 by omega), in1, e63, eN, ite10]
          rw [if_neg (by decide), if_neg (not_not_intro (hb.mp hq'))]
          unfold G_X6_write_51_31
          rw [if_pos (by decide), inB_nI hs (by decide), cl (by omega), e62, ix40, inB_nI (show 40 * s + j < 160 by omega) (by decide), cl (by omega)]
          simp only [if_true]
          by_cases w1 : S.1 62 s = 8
          · rw [if_pos w1] at hw ⊢
            rw [← hw]
          · rw [if_neg w1] at hw ⊢
            by_cases w2 : S.1 62 s = 16
            · rw [if_pos w2] at hw ⊢
              rw [← hw]
            · rw [if_neg w2] at hw ⊢
              rw [← hw]
      · refine ok_fin h (i := 0) (by decide) ?_ ?_
        · simp only [G_X5_write_0, clackO hs (by rw [a1]; exact h0), bndS, if_true, inB_nI hs (by decide), shOk hs, bel, a2, eN, ite10, fb0]
          rw [if_pos hq]
        · intro S1 h1
          simp only [G_X6_write_51, mwrO hs (show ¬ S1.1 62 s = 0 by rw [h1 62 (by omega)]; exact h0), bndS, inB_nI hs (by decide), if_true, cl (show s < 1000 by omega), in1, h1 63 (by omega), eN, ite10]
          rw [if_neg (by decide), if_pos (fun q => hq (hb.mpr q))]
          unfold G_X6_write_51_31
          rw [if_neg (by decide), nb0]
  · refine ok_fin h (i := 0) (by decide) ?_ ?_
    · simp only [G_X5_write_0, clackN hx, fnd (show 0 < 7 by decide), bndS]
      rw [if_neg (fneg 0 (by decide))]
    · intro S1 h1
      simp only [G_X6_write_51, mwrN (fun q => hx (shB.mpr q)), bndS, G_X6_write_51_31, nb0]
      rw [if_pos (by decide), if_neg (by decide)]
