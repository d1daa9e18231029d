/-- dropped tools -/
def drU (Z : (Nat → Int32) → Int32) (R : (Nat → Int32) → Nat) (m : Nat) (d : Nat → Int32) : Nat → Int32 := if R d < m then upd (upd d 3 (Z d)) (18 + 4 * R d) 0 else upd d 3 (Z d)
def drD (Z : (Nat → Int32) → Int32) (R : (Nat → Int32) → Nat) (m : Nat) : Nat → (Nat → Int32) → (Nat → Int32)
  | 0, d => d
  | e + 1, d => drD Z R m e (ngD (drU Z R m d) m)
def drH (Z : (Nat → Int32) → Int32) (R : (Nat → Int32) → Nat) (m : Nat) : Nat → (Nat → Int32) → Int32 → Int32
  | 0, _, a => a
  | e + 1, d, a => drH Z R m e (ngD (drU Z R m d) m) (if R d < m then a + 1 else a)
theorem drw (x : Int32) : irm (ush x 8) 16 = nI (x.toBitVec.toNat / 256 % 16) := by
  have h1 : (ush x 8).toBitVec.toNat = x.toBitVec.toNat / 2 ^ 8 := pk_ushr x 8 8 (by decide)
  have hx : x.toBitVec.toNat < 2 ^ 32 := x.toBitVec.isLt
  have h3 : x.toBitVec.toNat / 256 < 2 ^ 24 := by omega
  have h2 : ush x 8 = nI (x.toBitVec.toNat / 256) := by
    apply Int32.toBitVec_inj.mp
    apply BitVec.eq_of_toNat_eq
    rw [h1, pk_tn (by omega)]
  rw [h2]
  unfold irm
  exact pk_rem (d := 16) (by omega) (by decide) (by decide)
theorem drU_1 {Z : (Nat → Int32) → Int32} {R : (Nat → Int32) → Nat} {m : Nat} {d : Nat → Int32} : drU Z R m d 1 = d 1 := by
  unfold drU
  split
  · rw [updN _ _ (by omega), updN _ _ (by omega)]
  · rw [updN _ _ (by omega)]
theorem drU_0 {Z : (Nat → Int32) → Int32} {R : (Nat → Int32) → Nat} {m : Nat} {d : Nat → Int32} : drU Z R m d 0 = d 0 := by
  unfold drU
  split
  · rw [updN _ _ (by omega), updN _ _ (by omega)]
  · rw [updN _ _ (by omega)]
theorem drU_K {Z : (Nat → Int32) → Int32} {R : (Nat → Int32) → Nat} {m : Nat} {d : Nat → Int32} (hR16 : ∀ d : Nat → Int32, R d < 16) (hm : m ≤ 10) (h : SkyK d) : SkyK (drU Z R m d) := by
  unfold drU
  split
  · have := hR16 d
    exact (h.z).life (by omega) (by decide)
  · exact h.z
theorem drL {m r : Nat} (hm : m ≤ 10) (hr : r < 16) : (0 ≤ nI r ∧ nI r < nI m) ↔ r < m :=
  ⟨fun h => (nI_ltI (by omega) (by omega)).mp h.2, fun h => ⟨nI_pos' (by omega), nI_lt h (by omega)⟩⟩
theorem drL2 {m r : Nat} (hm : m ≤ 10) (hr : r < 16) : (0 ≤ nI r ∧ nI r ≤ nI m - 1) ↔ r < m := by
  rw [← drL hm hr]
  have h4 : nI m ≤ 10 := nI_le (b := 10) hm (by decide)
  have h5 : 0 ≤ nI m := nI_pos' (by omega)
  generalize nI m = x at *
  generalize nI r = y at *
  grind
theorem cdrops {Z : (Nat → Int32) → Int32} {R : (Nat → Int32) → Nat} {m N : Nat} (hZ : ∀ (S : ST) (d : Nat → Int32), S.1 1 12 = d 3 → G_X1_draw_1 S = some (ush (Z d) 8, wr S 1 12 (Z d))) (hRr : ∀ d : Nat → Int32, irm (ush (Z d) 8) 16 = nI (R d)) (hR16 : ∀ d : Nat → Int32, R d < 16) (hm : m ≤ 10) (hN : N < 1000) : ∀ (e k n : Nat) (a : Int32) (S : ST) (d : Nat → Int32), SkyR 1 S d → d 1 = nI m → k + e = N → e < n → 0 ≤ d 0 → d 0 ≤ 99999 - nI e → ∃ S', G_X5_drops_0_41 n (nI N) a (nI k) S = some (drH Z R m e d a, S') ∧ SkyR 1 S' (drD Z R m e d) ∧ ∀ c, ¬ (1 ≤ c ∧ c ≤ 10) → S'.1 c = S.1 c := by
  intro e
  induction e with
  | zero =>
    intro k n a S d hR hd h1 h2 h3 h4
    obtain ⟨n, rfl⟩ : ∃ n', n = n' + 1 := ⟨n - 1, by omega⟩
    unfold G_X5_drops_0_41
    rw [if_pos (nI_le (by omega) (by omega))]
    exact ⟨S, rfl, hR, fun _ _ => rfl⟩
  | succ e ih =>
    intro k n a S d hR hd h1 h2 h3 h4
    obtain ⟨n, rfl⟩ : ∃ n', n = n' + 1 := ⟨n - 1, by omega⟩
    have hz : S.1 1 12 = d 3 := hR.2.2.2.1
    have hr : R d < 16 := hR16 d
    have he : nI (e + 1) = nI e + 1 := (nI_1 e).symm
    have he2 : 0 ≤ nI e := nI_pos' (by omega)
    have he3 : nI e ≤ 1000 := nI_le (b := 1000) (by omega) (by decide)
    rw [he] at h4
    have hd0 : d 0 + 1 ≤ 99999 := by
      generalize nI e = x at *
      grind
    have hd1 : d 0 + 1 ≤ 99999 - nI e := by
      generalize nI e = x at *
      grind
    have hd2 : 0 ≤ d 0 + 1 := by
      generalize nI e = x at *
      grind
    have hng : ngD (drU Z R m d) m 0 = d 0 + 1 := by
      unfold ngD
      rw [if_pos rfl, drU_0, if_pos hd0]
    have e12 : (wr S 1 12 (Z d)).1 1 0 = nI m := by rw [wr_eq, updN _ _ (by omega), hR.1, hd]
    unfold G_X5_drops_0_41
    rw [if_neg (nI_ge (by omega) (by omega))]
    rw [hZ S d hz, bndS]
    simp only []
    rw [hRr d, bel, bndS]
    simp only [ite10, e12]
    by_cases hq : R d < m
    · have hU : drU Z R m d = upd (upd d 3 (Z d)) (18 + 4 * R d) 0 := if_pos hq
      have hR2 : SkyR 1 (wr (wr S 1 12 (Z d)) 4 (R d) 0) (drU Z R m d) := by
        rw [hU]
        exact (hR.z).life (by omega)
      obtain ⟨S1, q1, q2, q3⟩ := cpass hm hR2 (by rw [drU_1]; exact hd) (by rw [drU_0]; exact hd0)
      rw [if_neg (not_not_intro ((drL hm hr).mpr hq)), if_pos (inB_nI (by omega) (by decide)), cl (by omega), q1, bndS]
      simp only [nI_1]
      obtain ⟨S2, q4, q5, q6⟩ := ih (k + 1) n (a + 1) S1 _ q2 (by rw [ngD_1, drU_1]; exact hd) (by omega) (by omega) (by rw [hng]; exact hd2) (by rw [hng]; exact hd1)
      refine ⟨S2, ?_, q5, fun c hc => by rw [q6 c hc, q3 c hc, wr_ne (by omega), wr_ne (by omega)]⟩
      rw [q4]
      show _ = some (drH Z R m e (ngD (drU Z R m d) m) (if R d < m then a + 1 else a), S2)
      rw [if_pos hq]
    · have hU : drU Z R m d = upd d 3 (Z d) := if_neg hq
      have hR2 : SkyR 1 (wr S 1 12 (Z d)) (drU Z R m d) := by
        rw [hU]
        exact hR.z
      obtain ⟨S1, q1, q2, q3⟩ := cpass hm hR2 (by rw [drU_1]; exact hd) (by rw [drU_0]; exact hd0)
      rw [if_pos (fun q => hq ((drL hm hr).mp q)), q1, bndS]
      simp only [nI_1]
      obtain ⟨S2, q4, q5, q6⟩ := ih (k + 1) n a S1 _ q2 (by rw [ngD_1, drU_1]; exact hd) (by omega) (by omega) (by rw [hng]; exact hd2) (by rw [hng]; exact hd1)
      refine ⟨S2, ?_, q5, fun c hc => by rw [q6 c hc, q3 c hc, wr_ne (by omega)]⟩
      rw [q4]
      show _ = some (drH Z R m e (ngD (drU Z R m d) m) (if R d < m then a + 1 else a), S2)
      rw [if_neg hq]
theorem mdrops {Z : (Nat → Int32) → Int32} {R : (Nat → Int32) → Nat} {m N : Nat} (hZ : ∀ S : ST, G_X6_draw_51 S = some (ush (Z (S.1 52)) 8, wr S 52 3 (Z (S.1 52)))) (hRr : ∀ d : Nat → Int32, irm (ush (Z d) 8) 16 = nI (R d)) (hR16 : ∀ d : Nat → Int32, R d < 16) (hm : m ≤ 10) (hN : N < 1000) : ∀ (e k n : Nat) (a : Int32) (S : ST), S.1 52 1 = nI m → k + e = N → e < n → G_X6_drops_51_39 n (nI N) a (nI k) S = some (drH Z R m e (S.1 52) a, sr S 52 (drD Z R m e (S.1 52))) := by
  intro e
  induction e with
  | zero =>
    intro k n a S hs h1 h2
    obtain ⟨n, rfl⟩ : ∃ n', n = n' + 1 := ⟨n - 1, by omega⟩
    unfold G_X6_drops_51_39
    rw [if_pos (nI_le (by omega) (by omega))]
    simp only [drH, drD, sr_self]
  | succ e ih =>
    intro k n a S hs h1 h2
    obtain ⟨n, rfl⟩ : ∃ n', n = n' + 1 := ⟨n - 1, by omega⟩
    have hr : R (S.1 52) < 16 := hR16 (S.1 52)
    unfold G_X6_drops_51_39
    rw [if_neg (nI_ge (by omega) (by omega))]
    rw [hZ S, bndS]
    simp only []
    rw [hRr (S.1 52), isStar, bndS]
    have e1 : (wr S 52 3 (Z (S.1 52))).1 52 1 = nI m := by rw [wr_eq, updN _ _ (by omega), hs]
    simp only [ite10, e1]
    by_cases hq : R (S.1 52) < m
    · have hU : drU Z R m (S.1 52) = upd (upd (S.1 52) 3 (Z (S.1 52))) (18 + 4 * R (S.1 52)) 0 := if_pos hq
      rw [if_neg (not_not_intro ((drL2 hm hr).mpr hq)), mput2 (by omega), bndS]
      simp only []
      rw [mnight hm (by rw [wr_eq, updN _ _ (by omega)]; exact e1), bndS, wr_sr (wr S 52 3 (Z (S.1 52))), wr_sr S, sr_sr, sr_sr, sr_eq, sr_eq, ← hU]
      simp only [nI_1]
      rw [ih (k + 1) n (a + 1) _ (by rw [sr_eq, ngD_1, drU_1]; exact hs) (by omega) (by omega), sr_eq, sr_sr]
      show _ = some (drH Z R m e (ngD (drU Z R m (S.1 52)) m) (if R (S.1 52) < m then a + 1 else a), sr S 52 (drD Z R m e (ngD (drU Z R m (S.1 52)) m)))
      rw [if_pos hq]
    · have hU : drU Z R m (S.1 52) = upd (S.1 52) 3 (Z (S.1 52)) := if_neg hq
      rw [if_pos (fun q => hq ((drL2 hm hr).mp q)), mnight hm e1, bndS, wr_sr S, sr_sr, sr_eq, ← hU]
      simp only [nI_1]
      rw [ih (k + 1) n a _ (by rw [sr_eq, ngD_1, drU_1]; exact hs) (by omega) (by omega), sr_eq, sr_sr]
      show _ = some (drH Z R m e (ngD (drU Z R m (S.1 52)) m) (if R (S.1 52) < m then a + 1 else a), sr S 52 (drD Z R m e (ngD (drU Z R m (S.1 52)) m)))
      rw [if_neg hq]
theorem drD_K {Z : (Nat → Int32) → Int32} {R : (Nat → Int32) → Nat} {m : Nat} (hR16 : ∀ d : Nat → Int32, R d < 16) (hm : m ≤ 10) : ∀ (e : Nat) (d : Nat → Int32), SkyK d → SkyK (drD Z R m e d)
  | 0, _, h => h
  | e + 1, d, h => drD_K hR16 hm e _ ((drU_K hR16 hm h).ngK hm)
theorem drC (S : ST) (x : Int32) (h : S.1 1 12 = x) : G_X1_draw_1 S = some (ush (x * 1103515245 + 12345) 8, wr S 1 12 (x * 1103515245 + 12345)) := by
  unfold G_X1_draw_1
  rw [h]
theorem drM (S : ST) : G_X6_draw_51 S = some (ush (S.1 52 3 * 1103515245 + 12345) 8, wr S 52 3 (S.1 52 3 * 1103515245 + 12345)) := by
  unfold G_X6_draw_51
  rfl
theorem drEx : ∃ (Z : (Nat → Int32) → Int32) (R : (Nat → Int32) → Nat), (∀ (S : ST) (d : Nat → Int32), S.1 1 12 = d 3 → G_X1_draw_1 S = some (ush (Z d) 8, wr S 1 12 (Z d))) ∧ (∀ S : ST, G_X6_draw_51 S = some (ush (Z (S.1 52)) 8, wr S 52 3 (Z (S.1 52)))) ∧ (∀ d : Nat → Int32, irm (ush (Z d) 8) 16 = nI (R d)) ∧ ∀ d : Nat → Int32, R d < 16 :=
  ⟨fun d => d 3 * 1103515245 + 12345, fun d => (d 3 * 1103515245 + 12345).toBitVec.toNat / 256 % 16, fun S d h => drC S (d 3) h, fun S => drM S, fun d => drw (d 3 * 1103515245 + 12345), fun d => Nat.mod_lt _ (by decide)⟩
theorem op_drops (a : Int32) : Ok (G_X5_drops_0 a) (G_X6_drops_51 a) := by
  intro S h
  obtain ⟨m, hm, hs⟩ := starsN h
  obtain ⟨Z, R, hZC, hZM, hRr, hR16⟩ := drEx
  have hR := h.1
  have hK : SkyK (S.1 52) := h.2.1
  have hn : S.1 1 8 = S.1 52 0 := hR.2.1
  have h0 := hK.1
  by_cases ha : 1 ≤ a ∧ a ≤ 20
  · have ha1 : ¬ a < 1 := by grind
    obtain ⟨N, hN, rfl⟩ := ofR (n := 21) (x := a) (by decide) (by grind) (by show _ < (21 : Int32); grind)
    by_cases hb : S.1 52 0 + nI N ≤ 99999
    · have hb2 : S.1 52 0 ≤ 99999 - nI N := by
        have h2 := ha.2
        have h3 := ha.1
        generalize nI N = x at *
        grind
      obtain ⟨S1, q1, q2, q3⟩ := cdrops hZC hRr hR16 hm (show N < 1000 by omega) N 0 3000 0 S (S.1 52) hR hs (by omega) (by omega) h0.1 hb2
      have e52 := q3 52 (by omega)
      have m1 := mdrops hZM hRr hR16 hm (show N < 1000 by omega) N 0 3000 0 S1 (by rw [e52]; exact hs) (by omega) (by omega)
      rw [show nI 0 = 0 from rfl] at q1 m1
      rw [e52] at m1
      refine ⟨drH Z R m N (S.1 52) 0, S1, sr S1 52 (drD Z R m N (S.1 52)), ?_, ?_, h.op q3 (fun c hc => sr_ne hc) sr_eq q2 (drD_K hR16 hm N _ hK)⟩
      · simp only [G_X5_drops_0, q1, bndS]
        rw [if_neg ha1, if_pos ha.2, hn, if_pos hb]
      · simp only [G_X6_drops_51, in1, bndS, ite10, m1, e52]
        rw [if_neg (not_not_intro ha), if_pos hb]
    · refine ok_fin h (i := 4) (by decide) ?_ ?_
      · simp only [G_X5_drops_0, fb4]
        rw [if_neg ha1, if_pos ha.2, hn, if_neg hb]
      · intro S1 h1
        simp only [G_X6_drops_51, in1, bndS, ite10, nb4, h1 52 (by omega)]
        rw [if_neg (not_not_intro ha), if_neg hb]
  · refine ok_fin h (i := 0) (by decide) ?_ ?_
    · simp only [G_X5_drops_0, fb0]
      by_cases h1 : a < 1
      · rw [if_pos h1]
      · rw [if_neg h1, if_neg (by grind)]
    · intro S1 _
      simp only [G_X6_drops_51, in1, bndS, ite10, nb0]
      rw [if_pos ha]
