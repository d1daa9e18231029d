/-- the whole text -/
def mOf (d : Nat → Int32) : Nat := (d 1).toNatClampNeg
def zOf (d : Nat → Int32) : Nat := (d 2).toNatClampNeg
theorem mOf_ok {d : Nat → Int32} (h : SkyK d) : mOf d ≤ 10 ∧ d 1 = nI (mOf d) := by
  have h1 := h.2.1
  obtain ⟨m, hm, e⟩ := ofR (n := 11) (by decide) h1.1 (by show _ < (11 : Int32); grind)
  unfold mOf
  rw [e, cl (by omega)]
  exact ⟨by omega, rfl⟩
theorem zOf_ok {d : Nat → Int32} (h : SkyK d) : zOf d ≤ 6 ∧ d 2 = nI (zOf d) := by
  have h1 := h.2.2.1
  obtain ⟨m, hm, e⟩ := ofR (n := 7) (by decide) h1.1 (by show _ < (7 : Int32); grind)
  unfold zOf
  rw [e, cl (by omega)]
  exact ⟨by omega, rfl⟩
def prs1 (B : Nat → Nat) (t : Nat) (f : Nat → Tk → (Nat → Int32) → Option (Nat → Int32) × Nat × Nat) (n : Nat) (r : Option (Nat → Int32) × Tk) : Option (Nat → Int32) × Nat × Nat := match r.1 with
  | none => (none, n, r.2.2.1)
  | some d1 => if r.2.1 = 0 then (some d1, n, r.2.2.1) else if r.2.1 = 3 then f (n + 1) (adv B t r.2.2.2.1) d1 else (none, n, r.2.2.1)
def prs (B : Nat → Nat) (t : Nat) : Nat → Nat → Tk → (Nat → Int32) → Option (Nat → Int32) × Nat × Nat
  | 0, n, k, _ => (none, n, k.2.1)
  | e + 1, n, k, d => prs1 B t (prs B t e) n (itm B t d (mOf d) (zOf d) k)
def oR (p : Option (Nat → Int32) × Nat × Nat) : Int32 := match p.1 with
  | none => -1 - nI p.2.2
  | some _ => nI p.2.1
theorem wix_17 {B : Nat → Nat} {k : Tk} (h : ¬ k.1 = 1) : wix B k = 17 := by
  have h1 := wix_le B k
  by_cases h2 : wix B k < 17
  · have := (wix_iff h2).mpr rfl
    exact absurd (isW_iff.mp this).1 h
  · omega
theorem itm_end {B : Nat → Nat} {t m z : Nat} {d : Nat → Int32} {k : Tk} (h : k.1 = 0) : itm B t d m z k = (none, k) := by
  have h1 : wix B k = 17 := wix_17 (by omega)
  unfold itm
  rw [h1, if_neg (by decide), if_neg (by decide), if_neg (by decide), if_neg (by decide)]
theorem prs_ok {B : Nat → Nat} {t : Nat} (ht : t ≤ 120) : ∀ (e n : Nat) (k : Tk) (d : Nat → Int32), n + e = 122 → n ≤ k.2.1 + 1 → Wf B t k → SkyK d → (prs B t e n k d).2.1 ≤ 122 ∧ n ≤ (prs B t e n k d).2.1 ∧ (prs B t e n k d).2.2 ≤ 120 ∧ ∀ d1, (prs B t e n k d).1 = some d1 → SkyK d1 := by
  intro e
  induction e with
  | zero =>
    intro n k d h1 h2 hW hK
    have := hW.2.1
    have := hW.2.2.1
    omega
  | succ e ih =>
    intro n k d h1 h2 hW hK
    obtain ⟨hm, hs⟩ := mOf_ok hK
    obtain ⟨hz, hzs⟩ := zOf_ok hK
    obtain ⟨r1, r2, r3⟩ := rItm hW hK hm hs hz hzs
    show (prs1 B t (prs B t e) n (itm B t d (mOf d) (zOf d) k)).2.1 ≤ 122 ∧ n ≤ (prs1 B t (prs B t e) n (itm B t d (mOf d) (zOf d) k)).2.1 ∧ (prs1 B t (prs B t e) n (itm B t d (mOf d) (zOf d) k)).2.2 ≤ 120 ∧ ∀ d1, (prs1 B t (prs B t e) n (itm B t d (mOf d) (zOf d) k)).1 = some d1 → SkyK d1
    generalize itm B t d (mOf d) (zOf d) k = r at *
    obtain ⟨u1, u2, u3, u4, u5, u6⟩ := id r1
    unfold prs1
    cases hr : r.1 with
    | none => exact ⟨by show n ≤ 122; omega, Nat.le_refl _, by show r.2.2.1 ≤ 120; omega, fun d1 h => by cases h⟩
    | some d1 =>
      have hK1 := r3 d1 hr
      simp only []
      by_cases h0 : r.2.1 = 0
      · rw [if_pos h0]
        exact ⟨by show n ≤ 122; omega, Nat.le_refl _, by show r.2.2.1 ≤ 120; omega, fun d2 h => by simp only [Option.some.injEq] at h; rw [← h]; exact hK1⟩
      · rw [if_neg h0]
        by_cases h3 : r.2.1 = 3
        · rw [if_pos h3]
          have a1 := adv_wf (B := B) (t := t) (p := r.2.2.2.1) u3
          have := u5 h0
          have h4 := ih (n + 1) (adv B t r.2.2.2.1) d1 (by omega) (by omega) a1.1 hK1
          exact ⟨h4.1, by have := h4.2.1; omega, h4.2.2.1, h4.2.2.2⟩
        · rw [if_neg h3]
          exact ⟨by show n ≤ 122; omega, Nat.le_refl _, by show r.2.2.1 ≤ 120; omega, fun d1 h => by cases h⟩
theorem cprs {B : Nat → Nat} {t : Nat} : ∀ (e n : Nat) (k : Tk) (d : Nat → Int32) (S : ST) (fu : Nat), n + e = 122 → n ≤ k.2.1 + 1 → TpC B t S → CT S k → Wf B t k → SkyR 21 S d → SkyK d → e < fu → ∃ S', G_X3_readInto_31_21_9 fu (nI n) S = some (oR (prs B t e n k d), S') ∧ (∀ d1, (prs B t e n k d).1 = some d1 → SkyR 21 S' d1) ∧ FD S S' := by
  intro e
  induction e with
  | zero =>
    intro n k d S fu h1 h2 hT hC hW hR hK h3
    have := hW.2.1
    have := hW.2.2.1
    have := hT.1
    omega
  | succ e ih =>
    intro n k d S fu h1 h2 hT hC hW hR hK h3
    obtain ⟨fu, rfl⟩ : ∃ f, fu = f + 1 := ⟨fu - 1, by omega⟩
    have ht := hT.1
    obtain ⟨hm, hs⟩ := mOf_ok hK
    obtain ⟨hz, hzs⟩ := zOf_ok hK
    show ∃ S', _ = some (oR (prs1 B t (prs B t e) n (itm B t d (mOf d) (zOf d) k)), S') ∧ (∀ d1, (prs1 B t (prs B t e) n (itm B t d (mOf d) (zOf d) k)).1 = some d1 → SkyR 21 S' d1) ∧ FD S S'
    rw [G_X3_readInto_31_21_9]
    by_cases hn : 120 < n
    · have hk0 : k.1 = 0 := by
        have := hW.2.1
        have := hW.2.2.1
        exact hW.2.2.2.1.mpr (by omega)
      rw [if_pos (show (120 : Int32) < nI n from nI_lt (a := 120) hn (by omega)), itm_end hk0]
      unfold G_X3_readInto_31_21_65
      rw [hC.2.1]
      exact ⟨S, rfl, fun d1 h => (by cases h), FD.rf⟩
    · rw [if_neg (show ¬ (120 : Int32) < nI n from nI_nlt (a := 120) (by omega) (by decide))]
      obtain ⟨S1, q1, q2, q3, q4⟩ := citem hT hC hW hR hK hm hs hz hzs
      obtain ⟨r1, r2, r3⟩ := rItm hW hK hm hs hz hzs
      rw [q1, bndS]
      simp only []
      generalize itm B t d (mOf d) (zOf d) k = r at *
      obtain ⟨u1, u2, u3, u4, u5, u6⟩ := id r1
      unfold prs1
      cases hr : r.1 with
      | none =>
        rw [if_pos (show oB none = 0 from rfl)]
        unfold G_X3_readInto_31_21_65
        rw [q2.2.1]
        exact ⟨S1, rfl, fun d1 h => (by cases h), q4⟩
      | some d1 =>
        have hK1 := r3 d1 hr
        have hR1 := q3 d1 hr
        rw [if_neg (show ¬ oB (some d1) = 0 from show ¬ (1 : Int32) = 0 by decide), q2.1]
        simp only []
        by_cases h0 : r.2.1 = 0
        · rw [if_pos (by rw [h0]; rfl), if_pos h0]
          exact ⟨S1, rfl, fun d2 h => by simp only [Option.some.injEq] at h; rw [← h]; exact hR1, q4⟩
        · rw [if_neg (show ¬ nI r.2.1 = 0 from fun q => h0 ((nI_eq (b := 0) (by omega) (by decide)).mp q)), if_neg h0]
          by_cases h3 : r.2.1 = 3
          · rw [if_pos (by rw [h3]; rfl), if_pos h3]
            have a1 := adv_wf (B := B) (t := t) (p := r.2.2.2.1) u3
            have := u5 h0
            have hT1 := hT.fd q4
            obtain ⟨S2, w1, w2, w3⟩ := cadv hT1 q2.2.2.1 u3
            rw [w1, bndS]
            simp only []
            rw [nI_1]
            obtain ⟨S3, x1, x2, x3⟩ := ih (n + 1) (adv B t r.2.2.2.1) d1 S2 fu (by omega) (by omega) (hT1.f w3) w2 a1.1 (hR1.f32 w3) hK1 (by omega)
            exact ⟨S3, x1, x2, q4.tr (w3.fd.tr x3)⟩
          · rw [if_neg (show ¬ nI r.2.1 = 3 from fun q => h3 ((nI_eq (b := 3) (by omega) (by decide)).mp q)), if_neg h3]
            unfold G_X3_readInto_31_21_65
            rw [q2.2.1]
            exact ⟨S1, rfl, fun d1 h => (by cases h), q4⟩
theorem tyM_b {B : Nat → Nat} {t : Nat} {k : Tk} (h : Wf B t k) : tyM k ≤ 4 := by
  unfold tyM
  split
  · decide
  · exact h.1
theorem tyM_3 {k : Tk} : tyM k = 3 ↔ k.1 = 3 := by
  unfold tyM
  split
  · omega
  · exact Iff.rfl
theorem tyM_0 {k : Tk} : tyM k = 0 ↔ k.1 = 0 := by
  unfold tyM
  split
  · omega
  · exact Iff.rfl
def FE (S S' : ST) : Prop := (∀ c, c ≠ 51 → c ≠ 52 → S'.1 c = S.1 c) ∧ S'.1 51 3 = S.1 51 3 ∧ S'.1 51 7 = 0
theorem FM.fe {S S1 S2 : ST} (h : FM S S1) (h2 : FE S1 S2) : FE S S2 := ⟨fun c a b => (h2.1 c a b).trans (h.1 c a b), h2.2.1.trans h.2.1, h2.2.2⟩
theorem mfail {S S1 : ST} {k : Tk} (x : Int32) (hM : MT S1 k) (hF : FM S S1) : ∃ S', G_X6_text_51_62 x S1 = some (-1 - nI k.2.1, S') ∧ (∀ i, i < 72 → S'.1 52 i = S.1 54 i) ∧ FE S S' := by
  unfold G_X6_text_51_62 G_X6_text_51_63
  rw [if_pos rfl, mback0, bndS]
  simp only []
  refine ⟨_, by rw [sr_ne (show 51 ≠ 52 by omega), wr_eq, updN _ _ (by omega), hM.2.1], fun i hi => ?_, fun c a b => ?_, ?_, ?_⟩
  · rw [sr_eq]
    unfold cp72
    rw [if_pos hi, wr_ne (by omega), hF.1 54 (by omega) (by omega)]
  · rw [sr_ne b, wr_ne a, hF.1 c a b]
  · rw [sr_ne (by omega), wr_eq, updN _ _ (by omega), hF.2.1]
  · rw [sr_ne (by omega), wr_eq, updI]
theorem mprs {B : Nat → Nat} {t : Nat} : ∀ (e n : Nat) (k : Tk) (d : Nat → Int32) (S : ST) (fu : Nat), n + e = 122 → n ≤ k.2.1 + 1 → TpM B t S → MT S k → Wf B t k → WordsR S → S.1 52 = d → SkyK d → e < fu → ∃ S', ((G_X6_readsItem_51 S).bind fun q3 => (G_X6_text_51_20 fu (nI n) q3.1 q3.2).bind fun q8 => G_X6_text_51_47 q8.1 q8.2.1 q8.2.2) = some (oR (prs B t e n k d), S') ∧ (∀ d1, (prs B t e n k d).1 = some d1 → S'.1 52 = d1) ∧ ((prs B t e n k d).1 = none → ∀ i, i < 72 → S'.1 52 i = S.1 54 i) ∧ FE S S' := by
  intro e
  induction e with
  | zero =>
    intro n k d S fu h1 h2 hT hM hW hWd hd hK h3
    have := hW.2.1
    have := hW.2.2.1
    have := hT.1
    omega
  | succ e ih =>
    intro n k d S fu h1 h2 hT hM hW hWd hd hK h3
    obtain ⟨fu, rfl⟩ : ∃ f, fu = f + 1 := ⟨fu - 1, by omega⟩
    have ht := hT.1
    obtain ⟨hm, hs⟩ := mOf_ok hK
    obtain ⟨hz, hzs⟩ := zOf_ok hK
    show ∃ S', _ = some (oR (prs1 B t (prs B t e) n (itm B t d (mOf d) (zOf d) k)), S') ∧ (∀ d1, (prs1 B t (prs B t e) n (itm B t d (mOf d) (zOf d) k)).1 = some d1 → S'.1 52 = d1) ∧ ((prs1 B t (prs B t e) n (itm B t d (mOf d) (zOf d) k)).1 = none → ∀ i, i < 72 → S'.1 52 i = S.1 54 i) ∧ FE S S'
    obtain ⟨S1, q1, q2, q3, q4⟩ := mitem hT hM hW hWd hd hm hs hz hzs
    obtain ⟨r1, r2, r3⟩ := rItm hW hK hm hs hz hzs
    rw [q1, bndS]
    simp only []
    rw [G_X6_text_51_20]
    generalize itm B t d (mOf d) (zOf d) k = r at *
    obtain ⟨u1, u2, u3, u4, u5, u6⟩ := id r1
    have hty := tyM_b r1
    unfold prs1
    cases hr : r.1 with
    | none =>
      rw [if_pos (show oB none = 0 from rfl), bndS]
      simp only []
      unfold G_X6_text_51_47
      rw [if_pos (show oB none = 0 from rfl)]
      obtain ⟨S2, w1, w2, w3⟩ := mfail (nI n) q2 q4
      exact ⟨S2, w1, fun d1 h => (by cases h), fun _ => w2, w3⟩
    | some d1 =>
      have hK1 := r3 d1 hr
      have hd1 := q3 d1 hr
      have hob : ¬ oB (some d1) = 0 := show ¬ (1 : Int32) = 0 by decide
      rw [if_neg hob, q2.1]
      simp only []
      by_cases h0 : r.2.1 = 0
      · rw [if_neg (show ¬ nI (tyM r.2) = 3 from fun q => by
          have := tyM_3.mp ((nI_eq (b := 3) (by omega) (by decide)).mp q)
          omega), if_pos h0, bndS]
        simp only []
        unfold G_X6_text_51_47
        rw [if_neg hob, q2.1, if_pos (by rw [tyM_0.mpr h0]; rfl)]
        unfold G_X6_text_51_63
        rw [if_neg (by decide)]
        refine ⟨wr S1 51 7 0, rfl, fun d2 h => ?_, fun h => (by cases h), fun c a b => by rw [wr_ne a, q4.1 c a b], by rw [wr_eq, updN _ _ (by omega), q4.2.1], by rw [wr_eq, updI]⟩
        simp only [Option.some.injEq] at h
        rw [← h, wr_ne (by omega)]
        exact hd1
      · rw [if_neg h0]
        by_cases h3 : r.2.1 = 3
        · rw [if_pos (by rw [tyM_3.mpr h3]; rfl), if_pos h3]
          have a1 := adv_wf (B := B) (t := t) (p := r.2.2.2.1) u3
          have := u5 h0
          have hT1 := hT.fm q4
          obtain ⟨S2, w1, w2, w3⟩ := madv hT1 q2.2.2.1 u3
          rw [w1, bndS]
          simp only []
          rw [nI_1, Option.bind_assoc]
          have f02 := q4.tr w3.fm
          obtain ⟨S3, x1, x2, x3, x4⟩ := ih (n + 1) (adv B t r.2.2.2.1) d1 S2 fu (by omega) (by omega) (hT1.f w3) w2 a1.1 (hWd.fm f02) ((w3.1 52 (by omega)).trans hd1) hK1 (by omega)
          exact ⟨S3, x1, x2, fun h i hi => by rw [x3 h i hi, f02.1 54 (by omega) (by omega)], f02.fe x4⟩
        · rw [if_neg (show ¬ nI (tyM r.2) = 3 from fun q => h3 (tyM_3.mp ((nI_eq (b := 3) (by omega) (by decide)).mp q))), if_neg h3, bndS]
          simp only []
          unfold G_X6_text_51_47
          rw [if_neg hob, q2.1, if_neg (show ¬ nI (tyM r.2) = 0 from fun q => h0 (tyM_0.mp ((nI_eq (b := 0) (by omega) (by decide)).mp q)))]
          obtain ⟨S2, w1, w2, w3⟩ := mfail (nI n) q2 q4
          exact ⟨S2, w1, fun d1 h => (by cases h), fun _ => w2, w3⟩
theorem oR_neg {p : Option (Nat → Int32) × Nat × Nat} (h : p.1 = none) (h2 : p.2.2 ≤ 120) : oR p < 0 := by
  unfold oR
  rw [h]
  have h3 : 0 ≤ nI p.2.2 := nI_pos' (by omega)
  have h4 : nI p.2.2 ≤ 120 := nI_le (b := 120) h2 (by decide)
  show -1 - nI p.2.2 < 0
  generalize nI p.2.2 = x at *
  grind
theorem oR_pos {p : Option (Nat → Int32) × Nat × Nat} {d : Nat → Int32} (h : p.1 = some d) (h2 : p.2.1 ≤ 122) : ¬ oR p < 0 := by
  unfold oR
  rw [h]
  exact nI_pos (n := p.2.1) (by omega)
theorem op_text : Ok G_X5_text_0 G_X6_text_51 := by
  intro S h
  obtain ⟨h1, h2, h3, h4, h5, h6, h7⟩ := id h
  obtain ⟨t1, t, ht, t2, t3⟩ := h5
  obtain ⟨B, hB⟩ : ∃ B : Nat → Nat, ∀ j, j < t → B j < 256 ∧ S.1 57 j = nI (B j) := by
    refine ⟨fun j => (S.1 57 j).toNatClampNeg, fun j hj => ?_⟩
    obtain ⟨⟨b0, b1⟩, -⟩ := t3 j hj
    obtain ⟨b, hb, e⟩ := ofR (n := 256) (by decide) b0 (by show _ < (256 : Int32); grind)
    show (S.1 57 j).toNatClampNeg < 256 ∧ S.1 57 j = nI (S.1 57 j).toNatClampNeg
    rw [e, cl (by omega)]
    exact ⟨hb, rfl⟩
  have hTC : TpC B t S := ⟨ht, t1.trans t2, fun j hj => ⟨(hB j hj).1, by rw [(t3 j hj).2, (hB j hj).2]; rfl⟩⟩
  have hTM : TpM B t S := ⟨ht, t2, hB⟩
  have hK : SkyK (S.1 52) := h2
  obtain ⟨T, q1, q2, q3⟩ := bec_21_1 h1
  have fT : FD S T := ⟨fun c _ b => q3 c b, by rw [q3 32 (by omega)]⟩
  have fT5 : F32 T (wr T 32 5 0) := F32.w (by omega)
  have a1 := adv_wf (B := B) (t := t) (p := 0) (Nat.zero_le _)
  obtain ⟨T1, w1, w2, w3⟩ := cadv (B := B) (t := t) (p := 0) ((hTC.fd fT).f fT5) (by rw [wr_eq, updI]; rfl) (Nat.zero_le _)
  obtain ⟨T2, x1, x2, x3⟩ := cprs (B := B) (t := t) 121 1 (adv B t 0) (S.1 52) T1 3000 (by omega) (by omega) (((hTC.fd fT).f fT5).f w3) w2 a1.1 ((q2.f32 fT5).f32 w3) hK (by omega)
  obtain ⟨p1, p2, p3, p4⟩ := prs_ok (B := B) ht 121 1 (adv B t 0) (S.1 52) (by omega) (by omega) a1.1 hK
  have f2 : FD S T2 := fT.tr (fT5.fd.tr (w3.fd.tr x3))
  have hread : G_X3_readInto_31_21 T = some (oR (prs B t 121 1 (adv B t 0) (S.1 52)), T2) := by
    unfold G_X3_readInto_31_21 G_X2_rewind_32
    rw [w1, bndS, bndS]
    exact x1
  -- the model, from any state that holds what the class left
  have model : ∀ U : ST, (∀ c, 51 ≤ c → c ≤ 64 → U.1 c = S.1 c) → ∃ V, G_X6_text_51 U = some (oR (prs B t 121 1 (adv B t 0) (S.1 52)), V) ∧ (∀ d1, (prs B t 121 1 (adv B t 0) (S.1 52)).1 = some d1 → V.1 52 = d1) ∧ ((prs B t 121 1 (adv B t 0) (S.1 52)).1 = none → ∀ i, i < 72 → V.1 52 i = S.1 52 i) ∧ (∀ c, c ≠ 51 → c ≠ 52 → c ≠ 54 → V.1 c = U.1 c) ∧ V.1 51 3 = S.1 51 3 ∧ V.1 51 7 = 0 := by
    intro U hU
    have ha : ∀ c, c ≠ 54 → (asd U).1 c = U.1 c := fun c hc => by unfold asd; rw [sr_ne hc]
    have hTU : TpM B t (asd U) := ⟨ht, by rw [ha 51 (by omega), hU 51 (by omega) (by omega)]; exact t2, fun j hj => by rw [ha 57 (by omega), hU 57 (by omega) (by omega)]; exact hB j hj⟩
    have f51 : F51 (asd U) (wr (asd U) 51 10 0) := F51.w (by omega) (by omega)
    obtain ⟨U1, y1, y2, y3⟩ := madv (B := B) (t := t) (p := 0) (hTU.f f51) (by rw [wr_eq, updI]; rfl) (Nat.zero_le _)
    have fU : FM (asd U) U1 := (f51.tr y3).fm
    have hWU : WordsR U1 := h7.cong (fun c a b => by rw [fU.1 c (by omega) (by omega), ha c (by omega), hU c (by omega) (by omega)])
    have h52 : U1.1 52 = S.1 52 := by rw [(f51.tr y3).1 52 (by omega), ha 52 (by omega), hU 52 (by omega) (by omega)]
    obtain ⟨V, z1, z2, z3, z4⟩ := mprs (B := B) (t := t) 121 1 (adv B t 0) (S.1 52) U1 3000 (by omega) (by omega) ((hTU.f f51).f y3) y2 a1.1 hWU h52 hK (by omega)
    refine ⟨V, ?_, z2, fun hn i hi => ?_, fun c a b e => by rw [z4.1 c a b, fU.1 c a b, ha c e], ?_, z4.2.2⟩
    · unfold G_X6_text_51
      rw [masd, bndS]
      simp only []
      rw [y1, bndS]
      exact z1
    · rw [z3 hn i hi, fU.1 54 (by omega) (by omega)]
      unfold asd
      rw [sr_eq]
      unfold cp72
      rw [if_pos hi, hU 52 (by omega) (by omega)]
    · rw [z4.2.1, fU.2.1, ha 51 (by omega), hU 51 (by omega) (by omega)]
  have fin : ∀ U V : ST, ∀ d, SkyR 1 U d → SkyK d → (∀ i, i < 72 → V.1 52 i = d i) → (∀ c, ¬ (1 ≤ c ∧ c ≤ 10) → c ≠ 32 → ¬ (21 ≤ c ∧ c ≤ 30) → U.1 c = S.1 c) → U.1 32 1 = 0 → (∀ c, c ≠ 51 → c ≠ 52 → c ≠ 54 → V.1 c = U.1 c) → V.1 51 3 = S.1 51 3 → V.1 51 7 = 0 → Inv V := by
    intro U V d hR hKd h52 hU h32 hV h513 h517
    have r : ∀ c, ¬ (1 ≤ c ∧ c ≤ 10) → c ≠ 32 → ¬ (21 ≤ c ∧ c ≤ 30) → c ≠ 51 → c ≠ 52 → c ≠ 54 → V.1 c = S.1 c := fun c a1 a2 a3 a4 a5 a6 => by rw [hV c a4 a5 a6, hU c a1 a2 a3]
    refine ⟨?_, hKd.dcong h52, h3.cong (by rw [r 0 (by omega) (by omega) (by omega) (by omega) (by omega) (by omega)]) h513 (r 53 (by omega) (by omega) (by omega) (by omega) (by omega) (by omega)) (fun c a b => r c (by omega) (by omega) (by omega) (by omega) (by omega) (by omega)), ?_, ⟨?_, 0, by omega, h517, fun j hj => by omega⟩, h6.cong (fun c hc => r c (by omega) (by omega) (by omega) (by omega) (by omega) (by omega)), h7.cong (fun c a b => r c (by omega) (by omega) (by omega) (by omega) (by omega) (by omega))⟩
    · exact (hR.dcong h52).cong (fun c a b => hV c (by omega) (by omega) (by omega))
    · rw [r 42 (by omega) (by omega) (by omega) (by omega) (by omega) (by omega), r 55 (by omega) (by omega) (by omega) (by omega) (by omega) (by omega)]
      exact h4
    · rw [hV 32 (by omega) (by omega) (by omega), h32, h517]
  generalize prs B t 121 1 (adv B t 0) (S.1 52) = p at *
  cases hp : p.1 with
  | none =>
    obtain ⟨V, v1, v2, v3, v4, v5, v6⟩ := model (wr T2 32 1 0) (fun c a b => by rw [wr_ne (by omega), f2.1 c (by omega) (by omega)])
    refine ⟨oR p, wr T2 32 1 0, V, ?_, v1, ?_⟩
    · unfold G_X5_text_0
      rw [q1, bndS]
      simp only []
      rw [hread, bndS]
      exact if_pos (oR_neg hp p3)
    · exact fin (wr T2 32 1 0) V (S.1 52) (h1.cong (fun c a b => by rw [wr_ne (by omega), f2.1 c (by omega) (by omega)])) hK (v3 hp) (fun c _ b e => by rw [wr_ne b, f2.1 c b e]) (by rw [wr_eq, updI]) v4 v5 v6
  | some d1 =>
    have hR2 : SkyR 21 (wr T2 32 1 0) d1 := (x2 d1 hp).cong (fun c a b => wr_ne (by omega))
    obtain ⟨T3, b1, b2, b3⟩ := bec_1_21 hR2
    have hT3 : ∀ c, ¬ (1 ≤ c ∧ c ≤ 10) → c ≠ 32 → ¬ (21 ≤ c ∧ c ≤ 30) → T3.1 c = S.1 c := fun c a b e => by rw [b3 c a, wr_ne b, f2.1 c b e]
    obtain ⟨V, v1, v2, v3, v4, v5, v6⟩ := model T3 (fun c a b => hT3 c (by omega) (by omega) (by omega))
    refine ⟨oR p, T3, V, ?_, v1, ?_⟩
    · unfold G_X5_text_0
      rw [q1, bndS]
      simp only []
      rw [hread, bndS]
      refine (if_neg (oR_pos hp p1)).trans ?_
      simp only [b1, bndS]
    · exact fin T3 V d1 b2 (p4 d1 hp) (fun i _ => by rw [v2 d1 hp]) hT3 (by rw [b3 32 (by omega), wr_eq, updI]) v4 v5 v6
