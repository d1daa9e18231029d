/-- items of the class -/
def oB (x : Option (Nat → Int32)) : Int32 := match x with
  | some _ => 1
  | none => 0
theorem oBb (x : Option (Nat → Int32)) : bitB (oB x) = true := by
  cases x with
  | none => exact (show bitB 0 = true by decide)
  | some _ => exact (show bitB 1 = true by decide)
def FD (S S' : ST) : Prop := (∀ c, c ≠ 32 → ¬ (21 ≤ c ∧ c ≤ 30) → S'.1 c = S.1 c) ∧ S'.1 32 1 = S.1 32 1
theorem F32.fd {S S' : ST} (h : F32 S S') : FD S S' := ⟨fun c hc _ => h.1 c hc, h.2⟩
theorem FD.rf {S : ST} : FD S S := ⟨fun _ _ _ => rfl, rfl⟩
theorem FD.tr {S S1 S2 : ST} (h : FD S S1) (h2 : FD S1 S2) : FD S S2 := ⟨fun c a b => (h2.1 c a b).trans (h.1 c a b), h2.2.trans h.2⟩
theorem FD.w {S : ST} {k i : Nat} {v : Int32} (h : 21 ≤ k ∧ k ≤ 30) : FD S (wr S k i v) := ⟨fun c a b => wr_ne (fun q => b (by rw [q]; exact h)), by rw [wr_ne (by omega)]⟩
theorem SkyR.f32 {S S' : ST} {d : Nat → Int32} (h : SkyR 21 S d) (hf : F32 S S') : SkyR 21 S' d := h.cong (fun c a b => hf.1 c (by omega))
theorem CT.w {S S' : ST} {k : Tk} (h : CT S k) (h32 : S'.1 32 = S.1 32) : CT S' k := by
  unfold CT at h ⊢
  rw [h32]
  exact h
theorem TpC.fd {B : Nat → Nat} {t : Nat} {S S' : ST} (h : TpC B t S) (hf : FD S S') : TpC B t S' := by
  obtain ⟨h1, h2, h3⟩ := h
  refine ⟨h1, by rw [hf.2]; exact h2, fun j hj => ?_⟩
  rw [hf.1 33 (by omega) (by omega)]
  exact h3 j hj
theorem ne1 {v : Int32} (h : 0 ≤ v) : ¬ v = -1 := fun q => by
  rw [q] at h
  exact absurd h (by decide)
def CR (S : ST) (g : Option (Int32 × ST)) (r : Option (Nat → Int32) × Tk) : Prop := ∃ S', g = some (oB r.1, S') ∧ CT S' r.2 ∧ (∀ d', r.1 = some d' → SkyR 21 S' d') ∧ FD S S'
theorem CR.no {S S' : ST} {k : Tk} {g : Option (Int32 × ST)} (hg : g = some (0, S')) (hC : CT S' k) (hF : FD S S') : CR S g (none, k) := ⟨S', hg, hC, fun d' h => (by cases h), hF⟩
theorem cCrew {B : Nat → Nat} {t : Nat} {S : ST} {k : Tk} {d : Nat → Int32} (hT : TpC B t S) (hC : CT S k) (hW : Wf B t k) (hR : SkyR 21 S d) (hK : SkyK d) : CR S (G_X3_readCrew_31_21 S) (iCrew B t d k) := by
  obtain ⟨S1, q1, c1, f1⟩ := cadv hT hC.2.2.1 hW.2.2.1
  have a1 := adv_wf (B := B) (t := t) (p := k.2.2.1) hW.2.2.1
  obtain ⟨S2, q2, c2, f2⟩ := cnum (lo := 0) (hi := 3) (hT.f f1) c1 a1.1 (by omega) (by omega)
  have b1 := nm_ok (lo := 0) (hi := 3) a1.1
  have v1 := fun x => nm_v (B := B) (t := t) (lo := 0) (hi := 3) (v := x) (k := adv B t k.2.2.1)
  have f12 := f1.tr f2
  have hT2 := hT.f f12
  have hR2 := hR.f32 f12
  unfold G_X3_readCrew_31_21 iCrew
  rw [q1, bndS]
  simp only []
  rw [show G_X3_number_31 0 3 S1 = _ from q2, bndS]
  simp only []
  generalize nm B t 0 3 (adv B t k.2.2.1) = r1 at *
  unfold iC1
  cases h1 : r1.1 with
  | none => exact CR.no (if_pos rfl) c2 f12.fd
  | some c =>
    have w1 := v1 c h1
    have hc : c < 4 := by omega
    have hp := hK.2.2.2.2.2.2.2.1 c hc
    have hst := hK.2.2.2.2.2.2.2.2.1 c hc
    show CR S _ (iC2 B t d c (nb B t 1 99 (d (8 + 2 * c)) r1.2))
    rw [show oN (some c) = nI c from rfl, if_neg (ne1 (nI_pos' (by omega)))]
    simp only [inB_nI hc (by decide), if_true, cl (show c < 1000 by omega)]
    rw [show S2.1 26 c = d (8 + 2 * c) from hR2.2.2.2.2.2.1 c hc]
    obtain ⟨S3, q3, c3, f3⟩ := cnb hT2 c2 b1.1 (j := 1) (hi := 99) (by omega) (by omega) (d (8 + 2 * c))
    have b2 := nb_ok (j := 1) (hi := 99) (dv := d (8 + 2 * c)) b1.1
    have v2 := fun x => nb_v (B := B) (t := t) (j := 1) (hi := 99) (dv := d (8 + 2 * c)) (v := x) (k := r1.2) (by omega) hp
    have f13 := f12.tr f3
    have hT3 := hT.f f13
    have hR3 := hR.f32 f13
    rw [show G_X3_numberBehind_31 1 99 (d (8 + 2 * c)) S2 = _ from q3, bndS]
    simp only []
    generalize nb B t 1 99 (d (8 + 2 * c)) r1.2 = r2 at *
    unfold iC2
    cases h2 : r2.1 with
    | none => exact CR.no (if_pos rfl) c3 f13.fd
    | some x =>
      have w2 := v2 x h2
      show CR S _ (iC3 d c x (nb B t 2 999 (d (9 + 2 * c)) r2.2))
      rw [show oJ (some x) = x from rfl, if_neg (ne1 w2.1), show S3.1 27 c = d (9 + 2 * c) from hR3.2.2.2.2.2.2.1 c hc]
      obtain ⟨S4, q4, c4, f4⟩ := cnb hT3 c3 b2.1 (j := 2) (hi := 999) (by omega) (by omega) (d (9 + 2 * c))
      have v3 := fun x => nb_v (B := B) (t := t) (j := 2) (hi := 999) (dv := d (9 + 2 * c)) (v := x) (k := r2.2) (by omega) hst
      have f14 := f13.tr f4
      have hR4 := hR.f32 f14
      rw [show G_X3_numberBehind_31 2 999 (d (9 + 2 * c)) S3 = _ from q4, bndS]
      simp only []
      generalize nb B t 2 999 (d (9 + 2 * c)) r2.2 = r3 at *
      unfold iC3
      cases h3 : r3.1 with
      | none => exact CR.no (if_pos rfl) c4 f14.fd
      | some y =>
        have w3 := v3 y h3
        refine ⟨wr (wr S4 26 c x) 27 c y, if_neg (ne1 w3.1), c4.w (by rw [wr_ne (by omega), wr_ne (by omega)]), fun d' h => ?_, f14.fd.tr ((FD.w (by omega)).tr (FD.w (by omega)))⟩
        simp only [Option.some.injEq] at h
        rw [← h]
        exact (hR4.crewP hc).crewS hc
theorem cSet {B : Nat → Nat} {t w : Nat} {S : ST} {k : Tk} {d : Nat → Int32} (hT : TpC B t S) (hC : CT S k) (hW : Wf B t k) (hR : SkyR 21 S d) (hw : w < 4) : CR S (G_X3_readSetting_31_21 (nI w) S) (iSet B t d w k) := by
  obtain ⟨S1, q1, c1, f1⟩ := cadv hT hC.2.2.1 hW.2.2.1
  have a1 := adv_wf (B := B) (t := t) (p := k.2.2.1) hW.2.2.1
  have hg : tabS (nI w) = nI (gtN w) ∧ gtN w ≤ 9999 := by
    have : ∀ w, w < 4 → tabS (nI w) = nI (gtN w) ∧ gtN w ≤ 9999 := by decide
    exact this w hw
  obtain ⟨S2, q2, c2, f2⟩ := cnum (lo := 0) (hi := gtN w) (hT.f f1) c1 a1.1 hg.2 (by omega)
  have f12 := f1.tr f2
  have hR2 := hR.f32 f12
  have v1 := fun x => nm_v (B := B) (t := t) (lo := 0) (hi := gtN w) (v := x) (k := adv B t k.2.2.1)
  unfold G_X3_readSetting_31_21 iSet
  rw [q1, bndS, if_pos (inB_nI hw (by decide)), hg.1]
  simp only []
  rw [show G_X3_number_31 0 (nI (gtN w)) S1 = _ from q2, bndS]
  simp only [inB_nI hw (by decide), if_true, cl (show w < 1000 by omega)]
  generalize nm B t 0 (gtN w) (adv B t k.2.2.1) = r1 at *
  unfold iT1
  cases h1 : r1.1 with
  | none => exact CR.no (if_pos rfl) c2 f12.fd
  | some v =>
    have w1 := v1 v h1
    refine ⟨wr S2 28 w (nI v), if_neg (ne1 (nI_pos' (by omega))), c2.w (by rw [wr_ne (by omega)]), fun d' h => ?_, f12.fd.tr (FD.w (by omega))⟩
    simp only [Option.some.injEq] at h
    rw [← h]
    exact hR2.setting hw
theorem cSign {B : Nat → Nat} {t m z : Nat} {S : ST} {k : Tk} {d : Nat → Int32} (hT : TpC B t S) (hC : CT S k) (hW : Wf B t k) (hR : SkyR 21 S d) (hm : m ≤ 10) (hs : d 1 = nI m) (hz : z ≤ 6) (hzs : d 2 = nI z) : CR S (G_X3_readSign_31_21 S) (iSign B t d m z k) := by
  unfold G_X3_readSign_31_21 iSign
  rw [hR.2.2.1, hzs]
  by_cases hz6 : z = 6
  · rw [if_neg (show ¬ nI z < 6 from nI_nlt (b := 6) (by omega) (by omega)), if_pos hz6]
    exact CR.no rfl hC FD.rf
  · rw [if_pos (show nI z < 6 from nI_lt (b := 6) (by omega) (by decide)), if_neg hz6]
    obtain ⟨S1, q1, c1, f1⟩ := cadv hT hC.2.2.1 hW.2.2.1
    have a1 := adv_wf (B := B) (t := t) (p := k.2.2.1) hW.2.2.1
    have hpw := pw_le hm
    have hp0 := Nat.two_pow_pos m
    obtain ⟨S2, q2, c2, f2⟩ := cnum (lo := 1) (hi := 2 ^ m - 1) (hT.f f1) c1 a1.1 (by omega) (by omega)
    have f12 := f1.tr f2
    have hR1 := hR.f32 f1
    have hR2 := hR.f32 f12
    have hhi : (1 : Int32) <<< (S1.1 21 0 &&& 31) - 1 = nI (2 ^ m - 1) := by
      rw [hR1.1, hs, shl1 hm]
      exact pk_sub (b := 1) (by omega)
    have v1 := fun x => nm_v (B := B) (t := t) (lo := 1) (hi := 2 ^ m - 1) (v := x) (k := adv B t k.2.2.1)
    rw [q1, bndS]
    simp only []
    rw [hhi, show G_X3_number_31 1 (nI (2 ^ m - 1)) S1 = _ from q2, bndS]
    simp only []
    generalize nm B t 1 (2 ^ m - 1) (adv B t k.2.2.1) = r1 at *
    unfold iG1
    cases h1 : r1.1 with
    | none => exact CR.no (if_pos rfl) c2 f12.fd
    | some v =>
      have w1 := v1 v h1
      have h9 : S2.1 21 9 = nI z := hR2.2.2.1.trans hzs
      refine ⟨wr (wr S2 29 z (nI v)) 21 9 (nI (z + 1)), ?_, c2.w (by rw [wr_ne (by omega), wr_ne (by omega)]), fun d' h => ?_, f12.fd.tr ((FD.w (by omega)).tr (FD.w (by omega)))⟩
      · rw [show oN (some v) = nI v from rfl, if_neg (ne1 (nI_pos' (by omega)))]
        unfold G_X1_addSign_21
        rw [h9, if_pos (inB_nI (by omega) (by decide)), cl (by omega), nI_1, bndS]
        rfl
      · simp only [Option.some.injEq] at h
        rw [← h]
        exact (hR2.signAt (by omega)).signs
theorem cStar {B : Nat → Nat} {t m : Nat} {S : ST} {k : Tk} {d : Nat → Int32} {kd : Int32} (hT : TpC B t S) (hC : CT S k) (hW : Wf B t k) (hR : SkyR 21 S d) (hm : m ≤ 10) (hs : d 1 = nI m) : CR S (G_X3_readStar_31_21 kd S) (iStar B t d m kd k) := by
  unfold G_X3_readStar_31_21 iStar
  rw [hR.1, hs]
  by_cases hm10 : m = 10
  · rw [if_neg (show ¬ nI m < 10 from nI_nlt (b := 10) (by omega) (by omega)), if_pos hm10]
    exact CR.no rfl hC FD.rf
  · rw [if_pos (show nI m < 10 from nI_lt (b := 10) (by omega) (by decide)), if_neg hm10]
    obtain ⟨S1, q1, c1, f1⟩ := cadv hT hC.2.2.1 hW.2.2.1
    have a1 := adv_wf (B := B) (t := t) (p := k.2.2.1) hW.2.2.1
    obtain ⟨S2, q2, c2, f2⟩ := cnb (hT.f f1) c1 a1.1 (j := 1) (hi := 99) (by omega) (by omega) 0
    have b2 := nb_ok (j := 1) (hi := 99) (dv := 0) a1.1
    have v2 := fun x => nb_v (B := B) (t := t) (j := 1) (hi := 99) (dv := 0) (v := x) (k := adv B t k.2.2.1) (by omega) (by decide)
    have f12 := f1.tr f2
    rw [q1, bndS]
    simp only []
    rw [show G_X3_numberBehind_31 1 99 0 S1 = _ from q2, bndS]
    simp only []
    generalize nb B t 1 99 0 (adv B t k.2.2.1) = r1 at *
    unfold iS1
    cases h1 : r1.1 with
    | none => exact CR.no (if_pos rfl) c2 f12.fd
    | some x =>
      have w1 := v2 x h1
      show CR S _ (iS2 B t d m kd x (nb B t 11 99 50 r1.2))
      rw [show oJ (some x) = x from rfl, if_neg (ne1 w1.1)]
      obtain ⟨S3, q3, c3, f3⟩ := cnb (hT.f f12) c2 b2.1 (j := 11) (hi := 99) (by omega) (by omega) 50
      have b3 := nb_ok (j := 11) (hi := 99) (dv := 50) b2.1
      have v3 := fun x => nb_v (B := B) (t := t) (j := 11) (hi := 99) (dv := 50) (v := x) (k := r1.2) (by omega) (by decide)
      have f13 := f12.tr f3
      rw [show G_X3_numberBehind_31 11 99 50 S2 = _ from q3, bndS]
      simp only []
      generalize nb B t 11 99 50 r1.2 = r2 at *
      unfold iS2
      cases h2 : r2.1 with
      | none => exact CR.no (if_pos rfl) c3 f13.fd
      | some y =>
        have w2 := v3 y h2
        show CR S _ (iS3 d m kd x y (nb B t 12 99 1 r2.2))
        rw [show oJ (some y) = y from rfl, if_neg (ne1 w2.1)]
        obtain ⟨S4, q4, c4, f4⟩ := cnb (hT.f f13) c3 b3.1 (j := 12) (hi := 99) (by omega) (by omega) 1
        have v4 := fun x => nb_v (B := B) (t := t) (j := 12) (hi := 99) (dv := 1) (v := x) (k := r2.2) (by omega) (by decide)
        have f14 := f13.tr f4
        have hR4 := hR.f32 f14
        rw [show G_X3_numberBehind_31 12 99 1 S3 = _ from q4, bndS]
        simp only []
        generalize nb B t 12 99 1 r2.2 = r3 at *
        unfold iS3
        cases h3 : r3.1 with
        | none => exact CR.no (if_pos rfl) c4 f14.fd
        | some zz =>
          have w3 := v4 zz h3
          have hm9 : m < 10 := by omega
          have h0 : S4.1 21 0 = nI m := hR4.1.trans hs
          refine ⟨wr (wr (wr (wr (wr S4 22 m kd) 23 m x) 24 m y) 25 m zz) 21 0 (nI (m + 1)), ?_, c4.w (by rw [wr_ne (by omega), wr_ne (by omega), wr_ne (by omega), wr_ne (by omega), wr_ne (by omega)]), fun d' h => ?_, f14.fd.tr ((FD.w (by omega)).tr ((FD.w (by omega)).tr ((FD.w (by omega)).tr ((FD.w (by omega)).tr (FD.w (by omega))))))⟩
          · rw [show oJ (some zz) = zz from rfl, if_neg (ne1 w3.1)]
            have hin := inB_nI hm9 (show 10 < 2 ^ 31 by decide)
            unfold G_X1_addStar_21
            rw [h0, if_pos hin, if_pos hin, if_pos hin, if_pos hin, cl (by omega), nI_1, bndS]
            rfl
          · simp only [Option.some.injEq] at h
            rw [← h]
            exact ((((hR4.kind hm9).place hm9).life hm9).worth hm9).stars
theorem ckindN {B : Nat → Nat} {t : Nat} {S : ST} {k : Tk} (hT : TpC B t S) (hC : CT S k) (hW : Wf B t k) : G_X3_kindNamed_31 S = some (w58 (wix B k), S) := by
  simp only [G_X3_kindNamed_31, cisW hT hC hW (show 4 < 17 by omega), cisW hT hC hW (show 5 < 17 by omega), cisW hT hC hW (show 6 < 17 by omega), cisW hT hC hW (show 7 < 17 by omega), cisW hT hC hW (show 8 < 17 by omega), cisW hT hC hW (show 9 < 17 by omega), cisW hT hC hW (show 10 < 17 by omega), bndS, ite10]
  generalize wix B k = x
  by_cases h4 : x = 4
  · subst h4; rfl
  rw [if_pos h4]
  by_cases h5 : x = 5
  · subst h5; rfl
  rw [if_pos h5]
  by_cases h6 : x = 6
  · subst h6; rfl
  rw [if_pos h6]
  by_cases h7 : x = 7
  · subst h7; rfl
  rw [if_pos h7]
  by_cases h8 : x = 8
  · subst h8; rfl
  rw [if_pos h8]
  by_cases h9 : x = 9
  · subst h9; rfl
  rw [if_pos h9]
  by_cases h10 : x = 10
  · subst h10; rfl
  rw [if_pos h10]
  unfold w58
  rw [if_neg (by omega)]
def wS (x : Nat) : Int32 := if x = 13 then 0 else if x = 14 then 1 else if x = 15 then 2 else if x = 16 then 3 else -1
theorem cset13 {B : Nat → Nat} {t : Nat} {S : ST} {k : Tk} (hT : TpC B t S) (hC : CT S k) (hW : Wf B t k) : G_X3_settingNamed_31 S = some (wS (wix B k), S) := by
  simp only [G_X3_settingNamed_31, cisW hT hC hW (show 13 < 17 by omega), cisW hT hC hW (show 14 < 17 by omega), cisW hT hC hW (show 15 < 17 by omega), cisW hT hC hW (show 16 < 17 by omega), bndS, ite10]
  generalize wix B k = x
  by_cases h4 : x = 13
  · subst h4; rfl
  rw [if_pos h4]
  by_cases h5 : x = 14
  · subst h5; rfl
  rw [if_pos h5]
  by_cases h6 : x = 15
  · subst h6; rfl
  rw [if_pos h6]
  by_cases h7 : x = 16
  · subst h7; rfl
  rw [if_pos h7]
  unfold wS
  rw [if_neg h4, if_neg h5, if_neg h6, if_neg h7]
theorem citem {B : Nat → Nat} {t m z : Nat} {S : ST} {k : Tk} {d : Nat → Int32} (hT : TpC B t S) (hC : CT S k) (hW : Wf B t k) (hR : SkyR 21 S d) (hK : SkyK d) (hm : m ≤ 10) (hs : d 1 = nI m) (hz : z ≤ 6) (hzs : d 2 = nI z) : CR S (G_X3_readItem_31_21 S) (itm B t d m z k) := by
  unfold G_X3_readItem_31_21 itm
  rw [cisW hT hC hW (show 0 < 17 by omega), bndS]
  by_cases h0 : wix B k = 0
  · rw [if_pos h0, if_pos h0]
    simp only [show ¬ (1 : Int32) = 0 by decide, if_false]
    obtain ⟨S', q1, q2, q3, q4⟩ := cCrew hT hC hW hR hK
    rw [q1, bndS]
    simp only [oBb, if_true]
    exact ⟨S', rfl, q2, q3, q4⟩
  · rw [if_neg h0, if_neg h0]
    simp only [if_true]
    rw [cisW hT hC hW (show 3 < 17 by omega), bndS]
    by_cases h3 : wix B k = 3
    · rw [if_pos h3, if_pos h3]
      simp only [show ¬ (1 : Int32) = 0 by decide, if_false]
      obtain ⟨S', q1, q2, q3, q4⟩ := cSign hT hC hW hR hm hs hz hzs
      rw [q1, bndS]
      simp only [oBb, if_true]
      exact ⟨S', rfl, q2, q3, q4⟩
    · rw [if_neg h3, if_neg h3]
      simp only [if_true]
      rw [ckindN hT hC hW, bndS]
      by_cases h4 : 4 ≤ wix B k ∧ wix B k ≤ 10
      · have e : w58 (wix B k) = nI (wix B k - 4) := if_pos h4
        rw [e, if_pos h4, if_neg (nI_pos (by omega))]
        obtain ⟨S', q1, q2, q3, q4⟩ := cStar (kd := nI (wix B k - 4)) hT hC hW hR hm hs
        rw [q1, bndS]
        simp only [oBb, if_true]
        exact ⟨S', rfl, q2, q3, q4⟩
      · have e : w58 (wix B k) = -1 := if_neg h4
        rw [e, if_neg h4]
        simp only [show (-1 : Int32) < 0 by decide, if_true]
        rw [cset13 hT hC hW, bndS]
        by_cases h5 : 13 ≤ wix B k ∧ wix B k ≤ 16
        · have e2 : wS (wix B k) = nI (wix B k - 13) := by
            have : ∀ x, x < 17 → 13 ≤ x → wS x = nI (x - 13) := by decide
            exact this _ (by omega) h5.1
          rw [e2, if_pos h5, if_neg (nI_pos (by omega))]
          obtain ⟨S', q1, q2, q3, q4⟩ := cSet (w := wix B k - 13) hT hC hW hR (by omega)
          rw [q1, bndS]
          refine ⟨S', ?_, q2, q3, q4⟩
          cases (iSet B t d (wix B k - 13) k).1 with
          | none => exact if_pos rfl
          | some y => exact if_neg (show ¬ (1 : Int32) = 0 by decide)
        · have e2 : wS (wix B k) = -1 := by
            unfold wS
            rw [if_neg (by omega), if_neg (by omega), if_neg (by omega), if_neg (by omega)]
          rw [e2, if_neg h5]
          simp only [show (-1 : Int32) < 0 by decide, if_true]
          exact CR.no rfl hC FD.rf
