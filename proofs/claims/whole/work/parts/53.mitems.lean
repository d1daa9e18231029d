/-- items of the model -/
def FM (S S' : ST) : Prop := (∀ c, c ≠ 51 → c ≠ 52 → S'.1 c = S.1 c) ∧ S'.1 51 3 = S.1 51 3 ∧ S'.1 51 7 = S.1 51 7
theorem F51.fm {S S' : ST} (h : F51 S S') : FM S S' := ⟨fun c hc _ => h.1 c hc, h.2.1, h.2.2⟩
theorem FM.rf {S : ST} : FM S S := ⟨fun _ _ _ => rfl, rfl, rfl⟩
theorem FM.tr {S S1 S2 : ST} (h : FM S S1) (h2 : FM S1 S2) : FM S S2 := ⟨fun c a b => (h2.1 c a b).trans (h.1 c a b), h2.2.1.trans h.2.1, h2.2.2.trans h.2.2⟩
theorem FM.w {S : ST} {i : Nat} {v : Int32} : FM S (wr S 52 i v) := ⟨fun c _ b => wr_ne b, by rw [wr_ne (by omega)], by rw [wr_ne (by omega)]⟩
theorem MT.w {S S' : ST} {k : Tk} (h : MT S k) (h1 : S'.1 51 = S.1 51) (h2 : S'.2 = S.2) : MT S' k := by
  unfold MT at h ⊢
  rw [h1, h2]
  exact h
theorem MT.wr52 {S : ST} {k : Tk} {i : Nat} {v : Int32} (h : MT S k) : MT (wr S 52 i v) k := h.w (wr_ne (by omega)) rfl
theorem TpM.fm {B : Nat → Nat} {t : Nat} {S S' : ST} (h : TpM B t S) (hf : FM S S') : TpM B t S' := by
  obtain ⟨h1, h2, h3⟩ := h
  refine ⟨h1, by rw [hf.2.2]; exact h2, fun j hj => ?_⟩
  rw [hf.1 57 (by omega) (by omega)]
  exact h3 j hj
theorem WordsR.fm {S S' : ST} (h : WordsR S) (hf : FM S S') : WordsR S' := h.cong (fun c a b => hf.1 c (by omega) (by omega))
def MR (S : ST) (g : Option (Int32 × ST)) (r : Option (Nat → Int32) × Tk) : Prop := ∃ S', g = some (oB r.1, S') ∧ MT S' r.2 ∧ (∀ d', r.1 = some d' → S'.1 52 = d') ∧ FM S S'
theorem MR.no {S S' : ST} {k : Tk} {g : Option (Int32 × ST)} (hg : g = some (0, S')) (hC : MT S' k) (hF : FM S S') : MR S g (none, k) := ⟨S', hg, hC, fun d' h => (by cases h), hF⟩
theorem mstS {B : Nat → Nat} {t m w j : Nat} {S : ST} {k : Tk} {dv : Int32} (hw : w < 3) (hj : ∀ x, x < 18 → (w59 x = nI w ↔ x = j)) (hT : TpM B t S) (hM : MT S k) (hW : Wf B t k) (hWd : WordsR S) (hm : m < 10) (hD : S.1 52 (17 + 4 * m + w) = dv) (n : Nat) : ∃ S', MT S' (nb B t j 99 dv k).2 ∧ FM S S' ∧ (((nb B t j 99 dv k).1 = none ∧ G_X6_readsStar_51_32 (n + 1) (nI m) (nI w) S = some (0, S')) ∨ ∃ v, (nb B t j 99 dv k).1 = some v ∧ G_X6_readsStar_51_32 (n + 1) (nI m) (nI w) S = G_X6_readsStar_51_32 n (nI m) (nI (w + 1)) S' ∧ S'.1 52 = upd (S.1 52) (17 + 4 * m + w) v) := by
  rw [G_X6_readsStar_51_32]
  unfold nb
  rw [if_neg (show ¬ (3 : Int32) ≤ nI w from nI_ge (b := 3) hw (by decide)), mword59 hM hW hWd.2.1, bndS]
  by_cases hx : wix B k = j
  · rw [if_pos ((hj _ (wix_le B k)).mpr hx), if_pos hx]
    simp only []
    obtain ⟨S1, q1, c1, f1⟩ := madv hT hM.2.2.1 hW.2.2.1
    have a1 := adv_wf (B := B) (t := t) (p := k.2.2.1) hW.2.2.1
    obtain ⟨S2, q2, c2, f2⟩ := mnum (lo := 0) (hi := 99) (hT.f f1) c1 a1.1 (by omega) (by omega)
    have f12 := f1.tr f2
    have v1 := fun x => nm_v (B := B) (t := t) (lo := 0) (hi := 99) (v := x) (k := adv B t k.2.2.1)
    rw [q1, bndS]
    simp only []
    rw [show G_X6_takesNumber_51 0 99 S1 = _ from q2, bndS]
    simp only []
    generalize nm B t 0 99 (adv B t k.2.2.1) = r1 at *
    cases h1 : r1.1 with
    | none => exact ⟨S2, c2, f12.fm, Or.inl ⟨rfl, if_neg (show ¬ (0 : Int32) ≤ -1 by decide)⟩⟩
    | some v =>
      have w1 := v1 v h1
      refine ⟨wr S2 52 (17 + 4 * m + w) (nI v), c2.wr52, f12.fm.tr FM.w, Or.inr ⟨nI v, rfl, ?_, ?_⟩⟩
      · rw [show oN (some v) = nI v from rfl, if_pos (nI_pos' (by omega)), show (1 : Int32) + nI w = nI (1 + w) from nI_add 1 w, mput (by omega), bndS]
        simp only []
        rw [nI_1, show 16 + 4 * m + (1 + w) = 17 + 4 * m + w by omega]
      · rw [wr_eq, f12.1 52 (by omega)]
  · rw [if_neg (fun q => hx ((hj _ (wix_le B k)).mp q)), if_neg hx]
    exact ⟨S, hM, FM.rf, Or.inr ⟨dv, rfl, by simp only []; rw [nI_1], by rw [← hD, upd_self]⟩⟩
theorem mstC {B : Nat → Nat} {t c w j hi : Nat} {S : ST} {k : Tk} {dv : Int32} (hw : (w = 0 ∧ hi = 99) ∨ (w = 1 ∧ hi = 999)) (hj : ∀ x, x < 18 → (w60 x = nI w ↔ x = j)) (hT : TpM B t S) (hM : MT S k) (hW : Wf B t k) (hWd : WordsR S) (hc : c < 4) (hD : S.1 52 (8 + 2 * c + w) = dv) (n : Nat) : ∃ S', MT S' (nb B t j hi dv k).2 ∧ FM S S' ∧ (((nb B t j hi dv k).1 = none ∧ G_X6_readsCrew_51_15 (n + 1) (nI c) (nI w) S = some (0, S')) ∨ ∃ v, (nb B t j hi dv k).1 = some v ∧ G_X6_readsCrew_51_15 (n + 1) (nI c) (nI w) S = G_X6_readsCrew_51_15 n (nI c) (nI (w + 1)) S' ∧ S'.1 52 = upd (S.1 52) (8 + 2 * c + w) v) := by
  rw [G_X6_readsCrew_51_15]
  unfold nb
  rw [if_neg (show ¬ (2 : Int32) ≤ nI w from nI_ge (b := 2) (by omega) (by decide)), mword60 hM hW hWd.2.2.1, bndS]
  by_cases hx : wix B k = j
  · rw [if_pos ((hj _ (wix_le B k)).mpr hx), if_pos hx]
    simp only []
    obtain ⟨S1, q1, c1, f1⟩ := madv hT hM.2.2.1 hW.2.2.1
    have a1 := adv_wf (B := B) (t := t) (p := k.2.2.1) hW.2.2.1
    obtain ⟨S2, q2, c2, f2⟩ := mnum (lo := 0) (hi := hi) (hT.f f1) c1 a1.1 (by omega) (by omega)
    have f12 := f1.tr f2
    have v1 := fun x => nm_v (B := B) (t := t) (lo := 0) (hi := hi) (v := x) (k := adv B t k.2.2.1)
    rw [q1, bndS]
    simp only [ix2]
    have hin : inB (nI (8 + 2 * c + w)) 72 = true := inB_nI (by omega) (by decide)
    have hcl : (nI (8 + 2 * c + w)).toNatClampNeg = 8 + 2 * c + w := cl (by omega)
    rw [hcl, hin]
    have key : ∀ (G : Int32 → ST → Option (Int32 × ST)), (∀ v S, G (nI v) S = G_X6_readsCrew_51_15 n (nI c) (nI (w + 1)) (wr S 52 (8 + 2 * c + w) (nI v))) → ∃ S', MT S' (nm B t 0 hi (adv B t k.2.2.1)).2 ∧ FM S S' ∧ ((((nm B t 0 hi (adv B t k.2.2.1)).1.map nI) = none ∧ ((G_X6_takesNumber_51 0 (nI hi) S1).bind fun q => if (0 : Int32) ≤ q.1 then G q.1 q.2 else some (0, q.2)) = some (0, S')) ∨ ∃ v, ((nm B t 0 hi (adv B t k.2.2.1)).1.map nI) = some v ∧ ((G_X6_takesNumber_51 0 (nI hi) S1).bind fun q => if (0 : Int32) ≤ q.1 then G q.1 q.2 else some (0, q.2)) = G_X6_readsCrew_51_15 n (nI c) (nI (w + 1)) S' ∧ S'.1 52 = upd (S.1 52) (8 + 2 * c + w) v) := by
      intro G hG
      rw [show G_X6_takesNumber_51 0 (nI hi) S1 = _ from q2, bndS]
      generalize nm B t 0 hi (adv B t k.2.2.1) = r1 at *
      cases h1 : r1.1 with
      | none => exact ⟨S2, c2, f12.fm, Or.inl ⟨rfl, if_neg (show ¬ (0 : Int32) ≤ -1 by decide)⟩⟩
      | some v =>
        have w1 := v1 v h1
        refine ⟨wr S2 52 (8 + 2 * c + w) (nI v), c2.wr52, f12.fm.tr FM.w, Or.inr ⟨nI v, rfl, ?_, ?_⟩⟩
        · show (if (0 : Int32) ≤ nI v then G (nI v) S2 else _) = _
          rw [if_pos (nI_pos' (by omega)), hG]
        · rw [wr_eq, f12.1 52 (by omega)]
    rcases hw with ⟨rfl, rfl⟩ | ⟨rfl, rfl⟩
    · rw [if_pos (show nI 0 = 0 from rfl)]
      exact key (fun v S => if true = true then G_X6_readsCrew_51_15 n (nI c) (nI 0 + 1) (wr S 52 (8 + 2 * c + 0) v) else none) (fun v S => rfl)
    · rw [if_neg (show ¬ nI 1 = 0 by decide)]
      exact key (fun v S => if true = true then G_X6_readsCrew_51_15 n (nI c) (nI 1 + 1) (wr S 52 (8 + 2 * c + 1) v) else none) (fun v S => rfl)
  · rw [if_neg (fun q => hx ((hj _ (wix_le B k)).mp q)), if_neg hx]
    exact ⟨S, hM, FM.rf, Or.inr ⟨dv, rfl, by simp only []; rw [nI_1], by rw [← hD, upd_self]⟩⟩
theorem mCrew {B : Nat → Nat} {t : Nat} {S S0 : ST} {k : Tk} {d : Nat → Int32} (hT : TpM B t S) (hM : MT S (adv B t k.2.2.1)) (hW : Wf B t k) (hWd : WordsR S) (hd : S.1 52 = d) (hF : FM S0 S) : MR S0 (G_X6_readsCrew_51 S) (iCrew B t d k) := by
  have a1 := adv_wf (B := B) (t := t) (p := k.2.2.1) hW.2.2.1
  obtain ⟨S2, q2, c2, f2⟩ := mnum (lo := 0) (hi := 3) hT hM a1.1 (by omega) (by omega)
  have b1 := nm_ok (lo := 0) (hi := 3) a1.1
  have v1 := fun x => nm_v (B := B) (t := t) (lo := 0) (hi := 3) (v := x) (k := adv B t k.2.2.1)
  have f02 := hF.tr f2.fm
  unfold G_X6_readsCrew_51 iCrew
  rw [show G_X6_takesNumber_51 0 3 S = _ from q2, bndS]
  simp only []
  generalize nm B t 0 3 (adv B t k.2.2.1) = r1 at *
  unfold iC1
  cases h1 : r1.1 with
  | none => exact MR.no (if_neg (show ¬ (0 : Int32) ≤ -1 by decide)) c2 f02
  | some c =>
    have w1 := v1 c h1
    have hc : c < 4 := by omega
    have hd2 : S2.1 52 = d := (f2.1 52 (by omega)).trans hd
    show MR S0 _ (iC2 B t d c (nb B t 1 99 (d (8 + 2 * c)) r1.2))
    rw [show oN (some c) = nI c from rfl, if_pos (nI_pos' (by omega))]
    obtain ⟨S3, c3, f3, r3⟩ := mstC (w := 0) (j := 1) (hi := 99) (dv := d (8 + 2 * c)) (Or.inl ⟨rfl, rfl⟩) (by decide) (hT.f f2) c2 b1.1 (hWd.fm f2.fm) hc (by rw [hd2, Nat.add_zero]) 2999
    have b2 := nb_ok (j := 1) (hi := 99) (dv := d (8 + 2 * c)) b1.1
    have f03 := f02.tr f3
    have hT3 := (hT.f f2).fm f3
    have hWd3 := (hWd.fm f2.fm).fm f3
    generalize nb B t 1 99 (d (8 + 2 * c)) r1.2 = r2 at *
    unfold iC2
    rcases r3 with ⟨e1, e2⟩ | ⟨x, e1, e2, e3⟩
    · rw [e1]
      exact MR.no e2 c3 f03
    · rw [e1]
      show MR S0 _ (iC3 d c x (nb B t 2 999 (d (9 + 2 * c)) r2.2))
      obtain ⟨S4, c4, f4, r4⟩ := mstC (w := 1) (j := 2) (hi := 999) (dv := d (9 + 2 * c)) (Or.inr ⟨rfl, rfl⟩) (by decide) hT3 c3 b2.1 hWd3 hc (by rw [e3, updN _ _ (by omega), hd2, show 8 + 2 * c + 1 = 9 + 2 * c by omega]) 2998
      have f04 := f03.tr f4
      generalize nb B t 2 999 (d (9 + 2 * c)) r2.2 = r5 at *
      unfold iC3
      have e2' : G_X6_readsCrew_51_15 3000 (nI c) 0 S2 = G_X6_readsCrew_51_15 2999 (nI c) (nI 1) S3 := e2
      rcases r4 with ⟨g1, g2⟩ | ⟨y, g1, g2, g3⟩
      · rw [g1]
        exact MR.no (e2'.trans g2) c4 f04
      · rw [g1]
        refine ⟨S4, ?_, c4, fun d' h => ?_, f04⟩
        · refine e2'.trans (g2.trans ?_)
          show G_X6_readsCrew_51_15 2998 (nI c) (nI 2) S4 = _
          unfold G_X6_readsCrew_51_15
          rw [if_pos (show (2 : Int32) ≤ nI 2 from nI_le (a := 2) (by omega) (by decide))]
          rfl
        · simp only [Option.some.injEq] at h
          rw [← h, g3, e3, hd2, show 8 + 2 * c + 1 = 9 + 2 * c by omega, show 8 + 2 * c + 0 = 8 + 2 * c by omega]
theorem m96 {S0 S2 : ST} {x : Int32} {r : Option Nat × Tk} {d : Nat → Int32} {w : Nat} (hx : x = nI w) (hw : w < 4) (hd : S2.1 52 = d) (c2 : MT S2 r.2) (hF : FM S0 S2) (hb : ∀ v, r.1 = some v → v < 2 ^ 30) : MR S0 (G_X6_readsItem_51_96 x (oN r.1) S2) (iT1 d w r) := by
  unfold G_X6_readsItem_51_96 iT1
  cases h1 : r.1 with
  | none => exact MR.no (if_neg (show ¬ (0 : Int32) ≤ -1 by decide)) c2 hF
  | some v =>
    have := hb v h1
    have hne : ¬ x = 5 := by
      rw [hx]
      intro q
      have := (nI_eq (b := 5) (by omega) (by decide)).mp q
      omega
    refine ⟨wr S2 52 (4 + w) (nI v), ?_, c2.wr52, fun d' h => ?_, hF.tr FM.w⟩
    · rw [show oN (some v) = nI v from rfl, if_pos (nI_pos' (by omega)), if_neg hne, hx, show (4 : Int32) + nI w = nI (4 + w) from nI_add 4 w, if_pos (inB_nI (by omega) (by decide)), cl (by omega)]
      rfl
    · simp only [Option.some.injEq] at h
      rw [← h, wr_eq, hd]
theorem m96s {S0 S2 : ST} {r : Option Nat × Tk} {d : Nat → Int32} {z : Nat} (hz : z < 6) (hd : S2.1 52 = d) (hzs : d 2 = nI z) (c2 : MT S2 r.2) (hF : FM S0 S2) (hb : ∀ v, r.1 = some v → v < 2 ^ 30) : MR S0 (G_X6_readsItem_51_96 5 (oN r.1) S2) (iG1 d z r) := by
  unfold G_X6_readsItem_51_96 iG1
  cases h1 : r.1 with
  | none => exact MR.no (if_neg (show ¬ (0 : Int32) ≤ -1 by decide)) c2 hF
  | some v =>
    have := hb v h1
    refine ⟨wr (wr S2 52 (56 + z) (nI v)) 52 2 (nI (z + 1)), ?_, c2.wr52.wr52, fun d' h => ?_, hF.tr (FM.w.tr FM.w)⟩
    · rw [show oN (some v) = nI v from rfl, if_pos (nI_pos' (by omega)), if_pos rfl]
      unfold G_X6_addsSign_51
      rw [hd, hzs, ix56, if_pos (inB_nI (by omega) (by decide)), cl (by omega), bndS]
      simp only []
      rw [wr_eq, updN _ _ (by omega), hd, hzs, nI_1]
      rfl
    · simp only [Option.some.injEq] at h
      rw [← h, wr_eq, wr_eq, hd]
theorem addSt_x (d : Nat → Int32) (m : Nat) (kd x y z v : Int32) : upd (addSt d m kd x y z) (17 + 4 * m) v = addSt d m kd v y z := by
  unfold addSt
  rw [upd_comm _ (i := 1) (j := 17 + 4 * m) (by omega), upd_comm _ (i := 19 + 4 * m) (j := 17 + 4 * m) (by omega), upd_comm _ (i := 18 + 4 * m) (j := 17 + 4 * m) (by omega), upd_upd]
theorem addSt_y (d : Nat → Int32) (m : Nat) (kd x y z v : Int32) : upd (addSt d m kd x y z) (18 + 4 * m) v = addSt d m kd x v z := by
  unfold addSt
  rw [upd_comm _ (i := 1) (j := 18 + 4 * m) (by omega), upd_comm _ (i := 19 + 4 * m) (j := 18 + 4 * m) (by omega), upd_upd]
theorem addSt_z (d : Nat → Int32) (m : Nat) (kd x y z v : Int32) : upd (addSt d m kd x y z) (19 + 4 * m) v = addSt d m kd x y v := by
  unfold addSt
  rw [upd_comm _ (i := 1) (j := 19 + 4 * m) (by omega), upd_upd]
theorem mStar {B : Nat → Nat} {t m : Nat} {S : ST} {k : Tk} {d : Nat → Int32} {kd : Int32} (hT : TpM B t S) (hM : MT S k) (hW : Wf B t k) (hWd : WordsR S) (hd : S.1 52 = d) (hm : m ≤ 10) (hs : d 1 = nI m) : MR S (G_X6_readsStar_51 kd S) (iStar B t d m kd k) := by
  unfold G_X6_readsStar_51 iStar
  rw [hd, hs]
  by_cases hm10 : m = 10
  · rw [if_pos (by rw [hm10]; rfl), if_pos hm10]
    exact MR.no rfl hM FM.rf
  · rw [if_neg (show ¬ nI m = 10 from fun q => hm10 ((nI_eq (b := 10) (by omega) (by decide)).mp q)), if_neg hm10]
    have hm9 : m < 10 := by omega
    obtain ⟨S1, hS1⟩ : ∃ S1 : ST, S1 = wr (wr (wr (wr (wr S 52 (16 + 4 * m) kd) 52 (17 + 4 * m) 0) 52 (18 + 4 * m) 50) 52 (19 + 4 * m) 1) 52 1 (nI (m + 1)) := ⟨_, rfl⟩
    have hd1 : S1.1 52 = addSt d m kd 0 50 1 := by
      rw [hS1, wr_eq, wr_eq, wr_eq, wr_eq, wr_eq, hd]
      rfl
    have f1 : FM S S1 := by
      rw [hS1]
      exact FM.w.tr (FM.w.tr (FM.w.tr (FM.w.tr FM.w)))
    have c1 : MT S1 k := by
      rw [hS1]
      exact hM.wr52.wr52.wr52.wr52.wr52
    have q1 : G_X6_addsStar_51 kd 0 S = some ((), S1) := by
      unfold G_X6_addsStar_51
      rw [hd, hs, mput0 hm9, bndS]
      simp only []
      rw [mput1 hm9, bndS]
      simp only []
      rw [mput2 hm9, bndS]
      simp only []
      rw [mput3 hm9, bndS]
      simp only []
      rw [hS1, wr_eq, updN _ _ (by omega), wr_eq, updN _ _ (by omega), wr_eq, updN _ _ (by omega), wr_eq, updN _ _ (by omega), hd, hs, nI_1]
    rw [q1, bndS]
    simp only []
    obtain ⟨S2, q2, c2, f2⟩ := madv (hT.fm f1) c1.2.2.1 hW.2.2.1
    rw [q2, bndS]
    simp only []
    have a1 := adv_wf (B := B) (t := t) (p := k.2.2.1) hW.2.2.1
    have f02 := f1.tr f2.fm
    have hd2 : S2.1 52 = addSt d m kd 0 50 1 := (f2.1 52 (by omega)).trans hd1
    have hr : ∀ i, 17 ≤ i → S2.1 52 i = S2.1 52 i := fun _ _ => rfl
    obtain ⟨S3, c3, f3, r3⟩ := mstS (m := m) (w := 0) (j := 1) (dv := 0) (by omega) (by decide) ((hT.fm f1).f f2) c2 a1.1 ((hWd.fm f1).fm f2.fm) hm9 (by
      rw [hd2]
      unfold addSt
      rw [updN _ _ (by omega), updN _ _ (by omega), updN _ _ (by omega)]
      exact updI _ _ _) 2999
    have b2 := nb_ok (j := 1) (hi := 99) (dv := 0) a1.1
    have f03 := f02.tr f3
    have hT3 := hT.fm f03
    have hWd3 := hWd.fm f03
    generalize nb B t 1 99 0 (adv B t k.2.2.1) = n1 at *
    unfold iS1
    rcases r3 with ⟨e1, e2⟩ | ⟨x, e1, e2, e3⟩
    · rw [e1]
      exact MR.no e2 c3 f03
    · rw [e1]
      show MR S _ (iS2 B t d m kd x (nb B t 11 99 50 n1.2))
      have e2' : G_X6_readsStar_51_32 3000 (nI m) 0 S2 = G_X6_readsStar_51_32 2999 (nI m) (nI 1) S3 := e2
      have hd3 : S3.1 52 = addSt d m kd x 50 1 := by
        rw [e3, hd2]
        exact addSt_x _ _ _ _ _ _ _
      obtain ⟨S4, c4, f4, r4⟩ := mstS (m := m) (w := 1) (j := 11) (dv := 50) (by omega) (by decide) hT3 c3 b2.1 hWd3 hm9 (by
        rw [hd3, show 17 + 4 * m + 1 = 18 + 4 * m by omega]
        unfold addSt
        rw [updN _ _ (by omega), updN _ _ (by omega)]
        exact updI _ _ _) 2998
      have b3 := nb_ok (j := 11) (hi := 99) (dv := 50) b2.1
      have f04 := f03.tr f4
      have hT4 := hT.fm f04
      have hWd4 := hWd.fm f04
      generalize nb B t 11 99 50 n1.2 = n2 at *
      unfold iS2
      rcases r4 with ⟨g1, g2⟩ | ⟨y, g1, g2, g3⟩
      · rw [g1]
        exact MR.no (e2'.trans g2) c4 f04
      · rw [g1]
        show MR S _ (iS3 d m kd x y (nb B t 12 99 1 n2.2))
        have hd4 : S4.1 52 = addSt d m kd x y 1 := by
          rw [g3, hd3, show 17 + 4 * m + 1 = 18 + 4 * m by omega]
          exact addSt_y _ _ _ _ _ _ _
        obtain ⟨S5, c5, f5, r5⟩ := mstS (m := m) (w := 2) (j := 12) (dv := 1) (by omega) (by decide) hT4 c4 b3.1 hWd4 hm9 (by
          rw [hd4, show 17 + 4 * m + 2 = 19 + 4 * m by omega]
          unfold addSt
          rw [updN _ _ (by omega)]
          exact updI _ _ _) 2997
        have f05 := f04.tr f5
        generalize nb B t 12 99 1 n2.2 = n3 at *
        unfold iS3
        rcases r5 with ⟨u1, u2⟩ | ⟨z, u1, u2, u3⟩
        · rw [u1]
          exact MR.no (e2'.trans (g2.trans u2)) c5 f05
        · rw [u1]
          refine ⟨S5, e2'.trans (g2.trans (u2.trans ?_)), c5, fun d' h => ?_, f05⟩
          · show G_X6_readsStar_51_32 2997 (nI m) (nI 3) S5 = _
            unfold G_X6_readsStar_51_32
            rw [if_pos (show (3 : Int32) ≤ nI 3 from nI_le (a := 3) (by omega) (by decide))]
            rfl
          · simp only [Option.some.injEq] at h
            rw [← h, u3, hd4, show 17 + 4 * m + 2 = 19 + 4 * m by omega]
            exact addSt_z _ _ _ _ _ _ _
theorem mitem {B : Nat → Nat} {t m z : Nat} {S : ST} {k : Tk} {d : Nat → Int32} (hT : TpM B t S) (hM : MT S k) (hW : Wf B t k) (hWd : WordsR S) (hd : S.1 52 = d) (hm : m ≤ 10) (hs : d 1 = nI m) (hz : z ≤ 6) (hzs : d 2 = nI z) : MR S (G_X6_readsItem_51 S) (itm B t d m z k) := by
  have a1 := adv_wf (B := B) (t := t) (p := k.2.2.1) hW.2.2.1
  obtain ⟨S1, q1, c1, f1⟩ := madv hT hM.2.2.1 hW.2.2.1
  have hd1 : S1.1 52 = d := (f1.1 52 (by omega)).trans hd
  have hT1 := hT.f f1
  unfold G_X6_readsItem_51 itm
  rw [mword58 hM hW hWd.1, bndS]
  by_cases h4 : 4 ≤ wix B k ∧ wix B k ≤ 10
  · have e : w58 (wix B k) = nI (wix B k - 4) := if_pos h4
    rw [e, if_neg (show ¬ wix B k = 0 by omega), if_neg (show ¬ wix B k = 3 by omega), if_pos h4, if_neg (nI_pos (by omega))]
    obtain ⟨S', w1, w2, w3, w4⟩ := mStar (kd := nI (wix B k - 4)) hT hM hW hWd hd hm hs
    rw [w1, bndS]
    simp only [oBb, if_true]
    exact ⟨S', rfl, w2, w3, w4⟩
  · have e : w58 (wix B k) = -1 := if_neg h4
    rw [e, if_neg h4]
    simp only [show (-1 : Int32) < 0 by decide, if_true]
    rw [mword61 hM hW hWd.2.2.2, bndS]
    simp only []
    by_cases h0 : wix B k = 0
    · have e2 : w61 (wix B k) = 4 := by rw [h0]; rfl
      rw [e2, if_pos h0, if_neg (by decide), if_neg (by decide)]
      unfold G_X6_readsItem_51_50
      rw [q1, bndS, if_pos rfl]
      simp only []
      obtain ⟨S', w1, w2, w3, w4⟩ := mCrew hT1 c1 hW (hWd.fm f1.fm) hd1 f1.fm
      rw [w1, bndS]
      simp only [oBb, if_true]
      exact ⟨S', rfl, w2, w3, w4⟩
    · rw [if_neg h0]
      by_cases h3 : wix B k = 3
      · have e2 : w61 (wix B k) = 5 := by rw [h3]; rfl
        rw [e2, if_pos h3, if_neg (by decide), if_pos rfl, hd, hzs]
        unfold iSign
        by_cases hz6 : z = 6
        · rw [if_pos (by rw [hz6]; rfl), if_pos hz6]
          exact MR.no rfl hM FM.rf
        · rw [if_neg (show ¬ nI z = 6 from fun q => hz6 ((nI_eq (b := 6) (by omega) (by decide)).mp q)), if_neg hz6]
          have hpw := pw_le hm
          have hp0 := Nat.two_pow_pos m
          obtain ⟨S2, q2, c2, f2⟩ := mnum (lo := 1) (hi := 2 ^ m - 1) hT1 c1 a1.1 (by omega) (by omega)
          have hhi : (1 : Int32) <<< (S1.1 52 1 &&& 31) - 1 = nI (2 ^ m - 1) := by
            rw [hd1, hs, shl1 hm]
            exact pk_sub (b := 1) (by omega)
          unfold G_X6_readsItem_51_50
          rw [q1, bndS, if_neg (by decide), if_pos rfl]
          simp only []
          rw [hhi, show G_X6_takesNumber_51 1 (nI (2 ^ m - 1)) S1 = _ from q2, bndS]
          simp only []
          exact m96s (by omega) ((f2.1 52 (by omega)).trans hd1) hzs c2 (f1.tr f2).fm (fun v hv => by have := nm_v hv; omega)
      · rw [if_neg h3]
        by_cases h5 : 13 ≤ wix B k ∧ wix B k ≤ 16
        · have e2 : w61 (wix B k) = nI (wix B k - 13) := by
            have : ∀ x, x < 17 → 13 ≤ x → w61 x = nI (x - 13) := by decide
            exact this _ (by omega) h5.1
          have hw : wix B k - 13 < 4 := by omega
          rw [if_pos h5, e2]
          generalize wix B k - 13 = w at hw
          have hne5 : ¬ nI w = 5 := fun q => by
            have := (nI_eq (b := 5) (by omega) (by decide)).mp q
            omega
          have hne4 : ¬ nI w = 4 := fun q => by
            have := (nI_eq (b := 4) (by omega) (by decide)).mp q
            omega
          have hg : ∀ T : ST, G_X6_greatest (nI w) T = some (nI (gtN w), T) := by
            intro T
            have hw4 : w = 0 ∨ w = 1 ∨ w = 2 ∨ w = 3 := by omega
            unfold G_X6_greatest
            rcases hw4 with rfl | rfl | rfl | rfl
            · rw [if_neg (by decide)]; rfl
            · rw [if_neg (by decide)]; rfl
            · rw [if_pos (by decide), if_pos (show nI 2 = 2 from rfl)]; rfl
            · rw [if_pos (by decide), if_neg (by decide)]; rfl
          have hgb : gtN w ≤ 9999 := by
            have : ∀ w, w < 4 → gtN w ≤ 9999 := by decide
            exact this w hw
          obtain ⟨S2, q2, c2, f2⟩ := mnum (lo := 0) (hi := gtN w) hT1 c1 a1.1 hgb (by omega)
          rw [if_neg (nI_pos (by omega)), if_neg hne5]
          unfold G_X6_readsItem_51_50 iSet
          rw [q1, bndS, if_neg hne4, if_neg hne5]
          simp only []
          rw [hg, bndS]
          simp only []
          rw [show G_X6_takesNumber_51 0 (nI (gtN w)) S1 = _ from q2, bndS]
          simp only []
          exact m96 rfl hw ((f2.1 52 (by omega)).trans hd1) c2 (f1.tr f2).fm (fun v hv => by have := nm_v hv; omega)
        · have e2 : w61 (wix B k) = -1 := by
            have : ∀ x, x < 18 → ¬ x = 0 → ¬ x = 3 → ¬ (13 ≤ x ∧ x ≤ 16) → w61 x = -1 := by decide
            exact this _ (wix_le B k) h0 h3 h5
          rw [if_neg h5, e2, if_pos (by decide)]
          exact MR.no rfl hM FM.rf
