/-- numbers -/
def nm (B : Nat → Nat) (t lo hi : Nat) (k : Tk) : Option Nat × Tk := if k.1 = 2 ∧ lo ≤ k.2.2.2 ∧ k.2.2.2 ≤ hi then (some k.2.2.2, adv B t k.2.2.1) else (none, k)
def oN (x : Option Nat) : Int32 := match x with
  | some v => nI v
  | none => -1
def oJ (x : Option Int32) : Int32 := match x with
  | some v => v
  | none => -1
theorem nm_ok {B : Nat → Nat} {t lo hi : Nat} {k : Tk} (hW : Wf B t k) : Wf B t (nm B t lo hi k).2 ∧ k.2.1 ≤ (nm B t lo hi k).2.2.1 := by
  unfold nm
  split
  · have := adv_wf (B := B) (t := t) (p := k.2.2.1) hW.2.2.1
    exact ⟨this.1, Nat.le_trans hW.2.1 this.2⟩
  · exact ⟨hW, Nat.le_refl _⟩
theorem nm_v {B : Nat → Nat} {t lo hi v : Nat} {k : Tk} (h : (nm B t lo hi k).1 = some v) : lo ≤ v ∧ v ≤ hi := by
  unfold nm at h
  split at h
  · rename_i hq
    simp only [Option.some.injEq] at h
    rw [← h]
    exact hq.2
  · cases h
def nb (B : Nat → Nat) (t j hi : Nat) (dv : Int32) (k : Tk) : Option Int32 × Tk := if wix B k = j then ((nm B t 0 hi (adv B t k.2.2.1)).1.map nI, (nm B t 0 hi (adv B t k.2.2.1)).2) else (some dv, k)
theorem nb_ok {B : Nat → Nat} {t j hi : Nat} {dv : Int32} {k : Tk} (hW : Wf B t k) : Wf B t (nb B t j hi dv k).2 ∧ k.2.1 ≤ (nb B t j hi dv k).2.2.1 := by
  unfold nb
  split
  · have h1 := adv_wf (B := B) (t := t) (p := k.2.2.1) hW.2.2.1
    have h2 := nm_ok (lo := 0) (hi := hi) h1.1
    exact ⟨h2.1, Nat.le_trans hW.2.1 (Nat.le_trans h1.2 h2.2)⟩
  · exact ⟨hW, Nat.le_refl _⟩
theorem nb_v {B : Nat → Nat} {t j hi : Nat} {dv v : Int32} {k : Tk} (hh : hi ≤ 9999) (hd : 0 ≤ dv ∧ dv ≤ nI hi) (h : (nb B t j hi dv k).1 = some v) : 0 ≤ v ∧ v ≤ nI hi := by
  unfold nb at h
  split at h
  · obtain ⟨x, hx, rfl⟩ := Option.map_eq_some_iff.mp h
    have := nm_v hx
    exact ⟨nI_pos' (by omega), nI_le (by omega) (by omega)⟩
  · simp only [Option.some.injEq] at h
    rw [← h]
    exact hd
theorem cnum {B : Nat → Nat} {t : Nat} {S : ST} {k : Tk} (hT : TpC B t S) (hC : CT S k) (hW : Wf B t k) {lo hi : Nat} (hh : hi ≤ 9999) (hl : lo ≤ 1) : ∃ S', G_X3_number_31 (nI lo) (nI hi) S = some (oN (nm B t lo hi k).1, S') ∧ CT S' (nm B t lo hi k).2 ∧ F32 S S' := by
  have hW1 := hW.1
  unfold G_X3_number_31 nm
  rw [hC.1]
  by_cases h2 : k.1 = 2
  · obtain ⟨c, c1, c2, c3⟩ := hC.2.2.2 h2
    rw [if_pos (by rw [h2]; rfl), c1]
    by_cases h3 : lo ≤ k.2.2.2 ∧ k.2.2.2 ≤ hi
    · have hc : c = k.2.2.2 := by omega
      rw [if_neg (nI_nlt (by omega) (by omega)), if_pos (nI_le (by omega) (by omega)), if_pos ⟨h2, h3⟩]
      obtain ⟨S', q1, q2, q3⟩ := cadv hT hC.2.2.1 hW.2.2.1
      rw [q1, bndS]
      exact ⟨S', by rw [hc]; rfl, q2, q3⟩
    · rw [if_neg (show ¬ (k.1 = 2 ∧ lo ≤ k.2.2.2 ∧ k.2.2.2 ≤ hi) from fun q => h3 q.2)]
      by_cases h4 : c < lo
      · rw [if_pos (nI_lt h4 (by omega))]
        exact ⟨S, rfl, hC, F32.rf⟩
      · rw [if_neg (nI_nlt (by omega) (by omega))]
        have h5 : hi < c := by omega
        rw [if_neg (nI_ge h5 (by omega))]
        exact ⟨S, rfl, hC, F32.rf⟩
  · rw [if_neg (show ¬ nI k.1 = 2 from fun q => h2 ((nI_eq (b := 2) (by omega) (by decide)).mp q)), if_neg (show ¬ (k.1 = 2 ∧ lo ≤ k.2.2.2 ∧ k.2.2.2 ≤ hi) from fun q => h2 q.1)]
    exact ⟨S, rfl, hC, F32.rf⟩
theorem cnb {B : Nat → Nat} {t : Nat} {S : ST} {k : Tk} (hT : TpC B t S) (hC : CT S k) (hW : Wf B t k) {j hi : Nat} (hj : j < 17) (hh : hi ≤ 9999) (dv : Int32) : ∃ S', G_X3_numberBehind_31 j (nI hi) dv S = some (oJ (nb B t j hi dv k).1, S') ∧ CT S' (nb B t j hi dv k).2 ∧ F32 S S' := by
  unfold G_X3_numberBehind_31 nb
  rw [cisW hT hC hW hj, bndS]
  by_cases h1 : wix B k = j
  · rw [if_pos h1, if_pos h1]
    simp only [show ¬ (1 : Int32) = 0 by decide, if_false]
    obtain ⟨S1, q1, q2, q3⟩ := cadv hT hC.2.2.1 hW.2.2.1
    obtain ⟨S2, q4, q5, q6⟩ := cnum (lo := 0) (hi := hi) (hT.f q3) q2 (adv_wf hW.2.2.1).1 hh (by omega)
    rw [show nI 0 = 0 from rfl] at q4
    rw [q1, bndS]
    simp only [q4, bndS]
    refine ⟨S2, ?_, q5, q3.tr q6⟩
    cases (nm B t 0 hi (adv B t k.2.2.1)).1 <;> rfl
  · rw [if_neg h1, if_neg h1]
    simp only [if_true]
    exact ⟨S, rfl, hC, F32.rf⟩
theorem mnum {B : Nat → Nat} {t : Nat} {S : ST} {k : Tk} (hT : TpM B t S) (hM : MT S k) (hW : Wf B t k) {lo hi : Nat} (hh : hi ≤ 9999) (hl : lo ≤ 1) : ∃ S', G_X6_takesNumber_51 (nI lo) (nI hi) S = some (oN (nm B t lo hi k).1, S') ∧ MT S' (nm B t lo hi k).2 ∧ F51 S S' := by
  have hW1 := hW.1
  have h29 : G_X6_takesNumber_51_29 S = some (-1, S) := by
    unfold G_X6_takesNumber_51_29 G_X6_takesNumber_51_30
    rw [if_pos (by decide)]
  unfold G_X6_takesNumber_51 nm
  rw [hM.1]
  by_cases h2 : k.1 = 2 ∧ k.2.2.2 ≤ 99999
  · have ety : tyM k = 2 := by
      unfold tyM
      rw [if_neg (by omega)]
      exact h2.1
    rw [if_pos (by rw [ety]; rfl), hM.2.2.2 (Or.inr h2.1), lN_i, in1, bndS]
    simp only [ite10, hM.2.2.2 (Or.inr h2.1), lN_i]
    by_cases h3 : lo ≤ k.2.2.2 ∧ k.2.2.2 ≤ hi
    · have h4 : nI lo ≤ nI k.2.2.2 ∧ nI k.2.2.2 ≤ nI hi := ⟨nI_le h3.1 (by omega), nI_le h3.2 (by omega)⟩
      rw [if_neg (not_not_intro h4), if_pos ⟨h2.1, h3⟩]
      unfold G_X6_takesNumber_51_30
      rw [if_neg (nI_pos (by omega))]
      obtain ⟨S', q1, q2, q3⟩ := madv hT hM.2.2.1 hW.2.2.1
      rw [q1, bndS]
      exact ⟨S', rfl, q2, q3⟩
    · have h4 : ¬ (nI lo ≤ nI k.2.2.2 ∧ nI k.2.2.2 ≤ nI hi) := fun q => h3 ⟨(nI_leI (by omega) (by omega)).mp q.1, (nI_leI (by omega) (by omega)).mp q.2⟩
      rw [if_pos h4, if_neg (show ¬ (k.1 = 2 ∧ lo ≤ k.2.2.2 ∧ k.2.2.2 ≤ hi) from fun q => h3 q.2), h29]
      exact ⟨S, rfl, hM, F51.rf⟩
  · have ety : ¬ tyM k = 2 := by
      unfold tyM
      split
      · decide
      · intro q
        omega
    have hty : tyM k ≤ 4 := by
      unfold tyM
      split
      · decide
      · exact hW.1
    rw [if_neg (show ¬ nI (tyM k) = 2 from fun q => ety ((nI_eq (b := 2) (by omega) (by decide)).mp q)), if_neg (show ¬ (k.1 = 2 ∧ lo ≤ k.2.2.2 ∧ k.2.2.2 ≤ hi) from fun q => h2 ⟨q.1, by omega⟩), h29]
    exact ⟨S, rfl, hM, F51.rf⟩
/-- items, as they are read -/
def addSt (d : Nat → Int32) (m : Nat) (kd x y z : Int32) : Nat → Int32 := upd (upd (upd (upd (upd d (16 + 4 * m) kd) (17 + 4 * m) x) (18 + 4 * m) y) (19 + 4 * m) z) 1 (nI (m + 1))
def iS3 (d : Nat → Int32) (m : Nat) (kd x y : Int32) (s : Option Int32 × Tk) : Option (Nat → Int32) × Tk := match s.1 with
  | none => (none, s.2)
  | some z => (some (addSt d m kd x y z), s.2)
def iS2 (B : Nat → Nat) (t : Nat) (d : Nat → Int32) (m : Nat) (kd x : Int32) (s : Option Int32 × Tk) : Option (Nat → Int32) × Tk := match s.1 with
  | none => (none, s.2)
  | some y => iS3 d m kd x y (nb B t 12 99 1 s.2)
def iS1 (B : Nat → Nat) (t : Nat) (d : Nat → Int32) (m : Nat) (kd : Int32) (s : Option Int32 × Tk) : Option (Nat → Int32) × Tk := match s.1 with
  | none => (none, s.2)
  | some x => iS2 B t d m kd x (nb B t 11 99 50 s.2)
def iStar (B : Nat → Nat) (t : Nat) (d : Nat → Int32) (m : Nat) (kd : Int32) (k : Tk) : Option (Nat → Int32) × Tk := if m = 10 then (none, k) else iS1 B t d m kd (nb B t 1 99 0 (adv B t k.2.2.1))
def iC3 (d : Nat → Int32) (c : Nat) (x : Int32) (s : Option Int32 × Tk) : Option (Nat → Int32) × Tk := match s.1 with
  | none => (none, s.2)
  | some y => (some (upd (upd d (8 + 2 * c) x) (9 + 2 * c) y), s.2)
def iC2 (B : Nat → Nat) (t : Nat) (d : Nat → Int32) (c : Nat) (s : Option Int32 × Tk) : Option (Nat → Int32) × Tk := match s.1 with
  | none => (none, s.2)
  | some x => iC3 d c x (nb B t 2 999 (d (9 + 2 * c)) s.2)
def iC1 (B : Nat → Nat) (t : Nat) (d : Nat → Int32) (s : Option Nat × Tk) : Option (Nat → Int32) × Tk := match s.1 with
  | none => (none, s.2)
  | some c => iC2 B t d c (nb B t 1 99 (d (8 + 2 * c)) s.2)
def iCrew (B : Nat → Nat) (t : Nat) (d : Nat → Int32) (k : Tk) : Option (Nat → Int32) × Tk := iC1 B t d (nm B t 0 3 (adv B t k.2.2.1))
def gtN (w : Nat) : Nat := ([9, 9, 99, 9999] : List Nat).getD w 0
def iT1 (d : Nat → Int32) (w : Nat) (s : Option Nat × Tk) : Option (Nat → Int32) × Tk := match s.1 with
  | none => (none, s.2)
  | some v => (some (upd d (4 + w) (nI v)), s.2)
def iSet (B : Nat → Nat) (t : Nat) (d : Nat → Int32) (w : Nat) (k : Tk) : Option (Nat → Int32) × Tk := iT1 d w (nm B t 0 (gtN w) (adv B t k.2.2.1))
def iG1 (d : Nat → Int32) (z : Nat) (s : Option Nat × Tk) : Option (Nat → Int32) × Tk := match s.1 with
  | none => (none, s.2)
  | some v => (some (upd (upd d (56 + z) (nI v)) 2 (nI (z + 1))), s.2)
def iSign (B : Nat → Nat) (t : Nat) (d : Nat → Int32) (m z : Nat) (k : Tk) : Option (Nat → Int32) × Tk := if z = 6 then (none, k) else iG1 d z (nm B t 1 (2 ^ m - 1) (adv B t k.2.2.1))
def itm (B : Nat → Nat) (t : Nat) (d : Nat → Int32) (m z : Nat) (k : Tk) : Option (Nat → Int32) × Tk := if wix B k = 0 then iCrew B t d k else if wix B k = 3 then iSign B t d m z k else if 4 ≤ wix B k ∧ wix B k ≤ 10 then iStar B t d m (nI (wix B k - 4)) k else if 13 ≤ wix B k ∧ wix B k ≤ 16 then iSet B t d (wix B k - 13) k else (none, k)
/-- what an item leaves in order -/
def Rok (B : Nat → Nat) (t s : Nat) (r : Option (Nat → Int32) × Tk) : Prop := Wf B t r.2 ∧ s ≤ r.2.2.1 ∧ ∀ d', r.1 = some d' → SkyK d'
theorem Rok.no {B : Nat → Nat} {t s : Nat} {k : Tk} (h : Wf B t k) (hs : s ≤ k.2.1) : Rok B t s (none, k) := ⟨h, hs, fun d' h => by cases h⟩
theorem Rok.le {B : Nat → Nat} {t s s2 : Nat} {r : Option (Nat → Int32) × Tk} (h : Rok B t s r) (hs : s2 ≤ s) : Rok B t s2 r := ⟨h.1, Nat.le_trans hs h.2.1, h.2.2⟩
theorem rStar {B : Nat → Nat} {t m : Nat} {d : Nat → Int32} {kd : Int32} {k : Tk} (hW : Wf B t k) (hK : SkyK d) (hm : m ≤ 10) (hs : d 1 = nI m) (hk : 0 ≤ kd ∧ kd ≤ 6) : Rok B t k.2.1 (iStar B t d m kd k) := by
  unfold iStar
  by_cases hm10 : m = 10
  · rw [if_pos hm10]
    exact Rok.no hW (Nat.le_refl _)
  · rw [if_neg hm10]
    have a1 := adv_wf (B := B) (t := t) (p := k.2.2.1) hW.2.2.1
    have b1 := nb_ok (j := 1) (hi := 99) (dv := 0) a1.1
    have s1 : k.2.1 ≤ (nb B t 1 99 0 (adv B t k.2.2.1)).2.2.1 := Nat.le_trans hW.2.1 (Nat.le_trans a1.2 b1.2)
    have v1 := fun x => nb_v (B := B) (t := t) (j := 1) (hi := 99) (dv := 0) (v := x) (k := adv B t k.2.2.1) (by omega) (by decide)
    generalize nb B t 1 99 0 (adv B t k.2.2.1) = r1 at *
    unfold iS1
    cases h1 : r1.1 with
    | none => exact Rok.no b1.1 s1
    | some x =>
      have w1 := v1 x h1
      show Rok B t k.2.1 (iS2 B t d m kd x (nb B t 11 99 50 r1.2))
      have b2 := nb_ok (j := 11) (hi := 99) (dv := 50) b1.1
      have s2 : k.2.1 ≤ (nb B t 11 99 50 r1.2).2.2.1 := Nat.le_trans s1 b2.2
      have v2 := fun x => nb_v (B := B) (t := t) (j := 11) (hi := 99) (dv := 50) (v := x) (k := r1.2) (by omega) (by decide)
      generalize nb B t 11 99 50 r1.2 = r2 at *
      unfold iS2
      cases h2 : r2.1 with
      | none => exact Rok.no b2.1 s2
      | some y =>
        have w2 := v2 y h2
        show Rok B t k.2.1 (iS3 d m kd x y (nb B t 12 99 1 r2.2))
        have b3 := nb_ok (j := 12) (hi := 99) (dv := 1) b2.1
        have s3 : k.2.1 ≤ (nb B t 12 99 1 r2.2).2.2.1 := Nat.le_trans s2 b3.2
        have v3 := fun x => nb_v (B := B) (t := t) (j := 12) (hi := 99) (dv := 1) (v := x) (k := r2.2) (by omega) (by decide)
        generalize nb B t 12 99 1 r2.2 = r3 at *
        unfold iS3
        cases h3 : r3.1 with
        | none => exact Rok.no b3.1 s3
        | some z =>
          have w3 := v3 z h3
          refine ⟨b3.1, s3, fun d' hd' => ?_⟩
          simp only [Option.some.injEq] at hd'
          rw [← hd']
          have hm9 : m < 10 := by omega
          exact ((((hK.kind hm9 hk).place hm9 w1).life hm9 w2).worth hm9 w3).starsUp (by rw [updN _ _ (by omega), updN _ _ (by omega), updN _ _ (by omega), updN _ _ (by omega)]; exact hs) hm9
theorem rCrew {B : Nat → Nat} {t : Nat} {d : Nat → Int32} {k : Tk} (hW : Wf B t k) (hK : SkyK d) : Rok B t k.2.1 (iCrew B t d k) := by
  unfold iCrew
  have a1 := adv_wf (B := B) (t := t) (p := k.2.2.1) hW.2.2.1
  have b1 := nm_ok (lo := 0) (hi := 3) a1.1
  have s1 : k.2.1 ≤ (nm B t 0 3 (adv B t k.2.2.1)).2.2.1 := Nat.le_trans hW.2.1 (Nat.le_trans a1.2 b1.2)
  have v1 := fun x => nm_v (B := B) (t := t) (lo := 0) (hi := 3) (v := x) (k := adv B t k.2.2.1)
  generalize nm B t 0 3 (adv B t k.2.2.1) = r1 at *
  unfold iC1
  cases h1 : r1.1 with
  | none => exact Rok.no b1.1 s1
  | some c =>
    have w1 := v1 c h1
    have hc : c < 4 := by omega
    have hp := hK.2.2.2.2.2.2.2.1 c hc
    have hst := hK.2.2.2.2.2.2.2.2.1 c hc
    show Rok B t k.2.1 (iC2 B t d c (nb B t 1 99 (d (8 + 2 * c)) r1.2))
    have b2 := nb_ok (j := 1) (hi := 99) (dv := d (8 + 2 * c)) b1.1
    have s2 : k.2.1 ≤ (nb B t 1 99 (d (8 + 2 * c)) r1.2).2.2.1 := Nat.le_trans s1 b2.2
    have v2 := fun x => nb_v (B := B) (t := t) (j := 1) (hi := 99) (dv := d (8 + 2 * c)) (v := x) (k := r1.2) (by omega) hp
    generalize nb B t 1 99 (d (8 + 2 * c)) r1.2 = r2 at *
    unfold iC2
    cases h2 : r2.1 with
    | none => exact Rok.no b2.1 s2
    | some x =>
      have w2 := v2 x h2
      show Rok B t k.2.1 (iC3 d c x (nb B t 2 999 (d (9 + 2 * c)) r2.2))
      have b3 := nb_ok (j := 2) (hi := 999) (dv := d (9 + 2 * c)) b2.1
      have s3 : k.2.1 ≤ (nb B t 2 999 (d (9 + 2 * c)) r2.2).2.2.1 := Nat.le_trans s2 b3.2
      have v3 := fun x => nb_v (B := B) (t := t) (j := 2) (hi := 999) (dv := d (9 + 2 * c)) (v := x) (k := r2.2) (by omega) hst
      generalize nb B t 2 999 (d (9 + 2 * c)) r2.2 = r3 at *
      unfold iC3
      cases h3 : r3.1 with
      | none => exact Rok.no b3.1 s3
      | some y =>
        have w3 := v3 y h3
        refine ⟨b3.1, s3, fun d' hd' => ?_⟩
        simp only [Option.some.injEq] at hd'
        rw [← hd']
        exact (hK.crewP hc w2).crewS hc w3
theorem rSet {B : Nat → Nat} {t w : Nat} {d : Nat → Int32} {k : Tk} (hW : Wf B t k) (hK : SkyK d) (hw : w < 4) : Rok B t k.2.1 (iSet B t d w k) := by
  unfold iSet
  have a1 := adv_wf (B := B) (t := t) (p := k.2.2.1) hW.2.2.1
  have b1 := nm_ok (lo := 0) (hi := gtN w) a1.1
  have s1 : k.2.1 ≤ (nm B t 0 (gtN w) (adv B t k.2.2.1)).2.2.1 := Nat.le_trans hW.2.1 (Nat.le_trans a1.2 b1.2)
  have v1 := fun x => nm_v (B := B) (t := t) (lo := 0) (hi := gtN w) (v := x) (k := adv B t k.2.2.1)
  generalize nm B t 0 (gtN w) (adv B t k.2.2.1) = r1 at *
  unfold iT1
  cases h1 : r1.1 with
  | none => exact Rok.no b1.1 s1
  | some v =>
    have w1 := (v1 v h1).2
    refine ⟨b1.1, s1, fun d' hd' => ?_⟩
    simp only [Option.some.injEq] at hd'
    rw [← hd']
    have hw4 : w = 0 ∨ w = 1 ∨ w = 2 ∨ w = 3 := by omega
    rcases hw4 with rfl | rfl | rfl | rfl
    · exact hK.dust ⟨nI_pos' (by have : v ≤ 9 := w1; omega), nI_le (b := 9) w1 (by decide)⟩
    · exact hK.wishes ⟨nI_pos' (by have : v ≤ 9 := w1; omega), nI_le (b := 9) w1 (by decide)⟩
    · exact hK.mend ⟨nI_pos' (by have : v ≤ 99 := w1; omega), nI_le (b := 99) w1 (by decide)⟩
    · exact hK.parts ⟨nI_pos' (by have : v ≤ 9999 := w1; omega), nI_le (b := 9999) w1 (by decide)⟩
theorem rSign {B : Nat → Nat} {t m z : Nat} {d : Nat → Int32} {k : Tk} (hW : Wf B t k) (hK : SkyK d) (hm : m ≤ 10) (hs : d 1 = nI m) (hz : z ≤ 6) (hzs : d 2 = nI z) : Rok B t k.2.1 (iSign B t d m z k) := by
  unfold iSign
  by_cases hz6 : z = 6
  · rw [if_pos hz6]
    exact Rok.no hW (Nat.le_refl _)
  · rw [if_neg hz6]
    have a1 := adv_wf (B := B) (t := t) (p := k.2.2.1) hW.2.2.1
    have b1 := nm_ok (lo := 1) (hi := 2 ^ m - 1) a1.1
    have s1 : k.2.1 ≤ (nm B t 1 (2 ^ m - 1) (adv B t k.2.2.1)).2.2.1 := Nat.le_trans hW.2.1 (Nat.le_trans a1.2 b1.2)
    have v1 := fun x => nm_v (B := B) (t := t) (lo := 1) (hi := 2 ^ m - 1) (v := x) (k := adv B t k.2.2.1)
    generalize nm B t 1 (2 ^ m - 1) (adv B t k.2.2.1) = r1 at *
    unfold iG1
    cases h1 : r1.1 with
    | none => exact Rok.no b1.1 s1
    | some v =>
      have w1 := v1 v h1
      have hpw := pw_le hm
      refine ⟨b1.1, s1, fun d' hd' => ?_⟩
      simp only [Option.some.injEq] at hd'
      rw [← hd']
      refine hK.signUp hzs (by omega) ⟨nI_lt (a := 0) (by omega) (by omega), ?_⟩
      rw [hs, shl1 hm]
      show nI v ≤ nI (2 ^ m) - nI 1
      rw [pk_sub (Nat.two_pow_pos m)]
      exact nI_le w1.2 (by omega)
theorem rItm {B : Nat → Nat} {t m z : Nat} {d : Nat → Int32} {k : Tk} (hW : Wf B t k) (hK : SkyK d) (hm : m ≤ 10) (hs : d 1 = nI m) (hz : z ≤ 6) (hzs : d 2 = nI z) : Rok B t k.2.1 (itm B t d m z k) := by
  unfold itm
  split
  · exact rCrew hW hK
  · split
    · exact rSign hW hK hm hs hz hzs
    · split
      · rename_i hq
        exact rStar hW hK hm hs ⟨nI_pos' (by omega), nI_le (b := 6) (by omega) (by decide)⟩
      · split
        · exact rSet hW hK (by omega)
        · exact Rok.no hW (Nat.le_refl _)
