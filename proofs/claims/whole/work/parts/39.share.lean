/-- from where -/
def stF (d : Nat → Int32) (m : Nat) (x : Int32) (i : Nat) (a : Int32) : Int32 := if ¬ rdI d a m x ≤ rdI d (nI i) m x then nI i else a
theorem cfrom {d : Nat → Int32} {m : Nat} {x : Int32} (hm : m ≤ 10) (hs : d 1 = nI m) : ∀ (e i n : Nat) (a : Int32) (T : ST), SkyR 1 T d → i + e = 100 → e < n → ∃ T', G_X5_from_0_31 n x (rdI d a m x) a (nI i) T = some (it (stF d m x) i e a, T') ∧ ∀ c, c ≠ 35 → c ≠ 36 → c ≠ 37 → c ≠ 38 → c ≠ 39 → c ≠ 40 → T'.1 c = T.1 c := by
  intro e
  induction e with
  | zero =>
    intro i n a T hR h1 h2
    obtain ⟨n, rfl⟩ : ∃ n', n = n' + 1 := ⟨n - 1, by omega⟩
    unfold G_X5_from_0_31
    rw [if_pos (show (100 : Int32) ≤ nI i from nI_le (a := 100) (by omega) (by omega))]
    exact ⟨T, rfl, fun _ _ _ _ _ _ _ => rfl⟩
  | succ e ih =>
    intro i n a T hR h1 h2
    obtain ⟨n, rfl⟩ : ∃ n', n = n' + 1 := ⟨n - 1, by omega⟩
    unfold G_X5_from_0_31
    obtain ⟨T1, q1, q2⟩ := cstand35 (p := nI i) hR hm hs
    have hc : ∀ c, c ≠ 35 → c ≠ 36 → c ≠ 37 → c ≠ 38 → c ≠ 39 → c ≠ 40 → T1.1 c = T.1 c := fun c a b e _ _ _ => q2.1 c a b e
    have hR1 := skyWk hR hc
    rw [if_neg (show ¬ (100 : Int32) ≤ nI i from nI_ge (b := 100) (by omega) (by omega)), q1, bndS]
    simp only [csteps35 hm q2, bndS, nI_1, it]
    by_cases c1 : rdI d a m x ≤ rdI d (nI i) m x
    · have : stF d m x i a = a := if_neg (not_not_intro c1)
      obtain ⟨T2, q3, q4⟩ := ih (i + 1) n a T1 hR1 (by omega) (by omega)
      rw [this]
      exact ⟨T2, (if_pos c1).trans q3, fun c a1 a2 a3 a4 a5 a6 => by rw [q4 c a1 a2 a3 a4 a5 a6, hc c a1 a2 a3 a4 a5 a6]⟩
    · have : stF d m x i a = nI i := if_pos c1
      obtain ⟨T2, q3, q4⟩ := ih (i + 1) n (nI i) T1 hR1 (by omega) (by omega)
      rw [this]
      exact ⟨T2, (if_neg c1).trans q3, fun c a1 a2 a3 a4 a5 a6 => by rw [q4 c a1 a2 a3 a4 a5 a6, hc c a1 a2 a3 a4 a5 a6]⟩
theorem mfrom {d : Nat → Int32} {m y : Nat} (hK : SkyK d) (hm : m ≤ 10) (hs : d 1 = nI m) (hy : y < 1024) : ∀ (e i n b : Nat) (T : ST), T.1 52 = d → b < 100 → i + e = 100 → e < n → ∃ T', G_X6_from_51_26 n (nI y) (nI b) (nI i) T = some (it (stF d m (nI y)) i e (nI b), T') ∧ ∀ r, r ≠ 56 → T'.1 r = T.1 r := by
  intro e
  induction e with
  | zero =>
    intro i n b T hT hb h1 h2
    obtain ⟨n, rfl⟩ : ∃ n', n = n' + 1 := ⟨n - 1, by omega⟩
    unfold G_X6_from_51_26
    rw [if_pos (show (100 : Int32) ≤ nI i from nI_le (a := 100) (by omega) (by omega))]
    exact ⟨T, rfl, fun _ _ => rfl⟩
  | succ e ih =>
    intro i n b T hT hb h1 h2
    obtain ⟨n, rfl⟩ : ∃ n', n = n' + 1 := ⟨n - 1, by omega⟩
    unfold G_X6_from_51_26
    obtain ⟨T1, q1, q2⟩ := mrd hT hK hm hs (pl_in (k := i) (by omega)) hy
    have hT1 : T1.1 52 = d := by rw [q2 52 (by omega), hT]
    obtain ⟨T2, q3, q4⟩ := mrd hT1 hK hm hs (pl_in (k := b) hb) hy
    have hT2 : T2.1 52 = d := by rw [q4 52 (by omega), hT1]
    rw [if_neg (show ¬ (100 : Int32) ≤ nI i from nI_ge (b := 100) (by omega) (by omega)), q1, bndS]
    simp only [q3, bndS, nI_1, it]
    by_cases c1 : rdI d (nI b) m (nI y) ≤ rdI d (nI i) m (nI y)
    · have : stF d m (nI y) i (nI b) = nI b := if_neg (not_not_intro c1)
      obtain ⟨T3, q5, q6⟩ := ih (i + 1) n b T2 hT2 hb (by omega) (by omega)
      rw [this]
      exact ⟨T3, (if_pos c1).trans q5, fun r hr => by rw [q6 r hr, q4 r hr, q2 r hr]⟩
    · have : stF d m (nI y) i (nI b) = nI i := if_pos c1
      obtain ⟨T3, q5, q6⟩ := ih (i + 1) n i T2 hT2 (by omega) (by omega) (by omega)
      rw [this]
      exact ⟨T3, (if_neg c1).trans q5, fun r hr => by rw [q6 r hr, q4 r hr, q2 r hr]⟩
theorem op_from (a b : Int32) : Ok (G_X5_from_0 a b) (G_X6_from_51 a b) := by
  intro S h
  obtain ⟨m, hm, hs⟩ := starsN h
  by_cases ha : 0 ≤ a ∧ a < 4
  · by_cases hb : 0 ≤ b ∧ b < 1 <<< (S.1 1 0 &&& 31)
    · have hb' := hb
      obtain ⟨y, hy, rfl⟩ := setNN h hm hs hb
      have hy2 : y < 1024 := by have := pw_le hm; omega
      obtain ⟨T1, q1, q2⟩ := cstand35 (p := nI 0) h.1 hm hs
      have hc : ∀ c, c ≠ 35 → c ≠ 36 → c ≠ 37 → c ≠ 38 → c ≠ 39 → c ≠ 40 → T1.1 c = S.1 c := fun c a b e _ _ _ => q2.1 c a b e
      obtain ⟨T, q3, q4⟩ := cfrom (x := nI y) hm hs 99 1 2999 (nI 0) T1 (skyWk h.1 hc) (by omega) (by omega)
      have hS := (wkSame hc).trans (wkSame q4)
      have e52 : T.1 52 = S.1 52 := hS.1 52 (by omega)
      have hK : SkyK (S.1 52) := h.2.1
      obtain ⟨T2, q5, q6⟩ := mfrom (m := m) hK hm hs hy2 99 1 3000 0 T e52 (by omega) (by omega) (by omega)
      have hb0 := rdI_b (p := nI 0) hK (by decide) hm hy2
      have q0 : G_X5_from_0_31 3000 (nI y) 1000000 0 0 S = some (it (stF (S.1 52) m (nI y)) 1 99 (nI 0), T) := by
        unfold G_X5_from_0_31
        rw [if_neg (by decide)]
        rw [show nI 0 = 0 from rfl] at q1 q2 hb0 q3 ⊢
        rw [q1, bndS]
        simp only [csteps35 hm q2, bndS]
        refine (if_neg ?_).trans q3
        show ¬ (1000000 : Int32) ≤ rdI (S.1 52) 0 m (nI y)
        grind
      refine ⟨it (stF (S.1 52) m (nI y)) 1 99 (nI 0), T, T2, ?_, ?_, (h.same hS).same (s56Same q6)⟩
      · simp only [G_X5_from_0, bel, bndS, ite10, cset, q0]
        rw [if_neg (not_not_intro ha), if_neg (not_not_intro hb')]
      · rw [show nI 1 = 1 from rfl, show nI 0 = 0 from rfl] at q5
        simp only [G_X6_from_51, isCrew, bndS, ite10, isSet, e52, q5]
        rw [if_neg (not_not_intro (crewB.mp ha)), if_neg (not_not_intro ((setB h).mp hb'))]
        rfl
    · refine ok_fin h (i := 0) (by decide) ?_ ?_
      · simp only [G_X5_from_0, bel, bndS, ite10, cset, fb0]
        rw [if_neg (not_not_intro ha), if_pos hb]
      · intro S1 h1
        simp only [G_X6_from_51, isCrew, bndS, ite10, isSet, nb0, h1 52 (by omega)]
        rw [if_neg (not_not_intro (crewB.mp ha)), if_pos (fun q => hb ((setB h).mpr q))]
  · refine ok_fin h (i := 0) (by decide) ?_ ?_
    · simp only [G_X5_from_0, bel, bndS, ite10, fb0]
      rw [if_pos ha]
    · intro S1 h1
      simp only [G_X6_from_51, isCrew, bndS, ite10, nb0]
      rw [if_pos (fun q => ha (crewB.mpr q))]
/-- two share -/
def lgI (d : Nat → Int32) (p1 p2 : Int32) (m : Nat) (x s : Int32) : Int32 := imx (rdI d p1 m s) (rdI d p2 m (x &&& (s ^^^ (-1))))
def stS (d : Nat → Int32) (p1 p2 : Int32) (m : Nat) (x : Int32) (i : Nat) (q : Int32 × Int32) : Int32 × Int32 := if nI i &&& (x ^^^ (-1)) = 0 then (if q.2 ≤ lgI d p1 p2 m x (nI i) then q else (nI i, lgI d p1 p2 m x (nI i))) else q
theorem and_le {y : Nat} (hy : y < 1024) (v : Int32) : ∃ w : Nat, w < 1024 ∧ nI y &&& v = nI w := by
  have hw : y &&& v.toBitVec.toNat < 1024 := Nat.lt_of_le_of_lt Nat.and_le_left hy
  refine ⟨y &&& v.toBitVec.toNat, hw, ?_⟩
  apply Int32.toBitVec_inj.mp
  apply BitVec.eq_of_toNat_eq
  show ((nI y).toBitVec &&& v.toBitVec).toNat = _
  rw [BitVec.toNat_and, pk_tn (by omega), pk_tn (by omega)]
theorem lgI_b {d : Nat → Int32} {p1 p2 : Int32} {m y z : Nat} (hK : SkyK d) (hp : 0 ≤ p1 ∧ p1 ≤ 99) (hp2 : 0 ≤ p2 ∧ p2 ≤ 99) (hm : m ≤ 10) (hy : y < 1024) (hz : z < 1024) : lgI d p1 p2 m (nI y) (nI z) ≤ 1089 := by
  obtain ⟨w, hw, e⟩ := and_le hy (nI z ^^^ (-1))
  have h1 := rdI_b hK hp hm hz
  have h2 := rdI_b hK hp2 hm hw
  unfold lgI
  rw [e]
  unfold imx
  split
  · exact h2.2
  · exact h1.2
theorem clonger {T : ST} {d : Nat → Int32} {p1 p2 : Int32} {m : Nat} (hA : ∀ x, G_X4_stepsBy_35 x T = some (rdI d p1 m x, T)) (hB : ∀ x, G_X4_stepsBy_38 x T = some (rdI d p2 m x, T)) (s x : Int32) : G_X5_longerWay_0 s x T = some (lgI d p1 p2 m x s, T) := by
  simp only [G_X5_longerWay_0, hA, hB, bndS]
  rfl
theorem mlonger {T : ST} {d : Nat → Int32} {m k1 k2 y z : Nat} (hT : T.1 52 = d) (hK : SkyK d) (hm : m ≤ 10) (hs : d 1 = nI m) (hk1 : k1 < 4) (hk2 : k2 < 4) (hy : y < 1024) (hz : z < 1024) : ∃ T', G_X6_longerOf_51 (nI k1) (nI k2) (nI z) (nI y &&& (nI z ^^^ (-1))) T = some (lgI d (d (8 + 2 * k1)) (d (8 + 2 * k2)) m (nI y) (nI z), T') ∧ ∀ r, r ≠ 56 → T'.1 r = T.1 r := by
  obtain ⟨w, hw, e⟩ := and_le hy (nI z ^^^ (-1))
  obtain ⟨T1, q1, q2⟩ := mrd hT hK hm hs (hK.2.2.2.2.2.2.2.1 k1 hk1) hz
  have hT1 : T1.1 52 = d := by rw [q2 52 (by omega), hT]
  obtain ⟨T2, q3, q4⟩ := mrd hT1 hK hm hs (hK.2.2.2.2.2.2.2.1 k2 hk2) hw
  refine ⟨T2, ?_, fun r hr => by rw [q4 r hr, q2 r hr]⟩
  unfold lgI
  rw [e]
  simp only [G_X6_longerOf_51, mat hk1, mat hk2, bndS, hT, hT1, q1, q3, greI]
theorem cshare {T : ST} {d : Nat → Int32} {p1 p2 : Int32} {m y : Nat} (hA : ∀ x, G_X4_stepsBy_35 x T = some (rdI d p1 m x, T)) (hB : ∀ x, G_X4_stepsBy_38 x T = some (rdI d p2 m x, T)) (hy : y < 1024) : ∀ (e i n : Nat) (q : Int32 × Int32), i + e = y + 1 → e < n → G_X5_firstShare_0_50 n (nI y) q.2 q.1 (nI i) T = some ((it (stS d p1 p2 m (nI y)) i e q).1, T) := by
  intro e
  induction e with
  | zero =>
    intro i n q h1 h2
    obtain ⟨n, rfl⟩ : ∃ n', n = n' + 1 := ⟨n - 1, by omega⟩
    unfold G_X5_firstShare_0_50
    rw [if_pos (nI_lt (by omega) (by omega))]
    rfl
  | succ e ih =>
    intro i n q h1 h2
    obtain ⟨n, rfl⟩ : ∃ n', n = n' + 1 := ⟨n - 1, by omega⟩
    unfold G_X5_firstShare_0_50
    rw [if_neg (nI_nlt (by omega) (by omega))]
    simp only [clonger hA hB, bndS, nI_1, it]
    by_cases c1 : nI i &&& (nI y ^^^ (-1)) = 0
    · rw [if_pos c1]
      by_cases c2 : q.2 ≤ lgI d p1 p2 m (nI y) (nI i)
      · have : stS d p1 p2 m (nI y) i q = q := by
          unfold stS
          rw [if_pos c1, if_pos c2]
        rw [if_pos c2, this]
        exact ih (i + 1) n q (by omega) (by omega)
      · have : stS d p1 p2 m (nI y) i q = (nI i, lgI d p1 p2 m (nI y) (nI i)) := by
          unfold stS
          rw [if_pos c1, if_neg c2]
        rw [if_neg c2, this]
        exact ih (i + 1) n (nI i, lgI d p1 p2 m (nI y) (nI i)) (by omega) (by omega)
    · have : stS d p1 p2 m (nI y) i q = q := if_neg c1
      rw [if_neg c1, this]
      exact ih (i + 1) n q (by omega) (by omega)
theorem mshare {d : Nat → Int32} {m k1 k2 y : Nat} (hK : SkyK d) (hm : m ≤ 10) (hs : d 1 = nI m) (hk1 : k1 < 4) (hk2 : k2 < 4) (hy : y < 1024) : ∀ (e i n b : Nat) (l : Int32) (T : ST), T.1 52 = d → b < 1024 → i + e = y + 1 → e < n → ∃ T' w, G_X6_bestShare_51_9 n (nI k1) (nI k2) (nI y) (nI b) l (nI i) T = some ((it (stS d (d (8 + 2 * k1)) (d (8 + 2 * k2)) m (nI y)) i e (nI b, l)).1, T') ∧ (∀ r, r ≠ 56 → T'.1 r = T.1 r) ∧ w < 1024 ∧ (it (stS d (d (8 + 2 * k1)) (d (8 + 2 * k2)) m (nI y)) i e (nI b, l)).1 = nI w := by
  intro e
  induction e with
  | zero =>
    intro i n b l T hT hb h1 h2
    obtain ⟨n, rfl⟩ : ∃ n', n = n' + 1 := ⟨n - 1, by omega⟩
    unfold G_X6_bestShare_51_9
    rw [if_pos (nI_lt (by omega) (by omega))]
    exact ⟨T, b, rfl, fun _ _ => rfl, hb, rfl⟩
  | succ e ih =>
    intro i n b l T hT hb h1 h2
    obtain ⟨n, rfl⟩ : ∃ n', n = n' + 1 := ⟨n - 1, by omega⟩
    unfold G_X6_bestShare_51_9
    rw [if_neg (nI_nlt (by omega) (by omega))]
    simp only [it]
    by_cases c1 : nI i &&& (nI y ^^^ (-1)) = 0
    · obtain ⟨T1, q1, q2⟩ := mlonger (z := i) hT hK hm hs hk1 hk2 hy (by omega)
      have hT1 : T1.1 52 = d := by rw [q2 52 (by omega), hT]
      rw [if_pos c1, q1, bndS]
      simp only [if_neg (nI_pos (n := b) (by omega)), nI_1, show ¬ (1 : Int32) = 0 by decide, if_false, if_true]
      by_cases c2 : l ≤ lgI d (d (8 + 2 * k1)) (d (8 + 2 * k2)) m (nI y) (nI i)
      · have : stS d (d (8 + 2 * k1)) (d (8 + 2 * k2)) m (nI y) i (nI b, l) = (nI b, l) := by
          unfold stS
          rw [if_pos c1, if_pos c2]
        rw [if_pos c2, this]
        obtain ⟨T2, w, q3, q4, q5⟩ := ih (i + 1) n b l T1 hT1 hb (by omega) (by omega)
        exact ⟨T2, w, q3, fun r hr => by rw [q4 r hr, q2 r hr], q5⟩
      · have : stS d (d (8 + 2 * k1)) (d (8 + 2 * k2)) m (nI y) i (nI b, l) = (nI i, lgI d (d (8 + 2 * k1)) (d (8 + 2 * k2)) m (nI y) (nI i)) := by
          unfold stS
          rw [if_pos c1, if_neg c2]
        rw [if_neg c2, this]
        obtain ⟨T2, w, q3, q4, q5⟩ := ih (i + 1) n i (lgI d (d (8 + 2 * k1)) (d (8 + 2 * k2)) m (nI y) (nI i)) T1 hT1 (by omega) (by omega) (by omega)
        exact ⟨T2, w, q3, fun r hr => by rw [q4 r hr, q2 r hr], q5⟩
    · have : stS d (d (8 + 2 * k1)) (d (8 + 2 * k2)) m (nI y) i (nI b, l) = (nI b, l) := if_neg c1
      rw [if_neg c1, nI_1, this]
      exact ih (i + 1) n b l T hT hb (by omega) (by omega)
def shI (d : Nat → Int32) (p1 p2 : Int32) (m : Nat) (x : Int32) (y : Nat) : Int32 := (it (stS d p1 p2 m x) 1 y (0, lgI d p1 p2 m x 0)).1
theorem and0 (v : Int32) : (0 : Int32) &&& v = 0 := by
  apply Int32.toBitVec_inj.mp
  simp
theorem cShare {S : ST} {d : Nat → Int32} {m k1 k2 y : Nat} (hR : SkyR 1 S d) (hK : SkyK d) (hm : m ≤ 10) (hs : d 1 = nI m) (hk1 : k1 < 4) (hk2 : k2 < 4) (hy : y < 1024) : ∃ T, G_X5_firstShare_0 (nI k1) (nI k2) (nI y) S = some (shI d (d (8 + 2 * k1)) (d (8 + 2 * k2)) m (nI y) y, T) ∧ (∀ c, c ≠ 35 → c ≠ 36 → c ≠ 37 → c ≠ 38 → c ≠ 39 → c ≠ 40 → T.1 c = S.1 c) ∧ ∀ s x, G_X5_longerWay_0 s x T = some (lgI d (d (8 + 2 * k1)) (d (8 + 2 * k2)) m x s, T) := by
  obtain ⟨T1, q1, q2⟩ := cstand35 (p := d (8 + 2 * k1)) hR hm hs
  have hc : ∀ c, c ≠ 35 → c ≠ 36 → c ≠ 37 → c ≠ 38 → c ≠ 39 → c ≠ 40 → T1.1 c = S.1 c := fun c a b e _ _ _ => q2.1 c a b e
  have hR1 := skyWk hR hc
  obtain ⟨T, q3, q4⟩ := cstand38 (p := d (8 + 2 * k2)) hR1 hm hs
  have hA : ∀ x, G_X4_stepsBy_35 x T = some (rdI d (d (8 + 2 * k1)) m x, T) := by
    obtain ⟨t1, t2, t3, t4, t5⟩ := q2
    have e1 := q4.1 35 (by omega) (by omega) (by omega)
    have e2 := q4.1 36 (by omega) (by omega) (by omega)
    have e3 := q4.1 37 (by omega) (by omega) (by omega)
    have e4 : pr35 T = pr35 T1 := by
      funext i
      unfold pr35
      rw [e2, e3]
    exact fun x => csteps35 (S := T) hm ⟨fun _ _ _ _ => rfl, by rw [e1, t2], by rw [e1, t3], fun i j a b => by rw [e3]; exact t4 i j a b, fun x => by rw [e4]; exact t5 x⟩ x
  have hB : ∀ x, G_X4_stepsBy_38 x T = some (rdI d (d (8 + 2 * k2)) m x, T) := fun x => csteps38 hm q4 x
  have hb := lgI_b (z := 0) hK (hK.2.2.2.2.2.2.2.1 k1 hk1) (hK.2.2.2.2.2.2.2.1 k2 hk2) hm hy (by omega)
  have q5 := cshare (m := m) hA hB hy y 1 2999 (0, lgI d (d (8 + 2 * k1)) (d (8 + 2 * k2)) m (nI y) 0) (by omega) (by omega)
  rw [show nI 0 = 0 from rfl] at hb
  have q6 : G_X5_firstShare_0_50 3000 (nI y) 1000000 0 0 T = some (shI d (d (8 + 2 * k1)) (d (8 + 2 * k2)) m (nI y) y, T) := by
    unfold G_X5_firstShare_0_50
    rw [if_neg (nI_pos (by omega)), if_pos (and0 _), clonger hA hB, bndS]
    refine (if_neg ?_).trans q5
    show ¬ (1000000 : Int32) ≤ lgI d (d (8 + 2 * k1)) (d (8 + 2 * k2)) m (nI y) 0
    grind
  refine ⟨T, ?_, fun c a1 a2 a3 a4 a5 a6 => by rw [q4.1 c a4 a5 a6, hc c a1 a2 a3 a4 a5 a6], fun s x => clonger hA hB s x⟩
  unfold G_X5_firstShare_0
  rw [if_pos (inB_nI hk1 (by decide)), cl (by omega), show S.1 6 k1 = _ from hR.2.2.2.2.2.1 k1 hk1, q1, bndS]
  simp only []
  rw [if_pos (inB_nI hk2 (by decide)), cl (by omega), show T1.1 6 k2 = _ from hR1.2.2.2.2.2.1 k2 hk2, q3, bndS]
  simp only [q6, bndS]
theorem mShare {S : ST} {m k1 k2 y : Nat} (hK : SkyK (S.1 52)) (hm : m ≤ 10) (hs : S.1 52 1 = nI m) (hk1 : k1 < 4) (hk2 : k2 < 4) (hy : y < 1024) : ∃ T w, G_X6_bestShare_51 (nI k1) (nI k2) (nI y) S = some (shI (S.1 52) (S.1 52 (8 + 2 * k1)) (S.1 52 (8 + 2 * k2)) m (nI y) y, T) ∧ (∀ r, r ≠ 56 → T.1 r = S.1 r) ∧ w < 1024 ∧ shI (S.1 52) (S.1 52 (8 + 2 * k1)) (S.1 52 (8 + 2 * k2)) m (nI y) y = nI w := by
  obtain ⟨T1, q1, q2⟩ := mlonger (T := S) (d := S.1 52) (m := m) rfl hK hm hs hk1 hk2 hy (show 0 < 1024 by omega)
  have hT1 : T1.1 52 = S.1 52 := q2 52 (by omega)
  rw [show nI 0 = 0 from rfl] at q1
  obtain ⟨T, w, q3, q4, q5, q6⟩ := mshare (m := m) hK hm hs hk1 hk2 hy y 1 2999 0 (lgI (S.1 52) (S.1 52 (8 + 2 * k1)) (S.1 52 (8 + 2 * k2)) m (nI y) 0) T1 hT1 (by omega) (by omega) (by omega)
  rw [show nI 0 = 0 from rfl, show nI 1 = 1 from rfl] at q3
  rw [show nI 0 = 0 from rfl] at q6
  refine ⟨T, w, ?_, fun r hr => by rw [q4 r hr, q2 r hr], q5, q6⟩
  unfold G_X6_bestShare_51
  have : G_X6_bestShare_51_9 3000 (nI k1) (nI k2) (nI y) (-1) 0 0 S = some (shI (S.1 52) (S.1 52 (8 + 2 * k1)) (S.1 52 (8 + 2 * k2)) m (nI y) y, T) := by
    unfold G_X6_bestShare_51_9
    rw [if_neg (nI_pos (by omega)), if_pos (and0 _), q1, bndS, if_pos (by decide), if_neg (by decide), if_neg (by decide)]
    exact q3
  rw [this]
  rfl
theorem ccan (a b x : Int32) (S : ST) : G_X5_canShare_0 a b x S = some (if (0 ≤ a ∧ a < 4) ∧ (0 ≤ b ∧ b < 4) ∧ ¬ a = b ∧ (0 ≤ x ∧ x < 1 <<< (S.1 1 0 &&& 31)) then 1 else 0, S) := by
  simp only [G_X5_canShare_0, bel, bndS, ite10, cset]
  by_cases h1 : 0 ≤ a ∧ a < 4
  · rw [if_neg (not_not_intro h1)]
    by_cases h2 : 0 ≤ b ∧ b < 4
    · rw [if_neg (not_not_intro h2)]
      by_cases h3 : a = b
      · rw [if_pos h3, if_neg (by rintro ⟨_, _, q, _⟩; exact q h3)]
      · rw [if_neg h3]
        by_cases h4 : 0 ≤ x ∧ x < 1 <<< (S.1 1 0 &&& 31)
        · rw [if_neg (not_not_intro h4), if_pos ⟨h1, h2, h3, h4⟩]
        · rw [if_pos h4, if_neg (by rintro ⟨_, _, _, q⟩; exact h4 q)]
    · rw [if_pos h2, if_neg (by rintro ⟨_, q, _⟩; exact h2 q)]
  · rw [if_pos h1, if_neg (by rintro ⟨q, _⟩; exact h1 q)]
theorem mcan (a b x : Int32) (S : ST) : G_X6_canShare_51 a b x S = some (if (0 ≤ a ∧ a ≤ 3) ∧ (0 ≤ b ∧ b ≤ 3) ∧ ¬ a = b ∧ (0 ≤ x ∧ x ≤ (1 <<< (S.1 52 1 &&& 31)) - 1) then 1 else 0, S) := by
  simp only [G_X6_canShare_51, isCrew, bndS, ite10, isSet]
  by_cases h1 : 0 ≤ a ∧ a ≤ 3
  · rw [if_neg (not_not_intro h1)]
    by_cases h2 : 0 ≤ b ∧ b ≤ 3
    · rw [if_neg (not_not_intro h2)]
      by_cases h3 : a = b
      · rw [if_pos h3, if_neg (by rintro ⟨_, _, q, _⟩; exact q h3)]
      · rw [if_neg h3]
        by_cases h4 : 0 ≤ x ∧ x ≤ (1 <<< (S.1 52 1 &&& 31)) - 1
        · rw [if_neg (not_not_intro h4), if_pos ⟨h1, h2, h3, h4⟩]
        · rw [if_pos h4, if_neg (by rintro ⟨_, _, _, q⟩; exact h4 q)]
    · rw [if_pos h2, if_neg (by rintro ⟨_, q, _⟩; exact h2 q)]
  · rw [if_pos h1, if_neg (by rintro ⟨q, _⟩; exact h1 q)]
theorem canB {S : ST} (h : Inv S) {a b x : Int32} : ((0 ≤ a ∧ a < 4) ∧ (0 ≤ b ∧ b < 4) ∧ ¬ a = b ∧ (0 ≤ x ∧ x < 1 <<< (S.1 1 0 &&& 31))) ↔ ((0 ≤ a ∧ a ≤ 3) ∧ (0 ≤ b ∧ b ≤ 3) ∧ ¬ a = b ∧ (0 ≤ x ∧ x ≤ (1 <<< (S.1 52 1 &&& 31)) - 1)) := by
  rw [setB h, crewB, crewB]
theorem op_share (a b x : Int32) : Ok (G_X5_share_0 a b x) (G_X6_share_51 a b x) := by
  intro S h
  obtain ⟨m, hm, hs⟩ := starsN h
  by_cases hc : (0 ≤ a ∧ a < 4) ∧ (0 ≤ b ∧ b < 4) ∧ ¬ a = b ∧ (0 ≤ x ∧ x < 1 <<< (S.1 1 0 &&& 31))
  · have hc' := hc
    have hc2 := (canB h).mp hc
    obtain ⟨ha, hb, -, hx⟩ := hc
    obtain ⟨k1, hk1, rfl⟩ := crewN ha
    obtain ⟨k2, hk2, rfl⟩ := crewN hb
    obtain ⟨y, hy, rfl⟩ := setNN h hm hs hx
    have hy2 : y < 1024 := by have := pw_le hm; omega
    obtain ⟨T, q1, q2, -⟩ := cShare h.1 h.2.1 hm hs hk1 hk2 hy2
    have hS := wkSame q2
    have e52 : T.1 52 = S.1 52 := hS.1 52 (by omega)
    obtain ⟨T2, w, q3, q4, -⟩ := mShare (S := T) (m := m) (by rw [e52]; exact h.2.1) hm (by rw [e52]; exact hs) hk1 hk2 hy2
    rw [e52] at q3
    refine ⟨shI (S.1 52) (S.1 52 (8 + 2 * k1)) (S.1 52 (8 + 2 * k2)) m (nI y) y, T, T2, ?_, ?_, (h.same hS).same (s56Same q4)⟩
    · simp only [G_X5_share_0, ccan, bndS, ite10, q1]
      rw [if_neg (not_not_intro hc')]
    · simp only [G_X6_share_51, mcan, bndS, ite10, q3, e52]
      rw [if_neg (not_not_intro hc2)]
  · refine ok_fin h (i := 0) (by decide) ?_ ?_
    · simp only [G_X5_share_0, ccan, bndS, ite10, fb0]
      rw [if_pos hc]
    · intro S1 h1
      simp only [G_X6_share_51, mcan, bndS, ite10, nb0, h1 52 (by omega)]
      rw [if_pos (fun q => hc ((canB h).mpr q))]
theorem op_longer (a b x : Int32) : Ok (G_X5_longer_0 a b x) (G_X6_longer_51 a b x) := by
  intro S h
  obtain ⟨m, hm, hs⟩ := starsN h
  by_cases hc : (0 ≤ a ∧ a < 4) ∧ (0 ≤ b ∧ b < 4) ∧ ¬ a = b ∧ (0 ≤ x ∧ x < 1 <<< (S.1 1 0 &&& 31))
  · have hc' := hc
    have hc2 := (canB h).mp hc
    obtain ⟨ha, hb, -, hx⟩ := hc
    obtain ⟨k1, hk1, rfl⟩ := crewN ha
    obtain ⟨k2, hk2, rfl⟩ := crewN hb
    obtain ⟨y, hy, rfl⟩ := setNN h hm hs hx
    have hy2 : y < 1024 := by have := pw_le hm; omega
    obtain ⟨T, q1, q2, q0⟩ := cShare h.1 h.2.1 hm hs hk1 hk2 hy2
    have hS := wkSame q2
    have e52 : T.1 52 = S.1 52 := hS.1 52 (by omega)
    obtain ⟨T2, w, q3, q4, q5, q6⟩ := mShare (S := T) (m := m) (by rw [e52]; exact h.2.1) hm (by rw [e52]; exact hs) hk1 hk2 hy2
    rw [e52] at q3 q6
    have e2 : T2.1 52 = S.1 52 := by rw [q4 52 (by omega), e52]
    obtain ⟨T3, q7, q8⟩ := mlonger (m := m) e2 h.2.1 hm hs hk1 hk2 hy2 q5
    rw [← q6] at q7
    refine ⟨lgI (S.1 52) (S.1 52 (8 + 2 * k1)) (S.1 52 (8 + 2 * k2)) m (nI y) (shI (S.1 52) (S.1 52 (8 + 2 * k1)) (S.1 52 (8 + 2 * k2)) m (nI y) y), T, T3, ?_, ?_, ((h.same hS).same (s56Same q4)).same (s56Same q8)⟩
    · simp only [G_X5_longer_0, ccan, bndS, ite10, q1, q0]
      rw [if_neg (not_not_intro hc')]
    · simp only [G_X6_longer_51, mcan, bndS, ite10, q3, e52, q7]
      rw [if_neg (not_not_intro hc2)]
  · refine ok_fin h (i := 0) (by decide) ?_ ?_
    · simp only [G_X5_longer_0, ccan, bndS, ite10, fb0]
      rw [if_pos hc]
    · intro S1 h1
      simp only [G_X6_longer_51, mcan, bndS, ite10, nb0, h1 52 (by omega)]
      rw [if_pos (fun q => hc ((canB h).mpr q))]
