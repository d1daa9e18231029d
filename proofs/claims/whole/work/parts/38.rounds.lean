/-- the cost of a round -/
def rdI (d : Nat → Int32) (p : Int32) (m : Nat) (x : Int32) : Int32 := wkC (mlL d p x m) + d 6 * bcF x
set_option maxRecDepth 100000 in
theorem bc_all : ∀ x, x < 1024 → (decide (0 ≤ bcF (nI x)) && decide (bcF (nI x) ≤ 10)) = true := by decide +kernel
theorem bc_b {x : Nat} (h : x < 1024) : ∃ b : Nat, b ≤ 10 ∧ bcF (nI x) = nI b := by
  have h1 := bc_all x h
  simp only [Bool.and_eq_true, decide_eq_true_eq] at h1
  obtain ⟨b, hb, e⟩ := ofR (n := 11) (by decide) h1.1 (by show _ < (11 : Int32); grind)
  exact ⟨b, by omega, e⟩
theorem stC_b : ∀ (L : List Int32) (q : Int32 × Int32), (0 ≤ q.1 ∧ q.1 ≤ 1000000) → (0 ≤ q.2 ∧ q.2 ≤ 99) → (∀ o, o ∈ L → 0 ≤ o ∧ o ≤ 99) → (0 ≤ (L.foldl stC q).1 ∧ (L.foldl stC q).1 ≤ 1000000) ∧ 0 ≤ (L.foldl stC q).2 ∧ (L.foldl stC q).2 ≤ 99
  | [], _, h1, h2, _ => ⟨h1, h2⟩
  | o :: L, q, h1, h2, hL => by
    have ho := hL o List.mem_cons_self
    have hc := cost_b h2 ho
    refine stC_b L (stC q o) ?_ ho (fun y hy => hL y (List.mem_cons_of_mem _ hy))
    show 0 ≤ imn q.1 ((q.2 + (100 - o)) + imn q.2 (100 - o)) ∧ imn q.1 ((q.2 + (100 - o)) + imn q.2 (100 - o)) ≤ 1000000
    generalize (q.2 + (100 - o)) + imn q.2 (100 - o) = v at hc
    unfold imn
    split <;> grind
theorem wkC_b {L : List Int32} (hL : ∀ o, o ∈ L → 0 ≤ o ∧ o ≤ 99) : 0 ≤ wkC L ∧ wkC L ≤ 99 := by
  obtain ⟨h1, h2⟩ := stC_b L (1000000, 0) (by decide) (by decide) hL
  unfold wkC imn
  split <;> grind
theorem rdI_b {d : Nat → Int32} {p : Int32} {m y : Nat} (hK : SkyK d) (hp : 0 ≤ p ∧ p ≤ 99) (hm : m ≤ 10) (hy : y < 1024) : 0 ≤ rdI d p m (nI y) ∧ rdI d p m (nI y) ≤ 1089 := by
  have h1 := wkC_b (mlL_b (x := nI y) hK hp m hm)
  obtain ⟨b, hb, e⟩ := bc_b hy
  have h6 := hK.2.2.2.2.2.1
  obtain ⟨t, ht, e2⟩ := ofR (x := d 6) (n := 100) (by decide) h6.1 (by show _ < (100 : Int32); grind)
  unfold rdI
  rw [e, e2, pk_mul]
  have h3 : t * b ≤ 990 := Nat.le_trans (Nat.mul_le_mul (show t ≤ 99 by omega) hb) (by decide)
  have h4 : nI (t * b) ≤ 990 := nI_le (b := 990) h3 (by decide)
  have h5 : 0 ≤ nI (t * b) := nI_pos' (by omega)
  generalize nI (t * b) = z at *
  generalize wkC (mlL d p (nI y) m) = w at *
  grind
theorem mat {k : Nat} (hk : k < 4) (S : ST) : G_X6_at_51 (nI k) S = some (S.1 52 (8 + 2 * k), S) := by
  unfold G_X6_at_51
  rw [ix2', if_pos (inB_nI (by omega) (by decide)), cl (by omega)]
theorem mstp {k : Nat} (hk : k < 4) (S : ST) : G_X6_stepsOf_51 (nI k) S = some (S.1 52 (9 + 2 * k), S) := by
  unfold G_X6_stepsOf_51
  rw [ix2', nI_1, if_pos (inB_nI (by omega) (by decide)), cl (by omega), show 8 + 2 * k + 1 = 9 + 2 * k by omega]
theorem crewB {a : Int32} : (0 ≤ a ∧ a < 4) ↔ (0 ≤ a ∧ a ≤ 3) := by grind
theorem crewN {a : Int32} (h : 0 ≤ a ∧ a < 4) : ∃ k : Nat, k < 4 ∧ a = nI k := ofR (n := 4) (by decide) h.1 h.2
theorem setNN {S : ST} {m : Nat} (h : Inv S) (hm : m ≤ 10) (hs : S.1 52 1 = nI m) {x : Int32} (hx : 0 ≤ x ∧ x < 1 <<< (S.1 1 0 &&& 31)) : ∃ y : Nat, y < 2 ^ m ∧ x = nI y := by
  rw [h.1.1, hs, shl1 hm] at hx
  exact ofR (n := 2 ^ m) (by have := pw_le hm; omega) hx.1 hx.2
theorem wkSame {S T : ST} (h : ∀ c, c ≠ 35 → c ≠ 36 → c ≠ 37 → c ≠ 38 → c ≠ 39 → c ≠ 40 → T.1 c = S.1 c) : Same S T := ⟨fun c hc => h c (by omega) (by omega) (by omega) (by omega) (by omega) (by omega), by rw [h 32 (by omega) (by omega) (by omega) (by omega) (by omega) (by omega)], by rw [h 51 (by omega) (by omega) (by omega) (by omega) (by omega) (by omega)], by rw [h 51 (by omega) (by omega) (by omega) (by omega) (by omega) (by omega)]⟩
theorem s56Same {S T : ST} (h : ∀ c, c ≠ 56 → T.1 c = S.1 c) : Same S T := ⟨fun c hc => h c (by omega), by rw [h 32 (by omega)], by rw [h 51 (by omega)], by rw [h 51 (by omega)]⟩
theorem skyWk {S T : ST} {d : Nat → Int32} (hR : SkyR 1 S d) (h : ∀ c, c ≠ 35 → c ≠ 36 → c ≠ 37 → c ≠ 38 → c ≠ 39 → c ≠ 40 → T.1 c = S.1 c) : SkyR 1 T d := hR.cong (fun c a b => h c (by omega) (by omega) (by omega) (by omega) (by omega) (by omega))
theorem mrd {T : ST} {d : Nat → Int32} {m y : Nat} {p : Int32} (hT : T.1 52 = d) (hK : SkyK d) (hm : m ≤ 10) (hs : d 1 = nI m) (hp : 0 ≤ p ∧ p ≤ 99) (hy : y < 1024) : ∃ T', G_X6_roundOf_51 p (nI y) T = some (rdI d p m (nI y), T') ∧ ∀ r, r ≠ 56 → T'.1 r = T.1 r := by
  subst hT
  exact mround hK hm hs hp hy
theorem op_round (a b : Int32) : Ok (G_X5_round_0 a b) (G_X6_round_51 a b) := by
  intro S h
  obtain ⟨m, hm, hs⟩ := starsN h
  by_cases ha : 0 ≤ a ∧ a < 4
  · by_cases hb : 0 ≤ b ∧ b < 1 <<< (S.1 1 0 &&& 31)
    · have ha' := ha
      have hb' := hb
      obtain ⟨k, hk, rfl⟩ := crewN ha
      obtain ⟨y, hy, rfl⟩ := setNN h hm hs hb
      have hy2 : y < 1024 := by have := pw_le hm; omega
      obtain ⟨T, q1, q2⟩ := cstand35 (p := S.1 52 (8 + 2 * k)) h.1 hm hs
      have hS := wkSame (S := S) (T := T) (fun c a b e _ _ _ => q2.1 c a b e)
      have e52 : T.1 52 = S.1 52 := hS.1 52 (by omega)
      obtain ⟨T2, q3, q4⟩ := mrd (T := T) (p := S.1 52 (8 + 2 * k)) e52 h.2.1 hm hs (h.2.1.2.2.2.2.2.2.2.1 k hk) hy2
      refine ⟨rdI (S.1 52) (S.1 52 (8 + 2 * k)) m (nI y), T, T2, ?_, ?_, (h.same hS).same (s56Same q4)⟩
      · simp only [G_X5_round_0, bel, bndS, ite10, cset]
        rw [if_neg (not_not_intro ha'), if_neg (not_not_intro hb'), if_pos (inB_nI hk (by decide)), cl (by omega), show S.1 6 k = _ from h.1.2.2.2.2.2.1 k hk, q1, bndS]
        simp only [csteps35 hm q2, bndS]
        rfl
      · simp only [G_X6_round_51, isCrew, bndS, ite10, isSet, mat hk, e52, q3]
        rw [if_neg (not_not_intro (crewB.mp ha')), if_neg (not_not_intro ((setB h).mp hb'))]
    · refine ok_fin h (i := 0) (by decide) ?_ ?_
      · simp only [G_X5_round_0, bel, bndS, ite10, cset, fb0]
        rw [if_neg (not_not_intro ha), if_pos hb]
      · intro S1 h1
        simp only [G_X6_round_51, isCrew, bndS, ite10, isSet, nb0, h1 52 (by omega)]
        rw [if_neg (not_not_intro (crewB.mp ha)), if_pos (fun q => hb ((setB h).mpr q))]
  · refine ok_fin h (i := 0) (by decide) ?_ ?_
    · simp only [G_X5_round_0, bel, bndS, ite10, fb0]
      rw [if_pos ha]
    · intro S1 h1
      simp only [G_X6_round_51, isCrew, bndS, ite10, nb0]
      rw [if_pos (fun q => ha (crewB.mpr q))]
/-- the best set -/
def stT (d : Nat → Int32) (p w : Int32) (m : Nat) (i : Nat) (a : Int32) : Int32 := if ¬ worI d m (nI i) ≤ worI d m a ∧ ¬ d 7 < bcF (nI i) ∧ ¬ w < rdI d p m (nI i) then nI i else a
theorem sh0 : ∀ j, j < 10 → ¬ (((0 : Int32) >>> (nI j &&& 31)) &&& 1 = 1) := by decide
theorem worI_0 (d : Nat → Int32) {m : Nat} (hm : m ≤ 10) : worI d m 0 = 0 := by
  have := it_inv (f := stW (fun j => d (19 + 4 * j)) 0) (P := fun _ a => a = 0) m 0 0 rfl (fun i a _ hi ha => by
    unfold stW
    rw [if_neg (sh0 i (by omega))]
    exact ha)
  exact this
theorem cbest {S T : ST} {d : Nat → Int32} {p : Int32} {m k : Nat} (hR : SkyR 1 T d) (hm : m ≤ 10) (hs : d 1 = nI m) (hT : Std35 S d p m m T) (hk : k < 4) : ∀ (e i n : Nat) (a : Int32), i + e = 2 ^ m → e < n → G_X5_bestSet_0_27 n (nI k) (worI d m a) a (nI i) T = some (it (stT d p (d (9 + 2 * k)) m) i e a, T) := by
  have hpw := pw_le hm
  intro e
  induction e with
  | zero =>
    intro i n a h1 h2
    obtain ⟨n, rfl⟩ : ∃ n', n = n' + 1 := ⟨n - 1, by omega⟩
    unfold G_X5_bestSet_0_27
    rw [hR.1, hs, shl1 hm, if_pos (nI_le (by omega) (by omega))]
    rfl
  | succ e ih =>
    intro i n a h1 h2
    obtain ⟨n, rfl⟩ : ∃ n', n = n' + 1 := ⟨n - 1, by omega⟩
    unfold G_X5_bestSet_0_27
    rw [hR.1, hs, shl1 hm, if_neg (nI_ge (by omega) (by omega)), cWorth hR hm hs, bndS]
    simp only [it, cbits, bndS, csteps35 hm hT, inB_nI hk (by decide), if_true, cl (show k < 1000 by omega), nI_1]
    rw [show T.1 8 3 = _ from hR.2.2.2.2.1 3 (by omega), show T.1 7 k = _ from hR.2.2.2.2.2.2.1 k hk, show 4 + 3 = 7 from rfl]
    by_cases c1 : worI d m (nI i) ≤ worI d m a
    · have : stT d p (d (9 + 2 * k)) m i a = a := if_neg (fun q => q.1 c1)
      rw [if_pos c1, this]
      exact ih (i + 1) n a (by omega) (by omega)
    · rw [if_neg c1]
      by_cases c2 : d 7 < bcF (nI i)
      · have : stT d p (d (9 + 2 * k)) m i a = a := if_neg (fun q => q.2.1 c2)
        rw [if_pos c2, this]
        exact ih (i + 1) n a (by omega) (by omega)
      · rw [if_neg c2]
        by_cases c3 : d (9 + 2 * k) < rdI d p m (nI i)
        · have : stT d p (d (9 + 2 * k)) m i a = a := if_neg (fun q => q.2.2 c3)
          rw [this]
          refine (if_pos c3).trans ?_
          exact ih (i + 1) n a (by omega) (by omega)
        · have : stT d p (d (9 + 2 * k)) m i a = nI i := if_pos ⟨c1, c2, c3⟩
          rw [this]
          refine (if_neg c3).trans ?_
          exact ih (i + 1) n (nI i) (by omega) (by omega)
theorem mbest {d : Nat → Int32} {m k : Nat} (hK : SkyK d) (hm : m ≤ 10) (hs : d 1 = nI m) (hk : k < 4) : ∀ (e i n : Nat) (a : Int32) (T : ST), T.1 52 = d → i + e = 2 ^ m → e < n → ∃ T', G_X6_bestOf_51_4 n (nI k) a (nI i) T = some (it (stT d (d (8 + 2 * k)) (d (9 + 2 * k)) m) i e a, T') ∧ ∀ r, r ≠ 56 → T'.1 r = T.1 r := by
  have hpw := pw_le hm
  intro e
  induction e with
  | zero =>
    intro i n a T hT h1 h2
    obtain ⟨n, rfl⟩ : ∃ n', n = n' + 1 := ⟨n - 1, by omega⟩
    unfold G_X6_bestOf_51_4
    rw [hT, hs, shl1 hm, if_pos (nI_le (by omega) (by omega))]
    exact ⟨T, rfl, fun _ _ => rfl⟩
  | succ e ih =>
    intro i n a T hT h1 h2
    obtain ⟨n, rfl⟩ : ∃ n', n = n' + 1 := ⟨n - 1, by omega⟩
    have hi : i < 1024 := by omega
    unfold G_X6_bestOf_51_4
    rw [hT, hs, shl1 hm, if_neg (nI_ge (by omega) (by omega))]
    simp only [mWorth hm (show T.1 52 1 = nI m by rw [hT]; exact hs), bndS, hT, mbits hi, mat hk, nI_1, it, show ¬ (1 : Int32) = 0 by decide, if_false, if_true]
    by_cases c1 : worI d m (nI i) ≤ worI d m a
    · have : stT d (d (8 + 2 * k)) (d (9 + 2 * k)) m i a = a := if_neg (fun q => q.1 c1)
      rw [if_pos c1, this]
      exact ih (i + 1) n a T hT (by omega) (by omega)
    · rw [if_neg c1]
      by_cases c2 : d 7 < bcF (nI i)
      · have : stT d (d (8 + 2 * k)) (d (9 + 2 * k)) m i a = a := if_neg (fun q => q.2.1 c2)
        rw [if_pos c2, this]
        exact ih (i + 1) n a T hT (by omega) (by omega)
      · rw [if_neg c2]
        obtain ⟨T2, q3, q4⟩ := mrd (p := d (8 + 2 * k)) hT hK hm hs (hK.2.2.2.2.2.2.2.1 k hk) hi
        have hT2 : T2.1 52 = d := by rw [q4 52 (by omega), hT]
        rw [q3, bndS]
        simp only [mstp hk, bndS, hT2]
        by_cases c3 : d (9 + 2 * k) < rdI d (d (8 + 2 * k)) m (nI i)
        · have : stT d (d (8 + 2 * k)) (d (9 + 2 * k)) m i a = a := if_neg (fun q => q.2.2 c3)
          rw [if_pos c3, this]
          obtain ⟨T3, q5, q6⟩ := ih (i + 1) n a T2 hT2 (by omega) (by omega)
          exact ⟨T3, q5, fun r hr => by rw [q6 r hr, q4 r hr]⟩
        · have : stT d (d (8 + 2 * k)) (d (9 + 2 * k)) m i a = nI i := if_pos ⟨c1, c2, c3⟩
          rw [if_neg c3, this]
          obtain ⟨T3, q5, q6⟩ := ih (i + 1) n (nI i) T2 hT2 (by omega) (by omega)
          exact ⟨T3, q5, fun r hr => by rw [q6 r hr, q4 r hr]⟩
def bsI (d : Nat → Int32) (m k : Nat) : Int32 := it (stT d (d (8 + 2 * k)) (d (9 + 2 * k)) m) 1 (2 ^ m - 1) 0
theorem cBest {S : ST} {d : Nat → Int32} {m k : Nat} (hR : SkyR 1 S d) (hm : m ≤ 10) (hs : d 1 = nI m) (hk : k < 4) : ∃ T, G_X5_bestSet_0 (nI k) S = some (bsI d m k, T) ∧ ∀ c, c ≠ 35 → c ≠ 36 → c ≠ 37 → c ≠ 38 → c ≠ 39 → c ≠ 40 → T.1 c = S.1 c := by
  obtain ⟨T, q1, q2⟩ := cstand35 (p := d (8 + 2 * k)) hR hm hs
  have hc : ∀ c, c ≠ 35 → c ≠ 36 → c ≠ 37 → c ≠ 38 → c ≠ 39 → c ≠ 40 → T.1 c = S.1 c := fun c a b e _ _ _ => q2.1 c a b e
  have hpw := pw_le hm
  have h1 : 0 < 2 ^ m := Nat.two_pow_pos m
  have q3 := cbest (skyWk hR hc) hm hs q2 hk (2 ^ m - 1) 1 3000 0 (by omega) (by omega)
  rw [worI_0 d hm, show nI 1 = 1 from rfl] at q3
  refine ⟨T, ?_, hc⟩
  unfold G_X5_bestSet_0
  rw [if_pos (inB_nI hk (by decide)), cl (by omega), show S.1 6 k = _ from hR.2.2.2.2.2.1 k hk, q1, bndS]
  simp only [q3, bndS]
  rfl
theorem mBest {S : ST} {m k : Nat} (hK : SkyK (S.1 52)) (hm : m ≤ 10) (hs : S.1 52 1 = nI m) (hk : k < 4) : ∃ T, G_X6_bestOf_51 (nI k) S = some (bsI (S.1 52) m k, T) ∧ ∀ r, r ≠ 56 → T.1 r = S.1 r := by
  have hpw := pw_le hm
  have h1 : 0 < 2 ^ m := Nat.two_pow_pos m
  obtain ⟨T, q1, q2⟩ := mbest hK hm hs hk (2 ^ m - 1) 1 3000 0 S rfl (by omega) (by omega)
  rw [show nI 1 = 1 from rfl] at q1
  refine ⟨T, ?_, q2⟩
  unfold G_X6_bestOf_51
  rw [q1]
  rfl
theorem op_best (a : Int32) : Ok (G_X5_best_0 a) (G_X6_best_51 a) := by
  intro S h
  obtain ⟨m, hm, hs⟩ := starsN h
  by_cases ha : 0 ≤ a ∧ a < 4
  · have ha' := ha
    obtain ⟨k, hk, rfl⟩ := crewN ha
    obtain ⟨T, q1, q2⟩ := cBest h.1 hm hs hk
    have hS := wkSame q2
    have e52 : T.1 52 = S.1 52 := hS.1 52 (by omega)
    obtain ⟨T2, q3, q4⟩ := mBest (S := T) (by rw [e52]; exact h.2.1) hm (by rw [e52]; exact hs) hk
    rw [e52] at q3
    refine ⟨bsI (S.1 52) m k, T, T2, ?_, ?_, (h.same hS).same (s56Same q4)⟩
    · simp only [G_X5_best_0, bel, bndS, ite10, q1]
      rw [if_neg (not_not_intro ha')]
    · simp only [G_X6_best_51, isCrew, bndS, ite10, q3]
      rw [if_neg (not_not_intro (crewB.mp ha'))]
  · refine ok_fin h (i := 0) (by decide) ?_ ?_
    · simp only [G_X5_best_0, bel, bndS, ite10, fb0]
      rw [if_pos ha]
    · intro S1 h1
      simp only [G_X6_best_51, isCrew, bndS, ite10, nb0]
      rw [if_pos (fun q => ha (crewB.mpr q))]
theorem op_bestWorth (a : Int32) : Ok (G_X5_bestWorth_0 a) (G_X6_bestWorth_51 a) := by
  intro S h
  obtain ⟨m, hm, hs⟩ := starsN h
  by_cases ha : 0 ≤ a ∧ a < 4
  · have ha' := ha
    obtain ⟨k, hk, rfl⟩ := crewN ha
    obtain ⟨T, q1, q2⟩ := cBest h.1 hm hs hk
    have hS := wkSame q2
    have e52 : T.1 52 = S.1 52 := hS.1 52 (by omega)
    obtain ⟨T2, q3, q4⟩ := mBest (S := T) (by rw [e52]; exact h.2.1) hm (by rw [e52]; exact hs) hk
    rw [e52] at q3
    have e2 : T2.1 52 = S.1 52 := by rw [q4 52 (by omega), e52]
    refine ⟨worI (S.1 52) m (bsI (S.1 52) m k), T, T2, ?_, ?_, (h.same hS).same (s56Same q4)⟩
    · simp only [G_X5_bestWorth_0, bel, bndS, ite10, q1, cWorth (skyWk h.1 q2) hm hs]
      rw [if_neg (not_not_intro ha')]
    · simp only [G_X6_bestWorth_51, isCrew, bndS, ite10, q3, mWorth (S := T2) hm (by rw [e2]; exact hs), e2]
      rw [if_neg (not_not_intro (crewB.mp ha'))]
  · refine ok_fin h (i := 0) (by decide) ?_ ?_
    · simp only [G_X5_bestWorth_0, bel, bndS, ite10, fb0]
      rw [if_pos ha]
    · intro S1 h1
      simp only [G_X6_bestWorth_51, isCrew, bndS, ite10, nb0]
      rw [if_pos (fun q => ha (crewB.mpr q))]
