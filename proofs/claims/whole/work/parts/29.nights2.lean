def wdR (w u : Int32) (K : Nat → Int32) (k d : Nat) (f : Nat → Int32) : Nat → Int32 := fun j => if k ≤ j ∧ j < k + d then lifeN w (K j) (f j) u else f j
theorem cwd4 {m : Nat} (hm : m ≤ 10) : ∀ (d k n : Nat) (S : ST), S.1 1 0 = nI m → k + d = m → d < n → G_X1_wearDown_1_4_2 n (nI k) S = some (sr S 4 (wdR (S.1 8 1) (S.1 8 0) (S.1 2) k d (S.1 4))) := by
  intro d
  induction d with
  | zero =>
    intro k n S hs h1 h2
    obtain ⟨n, rfl⟩ : ∃ n', n = n' + 1 := ⟨n - 1, by omega⟩
    unfold G_X1_wearDown_1_4_2
    rw [hs, if_pos (nI_le (by omega) (by omega))]
    have : wdR (S.1 8 1) (S.1 8 0) (S.1 2) k 0 (S.1 4) = S.1 4 := by
      funext i
      unfold wdR
      rw [if_neg (by omega)]
    rw [this, sr_self]
  | succ d ih =>
    intro k n S hs h1 h2
    obtain ⟨n, rfl⟩ : ∃ n', n = n' + 1 := ⟨n - 1, by omega⟩
    unfold G_X1_wearDown_1_4_2
    rw [hs, if_neg (nI_ge (by omega) (by omega))]
    simp only [inB_nI (show k < 10 by omega) (by decide), if_true, cl (show k < 1000 by omega), cnext, bndS]
    rw [nI_1, ih (k + 1) n _ (by rw [wr_ne (by omega)]; exact hs) (by omega) (by omega)]
    rw [wr_ne (show 8 ≠ 4 by omega), wr_ne (show 2 ≠ 4 by omega), wr_eq, wr_sr, sr_sr]
    congr 2
    funext i
    simp only [wdR, updAt]
    by_cases hi : i = k
    · subst hi
      rw [if_neg (by omega), if_pos rfl, if_pos (by omega)]
    · rw [if_neg hi]
      by_cases hc : k + 1 ≤ i ∧ i < k + 1 + d
      · rw [if_pos hc, if_pos (by omega)]
      · rw [if_neg hc, if_neg (by omega)]
theorem cwear4 {S : ST} {m : Nat} (hm : m ≤ 10) (hs : S.1 1 0 = nI m) : G_X1_wearDown_1_4 S = some ((), sr S 4 (wdR (S.1 8 1) (S.1 8 0) (S.1 2) 0 m (S.1 4))) := by
  have := cwd4 hm m 0 3000 S hs (by omega) (by omega)
  rw [show nI 0 = 0 from rfl] at this
  simp only [G_X1_wearDown_1_4, this, bndS]
theorem cwd41 {m : Nat} (hm : m ≤ 10) : ∀ (d k n : Nat) (S : ST), S.1 1 0 = nI m → k + d = m → d < n → G_X1_wearDown_1_41_2 n (nI k) S = some (sr S 41 (wdR (S.1 8 1) (S.1 8 0) (S.1 2) k d (S.1 41))) := by
  intro d
  induction d with
  | zero =>
    intro k n S hs h1 h2
    obtain ⟨n, rfl⟩ : ∃ n', n = n' + 1 := ⟨n - 1, by omega⟩
    unfold G_X1_wearDown_1_41_2
    rw [hs, if_pos (nI_le (by omega) (by omega))]
    have : wdR (S.1 8 1) (S.1 8 0) (S.1 2) k 0 (S.1 41) = S.1 41 := by
      funext i
      unfold wdR
      rw [if_neg (by omega)]
    rw [this, sr_self]
  | succ d ih =>
    intro k n S hs h1 h2
    obtain ⟨n, rfl⟩ : ∃ n', n = n' + 1 := ⟨n - 1, by omega⟩
    unfold G_X1_wearDown_1_41_2
    rw [hs, if_neg (nI_ge (by omega) (by omega))]
    simp only [inB_nI (show k < 10 by omega) (by decide), if_true, cl (show k < 1000 by omega), cnext, bndS]
    rw [nI_1, ih (k + 1) n _ (by rw [wr_ne (by omega)]; exact hs) (by omega) (by omega)]
    rw [wr_ne (show 8 ≠ 41 by omega), wr_ne (show 2 ≠ 41 by omega), wr_eq, wr_sr, sr_sr]
    congr 2
    funext i
    simp only [wdR, updAt]
    by_cases hi : i = k
    · subst hi
      rw [if_neg (by omega), if_pos rfl, if_pos (by omega)]
    · rw [if_neg hi]
      by_cases hc : k + 1 ≤ i ∧ i < k + 1 + d
      · rw [if_pos hc, if_pos (by omega)]
      · rw [if_neg hc, if_neg (by omega)]
theorem cwear41 {S : ST} {m : Nat} (hm : m ≤ 10) (hs : S.1 1 0 = nI m) : G_X1_wearDown_1_41 S = some ((), sr S 41 (wdR (S.1 8 1) (S.1 8 0) (S.1 2) 0 m (S.1 41))) := by
  have := cwd41 hm m 0 3000 S hs (by omega) (by omega)
  rw [show nI 0 = 0 from rfl] at this
  simp only [G_X1_wearDown_1_41, this, bndS]
theorem lI_succ (w k u : Int32) : ∀ (n : Nat) (l : Int32), lI w k u (n + 1) l = lifeN w k (lI w k u n l) u
  | 0, _ => rfl
  | n + 1, l => by
    show lI w k u (n + 1) (lifeN w k l u) = _
    rw [lI_succ w k u n]
    rfl
theorem ngs_succ (m : Nat) : ∀ (n : Nat) (d : Nat → Int32), ngs m (n + 1) d = ngD (ngs m n d) m
  | 0, _ => rfl
  | n + 1, d => by
    show ngs m (n + 1) (ngD d m) = _
    rw [ngs_succ m n]
    rfl
def wds (w u : Int32) (K : Nat → Int32) (m : Nat) : Nat → (Nat → Int32) → (Nat → Int32)
  | 0, f => f
  | n + 1, f => wds w u K m n (wdR w u K 0 m f)
theorem wds_star {w u : Int32} {K : Nat → Int32} {m j : Nat} (hj : j < m) : ∀ (n : Nat) (f : Nat → Int32), wds w u K m n f j = lI w (K j) u n (f j)
  | 0, _ => rfl
  | n + 1, f => by
    show wds w u K m n (wdR w u K 0 m f) j = _
    rw [wds_star hj n]
    unfold wdR
    rw [if_pos (by omega)]
    rfl
/-- set aside, lay back -/
def cp72 (f g : Nat → Int32) : Nat → Int32 := fun i => if i < 72 then f i else g i
def asd (S : ST) : ST := sr S 54 (cp72 (S.1 52) (S.1 54))
theorem maside2 : ∀ (d k n : Nat) (S : ST), k + d = 72 → d < n → G_X6_setsAside_51_2 n (nI k) S = some (sr S 54 (fun i => if k ≤ i ∧ i < 72 then S.1 52 i else S.1 54 i)) := by
  intro d
  induction d with
  | zero =>
    intro k n S h1 h2
    obtain ⟨n, rfl⟩ : ∃ n', n = n' + 1 := ⟨n - 1, by omega⟩
    unfold G_X6_setsAside_51_2
    rw [if_pos (show (72 : Int32) ≤ nI k from nI_le (a := 72) (by omega) (by omega))]
    have : (fun i => if k ≤ i ∧ i < 72 then S.1 52 i else S.1 54 i) = S.1 54 := by
      funext i
      rw [if_neg (by omega)]
    rw [this, sr_self]
  | succ d ih =>
    intro k n S h1 h2
    obtain ⟨n, rfl⟩ : ∃ n', n = n' + 1 := ⟨n - 1, by omega⟩
    unfold G_X6_setsAside_51_2
    rw [if_neg (show ¬ (72 : Int32) ≤ nI k from nI_ge (b := 72) (by omega) (by omega)), if_pos (inB_nI (by omega) (by decide)), if_pos (inB_nI (by omega) (by decide)), cl (by omega)]
    rw [nI_1, ih (k + 1) n _ (by omega) (by omega), wr_ne (show 52 ≠ 54 by omega), wr_eq, wr_sr, sr_sr]
    congr 2
    funext i
    simp only [updAt]
    by_cases hi : i = k
    · subst hi
      rw [if_neg (by omega), if_pos rfl, if_pos (by omega)]
    · rw [if_neg hi]
      by_cases hc : k + 1 ≤ i ∧ i < 72
      · rw [if_pos hc, if_pos (by omega)]
      · rw [if_neg hc, if_neg (by omega)]
theorem maside (S : ST) : G_X6_setsAside_51 S = some ((), sr S 54 (cp72 (S.1 52) (S.1 54))) := by
  have := maside2 72 0 3000 S (by omega) (by omega)
  rw [show nI 0 = 0 from rfl] at this
  have e : (fun i => if 0 ≤ i ∧ i < 72 then S.1 52 i else S.1 54 i) = cp72 (S.1 52) (S.1 54) := by
    funext i
    unfold cp72
    by_cases h : i < 72
    · rw [if_pos (by omega), if_pos h]
    · rw [if_neg (by omega), if_neg h]
  rw [e] at this
  simp only [G_X6_setsAside_51, this, bndS]
theorem mback02 : ∀ (d k n : Nat) (S : ST), k + d = 72 → d < n → G_X6_laysBack_51_2 n (nI k) S = some (sr S 52 (fun i => if k ≤ i ∧ i < 72 then S.1 54 i else S.1 52 i)) := by
  intro d
  induction d with
  | zero =>
    intro k n S h1 h2
    obtain ⟨n, rfl⟩ : ∃ n', n = n' + 1 := ⟨n - 1, by omega⟩
    unfold G_X6_laysBack_51_2
    rw [if_pos (show (72 : Int32) ≤ nI k from nI_le (a := 72) (by omega) (by omega))]
    have : (fun i => if k ≤ i ∧ i < 72 then S.1 54 i else S.1 52 i) = S.1 52 := by
      funext i
      rw [if_neg (by omega)]
    rw [this, sr_self]
  | succ d ih =>
    intro k n S h1 h2
    obtain ⟨n, rfl⟩ : ∃ n', n = n' + 1 := ⟨n - 1, by omega⟩
    unfold G_X6_laysBack_51_2
    rw [if_neg (show ¬ (72 : Int32) ≤ nI k from nI_ge (b := 72) (by omega) (by omega)), if_pos (inB_nI (by omega) (by decide)), if_pos (inB_nI (by omega) (by decide)), cl (by omega)]
    rw [nI_1, ih (k + 1) n _ (by omega) (by omega), wr_ne (show 54 ≠ 52 by omega), wr_eq, wr_sr, sr_sr]
    congr 2
    funext i
    simp only [updAt]
    by_cases hi : i = k
    · subst hi
      rw [if_neg (by omega), if_pos rfl, if_pos (by omega)]
    · rw [if_neg hi]
      by_cases hc : k + 1 ≤ i ∧ i < 72
      · rw [if_pos hc, if_pos (by omega)]
      · rw [if_neg hc, if_neg (by omega)]
theorem mback0 (S : ST) : G_X6_laysBack_51 S = some ((), sr S 52 (cp72 (S.1 54) (S.1 52))) := by
  have := mback02 72 0 3000 S (by omega) (by omega)
  rw [show nI 0 = 0 from rfl] at this
  have e : (fun i => if 0 ≤ i ∧ i < 72 then S.1 54 i else S.1 52 i) = cp72 (S.1 54) (S.1 52) := by
    funext i
    unfold cp72
    by_cases h : i < 72
    · rw [if_pos (by omega), if_pos h]
    · rw [if_neg (by omega), if_neg h]
  rw [e] at this
  simp only [G_X6_laysBack_51, this, bndS]
theorem asdSame (S : ST) : Same S (asd S) := ⟨fun c hc => sr_ne (by omega), by unfold asd; rw [sr_ne (by omega)], by unfold asd; rw [sr_ne (by omega)], by unfold asd; rw [sr_ne (by omega)]⟩
theorem asd52 (S : ST) : (asd S).1 52 = S.1 52 := sr_ne (by omega)
theorem mback {S : ST} {f : Nat → Int32} (hf : ∀ i, 72 ≤ i → f i = S.1 52 i) : G_X6_laysBack_51 (sr (asd S) 52 f) = some ((), asd S) := by
  rw [mback0, sr_eq, sr_sr, sr_ne (by omega)]
  have e : (asd S).1 54 = cp72 (S.1 52) (S.1 54) := sr_eq
  have : cp72 ((asd S).1 54) f = (asd S).1 52 := by
    rw [e, asd52]
    funext i
    unfold cp72
    by_cases h : i < 72
    · rw [if_pos h, if_pos h]
    · rw [if_neg h, hf i (by omega)]
  rw [this, sr_self]
theorem mback' {S : ST} {f : Nat → Int32} (hf : ∀ i, 72 ≤ i → f i = S.1 52 i) {T : ST} (hT : T = sr (asd S) 52 f) : G_X6_laysBack_51 T = some ((), asd S) := by rw [hT]; exact mback hf
theorem ngs_hi {m : Nat} (hm : m ≤ 10) (n : Nat) (d : Nat → Int32) {i : Nat} (hi : 72 ≤ i) : ngs m n d i = d i := ngs_oth (by omega) (by omega) n d
theorem masd (S : ST) : G_X6_setsAside_51 S = some ((), asd S) := maside S
/-- first in a row -/
def fst0 (P : Nat → Bool) : Nat → Nat → Nat
  | 0, k => k
  | d + 1, k => if P k = true then k else fst0 P d (k + 1)
theorem fst0_le (P : Nat → Bool) : ∀ d k, k ≤ fst0 P d k ∧ fst0 P d k ≤ k + d
  | 0, k => ⟨Nat.le_refl _, Nat.le_refl _⟩
  | d + 1, k => by
    unfold fst0
    have := fst0_le P d (k + 1)
    split <;> omega
theorem fst0_congr {P Q : Nat → Bool} (h : ∀ k, P k = Q k) : ∀ d k, fst0 P d k = fst0 Q d k
  | 0, k => rfl
  | d + 1, k => by
    unfold fst0
    rw [fst0_congr h d (k + 1)]
    rw [h k]
theorem starB {S : ST} (h : Inv S) {a : Int32} : (0 ≤ a ∧ a < S.1 1 0) ↔ (0 ≤ a ∧ a ≤ S.1 52 1 - 1) := by
  have h1 := h.1.1
  have h2 := h.2.1.2.1
  rw [h1]
  grind
theorem op_ahead (a b : Int32) : Ok (G_X5_ahead_0 a b) (G_X6_ahead_51 a b) := by
  intro S h
  obtain ⟨m, hm, hs⟩ := starsN h
  have hR := h.1
  have e0 : S.1 1 0 = S.1 52 1 := hR.1
  by_cases ha : 0 ≤ a ∧ a < S.1 1 0
  · by_cases hb : 0 ≤ b ∧ b ≤ 200
    · rw [e0, hs] at ha
      obtain ⟨k, hk, rfl⟩ := ofR (by omega) ha.1 ha.2
      obtain ⟨N, hN, rfl⟩ := ofR (n := 201) (by decide) hb.1 (by show _ < (201 : Int32); grind)
      have hl : ∀ (d j n : Nat) (l : Int32), j + d = N → d < n → G_X1_lifeBehind_1_11 n (nI k) (S.1 8 0) (nI N) l (nI j) S = some (lI (S.1 8 1) (S.1 2 k) (S.1 8 0) d l, S) := by
        intro d
        induction d with
        | zero =>
          intro j n l h1 h2
          obtain ⟨n, rfl⟩ : ∃ n', n = n' + 1 := ⟨n - 1, by omega⟩
          unfold G_X1_lifeBehind_1_11
          rw [if_pos (nI_le (by omega) (by omega))]
          rfl
        | succ d ih =>
          intro j n l h1 h2
          obtain ⟨n, rfl⟩ : ∃ n', n = n' + 1 := ⟨n - 1, by omega⟩
          unfold G_X1_lifeBehind_1_11
          rw [if_neg (nI_ge (by omega) (by omega)), if_pos (inB_nI (by omega) (by decide)), cl (by omega), cnext, bndS]
          simp only []
          rw [nI_1, ih (j + 1) n _ (by omega) (by omega)]
          rfl
      have hl0 := hl N 0 3000 (S.1 4 k) (by omega) (by omega)
      rw [show nI 0 = 0 from rfl] at hl0
      refine ⟨lI (S.1 8 1) (S.1 2 k) (S.1 8 0) N (S.1 4 k), S, asd S, ?_, ?_, h.same (asdSame S)⟩
      · simp only [G_X5_ahead_0, bel, wit, bndS, ite10, e0, hs]
        rw [if_neg (not_not_intro ha), if_neg (not_not_intro hb)]
        simp only [G_X1_lifeBehind_1]
        rw [if_pos (inB_nI (by omega) (by decide)), cl (by omega), hl0]
        rfl
      · simp only [G_X6_ahead_51, isStar, in1, bndS, ite10, masd]
        rw [if_neg (by rw [hs]; grind), if_neg (not_not_intro hb)]
        rw [mnights hm (by rw [asd52]; exact hs) (by omega), bndS]
        simp only [mget2 (show k < 10 by omega), bndS]
        rw [mback (fun i hi => by rw [asd52, ngs_hi hm _ _ hi]), bndS, sr_eq, ngs_star hk, asd52]
        rw [show S.1 8 1 = S.1 52 5 from hR.2.2.2.2.1 1 (by omega), show S.1 8 0 = S.1 52 4 from hR.2.2.2.2.1 0 (by omega), hR.2.2.2.2.2.2.2.1 k (by omega), show S.1 4 k = S.1 52 (18 + 4 * k) from hR.2.2.2.2.2.2.2.2.2.1 k (by omega)]
    · refine ok_fin h (i := 0) (by decide) ?_ ?_
      · simp only [G_X5_ahead_0, bel, wit, bndS, ite10, fb0]
        rw [if_neg (by grind), if_pos hb]
      · intro S1 h1
        simp only [G_X6_ahead_51, isStar, in1, bndS, ite10, nb0, h1 52 (by omega)]
        rw [if_neg (by grind), if_pos hb]
  · refine ok_fin h (i := 0) (by decide) ?_ ?_
    · simp only [G_X5_ahead_0, bel, wit, bndS, ite10, fb0]
      rw [if_pos ha]
    · intro S1 h1
      simp only [G_X6_ahead_51, isStar, in1, bndS, ite10, nb0, h1 52 (by omega)]
      rw [if_pos (fun q => ha ((starB h).mpr q))]
theorem fb3 {S : ST} : ((G_X5_finding_0 3 S).bind fun q => some (q.1, q.2)) = G_X5_finding_0 (nI 3) S := fbind (i := 3)
theorem nb3 {S : ST} : ((G_X6_no_51 3 S).bind fun q => some (q.1, q.2)) = G_X6_no_51 (nI 3) S := nbind (i := 3)
theorem fb4 {S : ST} : ((G_X5_finding_0 4 S).bind fun q => some (q.1, q.2)) = G_X5_finding_0 (nI 4) S := fbind (i := 4)
theorem nb4 {S : ST} : ((G_X6_no_51 4 S).bind fun q => some (q.1, q.2)) = G_X6_no_51 (nI 4) S := nbind (i := 4)
theorem fb2 {S : ST} : ((G_X5_finding_0 2 S).bind fun q => some (q.1, q.2)) = G_X5_finding_0 (nI 2) S := fbind (i := 2)
theorem nb2 {S : ST} : ((G_X6_no_51 2 S).bind fun q => some (q.1, q.2)) = G_X6_no_51 (nI 2) S := nbind (i := 2)
theorem fb5 {S : ST} : ((G_X5_finding_0 5 S).bind fun q => some (q.1, q.2)) = G_X5_finding_0 (nI 5) S := fbind (i := 5)
theorem nb5 {S : ST} : ((G_X6_no_51 5 S).bind fun q => some (q.1, q.2)) = G_X6_no_51 (nI 5) S := nbind (i := 5)
theorem fb6 {S : ST} : ((G_X5_finding_0 6 S).bind fun q => some (q.1, q.2)) = G_X5_finding_0 (nI 6) S := fbind (i := 6)
theorem nb6 {S : ST} : ((G_X6_no_51 6 S).bind fun q => some (q.1, q.2)) = G_X6_no_51 (nI 6) S := nbind (i := 6)
/-- findings behind scratch -/
theorem ok_fin2 {S S1 S2 : ST} (h : Inv S) {i : Nat} (hi : i < 7) {f g : ST → Option (Int32 × ST)} (s1 : Same S S1) (hf : f S = G_X5_finding_0 (nI i) S1) (s2 : Same (wr S1 42 i (S1.1 42 i + 1)) S2) (hg : g (wr S1 42 i (S1.1 42 i + 1)) = G_X6_no_51 (nI i) S2) : ∃ r S1 S2, f S = some (r, S1) ∧ g S1 = some (r, S2) ∧ Inv S2 := by
  refine ⟨-1000001 - nI i, _, _, by rw [hf, fnd hi], by rw [hg, nof hi], ?_⟩
  refine ((h.same s1).fin hi).same ?_
  have e5 : S2.1 55 = S1.1 55 := (s2.1 55 (by omega)).trans (wr_ne (by omega))
  refine ⟨fun c hc => ?_, ?_, ?_, ?_⟩
  · unfold finS
    by_cases h5 : c = 55
    · subst h5
      rw [wr_eq, wr_eq, wr_ne (show 55 ≠ 42 by omega), e5]
    · rw [wr_ne h5, wr_ne h5]
      exact s2.1 c hc
  · unfold finS
    rw [wr_ne (show 32 ≠ 55 by omega), wr_ne (show 32 ≠ 55 by omega)]
    exact s2.2.1
  · unfold finS
    rw [wr_ne (show 51 ≠ 55 by omega), wr_ne (show 51 ≠ 55 by omega)]
    exact s2.2.2.1
  · unfold finS
    rw [wr_ne (show 51 ≠ 55 by omega), wr_ne (show 51 ≠ 55 by omega)]
    exact s2.2.2.2
def darkB (d : Nat → Int32) (k j : Nat) : Bool := decide (lI (d 5) (d (16 + 4 * k)) (d 4) j (d (18 + 4 * k)) ≤ dimK (d 5) (d (16 + 4 * k)))
def laN (d : Nat → Int32) (k : Nat) : Nat := fst0 (darkB d k) 201 0
theorem clast {S : ST} {k : Nat} (w u K l0 : Int32) (hw : S.1 8 1 = w) (hu : S.1 8 0 = u) (P : Nat → Bool) (hP : ∀ j, P j = true ↔ lI w K u j l0 ≤ dimK w K) : ∀ (d j n : Nat), j + d = 201 → d < n → G_X1_nightsBright_1_10 n K (lI w K u j l0) (nI j) S = some (nI (fst0 P d j), S) := by
  intro d
  induction d with
  | zero =>
    intro j n h1 h2
    obtain ⟨n, rfl⟩ : ∃ n', n = n' + 1 := ⟨n - 1, by omega⟩
    unfold G_X1_nightsBright_1_10
    rw [if_pos (show (200 : Int32) < nI j from nI_lt (a := 200) (by omega) (by omega))]
    rfl
  | succ d ih =>
    intro j n h1 h2
    obtain ⟨n, rfl⟩ : ∃ n', n = n' + 1 := ⟨n - 1, by omega⟩
    unfold G_X1_nightsBright_1_10
    rw [if_neg (show ¬ (200 : Int32) < nI j from nI_nlt (a := 200) (by omega) (by omega)), cbright, bndS, hw]
    unfold fst0
    by_cases hp : P j = true
    · rw [if_pos hp, if_pos ((hP j).mp hp)]
      simp only [if_true]
    · have hq : ¬ lI w K u j l0 ≤ dimK w K := fun q => hp ((hP j).mpr q)
      rw [if_neg hp, if_neg hq]
      simp only [show ¬ (1 : Int32) = 0 by decide, if_false, cnext, bndS, hw, hu]
      rw [nI_1, ← lI_succ, ih (j + 1) n (by omega) (by omega)]
theorem mlast {S : ST} {m k : Nat} (hm : m ≤ 10) (hk : k < m) (hs : S.1 52 1 = nI m) : ∀ (d j n : Nat), j + d = 201 → d < n → ∃ e, G_X6_lastsNow_51_6 n (nI k) (nI j) (sr S 52 (ngs m j (S.1 52))) = some (nI (fst0 (darkB (S.1 52) k) d j), sr S 52 (ngs m e (S.1 52))) := by
  intro d
  induction d with
  | zero =>
    intro j n h1 h2
    obtain ⟨n, rfl⟩ : ∃ n', n = n' + 1 := ⟨n - 1, by omega⟩
    unfold G_X6_lastsNow_51_6
    rw [if_pos (show (200 : Int32) < nI j from nI_lt (a := 200) (by omega) (by omega))]
    exact ⟨j, rfl⟩
  | succ d ih =>
    intro j n h1 h2
    obtain ⟨n, rfl⟩ : ∃ n', n = n' + 1 := ⟨n - 1, by omega⟩
    unfold G_X6_lastsNow_51_6
    rw [if_neg (show ¬ (200 : Int32) < nI j from nI_nlt (a := 200) (by omega) (by omega)), mshines (by omega), bndS, sr_eq, ngs_star hk, ngs_oth (i := 5) (by omega) (by omega), ngs_oth (i := 16 + 4 * k) (by omega) (by omega)]
    unfold fst0
    by_cases hp : darkB (S.1 52) k j = true
    · rw [if_pos hp, if_pos (of_decide_eq_true hp)]
      simp only [if_true]
      exact ⟨j, rfl⟩
    · rw [if_neg hp, if_neg (fun q => hp (decide_eq_true q))]
      simp only [show ¬ (1 : Int32) = 0 by decide, if_false]
      rw [mnight hm (by rw [sr_eq, ngs_oth (by omega) (by omega)]; exact hs), bndS]
      simp only [sr_eq, sr_sr]
      rw [nI_1, ← ngs_succ]
      exact ih (j + 1) n (by omega) (by omega)
theorem mLasts {S : ST} {m k : Nat} (hm : m ≤ 10) (hk : k < m) (hs : S.1 52 1 = nI m) : G_X6_lastsNow_51 (nI k) S = some (nI (laN (S.1 52) k), asd S) := by
  obtain ⟨e, h1⟩ := mlast (S := asd S) hm hk (by rw [asd52]; exact hs) 201 0 3000 (by omega) (by omega)
  rw [show nI 0 = 0 from rfl, show ngs m 0 ((asd S).1 52) = (asd S).1 52 from rfl, sr_self] at h1
  simp only [G_X6_lastsNow_51, masd, bndS, h1]
  rw [mback (fun i hi => by rw [asd52, ngs_hi hm _ _ hi]), bndS, asd52]
  rfl
theorem cLasts {S : ST} {d : Nat → Int32} {k : Nat} (hR : SkyR 1 S d) (hk : k < 10) : G_X1_nightsBright_1 (nI k) (S.1 2 k) S = some (nI (laN d k), S) := by
  obtain ⟨-, -, -, -, e4, -, -, e7, -, e9, -⟩ := hR
  have := clast (S := S) (k := k) (d 5) (d 4) (d (16 + 4 * k)) (d (18 + 4 * k)) (e4 1 (by omega)) (e4 0 (by omega)) (darkB d k) (fun j => decide_eq_true_iff) 201 0 3000 (by omega) (by omega)
  simp only [G_X1_nightsBright_1]
  rw [if_pos (inB_nI hk (by decide)), cl (by omega), show S.1 2 k = _ from e7 k hk, show S.1 4 k = _ from e9 k hk]
  rw [show nI 0 = 0 from rfl] at this
  rw [show (d (18 + 4 * k)) = lI (d 5) (d (16 + 4 * k)) (d 4) 0 (d (18 + 4 * k)) from rfl, this]
  rfl
theorem laN_le (d : Nat → Int32) (k : Nat) : laN d k ≤ 201 := by
  have := (fst0_le (darkB d k) 201 0).2
  unfold laN
  omega
theorem op_lasts (a : Int32) : Ok (G_X5_lasts_0 a) (G_X6_lasts_51 a) := by
  intro S h
  obtain ⟨m, hm, hs⟩ := starsN h
  have hR := h.1
  have e0 : S.1 1 0 = S.1 52 1 := hR.1
  by_cases ha : 0 ≤ a ∧ a < S.1 1 0
  · have ha2 := (starB h).mp ha
    rw [e0, hs] at ha
    obtain ⟨k, hk, rfl⟩ := ofR (by omega) ha.1 ha.2
    have hle := laN_le (S.1 52) k
    by_cases hq : laN (S.1 52) k ≤ 200
    · refine ⟨nI (laN (S.1 52) k), S, asd S, ?_, ?_, h.same (asdSame S)⟩
      · simp only [G_X5_lasts_0, bel, bndS, ite10, e0, hs]
        rw [if_neg (not_not_intro ha), if_pos (inB_nI (by omega) (by decide)), cl (by omega), cLasts hR (by omega), bndS]
        simp only []
        rw [if_pos (show _ ≤ (200 : Int32) from nI_le (b := 200) hq (by omega))]
      · simp only [G_X6_lasts_51, isStar, bndS, ite10]
        rw [if_neg (not_not_intro ha2), mLasts hm hk hs, bndS]
        simp only []
        rw [if_pos (show _ ≤ (200 : Int32) from nI_le (b := 200) hq (by omega))]
    · refine ok_fin2 h (i := 3) (by decide) (S1 := S) (S2 := asd (wr S 42 3 (S.1 42 3 + 1))) Same.rfl ?_ (asdSame _) ?_
      · simp only [G_X5_lasts_0, bel, bndS, ite10, e0, hs, fb3]
        rw [if_neg (not_not_intro ha), if_pos (inB_nI (by omega) (by decide)), cl (by omega), cLasts hR (by omega), bndS]
        simp only [fb3]
        rw [if_neg (show ¬ _ ≤ (200 : Int32) from nI_ge (a := 200) (by omega) (by omega))]
      · simp only [G_X6_lasts_51, isStar, bndS, ite10, wr_ne (show 52 ≠ 42 by omega)]
        rw [if_neg (not_not_intro ha2), mLasts hm hk (by rw [wr_ne (by omega)]; exact hs), bndS]
        simp only [nb3, wr_ne (show 52 ≠ 42 by omega)]
        rw [if_neg (show ¬ _ ≤ (200 : Int32) from nI_ge (a := 200) (by omega) (by omega))]
  · refine ok_fin h (i := 0) (by decide) ?_ ?_
    · simp only [G_X5_lasts_0, bel, wit, bndS, ite10, fb0]
      rw [if_pos ha]
    · intro S1 h1
      simp only [G_X6_lasts_51, isStar, in1, bndS, ite10, nb0, h1 52 (by omega)]
      rw [if_pos (fun q => ha ((starB h).mpr q))]
