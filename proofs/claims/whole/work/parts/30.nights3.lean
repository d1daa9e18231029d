theorem cpSame (S : ST) : Same S (cpS S 4 41 0 0 10) := by
  have r : ∀ c, c ≠ 41 → (cpS S 4 41 0 0 10).1 c = S.1 c := fun c h => by simp [cpS, h]
  exact ⟨fun c hc => r c (by omega), by rw [r 32 (by omega)], by rw [r 51 (by omega)], by rw [r 51 (by omega)]⟩
theorem cp41 (S : ST) {j : Nat} (h : j < 10) : (cpS S 4 41 0 0 10).1 41 j = S.1 4 j := by
  simp only [cpS, if_true]
  rw [pk_cpy_in (by omega) (by omega), show 0 + (j - 0) = j by omega]
theorem cpN (S : ST) {c : Nat} (h : c ≠ 41) : (cpS S 4 41 0 0 10).1 c = S.1 c := by simp [cpS, h]
theorem s41Same (S : ST) (f : Nat → Int32) : Same S (sr S 41 f) := ⟨fun c hc => sr_ne (by omega), by rw [sr_ne (by omega)], by rw [sr_ne (by omega)], by rw [sr_ne (by omega)]⟩
theorem cshine {m N : Nat} (hm : m ≤ 10) (hN : N < 1000) : ∀ (d k n : Nat) (S : ST), S.1 1 0 = nI m → k + d = N → d < n → G_X5_shine_0_22 n (nI N) (nI k) S = some (sr S 41 (wds (S.1 8 1) (S.1 8 0) (S.1 2) m d (S.1 41))) := by
  intro d
  induction d with
  | zero =>
    intro k n S hs h1 h2
    obtain ⟨n, rfl⟩ : ∃ n', n = n' + 1 := ⟨n - 1, by omega⟩
    unfold G_X5_shine_0_22
    rw [if_pos (nI_le (by omega) (by omega))]
    show some S = some (sr S 41 (S.1 41))
    rw [sr_self]
  | succ d ih =>
    intro k n S hs h1 h2
    obtain ⟨n, rfl⟩ : ∃ n', n = n' + 1 := ⟨n - 1, by omega⟩
    unfold G_X5_shine_0_22
    rw [if_neg (nI_ge (by omega) (by omega)), cwear41 hm hs, bndS]
    simp only []
    rw [nI_1, ih (k + 1) n _ (by rw [sr_ne (by omega)]; exact hs) (by omega) (by omega), sr_eq, sr_sr, sr_ne (by omega), sr_ne (by omega)]
    rfl
theorem brNg {S : ST} {d : Nat → Int32} {m N : Nat} (hm : m ≤ 10) (hR : SkyR 1 S d) (hs : d 1 = nI m) {f : Nat → Int32} (hf : ∀ j, j < 10 → f j = S.1 4 j) : G_X1_brightSet_1_41 (sr S 41 (wds (S.1 8 1) (S.1 8 0) (S.1 2) m N f)) = some (brI (ngs m N d) m, sr S 41 (wds (S.1 8 1) (S.1 8 0) (S.1 2) m N f)) := by
  obtain ⟨e0, -, -, -, e4, -, -, e7, -, e9, -⟩ := hR
  rw [cbright41 hm (by rw [sr_ne (by omega), e0]; exact hs)]
  rw [stBM (d := ngs m N d) hm]
  · intro j hj
    rw [sr_ne (by omega), ngs_oth (by omega) (by omega)]
    exact e7 j hj
  · intro j hj
    rw [sr_eq, wds_star hj, ngs_star hj, hf j (by omega), show S.1 8 1 = _ from e4 1 (by omega), show S.1 8 0 = _ from e4 0 (by omega), show S.1 2 j = _ from e7 j (by omega), show S.1 4 j = _ from e9 j (by omega)]
  · rw [sr_ne (by omega), ngs_oth (by omega) (by omega)]
    exact e4 1 (by omega)
theorem op_shine (a : Int32) : Ok (G_X5_shine_0 a) (G_X6_shine_51 a) := by
  intro S h
  obtain ⟨m, hm, hs⟩ := starsN h
  by_cases ha : 0 ≤ a ∧ a ≤ 200
  · obtain ⟨N, hN, rfl⟩ := ofR (n := 201) (by decide) ha.1 (by show _ < (201 : Int32); grind)
    have h1 := h.same (cpSame S)
    have hs1 : (cpS S 4 41 0 0 10).1 52 1 = nI m := by rw [cpN S (by omega)]; exact hs
    have hl := cshine hm (show N < 1000 by omega) N 0 3000 (cpS S 4 41 0 0 10) (by rw [h1.1.1]; exact hs1) (by omega) (by omega)
    rw [show nI 0 = 0 from rfl] at hl
    have hb := brNg (N := N) hm h1.1 hs1 (f := (cpS S 4 41 0 0 10).1 41) (fun j hj => by rw [cp41 S hj, cpN S (by omega)])
    obtain ⟨g, hl, hb⟩ : ∃ g, G_X5_shine_0_22 3000 (nI N) 0 (cpS S 4 41 0 0 10) = some (sr (cpS S 4 41 0 0 10) 41 g) ∧ G_X1_brightSet_1_41 (sr (cpS S 4 41 0 0 10) 41 g) = some (brI (ngs m N ((cpS S 4 41 0 0 10).1 52)) m, sr (cpS S 4 41 0 0 10) 41 g) := ⟨_, hl, hb⟩
    refine ⟨brI (ngs m N ((cpS S 4 41 0 0 10).1 52)) m, sr (cpS S 4 41 0 0 10) 41 g, asd (sr (cpS S 4 41 0 0 10) 41 g), ?_, ?_, (h1.same (s41Same _ g)).same (asdSame _)⟩
    · simp only [G_X5_shine_0, wit, bndS, ite10, G_X5_copyLives_0]
      rw [if_neg (not_not_intro ha), hl, bndS, hb, bndS]
    · simp only [G_X6_shine_51, in1, bndS, ite10, masd]
      rw [if_neg (not_not_intro ha), mnights hm (by rw [asd52, sr_ne (by omega)]; exact hs1) (by omega), bndS]
      simp only []
      rw [mshining hm (by rw [sr_eq, ngs_oth (by omega) (by omega), asd52, sr_ne (by omega)]; exact hs1), bndS]
      simp only []
      rw [mback (fun i hi => by rw [asd52, ngs_hi hm _ _ hi]), bndS, sr_eq, asd52, sr_ne (show 52 ≠ 41 by omega)]
  · refine ok_fin h (i := 0) (by decide) ?_ ?_
    · simp only [G_X5_shine_0, bel, wit, bndS, ite10, fb0]
      rw [if_pos ha]
    · intro S1 h1
      simp only [G_X6_shine_51, isStar, in1, bndS, ite10, nb0]
      rw [if_pos ha]
/-- the night when fewer than x shine -/
def dkB (d : Nat → Int32) (m : Nat) (x : Int32) (j : Nat) : Bool := decide (bcF (brI (ngs m j d) m) < x)
theorem cdark {S : ST} {d : Nat → Int32} {m : Nat} {x : Int32} (hm : m ≤ 10) (hR : SkyR 1 S d) (hs : d 1 = nI m) {f : Nat → Int32} (hf : ∀ j, j < 10 → f j = S.1 4 j) : ∀ (e j n : Nat), j + e = 201 → e < n → ∃ g, G_X5_dark_0_23 n x (nI j) (sr S 41 (wds (S.1 8 1) (S.1 8 0) (S.1 2) m j f)) = (if fst0 (dkB d m x) e j ≤ 200 then some (nI (fst0 (dkB d m x) e j), sr S 41 g) else G_X5_finding_0 (nI 3) (sr S 41 g)) := by
  intro e
  induction e with
  | zero =>
    intro j n h1 h2
    obtain ⟨n, rfl⟩ : ∃ n', n = n' + 1 := ⟨n - 1, by omega⟩
    unfold G_X5_dark_0_23 fst0
    rw [if_pos (show (200 : Int32) < nI j from nI_lt (a := 200) (by omega) (by omega)), fb3]
    exact ⟨_, by rw [if_neg (by omega)]⟩
  | succ e ih =>
    intro j n h1 h2
    obtain ⟨n, rfl⟩ : ∃ n', n = n' + 1 := ⟨n - 1, by omega⟩
    unfold G_X5_dark_0_23
    rw [if_neg (show ¬ (200 : Int32) < nI j from nI_nlt (a := 200) (by omega) (by omega)), brNg hm hR hs hf, bndS]
    simp only [cbits, bndS]
    unfold fst0
    by_cases hp : dkB d m x j = true
    · rw [if_pos hp, if_neg (by have := of_decide_eq_true hp; grind)]
      exact ⟨_, by rw [if_pos (by omega)]⟩
    · rw [if_neg hp, if_pos (by have : ¬ _ := fun q => hp (decide_eq_true q); grind)]
      rw [cwear41 hm (by rw [sr_ne (by omega), hR.1]; exact hs), bndS]
      simp only [sr_eq, sr_sr, sr_ne (show 8 ≠ 41 by omega), sr_ne (show 2 ≠ 41 by omega)]
      have := ih (j + 1) n (by omega) (by omega)
      rw [nI_1]
      have e2 : ∀ (w u : Int32) (K : Nat → Int32) (n : Nat) (f : Nat → Int32), wds w u K m (n + 1) f = wdR w u K 0 m (wds w u K m n f) := by
        intro w u K n
        induction n with
        | zero => intro f; rfl
        | succ n ih => intro f; exact ih _
      rw [e2] at this
      exact this
theorem mdark {S : ST} {m : Nat} {x : Int32} (hm : m ≤ 10) (hs : S.1 52 1 = nI m) : ∀ (d j n : Nat), j + d = 201 → d < n → ∃ e, G_X6_dark_51_22 n x (nI j) (sr S 52 (ngs m j (S.1 52))) = some (nI (fst0 (dkB (S.1 52) m x) d j), sr S 52 (ngs m e (S.1 52))) := by
  intro d
  induction d with
  | zero =>
    intro j n h1 h2
    obtain ⟨n, rfl⟩ : ∃ n', n = n' + 1 := ⟨n - 1, by omega⟩
    unfold G_X6_dark_51_22
    rw [if_pos (show (200 : Int32) < nI j from nI_lt (a := 200) (by omega) (by omega))]
    exact ⟨j, rfl⟩
  | succ d ih =>
    intro j n h1 h2
    obtain ⟨n, rfl⟩ : ∃ n', n = n' + 1 := ⟨n - 1, by omega⟩
    unfold G_X6_dark_51_22
    have hs2 : (sr S 52 (ngs m j (S.1 52))).1 52 1 = nI m := by rw [sr_eq, ngs_oth (by omega) (by omega)]; exact hs
    rw [if_neg (show ¬ (200 : Int32) < nI j from nI_nlt (a := 200) (by omega) (by omega)), mshining hm hs2, bndS, sr_eq]
    obtain ⟨y, hy, ey⟩ := brI_lt (d := ngs m j (S.1 52)) hm
    simp only [ey, mbits (Nat.lt_of_lt_of_le hy (pw_le hm)), bndS]
    unfold fst0
    by_cases hp : dkB (S.1 52) m x j = true
    · rw [if_pos hp, if_pos (by rw [← ey]; exact of_decide_eq_true hp)]
      exact ⟨j, rfl⟩
    · rw [if_neg hp, if_neg (by rw [← ey]; exact fun q => hp (decide_eq_true q))]
      rw [mnight hm hs2, bndS]
      simp only [sr_eq, sr_sr]
      rw [nI_1, ← ngs_succ]
      exact ih (j + 1) n (by omega) (by omega)
theorem op_dark (a : Int32) : Ok (G_X5_dark_0 a) (G_X6_dark_51 a) := by
  intro S h
  obtain ⟨m, hm, hs⟩ := starsN h
  by_cases ha : 1 ≤ a ∧ a ≤ 10
  · have h1 := h.same (cpSame S)
    have hs1 : (cpS S 4 41 0 0 10).1 52 1 = nI m := by rw [cpN S (by omega)]; exact hs
    obtain ⟨g, hl⟩ := cdark (x := a) hm h1.1 hs1 (f := (cpS S 4 41 0 0 10).1 41) (fun j hj => by rw [cp41 S hj, cpN S (by omega)]) 201 0 3000 (by omega) (by omega)
    rw [show nI 0 = 0 from rfl, show wds ((cpS S 4 41 0 0 10).1 8 1) ((cpS S 4 41 0 0 10).1 8 0) ((cpS S 4 41 0 0 10).1 2) m 0 ((cpS S 4 41 0 0 10).1 41) = (cpS S 4 41 0 0 10).1 41 from rfl, sr_self, cpN S (show 52 ≠ 41 by omega)] at hl
    have hg : ∀ T : ST, T.1 52 = S.1 52 → G_X6_dark_51 a T = if fst0 (dkB (S.1 52) m a) 201 0 ≤ 200 then some (nI (fst0 (dkB (S.1 52) m a) 201 0), asd T) else G_X6_no_51 (nI 3) (asd T) := by
      intro T hT
      obtain ⟨e, h1⟩ := mdark (S := asd T) (x := a) hm (by rw [asd52, hT]; exact hs) 201 0 3000 (by omega) (by omega)
      rw [show nI 0 = 0 from rfl, show ngs m 0 ((asd T).1 52) = (asd T).1 52 from rfl, sr_self] at h1
      simp only [G_X6_dark_51, in1, bndS, ite10, masd, h1, G_X6_dark_51_50]
      rw [if_neg (not_not_intro ha), mback (fun i hi => by rw [asd52, ngs_hi hm _ _ hi]), bndS]
      rw [asd52, hT]
      simp only [nb3]
      have hle := (fst0_le (dkB (S.1 52) m a) 201 0).2
      by_cases hq : fst0 (dkB (S.1 52) m a) 201 0 ≤ 200
      · rw [if_pos hq, if_pos (show _ ≤ (200 : Int32) from nI_le (b := 200) hq (by omega))]
      · rw [if_neg hq, if_neg (show ¬ _ ≤ (200 : Int32) from nI_ge (a := 200) (by omega) (by omega))]
    have hf : G_X5_dark_0 a S = if fst0 (dkB (S.1 52) m a) 201 0 ≤ 200 then some (nI (fst0 (dkB (S.1 52) m a) 201 0), sr (cpS S 4 41 0 0 10) 41 g) else G_X5_finding_0 (nI 3) (sr (cpS S 4 41 0 0 10) 41 g) := by
      simp only [G_X5_dark_0, G_X5_copyLives_0, bndS]
      rw [if_neg (by grind), if_pos (by grind)]
      exact hl
    have s1 : Same S (sr (cpS S 4 41 0 0 10) 41 g) := (cpSame S).trans (s41Same _ g)
    by_cases hq : fst0 (dkB (S.1 52) m a) 201 0 ≤ 200
    · exact ⟨_, _, asd _, by rw [hf, if_pos hq], by rw [hg _ (s1.1 52 (by omega)), if_pos hq], (h.same s1).same (asdSame _)⟩
    · exact ok_fin2 h (i := 3) (by decide) s1 (by rw [hf, if_neg hq]) (asdSame _) (by rw [hg _ ((wr_ne (by omega)).trans (s1.1 52 (by omega))), if_neg hq])
  · refine ok_fin h (i := 0) (by decide) ?_ ?_
    · simp only [G_X5_dark_0, fb0]
      by_cases h1 : a < 1
      · rw [if_pos h1]
      · rw [if_neg h1, if_neg (by grind)]
    · intro S1 h1
      simp only [G_X6_dark_51, isStar, in1, bndS, ite10, nb0]
      rw [if_pos ha]
