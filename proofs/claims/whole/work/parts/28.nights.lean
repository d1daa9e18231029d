theorem lv_div2 : ∀ u, u < 10 → 0 ≤ (nI u + 1) / 2 ∧ (nI u + 1) / 2 ≤ 5 := by decide
theorem lv_div10 : ∀ l, l < 100 → 0 ≤ (99 - nI l) / 10 ∧ (99 - nI l) / 10 ≤ 9 := by decide
theorem lifeN_in {w k l u : Int32} (hw : 0 ≤ w ∧ w ≤ 9) (hl : 0 ≤ l ∧ l ≤ 99) (hu : 0 ≤ u ∧ u ≤ 9) : 0 ≤ lifeN w k l u ∧ lifeN w k l u ≤ 99 := by
  obtain ⟨u', hu', rfl⟩ := ofR (x := u) (n := 10) (by decide) hu.1 (by show _ < (10 : Int32); grind)
  obtain ⟨l', hl', rfl⟩ := ofR (x := l) (n := 100) (by decide) hl.1 (by show _ < (100 : Int32); grind)
  have d1 := lv_div2 u' hu'
  have d2 := lv_div10 l' hl'
  have hb : 0 ≤ wearK w k (nI l') (nI u') ∧ wearK w k (nI l') (nI u') ≤ 100 := by
    unfold wearK
    generalize (nI u' + 1) / 2 = x at d1
    generalize (99 - nI l') / 10 = y at d2
    grind
  unfold lifeN imx
  generalize wearK w k (nI l') (nI u') = z at hb
  grind
def ngL (d : Nat → Int32) (k e : Nat) : Nat → Int32 := fun i => if 18 + 4 * k ≤ i ∧ i < 18 + 4 * (k + e) ∧ i % 4 = 2 then lifeN (d 5) (d (i - 2)) (d i) (d 4) else d i
def ngD (d : Nat → Int32) (m : Nat) : Nat → Int32 := fun i => if i = 0 then (if d 0 + 1 ≤ 99999 then d 0 + 1 else 99999) else ngL d 0 m i
theorem mnight2 {S : ST} {m : Nat} (hm : m ≤ 10) : ∀ (d k n : Nat) (S : ST), S.1 52 1 = nI m → k + d = m → d < n → G_X6_night_51_2 n (nI k) S = some (sr S 52 (ngL (S.1 52) k d)) := by
  intro d
  induction d with
  | zero =>
    intro k n S hs h1 h2
    obtain ⟨n, rfl⟩ : ∃ n', n = n' + 1 := ⟨n - 1, by omega⟩
    unfold G_X6_night_51_2
    rw [hs, if_pos (nI_le (by omega) (by omega))]
    have : ngL (S.1 52) k 0 = S.1 52 := by
      funext i
      unfold ngL
      rw [if_neg (by omega)]
    rw [this, sr_self]
  | succ d ih =>
    intro k n S hs h1 h2
    obtain ⟨n, rfl⟩ : ∃ n', n = n' + 1 := ⟨n - 1, by omega⟩
    unfold G_X6_night_51_2
    rw [hs, if_neg (nI_ge (by omega) (by omega)), mget2 (by omega), bndS, mwear (by omega), bndS]
    have eg : ∀ (x : Int32) (T : ST), G_X6_greater 0 x T = some (imx 0 x, T) := by
      intro x T
      unfold G_X6_greater imx
      by_cases h0 : (0 : Int32) < x
      · rw [if_pos (by grind), if_pos h0]
      · by_cases h3 : (0 : Int32) ≤ x
        · rw [if_pos h3, if_neg h0]
          have : x = 0 := by grind
          rw [this]
        · rw [if_neg h3, if_neg h0]
    simp only [eg, bndS, mput2 (show k < 10 by omega)]
    rw [nI_1, ih (k + 1) n _ (by rw [wr_eq]; simp only [updAt]; rw [if_neg (by omega)]; exact hs) (by omega) (by omega), wr_sr, sr_sr, sr_eq]
    congr 2
    funext i
    simp only [ngL, updAt]
    by_cases hi : i = 18 + 4 * k
    · subst hi
      rw [if_neg (by omega), if_pos rfl, if_pos (by omega)]
      simp only [lifeN]
      rw [show 18 + 4 * k - 2 = 16 + 4 * k by omega]
    · rw [if_neg (show ¬ 5 = 18 + 4 * k by omega), if_neg (show ¬ 4 = 18 + 4 * k by omega), if_neg hi]
      by_cases hc : 18 + 4 * (k + 1) ≤ i ∧ i < 18 + 4 * (k + 1 + d) ∧ i % 4 = 2
      · rw [if_pos hc, if_neg (show ¬ i - 2 = 18 + 4 * k by omega), if_pos (by omega)]
      · rw [if_neg hc, if_neg (by omega)]
theorem mnight {S : ST} {m : Nat} (hm : m ≤ 10) (hs : S.1 52 1 = nI m) : G_X6_night_51 S = some ((), sr S 52 (ngD (S.1 52) m)) := by
  have := mnight2 (S := S) hm m 0 3000 S hs (by omega) (by omega)
  rw [show nI 0 = 0 from rfl] at this
  have e0 : ngL (S.1 52) 0 m 0 = S.1 52 0 := by
    unfold ngL
    rw [if_neg (by omega)]
  simp only [G_X6_night_51, this, bndS, G_X6_less, sr_eq, e0]
  have key : ∀ v : Int32, wr (sr S 52 (ngL (S.1 52) 0 m)) 52 0 v = sr S 52 (fun i => if i = 0 then v else ngL (S.1 52) 0 m i) := by
    intro v
    rw [wr_sr, sr_sr, sr_eq]
    rfl
  by_cases hq : S.1 52 0 + 1 ≤ 99999
  · rw [if_pos hq, bndS]
    simp only [key]
    unfold ngD
    simp only [if_pos hq]
  · rw [if_neg hq, bndS]
    simp only [key]
    unfold ngD
    simp only [if_neg hq]
/-- n nights -/
def ngs (m : Nat) : Nat → (Nat → Int32) → (Nat → Int32)
  | 0, d => d
  | n + 1, d => ngs m n (ngD d m)
theorem ngD_1 {d : Nat → Int32} {m : Nat} : ngD d m 1 = d 1 := by
  unfold ngD ngL
  rw [if_neg (by omega), if_neg (by omega)]
theorem mnights2 {m : Nat} (hm : m ≤ 10) {N : Nat} (hN : N < 1000) : ∀ (d k n : Nat) (S : ST), S.1 52 1 = nI m → k + d = N → d < n → G_X6_nights_51_2 n (nI N) (nI k) S = some (sr S 52 (ngs m d (S.1 52))) := by
  intro d
  induction d with
  | zero =>
    intro k n S hs h1 h2
    obtain ⟨n, rfl⟩ : ∃ n', n = n' + 1 := ⟨n - 1, by omega⟩
    unfold G_X6_nights_51_2
    rw [if_pos (nI_le (by omega) (by omega))]
    show some S = some (sr S 52 (S.1 52))
    rw [sr_self]
  | succ d ih =>
    intro k n S hs h1 h2
    obtain ⟨n, rfl⟩ : ∃ n', n = n' + 1 := ⟨n - 1, by omega⟩
    unfold G_X6_nights_51_2
    rw [if_neg (nI_ge (by omega) (by omega)), mnight hm hs, bndS]
    simp only []
    rw [nI_1, ih (k + 1) n _ (by rw [sr_eq, ngD_1]; exact hs) (by omega) (by omega), sr_eq, sr_sr]
    rfl
theorem mnights {S : ST} {m N : Nat} (hm : m ≤ 10) (hs : S.1 52 1 = nI m) (hN : N < 1000) : G_X6_nights_51 (nI N) S = some ((), sr S 52 (ngs m N (S.1 52))) := by
  have := mnights2 hm hN N 0 3000 S hs (by omega) (by omega)
  rw [show nI 0 = 0 from rfl] at this
  simp only [G_X6_nights_51, this, bndS]
/-- a star's life over nights -/
def lI (w k u : Int32) : Nat → Int32 → Int32
  | 0, l => l
  | n + 1, l => lI w k u n (lifeN w k l u)
theorem ngD_star {d : Nat → Int32} {m j : Nat} (hj : j < m) : ngD d m (18 + 4 * j) = lifeN (d 5) (d (16 + 4 * j)) (d (18 + 4 * j)) (d 4) := by
  unfold ngD ngL
  rw [if_neg (by omega), if_pos (by omega), show 18 + 4 * j - 2 = 16 + 4 * j by omega]
theorem ngD_oth {d : Nat → Int32} {m i : Nat} (h0 : i ≠ 0) (h : ¬ (18 ≤ i ∧ i < 18 + 4 * m ∧ i % 4 = 2)) : ngD d m i = d i := by
  unfold ngD ngL
  rw [if_neg h0, if_neg (by omega)]
theorem ngs_oth {m i : Nat} (h0 : i ≠ 0) (h : ¬ (18 ≤ i ∧ i < 18 + 4 * m ∧ i % 4 = 2)) : ∀ (n : Nat) (d : Nat → Int32), ngs m n d i = d i
  | 0, _ => rfl
  | n + 1, d => by
    show ngs m n (ngD d m) i = _
    rw [ngs_oth h0 h n, ngD_oth h0 h]
theorem ngs_star {m j : Nat} (hj : j < m) : ∀ (n : Nat) (d : Nat → Int32), ngs m n d (18 + 4 * j) = lI (d 5) (d (16 + 4 * j)) (d 4) n (d (18 + 4 * j))
  | 0, _ => rfl
  | n + 1, d => by
    show ngs m n (ngD d m) (18 + 4 * j) = _
    rw [ngs_star hj n, ngD_star hj, ngD_oth (i := 5) (by omega) (by omega), ngD_oth (i := 4) (by omega) (by omega), ngD_oth (i := 16 + 4 * j) (by omega) (by omega)]
    rfl
theorem SkyK.ngK {d : Nat → Int32} {m : Nat} (h : SkyK d) (hm : m ≤ 10) : SkyK (ngD d m) := by
  obtain ⟨a1, a2, a3, a4, a5, a6, a7, a8, a9, a10, a11, a12, a13, a14, a15⟩ := h
  refine ⟨?_, ?_, ?_, ?_, ?_, ?_, ?_, fun x hx => ?_, fun x hx => ?_, fun x hx => ?_, fun x hx => ?_, fun x hx => ?_, fun x hx => ?_, fun x hx => ?_, fun x hx => ?_⟩
  · unfold ngD
    simp only [if_true]
    grind
  · rw [ngD_1]; exact a2
  · rw [ngD_oth (by omega) (by omega)]; exact a3
  · rw [ngD_oth (by omega) (by omega)]; exact a4
  · rw [ngD_oth (by omega) (by omega)]; exact a5
  · rw [ngD_oth (by omega) (by omega)]; exact a6
  · rw [ngD_oth (by omega) (by omega)]; exact a7
  · rw [ngD_oth (by omega) (by omega)]; exact a8 x hx
  · rw [ngD_oth (by omega) (by omega)]; exact a9 x hx
  · rw [ngD_oth (by omega) (by omega)]; exact a10 x hx
  · rw [ngD_oth (by omega) (by omega)]; exact a11 x hx
  · by_cases hj : x < m
    · rw [ngD_star hj]
      exact lifeN_in a5 (a12 x hx) a4
    · rw [ngD_oth (by omega) (by omega)]; exact a12 x hx
  · rw [ngD_oth (by omega) (by omega)]; exact a13 x hx
  · rw [ngD_1, ngD_oth (i := 2) (by omega) (by omega), ngD_oth (i := 56 + x) (by omega) (by omega)]; exact a14 x hx
  · rw [ngD_1, ngD_oth (i := 62 + x) (by omega) (by omega)]; exact a15 x hx
theorem SkyK.ngsK {m : Nat} (hm : m ≤ 10) : ∀ (n : Nat) (d : Nat → Int32), SkyK d → SkyK (ngs m n d)
  | 0, _, h => h
  | n + 1, d, h => SkyK.ngsK hm n _ (h.ngK hm)
