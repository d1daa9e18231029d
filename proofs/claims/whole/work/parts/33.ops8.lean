theorem it_last {α : Type} (f : Nat → α → α) : ∀ (d k : Nat) (a : α), it f k (d + 1) a = f (k + d) (it f k d a)
  | 0, _, _ => rfl
  | d + 1, k, a => by
    show it f (k + 1) (d + 1) (f k a) = _
    rw [it_last f d (k + 1), show k + 1 + d = k + (d + 1) by omega]
    rfl
/-- nights bright as a kind -/
def dkK (d : Nat → Int32) (k : Nat) (K : Int32) (j : Nat) : Bool := decide (lI (d 5) K (d 4) j (d (18 + 4 * k)) ≤ dimK (d 5) K)
def lnK (d : Nat → Int32) (k : Nat) (K : Int32) : Nat := fst0 (dkK d k K) 201 0
theorem lnK_upd {d : Nat → Int32} {k : Nat} {K : Int32} : laN (upd d (16 + 4 * k) K) k = lnK d k K := by
  unfold laN lnK
  refine fst0_congr (fun j => ?_) _ _
  unfold darkB dkK
  rw [updI, updN _ _ (show 5 ≠ 16 + 4 * k by omega), updN _ _ (show 4 ≠ 16 + 4 * k by omega), updN _ _ (show 18 + 4 * k ≠ 16 + 4 * k by omega)]
theorem cLastK {S : ST} {d : Nat → Int32} {k : Nat} (hR : SkyR 1 S d) (hk : k < 10) (K : Int32) : G_X1_nightsBright_1 (nI k) K S = some (nI (lnK d k K), S) := by
  obtain ⟨-, -, -, -, e4, -, -, e7, -, e9, -⟩ := hR
  have := clast (S := S) (k := k) (d 5) (d 4) K (d (18 + 4 * k)) (e4 1 (by omega)) (e4 0 (by omega)) (dkK d k K) (fun j => decide_eq_true_iff) 201 0 3000 (by omega) (by omega)
  simp only [G_X1_nightsBright_1]
  rw [if_pos (inB_nI hk (by decide)), cl (by omega), show S.1 4 k = _ from e9 k hk]
  rw [show nI 0 = 0 from rfl] at this
  rw [show (d (18 + 4 * k)) = lI (d 5) K (d 4) 0 (d (18 + 4 * k)) from rfl, this]
  rfl
def stK (v : Nat → Int32) (i : Nat) (b : Int32 × Int32) : Int32 × Int32 := if imn 200 (v i) ≤ b.1 then b else (imn 200 (v i), nI i)
theorem ckind {S : ST} {d : Nat → Int32} {k : Nat} (hR : SkyR 1 S d) (hk : k < 10) : ∀ (e j n : Nat) (b : Int32 × Int32), j + e = 7 → e < n → G_X5_kindFor_0_27 n (nI k) b.1 b.2 (nI j) S = some ((it (stK fun i => nI (lnK d k (nI i))) j e b).2, S) := by
  intro e
  induction e with
  | zero =>
    intro j n b h1 h2
    obtain ⟨n, rfl⟩ : ∃ n', n = n' + 1 := ⟨n - 1, by omega⟩
    unfold G_X5_kindFor_0_27
    rw [if_pos (show (7 : Int32) ≤ nI j from nI_le (a := 7) (by omega) (by omega))]
    rfl
  | succ e ih =>
    intro j n b h1 h2
    obtain ⟨n, rfl⟩ : ∃ n', n = n' + 1 := ⟨n - 1, by omega⟩
    unfold G_X5_kindFor_0_27
    rw [if_neg (show ¬ (7 : Int32) ≤ nI j from nI_ge (b := 7) (by omega) (by omega)), cLastK hR hk, bndS]
    simp only [it]
    by_cases hq : imn 200 (nI (lnK d k (nI j))) ≤ b.1
    · rw [if_pos hq, nI_1, ih (j + 1) n b (by omega) (by omega)]
      rw [show stK (fun i => nI (lnK d k (nI i))) j b = b from if_pos hq]
    · rw [if_neg hq, nI_1, ih (j + 1) n (imn 200 (nI (lnK d k (nI j))), nI j) (by omega) (by omega)]
      rw [show stK (fun i => nI (lnK d k (nI i))) j b = (imn 200 (nI (lnK d k (nI j))), nI j) from if_neg hq]
/-- a reference with a scratch row and a star's kind put -/
def mkK (S : ST) (k : Nat) (g : Nat → Int32) (y : Int32) : ST := sr (sr S 54 g) 52 (upd (S.1 52) (16 + 4 * k) y)
theorem mkK_asd (S : ST) (k : Nat) (g : Nat → Int32) (y : Int32) : asd (mkK S k g y) = mkK S k (cp72 (upd (S.1 52) (16 + 4 * k) y) g) y := by
  unfold asd mkK
  rw [sr_eq, sr_ne (show 54 ≠ 52 by omega), sr_eq]
  unfold sr
  congr 1
  funext c
  by_cases h1 : c = 54
  · subst h1; rfl
  · simp [h1]
theorem mkK_put (S : ST) (k : Nat) (g : Nat → Int32) (y z : Int32) : wr (mkK S k g y) 52 (16 + 4 * k) z = mkK S k g z := by
  rw [wr_sr]
  unfold mkK
  rw [sr_eq, sr_sr, upd_upd]
theorem mkK_self (S : ST) (k : Nat) (g : Nat → Int32) : mkK S k g (S.1 52 (16 + 4 * k)) = sr S 54 g := by
  unfold mkK
  rw [upd_self]
  have : S.1 52 = (sr S 54 g).1 52 := (sr_ne (by omega)).symm
  rw [this, sr_self]
theorem mkK52 (S : ST) (k : Nat) (g : Nat → Int32) (y : Int32) : (mkK S k g y).1 52 = upd (S.1 52) (16 + 4 * k) y := sr_eq
theorem s54Same (S : ST) (f : Nat → Int32) : Same S (sr S 54 f) := ⟨fun c hc => sr_ne (by omega), by rw [sr_ne (by omega)], by rw [sr_ne (by omega)], by rw [sr_ne (by omega)]⟩
theorem mkind {S : ST} {m k : Nat} {x2 : Int32} (hm : m ≤ 10) (hk : k < m) (hs : S.1 52 1 = nI m) : ∀ (e j n : Nat) (b : Int32 × Int32) (g : Nat → Int32) (y : Int32), j + e = 7 → e < n → ∃ g' y', G_X6_kindFor_51_29 n (nI k) x2 b.2 b.1 (nI j) (mkK S k g y) = some (nI k, x2, (it (stK fun i => nI (lnK (S.1 52) k (nI i))) j e b).2, mkK S k g' y') := by
  intro e
  induction e with
  | zero =>
    intro j n b g y h1 h2
    obtain ⟨n, rfl⟩ : ∃ n', n = n' + 1 := ⟨n - 1, by omega⟩
    unfold G_X6_kindFor_51_29
    rw [if_pos (show (6 : Int32) < nI j from nI_lt (a := 6) (by omega) (by omega))]
    exact ⟨g, y, rfl⟩
  | succ e ih =>
    intro j n b g y h1 h2
    obtain ⟨n, rfl⟩ : ∃ n', n = n' + 1 := ⟨n - 1, by omega⟩
    unfold G_X6_kindFor_51_29
    rw [if_neg (show ¬ (6 : Int32) < nI j from nI_nlt (a := 6) (by omega) (by omega)), mput0 (by omega), bndS, mkK_put]
    simp only []
    rw [mLasts hm hk (by rw [mkK52, updN _ _ (by omega)]; exact hs), bndS, mkK52, lnK_upd]
    have el : ∀ T : ST, G_X6_less 200 (nI (lnK (S.1 52) k (nI j))) T = some (imn 200 (nI (lnK (S.1 52) k (nI j))), T) := by
      intro T
      unfold G_X6_less imn
      by_cases q : nI (lnK (S.1 52) k (nI j)) < 200
      · rw [if_pos (by grind), if_pos q]
      · rw [if_neg q]
        by_cases q2 : nI (lnK (S.1 52) k (nI j)) ≤ 200
        · rw [if_pos q2]
          congr 2
          grind
        · rw [if_neg q2]
    simp only [el, bndS, it, mkK_asd]
    by_cases hq : imn 200 (nI (lnK (S.1 52) k (nI j))) ≤ b.1
    · rw [if_pos hq]
      have eg : ∀ T : ST, G_X6_greater b.1 (imn 200 (nI (lnK (S.1 52) k (nI j)))) T = some (b.1, T) := by
        intro T
        unfold G_X6_greater
        by_cases q : b.1 ≤ imn 200 (nI (lnK (S.1 52) k (nI j)))
        · rw [if_pos q]
          congr 2
          grind
        · rw [if_neg q]
      rw [eg, bndS, nI_1, show stK (fun i => nI (lnK (S.1 52) k (nI i))) j b = b from if_pos hq]
      exact ih (j + 1) n b _ _ (by omega) (by omega)
    · rw [if_neg hq]
      have eg : ∀ T : ST, G_X6_greater b.1 (imn 200 (nI (lnK (S.1 52) k (nI j)))) T = some (imn 200 (nI (lnK (S.1 52) k (nI j))), T) := by
        intro T
        unfold G_X6_greater
        rw [if_pos (by grind)]
      rw [eg, bndS, nI_1, show stK (fun i => nI (lnK (S.1 52) k (nI i))) j b = (imn 200 (nI (lnK (S.1 52) k (nI j))), nI j) from if_neg hq]
      exact ih (j + 1) n (imn 200 (nI (lnK (S.1 52) k (nI j))), nI j) _ _ (by omega) (by omega)
theorem op_kindFor (a : Int32) : Ok (G_X5_kindFor_0 a) (G_X6_kindFor_51 a) := by
  intro S h
  obtain ⟨m, hm, hs⟩ := starsN h
  have hR := h.1
  have e0 : S.1 1 0 = S.1 52 1 := hR.1
  by_cases ha : 0 ≤ a ∧ a < S.1 1 0
  · have ha2 := (starB h).mp ha
    rw [e0, hs] at ha
    obtain ⟨k, hk, rfl⟩ := ofR (by omega) ha.1 ha.2
    have hc := ckind hR (show k < 10 by omega) 7 0 3000 (-1, 0) (by omega) (by omega)
    obtain ⟨g, y, hg⟩ := mkind (x2 := S.1 52 (16 + 4 * k)) hm hk hs 7 0 3000 (-1, 0) (S.1 54) (S.1 52 (16 + 4 * k)) (by omega) (by omega)
    rw [mkK_self, sr_self] at hg
    rw [show nI 0 = 0 from rfl] at hc hg
    refine ⟨_, S, sr S 54 g, by
      simp only [G_X5_kindFor_0, bel, bndS, ite10, e0, hs]
      rw [if_neg (not_not_intro ha), hc, bndS], ?_, h.same (s54Same S g)⟩
    simp only [G_X6_kindFor_51, isStar, bndS, ite10, mget0 (show k < 10 by omega)]
    rw [if_neg (not_not_intro ha2), hg, bndS]
    simp only [mput0 (show k < 10 by omega), bndS]
    rw [mkK_put, mkK_self]
  · refine ok_fin h (i := 0) (by decide) ?_ ?_
    · simp only [G_X5_kindFor_0, bel, wit, bndS, ite10, fb0]
      rw [if_pos ha]
    · intro S1 h1
      simp only [G_X6_kindFor_51, isStar, in1, bndS, ite10, nb0, h1 52 (by omega)]
      rw [if_pos (fun q => ha ((starB h).mpr q))]
