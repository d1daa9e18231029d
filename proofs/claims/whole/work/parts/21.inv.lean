/-! THE INVARIANT: what the class holds is what the reference holds -/
def SkyR (k : Nat) (S : ST) (d : Nat → Int32) : Prop :=
  S.1 k 0 = d 1 ∧ S.1 k 8 = d 0 ∧ S.1 k 9 = d 2 ∧ S.1 k 12 = d 3 ∧ (∀ i, i < 4 → S.1 (k + 7) i = d (4 + i)) ∧ (∀ c, c < 4 → S.1 (k + 5) c = d (8 + 2 * c)) ∧ (∀ c, c < 4 → S.1 (k + 6) c = d (9 + 2 * c)) ∧
  (∀ j, j < 10 → S.1 (k + 1) j = d (16 + 4 * j)) ∧ (∀ j, j < 10 → S.1 (k + 2) j = d (17 + 4 * j)) ∧ (∀ j, j < 10 → S.1 (k + 3) j = d (18 + 4 * j)) ∧ (∀ j, j < 10 → S.1 (k + 4) j = d (19 + 4 * j)) ∧ (∀ i, i < 6 → S.1 (k + 8) i = d (56 + i)) ∧ (∀ i, i < 10 → S.1 (k + 9) i = d (62 + i))
def SkyK (d : Nat → Int32) : Prop :=
  (0 ≤ d 0 ∧ d 0 ≤ 99999) ∧ (0 ≤ d 1 ∧ d 1 ≤ 10) ∧ (0 ≤ d 2 ∧ d 2 ≤ 6) ∧ (0 ≤ d 4 ∧ d 4 ≤ 9) ∧ (0 ≤ d 5 ∧ d 5 ≤ 9) ∧ (0 ≤ d 6 ∧ d 6 ≤ 99) ∧ (0 ≤ d 7 ∧ d 7 ≤ 9999) ∧ (∀ c, c < 4 → 0 ≤ d (8 + 2 * c) ∧ d (8 + 2 * c) ≤ 99) ∧ (∀ c, c < 4 → 0 ≤ d (9 + 2 * c) ∧ d (9 + 2 * c) ≤ 999) ∧
  (∀ j, j < 10 → 0 ≤ d (16 + 4 * j) ∧ d (16 + 4 * j) ≤ 6) ∧ (∀ j, j < 10 → 0 ≤ d (17 + 4 * j) ∧ d (17 + 4 * j) ≤ 99) ∧ (∀ j, j < 10 → 0 ≤ d (18 + 4 * j) ∧ d (18 + 4 * j) ≤ 99) ∧ (∀ j, j < 10 → 0 ≤ d (19 + 4 * j) ∧ d (19 + 4 * j) ≤ 99) ∧
  (∀ i, i < 6 → nI i < d 2 → 0 < d (56 + i) ∧ d (56 + i) ≤ (1 <<< (d 1 &&& 31)) - 1) ∧ (∀ i, i < 10 → d (62 + i) = -1 ∨ (0 ≤ d (62 + i) ∧ d (62 + i) ≤ d 1 - 1))
def KeptR (S : ST) : Prop := S.1 0 3 = S.1 51 3 ∧ (S.1 51 3 = 0 ∨ (S.1 51 3 = 1 ∧ SkyR 11 S (S.1 53) ∧ SkyK (S.1 53)))
def TapeR (S : ST) : Prop := S.1 32 1 = S.1 51 7 ∧ ∃ t : Nat, t ≤ 120 ∧ S.1 51 7 = nI t ∧ ∀ j, j < t → (0 ≤ S.1 57 j ∧ S.1 57 j ≤ 255) ∧ S.1 33 j = (S.1 57 j).toInt8.toInt32
def SheetR (S : ST) : Prop := ∀ s, s < 4 → S.1 (43 + 2 * s) 0 = S.1 62 s ∧ S.1 (43 + 2 * s) 1 = S.1 63 s ∧ (S.1 62 s = 0 ∨ S.1 62 s = 8 ∨ S.1 62 s = 16 ∨ S.1 62 s = 32) ∧ (0 ≤ S.1 63 s ∧ S.1 63 s ≤ 40) ∧ ∀ j, j < 40 → S.1 (44 + 2 * s) j = S.1 64 (40 * s + j)
def WordsR (S : ST) : Prop := S.1 58 = S_12.1 58 ∧ S.1 59 = S_12.1 59 ∧ S.1 60 = S_12.1 60 ∧ S.1 61 = S_12.1 61
def Inv (S : ST) : Prop := SkyR 1 S (S.1 52) ∧ SkyK (S.1 52) ∧ KeptR S ∧ (∀ i, i < 7 → S.1 42 i = S.1 55 i) ∧ TapeR S ∧ SheetR S ∧ WordsR S
/-- what is not scratch is the same -/
def Same (S S' : ST) : Prop := (∀ c, (c ≤ 20 ∨ c = 33 ∨ (42 ≤ c ∧ c ≤ 50) ∨ c = 52 ∨ c = 53 ∨ c = 55 ∨ (57 ≤ c ∧ c ≤ 64)) → S'.1 c = S.1 c) ∧ S'.1 32 1 = S.1 32 1 ∧ S'.1 51 3 = S.1 51 3 ∧ S'.1 51 7 = S.1 51 7
theorem Same.rfl {S : ST} : Same S S := ⟨fun _ _ => Eq.refl _, Eq.refl _, Eq.refl _, Eq.refl _⟩
theorem Same.trans {S S1 S2 : ST} (h : Same S S1) (h2 : Same S1 S2) : Same S S2 := ⟨fun c hc => (h2.1 c hc).trans (h.1 c hc), h2.2.1.trans h.2.1, h2.2.2.1.trans h.2.2.1, h2.2.2.2.trans h.2.2.2⟩
theorem SkyR.cong {k : Nat} {S S' : ST} {d : Nat → Int32} (h : SkyR k S d) (hr : ∀ c, k ≤ c → c ≤ k + 9 → S'.1 c = S.1 c) : SkyR k S' d := by
  unfold SkyR at h ⊢
  rw [hr k (by omega) (by omega), hr (k + 1) (by omega) (by omega), hr (k + 2) (by omega) (by omega), hr (k + 3) (by omega) (by omega), hr (k + 4) (by omega) (by omega), hr (k + 5) (by omega) (by omega), hr (k + 6) (by omega) (by omega), hr (k + 7) (by omega) (by omega), hr (k + 8) (by omega) (by omega), hr (k + 9) (by omega) (by omega)]
  exact h
theorem KeptR.cong {S S' : ST} (h : KeptR S) (h0 : S'.1 0 3 = S.1 0 3) (h1 : S'.1 51 3 = S.1 51 3) (h2 : S'.1 53 = S.1 53) (hr : ∀ c, 11 ≤ c → c ≤ 20 → S'.1 c = S.1 c) : KeptR S' := by
  unfold KeptR at h ⊢
  rw [h0, h1, h2]
  refine ⟨h.1, ?_⟩
  rcases h.2 with h3 | ⟨h3, h4, h5⟩
  · exact Or.inl h3
  · exact Or.inr ⟨h3, h4.cong (fun c a b => hr c a (by omega)), h5⟩
theorem TapeR.cong {S S' : ST} (h : TapeR S) (h0 : S'.1 32 1 = S.1 32 1) (h1 : S'.1 51 7 = S.1 51 7) (h2 : S'.1 57 = S.1 57) (h3 : S'.1 33 = S.1 33) : TapeR S' := by
  unfold TapeR at h ⊢
  rw [h0, h1, h2, h3]
  exact h
theorem SheetR.cong {S S' : ST} (h : SheetR S) (hr : ∀ c, (43 ≤ c ∧ c ≤ 50) ∨ (62 ≤ c ∧ c ≤ 64) → S'.1 c = S.1 c) : SheetR S' := by
  intro s hs
  have := h s hs
  rw [hr (43 + 2 * s) (by omega), hr (44 + 2 * s) (by omega), hr 62 (by omega), hr 63 (by omega), hr 64 (by omega)]
  exact this
theorem WordsR.cong {S S' : ST} (h : WordsR S) (hr : ∀ c, 58 ≤ c → c ≤ 61 → S'.1 c = S.1 c) : WordsR S' := by
  unfold WordsR at h ⊢
  rw [hr 58 (by omega) (by omega), hr 59 (by omega) (by omega), hr 60 (by omega) (by omega), hr 61 (by omega) (by omega)]
  exact h
theorem Inv.same {S S' : ST} (h : Inv S) (hs : Same S S') : Inv S' := by
  obtain ⟨h1, h2, h3, h4, h5, h6, h7⟩ := h
  obtain ⟨r, r1, r2, r3⟩ := hs
  refine ⟨?_, ?_, h3.cong (by rw [r 0 (by omega)]) r2 (r 53 (by omega)) (fun c a b => r c (by omega)), ?_, h5.cong r1 r3 (r 57 (by omega)) (r 33 (by omega)), h6.cong (fun c hc => r c (by omega)), h7.cong (fun c a b => r c (by omega))⟩
  · rw [r 52 (by omega)]
    exact h1.cong (fun c a b => r c (by omega))
  · rw [r 52 (by omega)]
    exact h2
  · rw [r 42 (by omega), r 55 (by omega)]
    exact h4
def Ok (f g : ST → Option (Int32 × ST)) : Prop := ∀ S, Inv S → ∃ r S1 S2, f S = some (r, S1) ∧ g S1 = some (r, S2) ∧ Inv S2
/-- a finding told by both -/
def finS (S : ST) (i : Nat) : ST := wr (wr S 42 i (S.1 42 i + 1)) 55 i (S.1 55 i + 1)
theorem Inv.fin {S : ST} (h : Inv S) {i : Nat} (hi : i < 7) : Inv (finS S i) := by
  obtain ⟨h1, h2, h3, h4, h5, h6, h7⟩ := h
  have r : ∀ c, c ≠ 42 → c ≠ 55 → (finS S i).1 c = S.1 c := by
    intro c a b
    simp [finS, wr, a, b]
  refine ⟨?_, ?_, h3.cong (by rw [r 0 (by omega) (by omega)]) (by rw [r 51 (by omega) (by omega)]) (r 53 (by omega) (by omega)) (fun c a b => r c (by omega) (by omega)), ?_, h5.cong (by rw [r 32 (by omega) (by omega)]) (by rw [r 51 (by omega) (by omega)]) (r 57 (by omega) (by omega)) (r 33 (by omega) (by omega)), h6.cong (fun c hc => r c (by omega) (by omega)), h7.cong (fun c a b => r c (by omega) (by omega))⟩
  · rw [r 52 (by omega) (by omega)]
    exact h1.cong (fun c a b => r c (by omega) (by omega))
  · rw [r 52 (by omega) (by omega)]
    exact h2
  · intro j hj
    have e1 := h4 j hj
    have e2 := h4 i hi
    by_cases hji : j = i
    · subst hji
      simp [finS, wr, upd, e1]
    · simp [finS, wr, upd, hji, e1]
theorem ok_fin {S : ST} (h : Inv S) {i : Nat} (hi : i < 7) {f g : ST → Option (Int32 × ST)} (hf : f S = G_X5_finding_0 (nI i) S) (hg : ∀ S1, (∀ c, c ≠ 42 → S1.1 c = S.1 c) → g S1 = G_X6_no_51 (nI i) S1) : ∃ r S1 S2, f S = some (r, S1) ∧ g S1 = some (r, S2) ∧ Inv S2 := by
  refine ⟨-1000001 - nI i, _, finS S i, by rw [hf, fnd hi], ?_, h.fin hi⟩
  rw [hg _ (fun c hc => wr_ne hc), nof hi]
  have : (wr S 42 i (S.1 42 i + 1)).1 55 = S.1 55 := wr_ne (by omega)
  rw [this]
  rfl
theorem nI_lit0 : nI 0 = 0 := rfl
theorem bndS {α β : Type} (a : α) (f : α → Option β) : (some a).bind f = f a := rfl
theorem Inv.start : Inv S_12 := by
  refine ⟨?_, ?_, ?_, ?_, ?_, ?_, ⟨rfl, rfl, rfl, rfl⟩⟩
  · unfold SkyR
    refine ⟨by decide +kernel, by decide +kernel, by decide +kernel, by decide +kernel, by decide +kernel, by decide +kernel, by decide +kernel, by decide +kernel, by decide +kernel, by decide +kernel, by decide +kernel, by decide +kernel, by decide +kernel⟩
  · unfold SkyK
    refine ⟨by decide +kernel, by decide +kernel, by decide +kernel, by decide +kernel, by decide +kernel, by decide +kernel, by decide +kernel, by decide +kernel, by decide +kernel, by decide +kernel, by decide +kernel, by decide +kernel, by decide +kernel, by decide +kernel, by decide +kernel⟩
  · exact ⟨by decide +kernel, Or.inl (by decide +kernel)⟩
  · decide +kernel
  · exact ⟨by decide +kernel, 0, by decide, by decide +kernel, fun j hj => by omega⟩
  · unfold SheetR
    decide +kernel
