/-- a sky is taken over -/
theorem SkyR.dcong {k : Nat} {S : ST} {d e : Nat → Int32} (h : SkyR k S d) (hd : ∀ i, i < 72 → e i = d i) : SkyR k S e := by
  unfold SkyR at h ⊢
  obtain ⟨a1, a2, a3, a4, a5, a6, a7, a8, a9, a10, a11, a12, a13⟩ := h
  exact ⟨by rw [a1, hd 1 (by omega)], by rw [a2, hd 0 (by omega)], by rw [a3, hd 2 (by omega)], by rw [a4, hd 3 (by omega)], fun i hi => by rw [a5 i hi, hd _ (by omega)], fun i hi => by rw [a6 i hi, hd _ (by omega)], fun i hi => by rw [a7 i hi, hd _ (by omega)], fun i hi => by rw [a8 i hi, hd _ (by omega)], fun i hi => by rw [a9 i hi, hd _ (by omega)], fun i hi => by rw [a10 i hi, hd _ (by omega)], fun i hi => by rw [a11 i hi, hd _ (by omega)], fun i hi => by rw [a12 i hi, hd _ (by omega)], fun i hi => by rw [a13 i hi, hd _ (by omega)]⟩
theorem SkyK.dcong {d e : Nat → Int32} (h : SkyK d) (hd : ∀ i, i < 72 → e i = d i) : SkyK e := by
  unfold SkyK at h ⊢
  obtain ⟨a1, a2, a3, a4, a5, a6, a7, a8, a9, a10, a11, a12, a13, a14, a15⟩ := h
  rw [hd 0 (by omega), hd 1 (by omega), hd 2 (by omega), hd 4 (by omega), hd 5 (by omega), hd 6 (by omega), hd 7 (by omega)]
  exact ⟨a1, a2, a3, a4, a5, a6, a7, fun i hi => by rw [hd _ (by omega)]; exact a8 i hi, fun i hi => by rw [hd _ (by omega)]; exact a9 i hi, fun i hi => by rw [hd _ (by omega)]; exact a10 i hi, fun i hi => by rw [hd _ (by omega)]; exact a11 i hi, fun i hi => by rw [hd _ (by omega)]; exact a12 i hi, fun i hi => by rw [hd _ (by omega)]; exact a13 i hi, fun i hi => by rw [hd _ (by omega)]; exact a14 i hi, fun i hi => by rw [hd _ (by omega)]; exact a15 i hi⟩
theorem SkyR.move {k k2 : Nat} {S T : ST} {d : Nat → Int32} (h : SkyR k S d) (h0 : T.1 k2 0 = S.1 k 0) (h8 : T.1 k2 8 = S.1 k 8) (h9 : T.1 k2 9 = S.1 k 9) (h12 : T.1 k2 12 = S.1 k 12) (ha : ∀ i, i < 4 → T.1 (k2 + 7) i = S.1 (k + 7) i) (hb : ∀ i, i < 4 → T.1 (k2 + 5) i = S.1 (k + 5) i) (hc : ∀ i, i < 4 → T.1 (k2 + 6) i = S.1 (k + 6) i) (hd : ∀ i, i < 10 → T.1 (k2 + 1) i = S.1 (k + 1) i) (he : ∀ i, i < 10 → T.1 (k2 + 2) i = S.1 (k + 2) i) (hf : ∀ i, i < 10 → T.1 (k2 + 3) i = S.1 (k + 3) i) (hg : ∀ i, i < 10 → T.1 (k2 + 4) i = S.1 (k + 4) i) (hh : ∀ i, i < 6 → T.1 (k2 + 8) i = S.1 (k + 8) i) (hi : ∀ i, i < 10 → T.1 (k2 + 9) i = S.1 (k + 9) i) : SkyR k2 T d := by
  unfold SkyR at h ⊢
  obtain ⟨a1, a2, a3, a4, a5, a6, a7, a8, a9, a10, a11, a12, a13⟩ := h
  exact ⟨h0.trans a1, h8.trans a2, h9.trans a3, h12.trans a4, fun i h => (ha i h).trans (a5 i h), fun i h => (hb i h).trans (a6 i h), fun i h => (hc i h).trans (a7 i h), fun i h => (hd i h).trans (a8 i h), fun i h => (he i h).trans (a9 i h), fun i h => (hf i h).trans (a10 i h), fun i h => (hg i h).trans (a11 i h), fun i h => (hh i h).trans (a12 i h), fun i h => (hi i h).trans (a13 i h)⟩
theorem cpIn {f g : Nat → Int32} {n j : Nat} (h : j < n) : va_cpy f g 0 0 n j = f j := by
  rw [pk_cpy_in (by omega) (by omega)]
  congr 1
  omega
theorem cp_eq {S : ST} {a b sp dp n : Nat} : (cpS S a b sp dp n).1 b = va_cpy (S.1 a) (S.1 b) sp dp n := by simp [cpS]
theorem cp_ne {S : ST} {a b sp dp n c : Nat} (h : c ≠ b) : (cpS S a b sp dp n).1 c = S.1 c := by simp [cpS, h]
theorem bec_11_1 {S : ST} {d : Nat → Int32} (h : SkyR 1 S d) : ∃ T, G_X1_become_11_1 S = some ((), T) ∧ SkyR 11 T d ∧ ∀ c, ¬ (11 ≤ c ∧ c ≤ 20) → T.1 c = S.1 c := by
  refine ⟨_, rfl, ?_, ?_⟩
  · refine h.move ?_ ?_ ?_ ?_ (fun j hj => ?_) (fun j hj => ?_) (fun j hj => ?_) (fun j hj => ?_) (fun j hj => ?_) (fun j hj => ?_) (fun j hj => ?_) (fun j hj => ?_) (fun j hj => ?_)
    · rw [wr_eq, updN _ _ (show 0 ≠ 12 by omega), cp_ne (show 11 ≠ 20 by omega), cp_ne (show 11 ≠ 19 by omega), wr_eq, updN _ _ (show 0 ≠ 9 by omega), wr_eq, updN _ _ (show 0 ≠ 8 by omega), cp_ne (show 11 ≠ 18 by omega), cp_ne (show 11 ≠ 17 by omega), cp_ne (show 11 ≠ 16 by omega), cp_ne (show 11 ≠ 15 by omega), cp_ne (show 11 ≠ 14 by omega), cp_ne (show 11 ≠ 13 by omega), cp_ne (show 11 ≠ 12 by omega), wr_eq, updI]
    · rw [wr_eq, updN _ _ (show 8 ≠ 12 by omega), cp_ne (show 11 ≠ 20 by omega), cp_ne (show 11 ≠ 19 by omega), wr_eq, updN _ _ (show 8 ≠ 9 by omega), wr_eq, updI]
    · rw [wr_eq, updN _ _ (show 9 ≠ 12 by omega), cp_ne (show 11 ≠ 20 by omega), cp_ne (show 11 ≠ 19 by omega), wr_eq, updI]
    · rw [wr_eq, updI]
    · simp only [Nat.reduceAdd]
      rw [wr_ne (show 18 ≠ 11 by omega), cp_ne (show 18 ≠ 20 by omega), cp_ne (show 18 ≠ 19 by omega), wr_ne (show 18 ≠ 11 by omega), wr_ne (show 18 ≠ 11 by omega), cp_eq, cpIn hj, cp_ne (show 8 ≠ 17 by omega), cp_ne (show 8 ≠ 16 by omega), cp_ne (show 8 ≠ 15 by omega), cp_ne (show 8 ≠ 14 by omega), cp_ne (show 8 ≠ 13 by omega), cp_ne (show 8 ≠ 12 by omega), wr_ne (show 8 ≠ 11 by omega)]
    · simp only [Nat.reduceAdd]
      rw [wr_ne (show 16 ≠ 11 by omega), cp_ne (show 16 ≠ 20 by omega), cp_ne (show 16 ≠ 19 by omega), wr_ne (show 16 ≠ 11 by omega), wr_ne (show 16 ≠ 11 by omega), cp_ne (show 16 ≠ 18 by omega), cp_ne (show 16 ≠ 17 by omega), cp_eq, cpIn hj, cp_ne (show 6 ≠ 15 by omega), cp_ne (show 6 ≠ 14 by omega), cp_ne (show 6 ≠ 13 by omega), cp_ne (show 6 ≠ 12 by omega), wr_ne (show 6 ≠ 11 by omega)]
    · simp only [Nat.reduceAdd]
      rw [wr_ne (show 17 ≠ 11 by omega), cp_ne (show 17 ≠ 20 by omega), cp_ne (show 17 ≠ 19 by omega), wr_ne (show 17 ≠ 11 by omega), wr_ne (show 17 ≠ 11 by omega), cp_ne (show 17 ≠ 18 by omega), cp_eq, cpIn hj, cp_ne (show 7 ≠ 16 by omega), cp_ne (show 7 ≠ 15 by omega), cp_ne (show 7 ≠ 14 by omega), cp_ne (show 7 ≠ 13 by omega), cp_ne (show 7 ≠ 12 by omega), wr_ne (show 7 ≠ 11 by omega)]
    · simp only [Nat.reduceAdd]
      rw [wr_ne (show 12 ≠ 11 by omega), cp_ne (show 12 ≠ 20 by omega), cp_ne (show 12 ≠ 19 by omega), wr_ne (show 12 ≠ 11 by omega), wr_ne (show 12 ≠ 11 by omega), cp_ne (show 12 ≠ 18 by omega), cp_ne (show 12 ≠ 17 by omega), cp_ne (show 12 ≠ 16 by omega), cp_ne (show 12 ≠ 15 by omega), cp_ne (show 12 ≠ 14 by omega), cp_ne (show 12 ≠ 13 by omega), cp_eq, cpIn hj, wr_ne (show 2 ≠ 11 by omega)]
    · simp only [Nat.reduceAdd]
      rw [wr_ne (show 13 ≠ 11 by omega), cp_ne (show 13 ≠ 20 by omega), cp_ne (show 13 ≠ 19 by omega), wr_ne (show 13 ≠ 11 by omega), wr_ne (show 13 ≠ 11 by omega), cp_ne (show 13 ≠ 18 by omega), cp_ne (show 13 ≠ 17 by omega), cp_ne (show 13 ≠ 16 by omega), cp_ne (show 13 ≠ 15 by omega), cp_ne (show 13 ≠ 14 by omega), cp_eq, cpIn hj, cp_ne (show 3 ≠ 12 by omega), wr_ne (show 3 ≠ 11 by omega)]
    · simp only [Nat.reduceAdd]
      rw [wr_ne (show 14 ≠ 11 by omega), cp_ne (show 14 ≠ 20 by omega), cp_ne (show 14 ≠ 19 by omega), wr_ne (show 14 ≠ 11 by omega), wr_ne (show 14 ≠ 11 by omega), cp_ne (show 14 ≠ 18 by omega), cp_ne (show 14 ≠ 17 by omega), cp_ne (show 14 ≠ 16 by omega), cp_ne (show 14 ≠ 15 by omega), cp_eq, cpIn hj, cp_ne (show 4 ≠ 13 by omega), cp_ne (show 4 ≠ 12 by omega), wr_ne (show 4 ≠ 11 by omega)]
    · simp only [Nat.reduceAdd]
      rw [wr_ne (show 15 ≠ 11 by omega), cp_ne (show 15 ≠ 20 by omega), cp_ne (show 15 ≠ 19 by omega), wr_ne (show 15 ≠ 11 by omega), wr_ne (show 15 ≠ 11 by omega), cp_ne (show 15 ≠ 18 by omega), cp_ne (show 15 ≠ 17 by omega), cp_ne (show 15 ≠ 16 by omega), cp_eq, cpIn hj, cp_ne (show 5 ≠ 14 by omega), cp_ne (show 5 ≠ 13 by omega), cp_ne (show 5 ≠ 12 by omega), wr_ne (show 5 ≠ 11 by omega)]
    · simp only [Nat.reduceAdd]
      rw [wr_ne (show 19 ≠ 11 by omega), cp_ne (show 19 ≠ 20 by omega), cp_eq, cpIn hj, wr_ne (show 9 ≠ 11 by omega), wr_ne (show 9 ≠ 11 by omega), cp_ne (show 9 ≠ 18 by omega), cp_ne (show 9 ≠ 17 by omega), cp_ne (show 9 ≠ 16 by omega), cp_ne (show 9 ≠ 15 by omega), cp_ne (show 9 ≠ 14 by omega), cp_ne (show 9 ≠ 13 by omega), cp_ne (show 9 ≠ 12 by omega), wr_ne (show 9 ≠ 11 by omega)]
    · simp only [Nat.reduceAdd]
      rw [wr_ne (show 20 ≠ 11 by omega), cp_eq, cpIn hj, cp_ne (show 10 ≠ 19 by omega), wr_ne (show 10 ≠ 11 by omega), wr_ne (show 10 ≠ 11 by omega), cp_ne (show 10 ≠ 18 by omega), cp_ne (show 10 ≠ 17 by omega), cp_ne (show 10 ≠ 16 by omega), cp_ne (show 10 ≠ 15 by omega), cp_ne (show 10 ≠ 14 by omega), cp_ne (show 10 ≠ 13 by omega), cp_ne (show 10 ≠ 12 by omega), wr_ne (show 10 ≠ 11 by omega)]
  · intro c hc
    rw [wr_ne (show c ≠ 11 by omega), cp_ne (show c ≠ 20 by omega), cp_ne (show c ≠ 19 by omega), wr_ne (show c ≠ 11 by omega), wr_ne (show c ≠ 11 by omega), cp_ne (show c ≠ 18 by omega), cp_ne (show c ≠ 17 by omega), cp_ne (show c ≠ 16 by omega), cp_ne (show c ≠ 15 by omega), cp_ne (show c ≠ 14 by omega), cp_ne (show c ≠ 13 by omega), cp_ne (show c ≠ 12 by omega), wr_ne (show c ≠ 11 by omega)]
theorem bec_1_11 {S : ST} {d : Nat → Int32} (h : SkyR 11 S d) : ∃ T, G_X1_become_1_11 S = some ((), T) ∧ SkyR 1 T d ∧ ∀ c, ¬ (1 ≤ c ∧ c ≤ 10) → T.1 c = S.1 c := by
  refine ⟨_, rfl, ?_, ?_⟩
  · refine h.move ?_ ?_ ?_ ?_ (fun j hj => ?_) (fun j hj => ?_) (fun j hj => ?_) (fun j hj => ?_) (fun j hj => ?_) (fun j hj => ?_) (fun j hj => ?_) (fun j hj => ?_) (fun j hj => ?_)
    · rw [wr_eq, updN _ _ (show 0 ≠ 12 by omega), cp_ne (show 1 ≠ 10 by omega), cp_ne (show 1 ≠ 9 by omega), wr_eq, updN _ _ (show 0 ≠ 9 by omega), wr_eq, updN _ _ (show 0 ≠ 8 by omega), cp_ne (show 1 ≠ 8 by omega), cp_ne (show 1 ≠ 7 by omega), cp_ne (show 1 ≠ 6 by omega), cp_ne (show 1 ≠ 5 by omega), cp_ne (show 1 ≠ 4 by omega), cp_ne (show 1 ≠ 3 by omega), cp_ne (show 1 ≠ 2 by omega), wr_eq, updI]
    · rw [wr_eq, updN _ _ (show 8 ≠ 12 by omega), cp_ne (show 1 ≠ 10 by omega), cp_ne (show 1 ≠ 9 by omega), wr_eq, updN _ _ (show 8 ≠ 9 by omega), wr_eq, updI]
    · rw [wr_eq, updN _ _ (show 9 ≠ 12 by omega), cp_ne (show 1 ≠ 10 by omega), cp_ne (show 1 ≠ 9 by omega), wr_eq, updI]
    · rw [wr_eq, updI]
    · simp only [Nat.reduceAdd]
      rw [wr_ne (show 8 ≠ 1 by omega), cp_ne (show 8 ≠ 10 by omega), cp_ne (show 8 ≠ 9 by omega), wr_ne (show 8 ≠ 1 by omega), wr_ne (show 8 ≠ 1 by omega), cp_eq, cpIn hj, cp_ne (show 18 ≠ 7 by omega), cp_ne (show 18 ≠ 6 by omega), cp_ne (show 18 ≠ 5 by omega), cp_ne (show 18 ≠ 4 by omega), cp_ne (show 18 ≠ 3 by omega), cp_ne (show 18 ≠ 2 by omega), wr_ne (show 18 ≠ 1 by omega)]
    · simp only [Nat.reduceAdd]
      rw [wr_ne (show 6 ≠ 1 by omega), cp_ne (show 6 ≠ 10 by omega), cp_ne (show 6 ≠ 9 by omega), wr_ne (show 6 ≠ 1 by omega), wr_ne (show 6 ≠ 1 by omega), cp_ne (show 6 ≠ 8 by omega), cp_ne (show 6 ≠ 7 by omega), cp_eq, cpIn hj, cp_ne (show 16 ≠ 5 by omega), cp_ne (show 16 ≠ 4 by omega), cp_ne (show 16 ≠ 3 by omega), cp_ne (show 16 ≠ 2 by omega), wr_ne (show 16 ≠ 1 by omega)]
    · simp only [Nat.reduceAdd]
      rw [wr_ne (show 7 ≠ 1 by omega), cp_ne (show 7 ≠ 10 by omega), cp_ne (show 7 ≠ 9 by omega), wr_ne (show 7 ≠ 1 by omega), wr_ne (show 7 ≠ 1 by omega), cp_ne (show 7 ≠ 8 by omega), cp_eq, cpIn hj, cp_ne (show 17 ≠ 6 by omega), cp_ne (show 17 ≠ 5 by omega), cp_ne (show 17 ≠ 4 by omega), cp_ne (show 17 ≠ 3 by omega), cp_ne (show 17 ≠ 2 by omega), wr_ne (show 17 ≠ 1 by omega)]
    · simp only [Nat.reduceAdd]
      rw [wr_ne (show 2 ≠ 1 by omega), cp_ne (show 2 ≠ 10 by omega), cp_ne (show 2 ≠ 9 by omega), wr_ne (show 2 ≠ 1 by omega), wr_ne (show 2 ≠ 1 by omega), cp_ne (show 2 ≠ 8 by omega), cp_ne (show 2 ≠ 7 by omega), cp_ne (show 2 ≠ 6 by omega), cp_ne (show 2 ≠ 5 by omega), cp_ne (show 2 ≠ 4 by omega), cp_ne (show 2 ≠ 3 by omega), cp_eq, cpIn hj, wr_ne (show 12 ≠ 1 by omega)]
    · simp only [Nat.reduceAdd]
      rw [wr_ne (show 3 ≠ 1 by omega), cp_ne (show 3 ≠ 10 by omega), cp_ne (show 3 ≠ 9 by omega), wr_ne (show 3 ≠ 1 by omega), wr_ne (show 3 ≠ 1 by omega), cp_ne (show 3 ≠ 8 by omega), cp_ne (show 3 ≠ 7 by omega), cp_ne (show 3 ≠ 6 by omega), cp_ne (show 3 ≠ 5 by omega), cp_ne (show 3 ≠ 4 by omega), cp_eq, cpIn hj, cp_ne (show 13 ≠ 2 by omega), wr_ne (show 13 ≠ 1 by omega)]
    · simp only [Nat.reduceAdd]
      rw [wr_ne (show 4 ≠ 1 by omega), cp_ne (show 4 ≠ 10 by omega), cp_ne (show 4 ≠ 9 by omega), wr_ne (show 4 ≠ 1 by omega), wr_ne (show 4 ≠ 1 by omega), cp_ne (show 4 ≠ 8 by omega), cp_ne (show 4 ≠ 7 by omega), cp_ne (show 4 ≠ 6 by omega), cp_ne (show 4 ≠ 5 by omega), cp_eq, cpIn hj, cp_ne (show 14 ≠ 3 by omega), cp_ne (show 14 ≠ 2 by omega), wr_ne (show 14 ≠ 1 by omega)]
    · simp only [Nat.reduceAdd]
      rw [wr_ne (show 5 ≠ 1 by omega), cp_ne (show 5 ≠ 10 by omega), cp_ne (show 5 ≠ 9 by omega), wr_ne (show 5 ≠ 1 by omega), wr_ne (show 5 ≠ 1 by omega), cp_ne (show 5 ≠ 8 by omega), cp_ne (show 5 ≠ 7 by omega), cp_ne (show 5 ≠ 6 by omega), cp_eq, cpIn hj, cp_ne (show 15 ≠ 4 by omega), cp_ne (show 15 ≠ 3 by omega), cp_ne (show 15 ≠ 2 by omega), wr_ne (show 15 ≠ 1 by omega)]
    · simp only [Nat.reduceAdd]
      rw [wr_ne (show 9 ≠ 1 by omega), cp_ne (show 9 ≠ 10 by omega), cp_eq, cpIn hj, wr_ne (show 19 ≠ 1 by omega), wr_ne (show 19 ≠ 1 by omega), cp_ne (show 19 ≠ 8 by omega), cp_ne (show 19 ≠ 7 by omega), cp_ne (show 19 ≠ 6 by omega), cp_ne (show 19 ≠ 5 by omega), cp_ne (show 19 ≠ 4 by omega), cp_ne (show 19 ≠ 3 by omega), cp_ne (show 19 ≠ 2 by omega), wr_ne (show 19 ≠ 1 by omega)]
    · simp only [Nat.reduceAdd]
      rw [wr_ne (show 10 ≠ 1 by omega), cp_eq, cpIn hj, cp_ne (show 20 ≠ 9 by omega), wr_ne (show 20 ≠ 1 by omega), wr_ne (show 20 ≠ 1 by omega), cp_ne (show 20 ≠ 8 by omega), cp_ne (show 20 ≠ 7 by omega), cp_ne (show 20 ≠ 6 by omega), cp_ne (show 20 ≠ 5 by omega), cp_ne (show 20 ≠ 4 by omega), cp_ne (show 20 ≠ 3 by omega), cp_ne (show 20 ≠ 2 by omega), wr_ne (show 20 ≠ 1 by omega)]
  · intro c hc
    rw [wr_ne (show c ≠ 1 by omega), cp_ne (show c ≠ 10 by omega), cp_ne (show c ≠ 9 by omega), wr_ne (show c ≠ 1 by omega), wr_ne (show c ≠ 1 by omega), cp_ne (show c ≠ 8 by omega), cp_ne (show c ≠ 7 by omega), cp_ne (show c ≠ 6 by omega), cp_ne (show c ≠ 5 by omega), cp_ne (show c ≠ 4 by omega), cp_ne (show c ≠ 3 by omega), cp_ne (show c ≠ 2 by omega), wr_ne (show c ≠ 1 by omega)]
theorem bec_21_1 {S : ST} {d : Nat → Int32} (h : SkyR 1 S d) : ∃ T, G_X1_become_21_1 S = some ((), T) ∧ SkyR 21 T d ∧ ∀ c, ¬ (21 ≤ c ∧ c ≤ 30) → T.1 c = S.1 c := by
  refine ⟨_, rfl, ?_, ?_⟩
  · refine h.move ?_ ?_ ?_ ?_ (fun j hj => ?_) (fun j hj => ?_) (fun j hj => ?_) (fun j hj => ?_) (fun j hj => ?_) (fun j hj => ?_) (fun j hj => ?_) (fun j hj => ?_) (fun j hj => ?_)
    · rw [wr_eq, updN _ _ (show 0 ≠ 12 by omega), cp_ne (show 21 ≠ 30 by omega), cp_ne (show 21 ≠ 29 by omega), wr_eq, updN _ _ (show 0 ≠ 9 by omega), wr_eq, updN _ _ (show 0 ≠ 8 by omega), cp_ne (show 21 ≠ 28 by omega), cp_ne (show 21 ≠ 27 by omega), cp_ne (show 21 ≠ 26 by omega), cp_ne (show 21 ≠ 25 by omega), cp_ne (show 21 ≠ 24 by omega), cp_ne (show 21 ≠ 23 by omega), cp_ne (show 21 ≠ 22 by omega), wr_eq, updI]
    · rw [wr_eq, updN _ _ (show 8 ≠ 12 by omega), cp_ne (show 21 ≠ 30 by omega), cp_ne (show 21 ≠ 29 by omega), wr_eq, updN _ _ (show 8 ≠ 9 by omega), wr_eq, updI]
    · rw [wr_eq, updN _ _ (show 9 ≠ 12 by omega), cp_ne (show 21 ≠ 30 by omega), cp_ne (show 21 ≠ 29 by omega), wr_eq, updI]
    · rw [wr_eq, updI]
    · simp only [Nat.reduceAdd]
      rw [wr_ne (show 28 ≠ 21 by omega), cp_ne (show 28 ≠ 30 by omega), cp_ne (show 28 ≠ 29 by omega), wr_ne (show 28 ≠ 21 by omega), wr_ne (show 28 ≠ 21 by omega), cp_eq, cpIn hj, cp_ne (show 8 ≠ 27 by omega), cp_ne (show 8 ≠ 26 by omega), cp_ne (show 8 ≠ 25 by omega), cp_ne (show 8 ≠ 24 by omega), cp_ne (show 8 ≠ 23 by omega), cp_ne (show 8 ≠ 22 by omega), wr_ne (show 8 ≠ 21 by omega)]
    · simp only [Nat.reduceAdd]
      rw [wr_ne (show 26 ≠ 21 by omega), cp_ne (show 26 ≠ 30 by omega), cp_ne (show 26 ≠ 29 by omega), wr_ne (show 26 ≠ 21 by omega), wr_ne (show 26 ≠ 21 by omega), cp_ne (show 26 ≠ 28 by omega), cp_ne (show 26 ≠ 27 by omega), cp_eq, cpIn hj, cp_ne (show 6 ≠ 25 by omega), cp_ne (show 6 ≠ 24 by omega), cp_ne (show 6 ≠ 23 by omega), cp_ne (show 6 ≠ 22 by omega), wr_ne (show 6 ≠ 21 by omega)]
    · simp only [Nat.reduceAdd]
      rw [wr_ne (show 27 ≠ 21 by omega), cp_ne (show 27 ≠ 30 by omega), cp_ne (show 27 ≠ 29 by omega), wr_ne (show 27 ≠ 21 by omega), wr_ne (show 27 ≠ 21 by omega), cp_ne (show 27 ≠ 28 by omega), cp_eq, cpIn hj, cp_ne (show 7 ≠ 26 by omega), cp_ne (show 7 ≠ 25 by omega), cp_ne (show 7 ≠ 24 by omega), cp_ne (show 7 ≠ 23 by omega), cp_ne (show 7 ≠ 22 by omega), wr_ne (show 7 ≠ 21 by omega)]
    · simp only [Nat.reduceAdd]
      rw [wr_ne (show 22 ≠ 21 by omega), cp_ne (show 22 ≠ 30 by omega), cp_ne (show 22 ≠ 29 by omega), wr_ne (show 22 ≠ 21 by omega), wr_ne (show 22 ≠ 21 by omega), cp_ne (show 22 ≠ 28 by omega), cp_ne (show 22 ≠ 27 by omega), cp_ne (show 22 ≠ 26 by omega), cp_ne (show 22 ≠ 25 by omega), cp_ne (show 22 ≠ 24 by omega), cp_ne (show 22 ≠ 23 by omega), cp_eq, cpIn hj, wr_ne (show 2 ≠ 21 by omega)]
    · simp only [Nat.reduceAdd]
      rw [wr_ne (show 23 ≠ 21 by omega), cp_ne (show 23 ≠ 30 by omega), cp_ne (show 23 ≠ 29 by omega), wr_ne (show 23 ≠ 21 by omega), wr_ne (show 23 ≠ 21 by omega), cp_ne (show 23 ≠ 28 by omega), cp_ne (show 23 ≠ 27 by omega), cp_ne (show 23 ≠ 26 by omega), cp_ne (show 23 ≠ 25 by omega), cp_ne (show 23 ≠ 24 by omega), cp_eq, cpIn hj, cp_ne (show 3 ≠ 22 by omega), wr_ne (show 3 ≠ 21 by omega)]
    · simp only [Nat.reduceAdd]
      rw [wr_ne (show 24 ≠ 21 by omega), cp_ne (show 24 ≠ 30 by omega), cp_ne (show 24 ≠ 29 by omega), wr_ne (show 24 ≠ 21 by omega), wr_ne (show 24 ≠ 21 by omega), cp_ne (show 24 ≠ 28 by omega), cp_ne (show 24 ≠ 27 by omega), cp_ne (show 24 ≠ 26 by omega), cp_ne (show 24 ≠ 25 by omega), cp_eq, cpIn hj, cp_ne (show 4 ≠ 23 by omega), cp_ne (show 4 ≠ 22 by omega), wr_ne (show 4 ≠ 21 by omega)]
    · simp only [Nat.reduceAdd]
      rw [wr_ne (show 25 ≠ 21 by omega), cp_ne (show 25 ≠ 30 by omega), cp_ne (show 25 ≠ 29 by omega), wr_ne (show 25 ≠ 21 by omega), wr_ne (show 25 ≠ 21 by omega), cp_ne (show 25 ≠ 28 by omega), cp_ne (show 25 ≠ 27 by omega), cp_ne (show 25 ≠ 26 by omega), cp_eq, cpIn hj, cp_ne (show 5 ≠ 24 by omega), cp_ne (show 5 ≠ 23 by omega), cp_ne (show 5 ≠ 22 by omega), wr_ne (show 5 ≠ 21 by omega)]
    · simp only [Nat.reduceAdd]
      rw [wr_ne (show 29 ≠ 21 by omega), cp_ne (show 29 ≠ 30 by omega), cp_eq, cpIn hj, wr_ne (show 9 ≠ 21 by omega), wr_ne (show 9 ≠ 21 by omega), cp_ne (show 9 ≠ 28 by omega), cp_ne (show 9 ≠ 27 by omega), cp_ne (show 9 ≠ 26 by omega), cp_ne (show 9 ≠ 25 by omega), cp_ne (show 9 ≠ 24 by omega), cp_ne (show 9 ≠ 23 by omega), cp_ne (show 9 ≠ 22 by omega), wr_ne (show 9 ≠ 21 by omega)]
    · simp only [Nat.reduceAdd]
      rw [wr_ne (show 30 ≠ 21 by omega), cp_eq, cpIn hj, cp_ne (show 10 ≠ 29 by omega), wr_ne (show 10 ≠ 21 by omega), wr_ne (show 10 ≠ 21 by omega), cp_ne (show 10 ≠ 28 by omega), cp_ne (show 10 ≠ 27 by omega), cp_ne (show 10 ≠ 26 by omega), cp_ne (show 10 ≠ 25 by omega), cp_ne (show 10 ≠ 24 by omega), cp_ne (show 10 ≠ 23 by omega), cp_ne (show 10 ≠ 22 by omega), wr_ne (show 10 ≠ 21 by omega)]
  · intro c hc
    rw [wr_ne (show c ≠ 21 by omega), cp_ne (show c ≠ 30 by omega), cp_ne (show c ≠ 29 by omega), wr_ne (show c ≠ 21 by omega), wr_ne (show c ≠ 21 by omega), cp_ne (show c ≠ 28 by omega), cp_ne (show c ≠ 27 by omega), cp_ne (show c ≠ 26 by omega), cp_ne (show c ≠ 25 by omega), cp_ne (show c ≠ 24 by omega), cp_ne (show c ≠ 23 by omega), cp_ne (show c ≠ 22 by omega), wr_ne (show c ≠ 21 by omega)]
theorem bec_1_21 {S : ST} {d : Nat → Int32} (h : SkyR 21 S d) : ∃ T, G_X1_become_1_21 S = some ((), T) ∧ SkyR 1 T d ∧ ∀ c, ¬ (1 ≤ c ∧ c ≤ 10) → T.1 c = S.1 c := by
  refine ⟨_, rfl, ?_, ?_⟩
  · refine h.move ?_ ?_ ?_ ?_ (fun j hj => ?_) (fun j hj => ?_) (fun j hj => ?_) (fun j hj => ?_) (fun j hj => ?_) (fun j hj => ?_) (fun j hj => ?_) (fun j hj => ?_) (fun j hj => ?_)
    · rw [wr_eq, updN _ _ (show 0 ≠ 12 by omega), cp_ne (show 1 ≠ 10 by omega), cp_ne (show 1 ≠ 9 by omega), wr_eq, updN _ _ (show 0 ≠ 9 by omega), wr_eq, updN _ _ (show 0 ≠ 8 by omega), cp_ne (show 1 ≠ 8 by omega), cp_ne (show 1 ≠ 7 by omega), cp_ne (show 1 ≠ 6 by omega), cp_ne (show 1 ≠ 5 by omega), cp_ne (show 1 ≠ 4 by omega), cp_ne (show 1 ≠ 3 by omega), cp_ne (show 1 ≠ 2 by omega), wr_eq, updI]
    · rw [wr_eq, updN _ _ (show 8 ≠ 12 by omega), cp_ne (show 1 ≠ 10 by omega), cp_ne (show 1 ≠ 9 by omega), wr_eq, updN _ _ (show 8 ≠ 9 by omega), wr_eq, updI]
    · rw [wr_eq, updN _ _ (show 9 ≠ 12 by omega), cp_ne (show 1 ≠ 10 by omega), cp_ne (show 1 ≠ 9 by omega), wr_eq, updI]
    · rw [wr_eq, updI]
    · simp only [Nat.reduceAdd]
      rw [wr_ne (show 8 ≠ 1 by omega), cp_ne (show 8 ≠ 10 by omega), cp_ne (show 8 ≠ 9 by omega), wr_ne (show 8 ≠ 1 by omega), wr_ne (show 8 ≠ 1 by omega), cp_eq, cpIn hj, cp_ne (show 28 ≠ 7 by omega), cp_ne (show 28 ≠ 6 by omega), cp_ne (show 28 ≠ 5 by omega), cp_ne (show 28 ≠ 4 by omega), cp_ne (show 28 ≠ 3 by omega), cp_ne (show 28 ≠ 2 by omega), wr_ne (show 28 ≠ 1 by omega)]
    · simp only [Nat.reduceAdd]
      rw [wr_ne (show 6 ≠ 1 by omega), cp_ne (show 6 ≠ 10 by omega), cp_ne (show 6 ≠ 9 by omega), wr_ne (show 6 ≠ 1 by omega), wr_ne (show 6 ≠ 1 by omega), cp_ne (show 6 ≠ 8 by omega), cp_ne (show 6 ≠ 7 by omega), cp_eq, cpIn hj, cp_ne (show 26 ≠ 5 by omega), cp_ne (show 26 ≠ 4 by omega), cp_ne (show 26 ≠ 3 by omega), cp_ne (show 26 ≠ 2 by omega), wr_ne (show 26 ≠ 1 by omega)]
    · simp only [Nat.reduceAdd]
      rw [wr_ne (show 7 ≠ 1 by omega), cp_ne (show 7 ≠ 10 by omega), cp_ne (show 7 ≠ 9 by omega), wr_ne (show 7 ≠ 1 by omega), wr_ne (show 7 ≠ 1 by omega), cp_ne (show 7 ≠ 8 by omega), cp_eq, cpIn hj, cp_ne (show 27 ≠ 6 by omega), cp_ne (show 27 ≠ 5 by omega), cp_ne (show 27 ≠ 4 by omega), cp_ne (show 27 ≠ 3 by omega), cp_ne (show 27 ≠ 2 by omega), wr_ne (show 27 ≠ 1 by omega)]
    · simp only [Nat.reduceAdd]
      rw [wr_ne (show 2 ≠ 1 by omega), cp_ne (show 2 ≠ 10 by omega), cp_ne (show 2 ≠ 9 by omega), wr_ne (show 2 ≠ 1 by omega), wr_ne (show 2 ≠ 1 by omega), cp_ne (show 2 ≠ 8 by omega), cp_ne (show 2 ≠ 7 by omega), cp_ne (show 2 ≠ 6 by omega), cp_ne (show 2 ≠ 5 by omega), cp_ne (show 2 ≠ 4 by omega), cp_ne (show 2 ≠ 3 by omega), cp_eq, cpIn hj, wr_ne (show 22 ≠ 1 by omega)]
    · simp only [Nat.reduceAdd]
      rw [wr_ne (show 3 ≠ 1 by omega), cp_ne (show 3 ≠ 10 by omega), cp_ne (show 3 ≠ 9 by omega), wr_ne (show 3 ≠ 1 by omega), wr_ne (show 3 ≠ 1 by omega), cp_ne (show 3 ≠ 8 by omega), cp_ne (show 3 ≠ 7 by omega), cp_ne (show 3 ≠ 6 by omega), cp_ne (show 3 ≠ 5 by omega), cp_ne (show 3 ≠ 4 by omega), cp_eq, cpIn hj, cp_ne (show 23 ≠ 2 by omega), wr_ne (show 23 ≠ 1 by omega)]
    · simp only [Nat.reduceAdd]
      rw [wr_ne (show 4 ≠ 1 by omega), cp_ne (show 4 ≠ 10 by omega), cp_ne (show 4 ≠ 9 by omega), wr_ne (show 4 ≠ 1 by omega), wr_ne (show 4 ≠ 1 by omega), cp_ne (show 4 ≠ 8 by omega), cp_ne (show 4 ≠ 7 by omega), cp_ne (show 4 ≠ 6 by omega), cp_ne (show 4 ≠ 5 by omega), cp_eq, cpIn hj, cp_ne (show 24 ≠ 3 by omega), cp_ne (show 24 ≠ 2 by omega), wr_ne (show 24 ≠ 1 by omega)]
    · simp only [Nat.reduceAdd]
      rw [wr_ne (show 5 ≠ 1 by omega), cp_ne (show 5 ≠ 10 by omega), cp_ne (show 5 ≠ 9 by omega), wr_ne (show 5 ≠ 1 by omega), wr_ne (show 5 ≠ 1 by omega), cp_ne (show 5 ≠ 8 by omega), cp_ne (show 5 ≠ 7 by omega), cp_ne (show 5 ≠ 6 by omega), cp_eq, cpIn hj, cp_ne (show 25 ≠ 4 by omega), cp_ne (show 25 ≠ 3 by omega), cp_ne (show 25 ≠ 2 by omega), wr_ne (show 25 ≠ 1 by omega)]
    · simp only [Nat.reduceAdd]
      rw [wr_ne (show 9 ≠ 1 by omega), cp_ne (show 9 ≠ 10 by omega), cp_eq, cpIn hj, wr_ne (show 29 ≠ 1 by omega), wr_ne (show 29 ≠ 1 by omega), cp_ne (show 29 ≠ 8 by omega), cp_ne (show 29 ≠ 7 by omega), cp_ne (show 29 ≠ 6 by omega), cp_ne (show 29 ≠ 5 by omega), cp_ne (show 29 ≠ 4 by omega), cp_ne (show 29 ≠ 3 by omega), cp_ne (show 29 ≠ 2 by omega), wr_ne (show 29 ≠ 1 by omega)]
    · simp only [Nat.reduceAdd]
      rw [wr_ne (show 10 ≠ 1 by omega), cp_eq, cpIn hj, cp_ne (show 30 ≠ 9 by omega), wr_ne (show 30 ≠ 1 by omega), wr_ne (show 30 ≠ 1 by omega), cp_ne (show 30 ≠ 8 by omega), cp_ne (show 30 ≠ 7 by omega), cp_ne (show 30 ≠ 6 by omega), cp_ne (show 30 ≠ 5 by omega), cp_ne (show 30 ≠ 4 by omega), cp_ne (show 30 ≠ 3 by omega), cp_ne (show 30 ≠ 2 by omega), wr_ne (show 30 ≠ 1 by omega)]
  · intro c hc
    rw [wr_ne (show c ≠ 1 by omega), cp_ne (show c ≠ 10 by omega), cp_ne (show c ≠ 9 by omega), wr_ne (show c ≠ 1 by omega), wr_ne (show c ≠ 1 by omega), cp_ne (show c ≠ 8 by omega), cp_ne (show c ≠ 7 by omega), cp_ne (show c ≠ 6 by omega), cp_ne (show c ≠ 5 by omega), cp_ne (show c ≠ 4 by omega), cp_ne (show c ≠ 3 by omega), cp_ne (show c ≠ 2 by omega), wr_ne (show c ≠ 1 by omega)]
theorem mimg2 : ∀ (d k n : Nat) (S : ST), k + d = 72 → d < n → G_X6_image_51_2 n (nI k) S = some (sr S 53 (fun i => if k ≤ i ∧ i < 72 then S.1 52 i else S.1 53 i)) := by
  intro d
  induction d with
  | zero =>
    intro k n S h1 h2
    obtain ⟨n, rfl⟩ : ∃ n', n = n' + 1 := ⟨n - 1, by omega⟩
    unfold G_X6_image_51_2
    rw [if_pos (show (72 : Int32) ≤ nI k from nI_le (a := 72) (by omega) (by omega))]
    have : (fun i => if k ≤ i ∧ i < 72 then S.1 52 i else S.1 53 i) = S.1 53 := by
      funext i
      rw [if_neg (by omega)]
    rw [this, sr_self]
  | succ d ih =>
    intro k n S h1 h2
    obtain ⟨n, rfl⟩ : ∃ n', n = n' + 1 := ⟨n - 1, by omega⟩
    unfold G_X6_image_51_2
    rw [if_neg (show ¬ (72 : Int32) ≤ nI k from nI_ge (b := 72) (by omega) (by omega)), if_pos (inB_nI (by omega) (by decide)), if_pos (inB_nI (by omega) (by decide)), cl (by omega), nI_1, ih (k + 1) n _ (by omega) (by omega), wr_sr, sr_sr, sr_eq, sr_ne (show 52 ≠ 53 by omega)]
    congr 2
    funext i
    by_cases hi : i = k
    · subst hi
      rw [if_neg (by omega), if_pos (by omega), updI]
    · rw [updN _ _ hi]
      by_cases h3 : k ≤ i ∧ i < 72
      · rw [if_pos (by omega), if_pos h3]
      · rw [if_neg (by omega), if_neg h3]
theorem mund2 : ∀ (d k n : Nat) (S : ST), k + d = 72 → d < n → G_X6_undo_51_15 n (nI k) S = some (sr S 52 (fun i => if k ≤ i ∧ i < 72 then S.1 53 i else S.1 52 i)) := by
  intro d
  induction d with
  | zero =>
    intro k n S h1 h2
    obtain ⟨n, rfl⟩ : ∃ n', n = n' + 1 := ⟨n - 1, by omega⟩
    unfold G_X6_undo_51_15
    rw [if_pos (show (72 : Int32) ≤ nI k from nI_le (a := 72) (by omega) (by omega))]
    have : (fun i => if k ≤ i ∧ i < 72 then S.1 53 i else S.1 52 i) = S.1 52 := by
      funext i
      rw [if_neg (by omega)]
    rw [this, sr_self]
  | succ d ih =>
    intro k n S h1 h2
    obtain ⟨n, rfl⟩ : ∃ n', n = n' + 1 := ⟨n - 1, by omega⟩
    unfold G_X6_undo_51_15
    rw [if_neg (show ¬ (72 : Int32) ≤ nI k from nI_ge (b := 72) (by omega) (by omega)), if_pos (inB_nI (by omega) (by decide)), if_pos (inB_nI (by omega) (by decide)), cl (by omega), nI_1, ih (k + 1) n _ (by omega) (by omega), wr_sr, sr_sr, sr_eq, sr_ne (show 53 ≠ 52 by omega)]
    congr 2
    funext i
    by_cases hi : i = k
    · subst hi
      rw [if_neg (by omega), if_pos (by omega), updI]
    · rw [updN _ _ hi]
      by_cases h3 : k ≤ i ∧ i < 72
      · rw [if_pos (by omega), if_pos h3]
      · rw [if_neg (by omega), if_neg h3]
theorem op_image : Ok G_X5_image_0 G_X6_image_51 := by
  intro S h
  obtain ⟨h1, h2, h3, h4, h5, h6, h7⟩ := h
  obtain ⟨T, q1, q2, q3⟩ := bec_11_1 h1
  have m1 := mimg2 72 0 3000 (wr T 0 3 1) (by omega) (by omega)
  rw [show nI 0 = 0 from rfl] at m1
  obtain ⟨f, hf⟩ : ∃ f : Nat → Int32, f = (fun i => if 0 ≤ i ∧ i < 72 then (wr T 0 3 1).1 52 i else (wr T 0 3 1).1 53 i) := ⟨_, rfl⟩
  have hfi : ∀ i, i < 72 → f i = S.1 52 i := fun i hi => by
    rw [hf]
    show (if 0 ≤ i ∧ i < 72 then _ else _) = _
    rw [if_pos ⟨Nat.zero_le _, hi⟩, wr_ne (by omega), q3 52 (by omega)]
  rw [← hf] at m1
  have r : ∀ c, ¬ (11 ≤ c ∧ c ≤ 20) → c ≠ 0 → c ≠ 53 → c ≠ 51 → (wr (sr (wr T 0 3 1) 53 f) 51 3 1).1 c = S.1 c := fun c a b e g => by rw [wr_ne g, sr_ne e, wr_ne b, q3 c a]
  refine ⟨1, wr T 0 3 1, wr (sr (wr T 0 3 1) 53 f) 51 3 1, ?_, ?_, ?_⟩
  · simp only [G_X5_image_0, q1, bndS]
  · simp only [G_X6_image_51, m1, bndS]
  · refine ⟨?_, ?_, ⟨?_, Or.inr ⟨?_, ?_, ?_⟩⟩, ?_, h5.cong (by rw [r 32 (by omega) (by omega) (by omega) (by omega)]) (by rw [wr_eq, updN _ _ (by omega), sr_ne (by omega), wr_ne (by omega), q3 51 (by omega)]) (r 57 (by omega) (by omega) (by omega) (by omega)) (r 33 (by omega) (by omega) (by omega) (by omega)), h6.cong (fun c hc => r c (by omega) (by omega) (by omega) (by omega)), h7.cong (fun c a b => r c (by omega) (by omega) (by omega) (by omega))⟩
    · rw [r 52 (by omega) (by omega) (by omega) (by omega)]
      exact h1.cong (fun c a b => r c (by omega) (by omega) (by omega) (by omega))
    · rw [r 52 (by omega) (by omega) (by omega) (by omega)]
      exact h2
    · rw [wr_ne (by omega), sr_ne (by omega), wr_eq, updI, wr_eq, updI]
    · rw [wr_eq, updI]
    · rw [wr_ne (show 53 ≠ 51 by omega), sr_eq]
      exact (q2.dcong hfi).cong (fun c a b => by rw [wr_ne (by omega), sr_ne (by omega), wr_ne (by omega)])
    · rw [wr_ne (show 53 ≠ 51 by omega), sr_eq]
      exact h2.dcong hfi
    · rw [r 42 (by omega) (by omega) (by omega) (by omega), r 55 (by omega) (by omega) (by omega) (by omega)]
      exact h4
theorem op_undo : Ok G_X5_undo_0 G_X6_undo_51 := by
  intro S h
  have h3 := h.2.2.1
  by_cases hk : S.1 0 3 = 0
  · refine ok_fin h (i := 3) (by decide) ?_ ?_
    · simp only [G_X5_undo_0, fb3]
      rw [if_pos hk]
    · intro S1 hs
      simp only [G_X6_undo_51, nb3, hs 51 (by omega)]
      rw [if_pos (by rw [← h3.1]; exact hk)]
  · rcases h3.2 with e0 | ⟨e1, hR, hK⟩
    · exact absurd (h3.1.trans e0) hk
    · obtain ⟨T, q1, q2, q3⟩ := bec_1_11 hR
      have m1 := mund2 72 0 3000 T (by omega) (by omega)
      rw [show nI 0 = 0 from rfl] at m1
      obtain ⟨f, hf⟩ : ∃ f : Nat → Int32, f = (fun i => if 0 ≤ i ∧ i < 72 then T.1 53 i else T.1 52 i) := ⟨_, rfl⟩
      have hfi : ∀ i, i < 72 → f i = S.1 53 i := fun i hi => by
        rw [hf]
        show (if 0 ≤ i ∧ i < 72 then _ else _) = _
        rw [if_pos ⟨Nat.zero_le _, hi⟩, q3 53 (by omega)]
      rw [← hf] at m1
      refine ⟨f 0, T, sr T 52 f, ?_, ?_, h.op q3 (fun c hc => sr_ne hc) sr_eq (q2.dcong hfi) (hK.dcong hfi)⟩
      · simp only [G_X5_undo_0, q1, bndS]
        rw [if_neg hk, q2.2.1, hfi 0 (by omega)]
      · simp only [G_X6_undo_51, m1, bndS, q3 51 (by omega)]
        rw [if_neg (by rw [← h3.1]; exact hk), sr_eq]
/-- how many findings -/
theorem cstat (S : ST) : ∀ (e k n : Nat) (a : Int32), k + e = 7 → e < n → G_X5_status_0_9 n a (nI k) S = some (it (fun j a => a + S.1 42 j) k e a, S) := by
  intro e
  induction e with
  | zero =>
    intro k n a h1 h2
    obtain ⟨n, rfl⟩ : ∃ n', n = n' + 1 := ⟨n - 1, by omega⟩
    unfold G_X5_status_0_9
    rw [if_pos (show (7 : Int32) ≤ nI k from nI_le (a := 7) (by omega) (by omega))]
    rfl
  | succ e ih =>
    intro k n a h1 h2
    obtain ⟨n, rfl⟩ : ∃ n', n = n' + 1 := ⟨n - 1, by omega⟩
    unfold G_X5_status_0_9
    rw [if_neg (show ¬ (7 : Int32) ≤ nI k from nI_ge (b := 7) (by omega) (by omega)), if_pos (inB_nI (by omega) (by decide)), cl (by omega), nI_1, ih (k + 1) n _ (by omega) (by omega)]
    rfl
theorem mstat (S : ST) : ∀ (e k n : Nat) (a : Int32), k + e = 7 → e < n → G_X6_status_51_20 n (-1) a (nI k) S = some (it (fun j a => a + S.1 55 j) k e a, S) := by
  intro e
  induction e with
  | zero =>
    intro k n a h1 h2
    obtain ⟨n, rfl⟩ : ∃ n', n = n' + 1 := ⟨n - 1, by omega⟩
    unfold G_X6_status_51_20
    rw [if_pos (show (7 : Int32) ≤ nI k from nI_le (a := 7) (by omega) (by omega))]
    rfl
  | succ e ih =>
    intro k n a h1 h2
    obtain ⟨n, rfl⟩ : ∃ n', n = n' + 1 := ⟨n - 1, by omega⟩
    unfold G_X6_status_51_20
    rw [if_neg (show ¬ (7 : Int32) ≤ nI k from nI_ge (b := 7) (by omega) (by omega)), if_pos rfl, if_pos (inB_nI (by omega) (by decide)), cl (by omega), nI_1, ih (k + 1) n _ (by omega) (by omega)]
    rfl
theorem mstat1 (S : ST) {t : Nat} (ht : t < 7) : ∀ (e k n : Nat) (a : Int32), k + e = 7 → e < n → G_X6_status_51_20 n (nI t) a (nI k) S = some (it (fun j a => if t = j then a + S.1 55 j else a) k e a, S) := by
  intro e
  induction e with
  | zero =>
    intro k n a h1 h2
    obtain ⟨n, rfl⟩ : ∃ n', n = n' + 1 := ⟨n - 1, by omega⟩
    unfold G_X6_status_51_20
    rw [if_pos (show (7 : Int32) ≤ nI k from nI_le (a := 7) (by omega) (by omega))]
    rfl
  | succ e ih =>
    intro k n a h1 h2
    obtain ⟨n, rfl⟩ : ∃ n', n = n' + 1 := ⟨n - 1, by omega⟩
    unfold G_X6_status_51_20
    have hne : ¬ nI t = -1 := fun q => by
      have := nI_pos' (n := t) (by omega)
      rw [q] at this
      exact absurd this (by decide)
    rw [if_neg (show ¬ (7 : Int32) ≤ nI k from nI_ge (b := 7) (by omega) (by omega)), if_neg hne, nI_1, add_0]
    simp only [it]
    by_cases hq : t = k
    · subst hq
      rw [if_pos rfl, if_pos (inB_nI (by omega) (by decide)), cl (by omega), ih (t + 1) n _ (by omega) (by omega), if_pos rfl]
    · rw [if_neg (fun q => hq ((nI_eq (by omega) (by omega)).mp q)), ih (k + 1) n _ (by omega) (by omega), if_neg hq]
theorem it_sel {f : Nat → Int32} {t : Nat} : ∀ (e k : Nat) (a : Int32), it (fun j a => if t = j then a + f j else a) k e a = if k ≤ t ∧ t < k + e then a + f t else a
  | 0, k, a => by
    rw [if_neg (by omega)]
    rfl
  | e + 1, k, a => by
    show it (fun j a => if t = j then a + f j else a) (k + 1) e (if t = k then a + f k else a) = _
    rw [it_sel e (k + 1)]
    by_cases h : t = k
    · subst h
      rw [if_neg (by omega), if_pos rfl, if_pos (by omega)]
    · rw [if_neg h]
      by_cases h2 : k + 1 ≤ t ∧ t < k + 1 + e
      · rw [if_pos h2, if_pos (by omega)]
      · rw [if_neg h2, if_neg (by omega)]
theorem op_status (a : Int32) : Ok (G_X5_status_0 a) (G_X6_status_51 a) := by
  intro S h
  have h4 := h.2.2.2.1
  by_cases ha : a = -1
  · subst ha
    have c1 := cstat S 7 0 3000 0 (by omega) (by omega)
    have c2 := mstat S 7 0 3000 0 (by omega) (by omega)
    rw [show nI 0 = 0 from rfl] at c1 c2
    refine ⟨it (fun j a => a + S.1 42 j) 0 7 0, S, S, ?_, ?_, h⟩
    · simp only [G_X5_status_0, c1, bndS, if_true]
    · simp only [G_X6_status_51, in1, bndS, ite10, c2]
      rw [if_neg (by decide)]
      congr 2
      exact it_congr 7 0 0 (fun i a _ hi => by rw [h4 i (by omega)])
  · by_cases hb : 0 ≤ a ∧ a < 7
    · have hb' := hb
      obtain ⟨t, ht, rfl⟩ := ofR (n := 7) (by decide) hb.1 hb.2
      have c2 := mstat1 S ht 7 0 3000 0 (by omega) (by omega)
      rw [show nI 0 = 0 from rfl, it_sel, if_pos (by omega), Int32.zero_add] at c2
      refine ⟨S.1 42 t, S, S, ?_, ?_, h⟩
      · simp only [G_X5_status_0, bel, bndS, ite10]
        rw [if_neg ha, if_neg (not_not_intro hb'), if_pos (inB_nI ht (by decide)), cl (by omega)]
      · simp only [G_X6_status_51, in1, bndS, ite10, c2]
        rw [if_neg (by grind), h4 t ht]
    · refine ok_fin h (i := 0) (by decide) ?_ ?_
      · simp only [G_X5_status_0, bel, bndS, ite10, fb0]
        rw [if_neg ha, if_pos hb]
      · intro S1 h1
        simp only [G_X6_status_51, in1, bndS, ite10, nb0]
        rw [if_pos (by grind)]
