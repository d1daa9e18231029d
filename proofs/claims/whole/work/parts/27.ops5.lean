theorem add_0 (a : Int32) : a + 0 = a := by grind
theorem clives {S : ST} {m : Nat} (hm : m ≤ 10) (hs : S.1 1 0 = nI m) : ∀ (d k n : Nat) (a : Int32), k + d = m → d < n → G_X1_lifeTogether_1_4 n a (nI k) S = some (it (fun j a => a + S.1 4 j) k d a, S) := by
  intro d
  induction d with
  | zero =>
    intro k n a h1 h2
    obtain ⟨n, rfl⟩ : ∃ n', n = n' + 1 := ⟨n - 1, by omega⟩
    unfold G_X1_lifeTogether_1_4
    rw [hs, if_pos (nI_le (by omega) (by omega))]
    rfl
  | succ d ih =>
    intro k n a h1 h2
    obtain ⟨n, rfl⟩ : ∃ n', n = n' + 1 := ⟨n - 1, by omega⟩
    unfold G_X1_lifeTogether_1_4
    rw [hs, if_neg (nI_ge (by omega) (by omega)), if_pos (inB_nI (by omega) (by decide)), cl (by omega), nI_1, ih (k + 1) n _ (by omega) (by omega)]
    rfl
theorem mlives {S : ST} {m : Nat} (hm : m ≤ 10) (hs : S.1 52 1 = nI m) : ∀ (d k n : Nat) (a : Int32), k + d = m → d < n → G_X6_lives_51_4 n a (nI k) S = some (it (fun j a => a + S.1 52 (18 + 4 * j)) k d a, S) := by
  intro d
  induction d with
  | zero =>
    intro k n a h1 h2
    obtain ⟨n, rfl⟩ : ∃ n', n = n' + 1 := ⟨n - 1, by omega⟩
    unfold G_X6_lives_51_4
    rw [hs, if_pos (nI_le (by omega) (by omega))]
    rfl
  | succ d ih =>
    intro k n a h1 h2
    obtain ⟨n, rfl⟩ : ∃ n', n = n' + 1 := ⟨n - 1, by omega⟩
    unfold G_X6_lives_51_4
    rw [hs, if_neg (nI_ge (by omega) (by omega)), mget2 (by omega), bndS, nI_1, ih (k + 1) n _ (by omega) (by omega)]
    rfl
def isInB (s : Int32) (j : Nat) : Prop := (s >>> (nI j &&& 31)) &&& 1 = 1
def stW (f : Nat → Int32) (s : Int32) (j : Nat) (a : Int32) : Int32 := if (s >>> (nI j &&& 31)) &&& 1 = 1 then a + f j else a
theorem cworth {S : ST} {m : Nat} (hm : m ≤ 10) (hs : S.1 1 0 = nI m) (s : Int32) : ∀ (d k n : Nat) (a : Int32), k + d = m → d < n → G_X1_worthOf_1_4 n s a (nI k) S = some (it (stW (S.1 5) s) k d a, S) := by
  intro d
  induction d with
  | zero =>
    intro k n a h1 h2
    obtain ⟨n, rfl⟩ : ∃ n', n = n' + 1 := ⟨n - 1, by omega⟩
    unfold G_X1_worthOf_1_4
    rw [hs, if_pos (nI_le (by omega) (by omega))]
    rfl
  | succ d ih =>
    intro k n a h1 h2
    obtain ⟨n, rfl⟩ : ∃ n', n = n' + 1 := ⟨n - 1, by omega⟩
    unfold G_X1_worthOf_1_4
    rw [hs, if_neg (nI_ge (by omega) (by omega))]
    by_cases hq : (s >>> (nI k &&& 31)) &&& 1 = 1
    · rw [if_pos hq, if_pos (inB_nI (by omega) (by decide)), cl (by omega), nI_1, ih (k + 1) n _ (by omega) (by omega)]
      simp only [it, stW, if_pos hq]
    · rw [if_neg hq, nI_1, ih (k + 1) n _ (by omega) (by omega)]
      simp only [it, stW, if_neg hq]
theorem misIn (s x : Int32) (S : ST) : G_X6_isIn s x S = some (if (s >>> (x &&& 31)) &&& 1 = 1 then 1 else 0, S) := by
  unfold G_X6_isIn
  split <;> simp_all
theorem mworth {S : ST} {m : Nat} (hm : m ≤ 10) (hs : S.1 52 1 = nI m) (s : Int32) : ∀ (d k n : Nat) (a : Int32), k + d = m → d < n → G_X6_worthOf_51_4 n s a (nI k) S = some (it (stW (fun j => S.1 52 (19 + 4 * j)) s) k d a, S) := by
  intro d
  induction d with
  | zero =>
    intro k n a h1 h2
    obtain ⟨n, rfl⟩ : ∃ n', n = n' + 1 := ⟨n - 1, by omega⟩
    unfold G_X6_worthOf_51_4
    rw [hs, if_pos (nI_le (by omega) (by omega))]
    rfl
  | succ d ih =>
    intro k n a h1 h2
    obtain ⟨n, rfl⟩ : ∃ n', n = n' + 1 := ⟨n - 1, by omega⟩
    unfold G_X6_worthOf_51_4
    rw [hs, if_neg (nI_ge (by omega) (by omega)), misIn, bndS]
    by_cases hq : (s >>> (nI k &&& 31)) &&& 1 = 1
    · simp only [if_pos hq]
      rw [if_neg (by decide), mget3 (by omega), bndS, nI_1, ih (k + 1) n _ (by omega) (by omega)]
      simp only [it, stW, if_pos hq]
    · simp only [if_neg hq, if_true, add_0]
      rw [nI_1, ih (k + 1) n _ (by omega) (by omega)]
      simp only [it, stW, if_neg hq]
def livI (d : Nat → Int32) (m : Nat) : Int32 := it (fun j a => a + d (18 + 4 * j)) 0 m 0
def worI (d : Nat → Int32) (m : Nat) (s : Int32) : Int32 := it (stW (fun j => d (19 + 4 * j)) s) 0 m 0
theorem mLives {S : ST} {m : Nat} (hm : m ≤ 10) (hs : S.1 52 1 = nI m) : G_X6_lives_51 S = some (livI (S.1 52) m, S) := by
  have := mlives hm hs m 0 3000 0 (by omega) (by omega)
  rw [show nI 0 = 0 from rfl] at this
  simp only [G_X6_lives_51, this, bndS, livI]
theorem mWorth {S : ST} {m : Nat} (hm : m ≤ 10) (hs : S.1 52 1 = nI m) (s : Int32) : G_X6_worthOf_51 s S = some (worI (S.1 52) m s, S) := by
  have := mworth hm hs s m 0 3000 0 (by omega) (by omega)
  rw [show nI 0 = 0 from rfl] at this
  simp only [G_X6_worthOf_51, this, bndS, worI]
/-- the class's row of stars is the reference's -/
theorem cLives {S : ST} {d : Nat → Int32} {m : Nat} (hR : SkyR 1 S d) (hm : m ≤ 10) (hs : d 1 = nI m) : G_X1_lifeTogether_1 S = some (livI d m, S) := by
  have := clives hm (hR.1.trans hs) m 0 3000 0 (by omega) (by omega)
  rw [show nI 0 = 0 from rfl] at this
  simp only [G_X1_lifeTogether_1, this, bndS, livI]
  rw [it_congr m 0 0 (fun i a _ h => by rw [show S.1 4 i = d (18 + 4 * i) from hR.2.2.2.2.2.2.2.2.2.1 i (by omega)])]
theorem cWorth {S : ST} {d : Nat → Int32} {m : Nat} (hR : SkyR 1 S d) (hm : m ≤ 10) (hs : d 1 = nI m) (s : Int32) : G_X1_worthOf_1 s S = some (worI d m s, S) := by
  have := cworth hm (hR.1.trans hs) s m 0 3000 0 (by omega) (by omega)
  rw [show nI 0 = 0 from rfl] at this
  simp only [G_X1_worthOf_1, this, bndS, worI]
  rw [it_congr (f := stW (S.1 5) s) (g := stW (fun j => d (19 + 4 * j)) s) m 0 0 (fun i a _ h => by simp only [stW]; rw [show S.1 5 i = d (19 + 4 * i) from hR.2.2.2.2.2.2.2.2.2.2.1 i (by omega)])]
theorem cBright {S : ST} {d : Nat → Int32} {m : Nat} (hR : SkyR 1 S d) (hm : m ≤ 10) (hs : d 1 = nI m) : G_X1_brightSet_1_4 S = some (brI d m, S) := by
  rw [cbright4 hm (hR.1.trans hs), stBM hm (fun j h => hR.2.2.2.2.2.2.2.1 j h) (fun j h => hR.2.2.2.2.2.2.2.2.2.1 j (by omega)) (hR.2.2.2.2.1 1 (by omega))]
theorem op_now (w : Int32) : Ok (G_X5_now_0 w) (G_X6_now_51 w) := by
  intro S h
  obtain ⟨m, hm, hs⟩ := starsN h
  have hR := h.1
  have e4 := hR.2.2.2.2.1
  have b1 := cBright hR hm hs
  have b2 := cLives hR hm hs
  have b3 := cWorth hR hm hs
  have c1 := mshining hm hs
  have c2 := mLives hm hs
  have c3 := mWorth hm hs
  by_cases hw : 0 ≤ w ∧ w ≤ 6
  · rcases seven hw with rfl | rfl | rfl | rfl | rfl | rfl | rfl
    · exact ⟨S.1 1 8, S, S, rfl, by rw [hR.2.1]; rfl, h⟩
    · exact ⟨brI (S.1 52) m, S, S, by show ((G_X1_brightSet_1_4 S).bind fun q3 => some (q3.1, q3.2)) = _; rw [b1]; rfl, by show ((G_X6_shining_51 S).bind fun q3 => some (q3.1, q3.2)) = _; rw [c1]; rfl, h⟩
    · exact ⟨livI (S.1 52) m, S, S, by show ((G_X1_lifeTogether_1 S).bind fun q3 => some (q3.1, q3.2)) = _; rw [b2]; rfl, by show ((G_X6_lives_51 S).bind fun q3 => some (q3.1, q3.2)) = _; rw [c2]; rfl, h⟩
    · refine ⟨worI (S.1 52) m (brI (S.1 52) m), S, S, ?_, ?_, h⟩
      · show ((G_X1_brightSet_1_4 S).bind fun q5 => ((G_X1_worthOf_1 q5.1 q5.2).bind fun q6 => some (q6.1, q6.2))) = _
        simp only [b1, bndS, b3]
      · show ((G_X6_shining_51 S).bind fun q5 => ((G_X6_worthOf_51 q5.1 q5.2).bind fun q6 => some (q6.1, q6.2))) = _
        simp only [c1, bndS, c3]
    · exact ⟨S.1 8 3, S, S, rfl, by rw [show S.1 8 3 = S.1 52 7 from e4 3 (by omega)]; rfl, h⟩
    · exact ⟨S.1 8 0, S, S, rfl, by rw [show S.1 8 0 = S.1 52 4 from e4 0 (by omega)]; rfl, h⟩
    · exact ⟨S.1 8 1, S, S, rfl, by rw [show S.1 8 1 = S.1 52 5 from e4 1 (by omega)]; rfl, h⟩
  · refine ok_fin h (i := 0) (by decide) ?_ ?_
    · simp only [G_X5_now_0, fb0]
      rw [if_neg (by grind), if_neg (by grind), if_neg (by grind), if_neg (by grind), if_neg (by grind), if_neg (by grind), if_neg (by grind)]
    · intro S1 h1
      simp only [G_X6_now_51, nb0]
      rw [if_neg (by grind), if_neg (by grind), if_neg (by grind), if_neg (by grind), if_neg (by grind), if_neg (by grind), if_neg (by grind)]
def stP (f : Nat → Int32) (j : Nat) (a : Int32) : Int32 := if f j < 0 then a else a + 1
theorem cspots (S : ST) : ∀ (d k n : Nat) (a : Int32), k + d = 10 → d < n → G_X1_spotsHeld_1_4 n a (nI k) S = some (it (stP (S.1 10)) k d a, S) := by
  intro d
  induction d with
  | zero =>
    intro k n a h1 h2
    obtain ⟨n, rfl⟩ : ∃ n', n = n' + 1 := ⟨n - 1, by omega⟩
    unfold G_X1_spotsHeld_1_4
    rw [if_pos (show (10 : Int32) ≤ nI k from nI_le (a := 10) (by omega) (by omega))]
    rfl
  | succ d ih =>
    intro k n a h1 h2
    obtain ⟨n, rfl⟩ : ∃ n', n = n' + 1 := ⟨n - 1, by omega⟩
    unfold G_X1_spotsHeld_1_4
    rw [if_neg (show ¬ (10 : Int32) ≤ nI k from nI_ge (b := 10) (by omega) (by omega)), if_pos (inB_nI (by omega) (by decide)), cl (by omega)]
    by_cases hq : S.1 10 k < 0
    · rw [if_pos hq, nI_1, ih (k + 1) n _ (by omega) (by omega)]
      simp only [it, stP, if_pos hq]
    · rw [if_neg hq, nI_1, ih (k + 1) n _ (by omega) (by omega)]
      simp only [it, stP, if_neg hq]
theorem mspots (S : ST) : ∀ (d k n : Nat) (a : Int32), k + d = 10 → d < n → G_X6_count_51_96 n a (nI k) S = some (it (stP (fun j => S.1 52 (62 + j))) k d a, S) := by
  intro d
  induction d with
  | zero =>
    intro k n a h1 h2
    obtain ⟨n, rfl⟩ : ∃ n', n = n' + 1 := ⟨n - 1, by omega⟩
    unfold G_X6_count_51_96
    rw [if_pos (show (10 : Int32) ≤ nI k from nI_le (a := 10) (by omega) (by omega))]
    rfl
  | succ d ih =>
    intro k n a h1 h2
    obtain ⟨n, rfl⟩ : ∃ n', n = n' + 1 := ⟨n - 1, by omega⟩
    unfold G_X6_count_51_96
    rw [if_neg (show ¬ (10 : Int32) ≤ nI k from nI_ge (b := 10) (by omega) (by omega)), ix62, if_pos (inB_nI (by omega) (by decide)), cl (by omega)]
    by_cases hq : S.1 52 (62 + k) < 0
    · rw [if_pos hq, nI_1, add_0, ih (k + 1) n _ (by omega) (by omega)]
      simp only [it, stP, if_pos hq]
    · rw [if_neg hq, nI_1, ih (k + 1) n _ (by omega) (by omega)]
      simp only [it, stP, if_neg hq]
theorem eight {w : Int32} (h : 0 ≤ w ∧ w ≤ 7) : w = 0 ∨ w = 1 ∨ w = 2 ∨ w = 3 ∨ w = 4 ∨ w = 5 ∨ w = 6 ∨ w = 7 := by grind
theorem op_count (w : Int32) : Ok (G_X5_count_0 w) (G_X6_count_51 w) := by
  intro S h
  obtain ⟨m, hm, hs⟩ := starsN h
  have hR := h.1
  have b1 := cBright hR hm hs
  have b2 := cLives hR hm hs
  have c1 := mshining hm hs
  have c2 := mLives hm hs
  obtain ⟨x, hx, ex⟩ := brI_lt (d := S.1 52) hm
  by_cases hw : 0 ≤ w ∧ w ≤ 7
  · rcases eight hw with rfl | rfl | rfl | rfl | rfl | rfl | rfl | rfl
    · exact ⟨S.1 1 8, S, S, rfl, by rw [hR.2.1]; rfl, h⟩
    · exact ⟨S.1 1 0, S, S, rfl, by rw [hR.1]; rfl, h⟩
    · refine ⟨bcF (nI x), S, S, ?_, ?_, h⟩
      · show ((G_X1_brightSet_1_4 S).bind fun q3 => ((G_J6_bitCount_0f7a4 q3.1 q3.2).bind fun q4 => some (q4.1, q4.2))) = _
        simp only [b1, bndS, cbits, ex]
      · show ((G_X6_shining_51 S).bind fun q3 => ((G_X6_bits q3.1 q3.2).bind fun q4 => some (q4.1, q4.2))) = _
        simp only [c1, bndS, ex, mbits (show x < 1024 from Nat.lt_of_lt_of_le hx (pw_le hm))]
    · exact ⟨S.1 1 9, S, S, rfl, by rw [hR.2.2.1]; rfl, h⟩
    · exact ⟨livI (S.1 52) m, S, S, by show ((G_X1_lifeTogether_1 S).bind fun q3 => some (q3.1, q3.2)) = _; rw [b2]; rfl, by show ((G_X6_lives_51 S).bind fun q3 => some (q3.1, q3.2)) = _; rw [c2]; rfl, h⟩
    · exact ⟨S.1 32 1, S, S, rfl, by rw [h.2.2.2.2.1.1]; rfl, h⟩
    · exact ⟨S.1 1 12, S, S, rfl, by rw [hR.2.2.2.1]; rfl, h⟩
    · refine ⟨it (stP (S.1 10)) 0 10 0, S, S, ?_, ?_, h⟩
      · show ((G_X1_spotsHeld_1 S).bind fun q6 => some (q6.1, q6.2)) = _
        have := cspots S 10 0 3000 0 (by omega) (by omega)
        rw [show nI 0 = 0 from rfl] at this
        simp only [G_X1_spotsHeld_1, this, bndS]
      · show ((G_X6_count_51_96 3000 0 0 S).bind fun q9 => some (q9.1, q9.2)) = _
        have := mspots S 10 0 3000 0 (by omega) (by omega)
        rw [show nI 0 = 0 from rfl] at this
        simp only [this, bndS]
        rw [it_congr (f := stP (S.1 10)) (g := stP (fun j => S.1 52 (62 + j))) 10 0 0 (fun i a _ h => by simp only [stP]; rw [show S.1 10 i = S.1 52 (62 + i) from hR.2.2.2.2.2.2.2.2.2.2.2.2 i (by omega)])]
  · refine ok_fin h (i := 0) (by decide) ?_ ?_
    · simp only [G_X5_count_0, fb0]
      rw [if_neg (by grind), if_neg (by grind), if_neg (by grind), if_neg (by grind), if_neg (by grind), if_neg (by grind), if_neg (by grind), if_neg (by grind)]
    · intro S1 h1
      simp only [G_X6_count_51, nb0]
      rw [if_neg (by grind), if_neg (by grind), if_neg (by grind), if_neg (by grind), if_neg (by grind), if_neg (by grind), if_neg (by grind), if_neg (by grind)]
