/-- loaded -/
def ldS (g : Nat → Int32) : Nat → Nat → (Nat → Int32) → (Nat → Int32)
  | 0, _, d => d
  | e + 1, k, d => if 0 ≤ g k ∧ g k ≤ 99 then ldS g e (k + 1) (upd d (18 + 4 * k) (g k)) else d
def ldN (g : Nat → Int32) : Nat → Nat → Nat
  | 0, k => k
  | e + 1, k => if 0 ≤ g k ∧ g k ≤ 99 then ldN g e (k + 1) else k
theorem cload {g : Nat → Int32} {c : Nat} (hc : isSh c = true) (hc2 : 43 ≤ c) {M : Nat} (hM : M ≤ 10) : ∀ (e k n : Nat) (S : ST) (d : Nat → Int32), SkyR 1 S d → SkyK d → (∀ j, j < 40 → S.1 (c + 1) j = g j) → k + e = M → e < n → ∃ S1, G_X5_load_0_38 n c (nI M) (nI k) S = some (nI (ldN g e k), S1) ∧ SkyR 1 S1 (ldS g e k d) ∧ SkyK (ldS g e k d) ∧ ∀ r, ¬ (1 ≤ r ∧ r ≤ 10) → S1.1 r = S.1 r := by
  intro e
  induction e with
  | zero =>
    intro k n S d hR hK hg h1 h2
    obtain ⟨n, rfl⟩ : ∃ n', n = n' + 1 := ⟨n - 1, by omega⟩
    unfold G_X5_load_0_38
    rw [if_pos hc, if_pos (nI_le (by omega) (by omega))]
    exact ⟨S, rfl, hR, hK, fun _ _ => rfl⟩
  | succ e ih =>
    intro k n S d hR hK hg h1 h2
    obtain ⟨n, rfl⟩ : ∃ n', n = n' + 1 := ⟨n - 1, by omega⟩
    unfold G_X5_load_0_38
    rw [if_pos hc, if_neg (nI_ge (by omega) (by omega)), if_pos (inB_nI (by omega) (by decide)), cl (by omega), hg k (by omega), wit, bndS]
    simp only [ite10, ldN, ldS]
    by_cases hq : 0 ≤ g k ∧ g k ≤ 99
    · rw [if_neg (not_not_intro hq), if_pos hq, if_pos hq, if_pos (inB_nI (by omega) (by decide)), if_pos (inB_nI (by omega) (by decide)), nI_1, hg k (by omega)]
      have hk : k < 10 := by omega
      obtain ⟨S1, q1, q2, q3, q4⟩ := ih (k + 1) n (wr S 4 k (g k)) (upd d (18 + 4 * k) (g k)) (hR.life hk) (hK.life hk hq) (fun j hj => by rw [wr_ne (by omega)]; exact hg j hj) (by omega) (by omega)
      exact ⟨S1, q1, q2, q3, fun r hr => by rw [q4 r hr, wr_ne (by omega)]⟩
    · rw [if_pos hq, if_neg hq, if_neg hq]
      exact ⟨S, rfl, hR, hK, fun _ _ => rfl⟩
theorem mload {g : Nat → Int32} {s m N : Nat} (hs : s < 4) (hm : m ≤ 10) (hN : N ≤ 40) : ∀ (e k n : Nat) (S : ST), S.1 52 1 = nI m → S.1 63 s = nI N → (∀ j, j < 40 → S.1 64 (40 * s + j) = g j) → k + e = (if N < m then N else m) → e < n → G_X6_load_51_18 n (nI s) (nI k) S = some (nI (ldN g e k), sr S 52 (ldS g e k (S.1 52))) := by
  intro e
  induction e with
  | zero =>
    intro k n S hs1 hs2 hg h1 h2
    obtain ⟨n, rfl⟩ : ∃ n', n = n' + 1 := ⟨n - 1, by omega⟩
    unfold G_X6_load_51_18
    rw [if_pos (inB_nI hs (by decide)), cl (by omega), hs2]
    simp only [ldN, ldS, sr_self]
    by_cases hN2 : N < m
    · rw [if_pos hN2] at h1
      rw [if_pos (nI_le (by omega) (by omega))]
    · rw [if_neg hN2] at h1
      by_cases h3 : N ≤ k
      · rw [if_pos (nI_le (by omega) (by omega))]
      · rw [if_neg (nI_ge (by omega) (by omega)), isStar, bndS, hs1]
        simp only [ite10]
        rw [if_pos]
        rintro ⟨q1, q2⟩
        have h4 : nI m ≤ 10 := nI_le (b := 10) hm (by decide)
        have h5 : nI m ≤ nI k := nI_le (by omega) (by omega)
        have h6 : 0 ≤ nI m := nI_pos' (by omega)
        grind
  | succ e ih =>
    intro k n S hs1 hs2 hg h1 h2
    obtain ⟨n, rfl⟩ : ∃ n', n = n' + 1 := ⟨n - 1, by omega⟩
    have hkN : k < N := by
      by_cases hN2 : N < m
      · rw [if_pos hN2] at h1; omega
      · rw [if_neg hN2] at h1; omega
    have hkm : k < m := by
      by_cases hN2 : N < m
      · rw [if_pos hN2] at h1; omega
      · rw [if_neg hN2] at h1; omega
    have hst : 0 ≤ nI k ∧ nI k ≤ nI m - 1 := by
      have h4 : nI m ≤ 10 := nI_le (b := 10) hm (by decide)
      have h5 : nI k < nI m := nI_lt (by omega) (by omega)
      have h6 : 0 ≤ nI k := nI_pos' (by omega)
      grind
    unfold G_X6_load_51_18
    rw [if_pos (inB_nI hs (by decide)), cl (by omega), hs2, if_neg (nI_ge (by omega) (by omega)), isStar, bndS, hs1]
    simp only [ite10]
    rw [if_neg (not_not_intro hst)]
    simp only [mtoldAt hs (show k < 40 by omega), bndS, in1, ite10, hg k (by omega), mput2 (show k < 10 by omega), ldN, ldS]
    by_cases hq : 0 ≤ g k ∧ g k ≤ 99
    · rw [if_neg (not_not_intro hq), if_pos hq, if_pos hq, nI_1, ih (k + 1) n _ (by rw [wr_eq, updN _ _ (by omega)]; exact hs1) (by rw [wr_ne (by omega)]; exact hs2) (fun j hj => by rw [wr_ne (by omega)]; exact hg j hj) (by omega) (by omega), wr_sr, sr_sr, sr_eq]
    · rw [if_pos hq, if_neg hq, if_neg hq, sr_self]
theorem op_load (x : Int32) : Ok (G_X5_load_0 x) (G_X6_load_51 x) := by
  refine ok_sheet (x := x) (F := fun T => if inB x 4 = true then (G_X5_load_0_38 3000 (shO x) (imn (T.1 (shO x) 1) (T.1 1 0)) 0 T).bind fun q10 => some (q10.1, q10.2) else none) (H := fun T => (G_X6_load_51_18 3000 x 0 T).bind fun q12 => some (q12.1, q12.2)) (fun S => rfl) (fun S => rfl) ?_
  intro S s h hs hx h0
  subst hx
  obtain ⟨m, hm, hms⟩ := starsN h
  obtain ⟨a1, a2, a3, a4, a5⟩ := h.2.2.2.2.2.1 s hs
  obtain ⟨N, hN, eN⟩ := shN h hs
  have hMI : imn (S.1 (shO (nI s)) 1) (S.1 1 0) = nI (if N < m then N else m) := by
    rw [shOk hs, a2, eN, h.1.1, hms]
    unfold imn
    by_cases hq : N < m
    · rw [if_pos hq, if_neg (nI_nlt (by omega) (by omega))]
    · rw [if_neg hq]
      by_cases hq2 : m < N
      · rw [if_pos (nI_lt hq2 (by omega))]
      · rw [if_neg (nI_nlt (by omega) (by omega)), show N = m by omega]
  have hM10 : (if N < m then N else m) ≤ 10 := by
    split <;> omega
  obtain ⟨S1, q1, q2, q3, q4⟩ := cload (g := fun j => S.1 64 (40 * s + j)) (isShk s hs) (by omega) hM10 (if N < m then N else m) 0 3000 S (S.1 52) h.1 h.2.1 (fun j hj => by rw [show 43 + 2 * s + 1 = 44 + 2 * s by omega]; exact a5 j hj) (by omega) (by omega)
  have m1 := mload (g := fun j => S.1 64 (40 * s + j)) hs hm hN (if N < m then N else m) 0 3000 S1 (by rw [q4 52 (by omega)]; exact hms) (by rw [q4 63 (by omega)]; exact eN) (fun j _ => by rw [q4 64 (by omega)]) (by omega) (by omega)
  rw [q4 52 (by omega)] at m1
  rw [show nI 0 = 0 from rfl] at q1 m1
  refine ⟨nI (ldN (fun j => S.1 64 (40 * s + j)) (if N < m then N else m) 0), S1, sr S1 52 (ldS (fun j => S.1 64 (40 * s + j)) (if N < m then N else m) 0 (S.1 52)), ?_, by rw [q4 62 (by omega)], ?_, h.op q4 (fun c hc => sr_ne hc) sr_eq q2 q3⟩
  · show (if inB (nI s) 4 = true then _ else _) = _
    rw [if_pos (inB_nI hs (by decide)), hMI, shOk hs, q1]
    rfl
  · show (G_X6_load_51_18 3000 (nI s) 0 S1).bind _ = _
    rw [m1]
    rfl
/-- judged -/
theorem jarith {st y z w : Int32} (h3 : 0 ≤ st ∧ st ≤ w) (hd : 0 ≤ y ∧ y ≤ 50) (hme : 0 ≤ z ∧ z ≤ 99) (hW : 0 ≤ w ∧ w ≤ 999) : (st + (y + z) ≤ w ↔ 0 ≤ w - st - (y + z)) ∧ 0 ≤ st + (y + z) ∧ w - st - (y + z) = w - (st + (y + z)) := by
  refine ⟨⟨fun h => ?_, fun h => ?_⟩, ?_, ?_⟩ <;> grind
theorem jloop {S : ST} {s m N : Nat} (h : Inv S) (hs : s < 4) (hm : m ≤ 10) (hms : S.1 52 1 = nI m) (hN : N ≤ 40) (eN : S.1 63 s = nI N) : ∀ (e i n : Nat) (st at_ md : Int32), i + e = N → e < n → (0 ≤ st ∧ st ≤ S.1 52 9) → (0 ≤ at_ ∧ at_ ≤ 99) → ∃ r, G_X5_judge_0_47 n (43 + 2 * s) (S.1 52 9 - st) at_ md (nI i) S = some (r, S) ∧ G_X6_judge_51_31 n (nI s) md st at_ (nI i) S = some (r, S) := by
  obtain ⟨a1, a2, a3, a4, a5⟩ := h.2.2.2.2.2.1 s hs
  have hR := h.1
  have hK : SkyK (S.1 52) := h.2.1
  have hW := hK.2.2.2.2.2.2.2.2.1 0 (by omega)
  have hme := hK.2.2.2.2.2.1
  simp only [Nat.mul_zero, Nat.add_zero] at hW
  intro e
  induction e with
  | zero =>
    intro i n st at_ md h1 h2 h3 h4
    obtain ⟨n, rfl⟩ : ∃ n', n = n' + 1 := ⟨n - 1, by omega⟩
    refine ⟨0, ?_, ?_⟩
    · unfold G_X5_judge_0_47
      rw [if_pos (isShk s hs), a2, eN, if_pos (nI_le (by omega) (by omega))]
    · unfold G_X6_judge_51_31
      rw [if_pos (inB_nI hs (by decide)), cl (by omega), eN, if_pos (nI_le (by omega) (by omega))]
  | succ e ih =>
    intro i n st at_ md h1 h2 h3 h4
    obtain ⟨n, rfl⟩ : ∃ n', n = n' + 1 := ⟨n - 1, by omega⟩
    have hi : i < 40 := by omega
    unfold G_X5_judge_0_47 G_X6_judge_51_31
    rw [if_pos (isShk s hs), a2, if_pos (inB_nI hs (by decide)), cl (show s < 1000 by omega), eN, if_neg (nI_ge (by omega) (by omega)), if_neg (nI_ge (by omega) (by omega)), if_pos (inB_nI hi (by decide)), cl (show i < 1000 by omega), show 43 + 2 * s + 1 = 44 + 2 * s by omega, a5 i hi, bel, bndS, mtoldAt hs hi, bndS]
    generalize S.1 64 (40 * s + i) = x
    simp only [isStar, bndS, ite10, misIn, show ¬ (1 : Int32) = 0 by decide, if_false, if_true]
    have e1 : (1 : Int32) + nI i = nI i + 1 := Int32.add_comm _ _
    by_cases hx : 0 ≤ x ∧ x < S.1 1 0
    · rw [if_neg (not_not_intro hx), if_neg (not_not_intro ((starB h).mp hx))]
      by_cases hb : (md >>> (x &&& 31)) &&& 1 = 1
      · rw [if_pos hb, if_neg (not_not_intro hb)]
        exact ⟨nI i + 1, rfl, by rw [e1]⟩
      · rw [if_neg hb, if_pos hb]
        rw [h.1.1, hms] at hx
        obtain ⟨k, hk, rfl⟩ := ofR (by omega) hx.1 hx.2
        have hk10 : k < 10 := by omega
        have hpl := hK.2.2.2.2.2.2.2.2.2.2.1 k hk10
        have hd : 0 ≤ imn (iab (at_ - S.1 52 (17 + 4 * k))) (100 - iab (at_ - S.1 52 (17 + 4 * k))) ∧ imn (iab (at_ - S.1 52 (17 + 4 * k))) (100 - iab (at_ - S.1 52 (17 + 4 * k))) ≤ 50 := dsI_b h4 hpl
        have e8 : S.1 8 2 = S.1 52 6 := hR.2.2.2.2.1 2 (by omega)
        have e3 : S.1 3 k = S.1 52 (17 + 4 * k) := hR.2.2.2.2.2.2.2.2.1 k hk10
        have hss := mstp (k := 0) (by omega) S
        simp only [Nat.mul_zero, Nat.add_zero, show nI 0 = 0 from rfl] at hss
        simp only [inB_nI hk10 (by decide), if_true, cl (show k < 1000 by omega), bndS, e3, e8, G_X5_stepsBetween]
        rw [mget1 hk10, bndS]
        simp only []
        rw [mapart h4 hpl, bndS]
        simp only [hss, bndS]
        simp only [mget1 hk10, bndS]
        generalize imn (iab (at_ - S.1 52 (17 + 4 * k))) (100 - iab (at_ - S.1 52 (17 + 4 * k))) = y at hd ⊢
        have jar := jarith h3 hd hme hW
        by_cases hl : st + (y + S.1 52 6) ≤ S.1 52 9
        · have hl2 := jar.1.mp hl
          obtain ⟨r, q1, q2⟩ := ih (i + 1) n (st + (y + S.1 52 6)) (S.1 52 (17 + 4 * k)) (md ||| (1 <<< (nI k &&& 31))) (by omega) (by omega) ⟨jar.2.1, hl⟩ hpl
          refine ⟨r, ?_, ?_⟩
          · rw [if_pos hl2, jar.2.2, nI_1]
            exact q1
          · rw [if_pos hl, nI_1]
            exact q2
        · have hl2 := fun q => hl (jar.1.mpr q)
          exact ⟨nI i + 1, by rw [if_neg hl2], by rw [if_neg hl, e1]⟩
    · rw [if_pos hx, if_pos (fun q => hx ((starB h).mpr q))]
      exact ⟨nI i + 1, rfl, by rw [e1]⟩
theorem op_judge (x : Int32) : Ok (G_X5_judge_0 x) (G_X6_judge_51 x) := by
  refine ok_sheet (x := x) (F := fun T => if inB x 4 = true then G_X5_judge_0_47 3000 (shO x) (T.1 7 0) (T.1 6 0) 0 0 T else none) (H := fun T => (G_X6_at_51 0 T).bind fun q3 => G_X6_judge_51_31 3000 x 0 0 q3.1 0 q3.2) (fun S => rfl) (fun S => rfl) ?_
  intro S s h hs hx h0
  subst hx
  obtain ⟨m, hm, hms⟩ := starsN h
  obtain ⟨N, hN, eN⟩ := shN h hs
  have hK : SkyK (S.1 52) := h.2.1
  have hW := hK.2.2.2.2.2.2.2.2.1 0 (by omega)
  have hP := hK.2.2.2.2.2.2.2.1 0 (by omega)
  simp only [Nat.mul_zero, Nat.add_zero] at hW hP
  obtain ⟨r, q1, q2⟩ := jloop h hs hm hms hN eN N 0 3000 0 (S.1 52 8) 0 (by omega) (by omega) ⟨by decide, hW.1⟩ hP
  rw [show nI 0 = 0 from rfl] at q1 q2
  have e7 : S.1 7 0 = S.1 52 9 := h.1.2.2.2.2.2.2.1 0 (by omega)
  have e6 : S.1 6 0 = S.1 52 8 := h.1.2.2.2.2.2.1 0 (by omega)
  have hat := mat (k := 0) (by omega) S
  simp only [Nat.mul_zero, Nat.add_zero, show nI 0 = 0 from rfl] at hat
  refine ⟨r, S, S, ?_, rfl, ?_, h⟩
  · show (if inB (nI s) 4 = true then _ else _) = _
    rw [if_pos (inB_nI hs (by decide)), shOk hs, e7, e6]
    rw [Int32.sub_zero] at q1
    exact q1
  · show (G_X6_at_51 0 S).bind _ = _
    rw [hat, bndS]
    exact q2
