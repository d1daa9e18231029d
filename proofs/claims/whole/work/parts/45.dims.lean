/-- as a sheet tells -/
def asS (w u K : Int32) (g : Nat → Int32) : Nat → Nat → Int32 → Bool
  | 0, _, _ => true
  | e + 1, i, l => if g i = -1 ∨ g i = l then asS w u K g e (i + 1) (lifeN w K l u) else false
theorem asS_p {w u K : Int32} {g : Nat → Int32} {e i : Nat} {l : Int32} (h : g i = -1 ∨ g i = l) : asS w u K g (e + 1) i l = asS w u K g e (i + 1) (lifeN w K l u) := if_pos h
theorem asS_n {w u K : Int32} {g : Nat → Int32} {e i : Nat} {l : Int32} (h : ¬ (g i = -1 ∨ g i = l)) : asS w u K g (e + 1) i l = false := if_neg h
def bI (b : Bool) : Int32 := match b with
  | true => 1
  | false => 0
theorem bI0 (b : Bool) : (bI b = 0) = ¬ b = true := by cases b <;> simp [bI]
theorem bIb (b : Bool) : bitB (bI b) = true := by cases b <;> decide
theorem casS {S : ST} {c N : Nat} {K : Int32} {g : Nat → Int32} (hc : isSh c = true) (hN : N ≤ 40) (eN : S.1 c 1 = nI N) (hg : ∀ j, j < 40 → S.1 (c + 1) j = g j) : ∀ (e i n : Nat) (l : Int32), i + e = N → e < n → G_X5_isAsSheet_0_d_14 n c K l (nI i) S = some (bI (asS (S.1 8 1) (S.1 8 0) K g e i l), S) := by
  intro e
  induction e with
  | zero =>
    intro i n l h1 h2
    obtain ⟨n, rfl⟩ : ∃ n', n = n' + 1 := ⟨n - 1, by omega⟩
    unfold G_X5_isAsSheet_0_d_14
    rw [if_pos hc, eN, if_pos (nI_le (by omega) (by omega))]
    rfl
  | succ e ih =>
    intro i n l h1 h2
    obtain ⟨n, rfl⟩ : ∃ n', n = n' + 1 := ⟨n - 1, by omega⟩
    unfold G_X5_isAsSheet_0_d_14
    rw [if_pos hc, eN, if_neg (nI_ge (by omega) (by omega)), if_pos (inB_nI (by omega) (by decide)), cl (by omega), hg i (by omega)]
    simp only [cnext, bndS, nI_1]
    by_cases q1 : g i = -1
    · rw [if_pos q1, asS_p (Or.inl q1)]
      exact ih (i + 1) n _ (by omega) (by omega)
    · rw [if_neg q1]
      by_cases q2 : g i = l
      · rw [if_pos q2, asS_p (Or.inr q2)]
        exact ih (i + 1) n _ (by omega) (by omega)
      · rw [if_neg q2, asS_n (by rintro (q | q); exact q1 q; exact q2 q)]
        rfl
theorem mdimN {s k m : Nat} (n : Nat) (hs : s < 4) (i : Nat) (T : ST) : 0 < n → G_X6_dimsSo_51_9 n (nI s) (nI k) 0 (nI i) T = some (0, T) := by
  intro hn
  obtain ⟨n, rfl⟩ : ∃ n', n = n' + 1 := ⟨n - 1, by omega⟩
  unfold G_X6_dimsSo_51_9
  rw [if_pos (inB_nI hs (by decide)), if_pos (rfl : (0 : Int32) = 0), ite_self]
theorem mdims {s k m N : Nat} {g : Nat → Int32} (hs : s < 4) (hm : m ≤ 10) (hk : k < m) (hN : N ≤ 40) : ∀ (e i n : Nat) (T : ST), T.1 52 1 = nI m → T.1 63 s = nI N → (∀ j, j < 40 → T.1 64 (40 * s + j) = g j) → i + e = N → e + 1 < n → ∃ e2, G_X6_dimsSo_51_9 n (nI s) (nI k) 1 (nI i) T = some (bI (asS (T.1 52 5) (T.1 52 4) (T.1 52 (16 + 4 * k)) g e i (T.1 52 (18 + 4 * k))), sr T 52 (ngs m e2 (T.1 52))) := by
  intro e
  induction e with
  | zero =>
    intro i n T hT hT2 hg h1 h2
    obtain ⟨n, rfl⟩ : ∃ n', n = n' + 1 := ⟨n - 1, by omega⟩
    unfold G_X6_dimsSo_51_9
    rw [if_pos (inB_nI hs (by decide)), cl (by omega), hT2, if_pos (nI_le (by omega) (by omega))]
    refine ⟨0, ?_⟩
    show _ = some (_, sr T 52 (T.1 52))
    rw [sr_self]
    rfl
  | succ e ih =>
    intro i n T hT hT2 hg h1 h2
    obtain ⟨n, rfl⟩ : ∃ n', n = n' + 1 := ⟨n - 1, by omega⟩
    unfold G_X6_dimsSo_51_9
    rw [if_pos (inB_nI hs (by decide)), cl (by omega), hT2, if_neg (nI_ge (by omega) (by omega)), if_neg (show ¬ (1 : Int32) = 0 by decide)]
    simp only [mtoldAt hs (show i < 40 by omega), bndS, hg i (by omega), mget2 (show k < 10 by omega), mnight hm hT, nI_1]
    have nx : ∃ e2, G_X6_dimsSo_51_9 n (nI s) (nI k) 1 (nI (i + 1)) (sr T 52 (ngD (T.1 52) m)) = some (bI (asS (T.1 52 5) (T.1 52 4) (T.1 52 (16 + 4 * k)) g e (i + 1) (lifeN (T.1 52 5) (T.1 52 (16 + 4 * k)) (T.1 52 (18 + 4 * k)) (T.1 52 4))), sr T 52 (ngs m e2 (T.1 52))) := by
      obtain ⟨e2, q⟩ := ih (i + 1) n (sr T 52 (ngD (T.1 52) m)) (by rw [sr_eq, ngD_1]; exact hT) (by rw [sr_ne (by omega)]; exact hT2) (fun j hj => by rw [sr_ne (by omega)]; exact hg j hj) (by omega) (by omega)
      rw [sr_eq, sr_sr, ngD_star hk, ngD_oth (i := 5) (by omega) (by omega), ngD_oth (i := 4) (by omega) (by omega), ngD_oth (i := 16 + 4 * k) (by omega) (by omega)] at q
      exact ⟨e2 + 1, q⟩
    by_cases q1 : g i = -1
    · rw [if_pos q1, asS_p (Or.inl q1)]
      exact nx
    · rw [if_neg q1]
      by_cases q2 : g i = T.1 52 (18 + 4 * k)
      · rw [if_pos q2, asS_p (Or.inr q2)]
        exact nx
      · rw [if_neg q2, asS_n (by rintro (q | q); exact q1 q; exact q2 q)]
        refine ⟨1, ?_⟩
        rw [mdimN (m := m) n hs (i + 1) _ (by omega)]
        rfl
theorem mdimsSo {S : ST} {s k m N : Nat} {g : Nat → Int32} (hs : s < 4) (hm : m ≤ 10) (hk : k < m) (hN : N ≤ 40) (hT : S.1 52 1 = nI m) (hT2 : S.1 63 s = nI N) (hg : ∀ j, j < 40 → S.1 64 (40 * s + j) = g j) : G_X6_dimsSo_51 (nI s) (nI k) S = some (bI (asS (S.1 52 5) (S.1 52 4) (S.1 52 (16 + 4 * k)) g N 0 (S.1 52 (18 + 4 * k))), asd S) := by
  obtain ⟨e2, q⟩ := mdims (g := g) hs hm hk hN N 0 3000 (asd S) (by rw [asd52]; exact hT) (by unfold asd; rw [sr_ne (by omega)]; exact hT2) (fun j hj => by unfold asd; rw [sr_ne (by omega)]; exact hg j hj) (by omega) (by omega)
  rw [show nI 0 = 0 from rfl, asd52] at q
  unfold G_X6_dimsSo_51
  rw [masd, bndS, q, bndS]
  simp only []
  rw [mback (fun i hi => ngs_hi hm _ _ hi), bndS]
  simp only [bIb, if_true]
def asB (d : Nat → Int32) (K : Int32) (g : Nat → Int32) (N k : Nat) : Bool := asS (d 5) (d 4) K g N 0 (d (18 + 4 * k))
theorem casB {S : ST} {d : Nat → Int32} {s k N : Nat} {K : Int32} {g : Nat → Int32} (hR : SkyR 1 S d) (hs : s < 4) (hk : k < 10) (hN : N ≤ 40) (eN : S.1 (43 + 2 * s) 1 = nI N) (hg : ∀ j, j < 40 → S.1 (44 + 2 * s) j = g j) : G_X5_isAsSheet_0_d (43 + 2 * s) (nI k) K S = some (bI (asB d K g N k), S) := by
  have := casS (K := K) (g := g) (isShk s hs) hN eN (fun j hj => by rw [show 43 + 2 * s + 1 = 44 + 2 * s by omega]; exact hg j hj) N 0 3000 (S.1 4 k) (by omega) (by omega)
  rw [show nI 0 = 0 from rfl] at this
  unfold G_X5_isAsSheet_0_d
  rw [if_pos (isShk s hs), if_pos (inB_nI hk (by decide)), cl (by omega), this, show S.1 8 1 = d 5 from hR.2.2.2.2.1 1 (by omega), show S.1 8 0 = d 4 from hR.2.2.2.2.1 0 (by omega), show S.1 4 k = _ from hR.2.2.2.2.2.2.2.2.2.1 k hk]
  rfl
/-- which -/
def stQ (d : Nat → Int32) (g : Nat → Int32) (N j : Nat) (a : Int32) : Int32 := if asB d (d (16 + 4 * j)) g N j = true then a ||| (1 <<< (nI j &&& 31)) else a
theorem cwhich {S : ST} {d : Nat → Int32} {s m N : Nat} {g : Nat → Int32} (hR : SkyR 1 S d) (hm : m ≤ 10) (hms : d 1 = nI m) (hs : s < 4) (hN : N ≤ 40) (eN : S.1 (43 + 2 * s) 1 = nI N) (hg : ∀ j, j < 40 → S.1 (44 + 2 * s) j = g j) : ∀ (e k n : Nat) (a : Int32), k + e = m → e < n → G_X5_which_0_17 n (nI s) a (nI k) S = some (it (stQ d g N) k e a, S) := by
  intro e
  induction e with
  | zero =>
    intro k n a h1 h2
    obtain ⟨n, rfl⟩ : ∃ n', n = n' + 1 := ⟨n - 1, by omega⟩
    unfold G_X5_which_0_17
    rw [hR.1, hms, if_pos (nI_le (by omega) (by omega))]
    rfl
  | succ e ih =>
    intro k n a h1 h2
    obtain ⟨n, rfl⟩ : ∃ n', n = n' + 1 := ⟨n - 1, by omega⟩
    have hk : k < 10 := by omega
    unfold G_X5_which_0_17
    rw [hR.1, hms, if_neg (nI_ge (by omega) (by omega)), if_pos (inB_nI hs (by decide)), if_pos (inB_nI hk (by decide)), cl (by omega), shOk hs, show S.1 2 k = _ from hR.2.2.2.2.2.2.2.1 k hk, casB hR hs hk hN eN hg, bndS]
    simp only [bI0, nI_1, it]
    by_cases hq : asB d (d (16 + 4 * k)) g N k = true
    · rw [if_neg (not_not_intro hq), ih (k + 1) n _ (by omega) (by omega), show stQ d g N k a = a ||| (1 <<< (nI k &&& 31)) from if_pos hq]
    · rw [if_pos hq, ih (k + 1) n _ (by omega) (by omega), show stQ d g N k a = a from if_neg hq]
theorem mwhich {d : Nat → Int32} {s m N : Nat} {g : Nat → Int32} (hm : m ≤ 10) (hms : d 1 = nI m) (hs : s < 4) (hN : N ≤ 40) : ∀ (e k n : Nat) (a : Int32) (S : ST), S.1 52 = d → S.1 63 s = nI N → (∀ j, j < 40 → S.1 64 (40 * s + j) = g j) → k + e = m → e < n → ∃ S', G_X6_which_51_21 n (nI s) a (nI k) S = some (it (stQ d g N) k e a, S') ∧ ∀ c, c ≠ 54 → S'.1 c = S.1 c := by
  intro e
  induction e with
  | zero =>
    intro k n a S hd eN hg h1 h2
    obtain ⟨n, rfl⟩ : ∃ n', n = n' + 1 := ⟨n - 1, by omega⟩
    unfold G_X6_which_51_21
    rw [hd, hms, if_pos (nI_le (by omega) (by omega))]
    exact ⟨S, rfl, fun _ _ => rfl⟩
  | succ e ih =>
    intro k n a S hd eN hg h1 h2
    obtain ⟨n, rfl⟩ : ∃ n', n = n' + 1 := ⟨n - 1, by omega⟩
    unfold G_X6_which_51_21
    rw [hd, hms, if_neg (nI_ge (by omega) (by omega)), mdimsSo hs hm (show k < m by omega) hN (by rw [hd]; exact hms) eN hg, bndS, hd]
    have ha : ∀ c, c ≠ 54 → (asd S).1 c = S.1 c := fun c hc => by unfold asd; rw [sr_ne hc]
    have nx : ∀ a, ∃ S', G_X6_which_51_21 n (nI s) a (nI (k + 1)) (asd S) = some (it (stQ d g N) (k + 1) e a, S') ∧ ∀ c, c ≠ 54 → S'.1 c = S.1 c := by
      intro a
      obtain ⟨S', q1, q2⟩ := ih (k + 1) n a (asd S) (by rw [asd52]; exact hd) (by rw [ha 63 (by omega)]; exact eN) (fun j hj => by rw [ha 64 (by omega)]; exact hg j hj) (by omega) (by omega)
      exact ⟨S', q1, fun c hc => by rw [q2 c hc, ha c hc]⟩
    simp only [bI0, nI_1, or_0, it]
    show ∃ S', (if ¬ asB d (d (16 + 4 * k)) g N k = true then _ else _) = _ ∧ _
    by_cases hq : asB d (d (16 + 4 * k)) g N k = true
    · rw [show stQ d g N k a = a ||| (1 <<< (nI k &&& 31)) from if_pos hq, if_neg (not_not_intro hq)]
      exact nx _
    · rw [show stQ d g N k a = a from if_neg hq, if_pos hq]
      exact nx _
theorem s54Sam {S T : ST} (h : ∀ c, c ≠ 54 → T.1 c = S.1 c) : Same S T := ⟨fun c hc => h c (by omega), by rw [h 32 (by omega)], by rw [h 51 (by omega)], by rw [h 51 (by omega)]⟩
theorem op_which (x : Int32) : Ok (G_X5_which_0 x) (G_X6_which_51 x) := by
  refine ok_sheet (x := x) (F := fun T => (G_X5_which_0_17 3000 x 0 0 T).bind fun q8 => some (q8.1, q8.2)) (H := fun T => (G_X6_which_51_21 3000 x 0 0 T).bind fun q6 => some (q6.1, q6.2)) (fun S => rfl) (fun S => rfl) ?_
  intro S s h hs hx h0
  subst hx
  obtain ⟨m, hm, hms⟩ := starsN h
  obtain ⟨a1, a2, a3, a4, a5⟩ := h.2.2.2.2.2.1 s hs
  obtain ⟨N, hN, eN⟩ := shN h hs
  have c1 := cwhich (g := fun j => S.1 64 (40 * s + j)) h.1 hm hms hs hN (by rw [a2, eN]) a5 m 0 3000 0 (by omega) (by omega)
  obtain ⟨S2, m1, m2⟩ := mwhich (g := fun j => S.1 64 (40 * s + j)) hm hms hs hN m 0 3000 0 S rfl eN (fun j _ => rfl) (by omega) (by omega)
  rw [show nI 0 = 0 from rfl] at c1 m1
  refine ⟨it (stQ (S.1 52) (fun j => S.1 64 (40 * s + j)) N) 0 m 0, S, S2, ?_, rfl, ?_, h.same (s54Sam m2)⟩
  · show (G_X5_which_0_17 3000 (nI s) 0 0 S).bind _ = _
    rw [c1]
    rfl
  · show (G_X6_which_51_21 3000 (nI s) 0 0 S).bind _ = _
    rw [m1]
    rfl
/-- kinds -/
def stR (d : Nat → Int32) (g : Nat → Int32) (N k : Nat) (j : Nat) (a : Int32) : Int32 := if asB d (nI j) g N k = true then a + 1 else a
theorem ckinds {S : ST} {d : Nat → Int32} {s k N : Nat} {g : Nat → Int32} (hR : SkyR 1 S d) (hs : s < 4) (hk : k < 10) (hN : N ≤ 40) (eN : S.1 (43 + 2 * s) 1 = nI N) (hg : ∀ j, j < 40 → S.1 (44 + 2 * s) j = g j) : ∀ (e i n : Nat) (a : Int32), i + e = 7 → e < n → G_X5_kinds_0_38 n (nI s) (nI k) a (nI i) S = some (it (stR d g N k) i e a, S) := by
  intro e
  induction e with
  | zero =>
    intro i n a h1 h2
    obtain ⟨n, rfl⟩ : ∃ n', n = n' + 1 := ⟨n - 1, by omega⟩
    unfold G_X5_kinds_0_38
    rw [if_pos (show (7 : Int32) ≤ nI i from nI_le (a := 7) (by omega) (by omega))]
    rfl
  | succ e ih =>
    intro i n a h1 h2
    obtain ⟨n, rfl⟩ : ∃ n', n = n' + 1 := ⟨n - 1, by omega⟩
    unfold G_X5_kinds_0_38
    rw [if_neg (show ¬ (7 : Int32) ≤ nI i from nI_ge (b := 7) (by omega) (by omega)), if_pos (inB_nI hs (by decide)), shOk hs, casB hR hs hk hN eN hg, bndS]
    simp only [bI0, nI_1, it]
    by_cases hq : asB d (nI i) g N k = true
    · rw [if_neg (not_not_intro hq), ih (i + 1) n _ (by omega) (by omega), show stR d g N k i a = a + 1 from if_pos hq]
    · rw [if_pos hq, ih (i + 1) n _ (by omega) (by omega), show stR d g N k i a = a from if_neg hq]
theorem mkinds {d : Nat → Int32} {s k m N : Nat} {g : Nat → Int32} (w : Int32) (hm : m ≤ 10) (hms : d 1 = nI m) (hk : k < m) (hs : s < 4) (hN : N ≤ 40) : ∀ (e i n : Nat) (a : Int32) (S : ST) (v : Int32), S.1 52 = upd d (16 + 4 * k) v → S.1 63 s = nI N → (∀ j, j < 40 → S.1 64 (40 * s + j) = g j) → i + e = 7 → e < n → ∃ S' v', G_X6_kinds_51_44 n (nI s) (nI k) w a (nI i) S = some (nI k, w, it (stR d g N k) i e a, S') ∧ S'.1 52 = upd d (16 + 4 * k) v' ∧ ∀ c, c ≠ 52 → c ≠ 54 → S'.1 c = S.1 c := by
  intro e
  induction e with
  | zero =>
    intro i n a S v hd eN hg h1 h2
    obtain ⟨n, rfl⟩ : ∃ n', n = n' + 1 := ⟨n - 1, by omega⟩
    unfold G_X6_kinds_51_44
    rw [if_pos (show (6 : Int32) < nI i from nI_lt (a := 6) (by omega) (by omega))]
    exact ⟨S, v, rfl, hd, fun _ _ _ => rfl⟩
  | succ e ih =>
    intro i n a S v hd eN hg h1 h2
    obtain ⟨n, rfl⟩ : ∃ n', n = n' + 1 := ⟨n - 1, by omega⟩
    have hk10 : k < 10 := by omega
    have h52 : (wr S 52 (16 + 4 * k) (nI i)).1 52 = upd d (16 + 4 * k) (nI i) := by rw [wr_eq, hd, upd_upd]
    unfold G_X6_kinds_51_44
    rw [if_neg (show ¬ (6 : Int32) < nI i from nI_nlt (a := 6) (by omega) (by omega)), mput0 hk10, bndS]
    simp only []
    rw [mdimsSo (g := g) hs hm hk hN (by rw [h52, updN _ _ (by omega)]; exact hms) (by rw [wr_ne (by omega)]; exact eN) (fun j hj => by rw [wr_ne (by omega)]; exact hg j hj), bndS, h52, updI, updN _ _ (show 5 ≠ 16 + 4 * k by omega), updN _ _ (show 4 ≠ 16 + 4 * k by omega), updN _ _ (show 18 + 4 * k ≠ 16 + 4 * k by omega)]
    have ha : ∀ c, c ≠ 54 → (asd (wr S 52 (16 + 4 * k) (nI i))).1 c = (wr S 52 (16 + 4 * k) (nI i)).1 c := fun c hc => by unfold asd; rw [sr_ne hc]
    have nx : ∀ a, ∃ S' v', G_X6_kinds_51_44 n (nI s) (nI k) w a (nI (i + 1)) (asd (wr S 52 (16 + 4 * k) (nI i))) = some (nI k, w, it (stR d g N k) (i + 1) e a, S') ∧ S'.1 52 = upd d (16 + 4 * k) v' ∧ ∀ c, c ≠ 52 → c ≠ 54 → S'.1 c = S.1 c := by
      intro a
      obtain ⟨S', v', q1, q2, q3⟩ := ih (i + 1) n a (asd (wr S 52 (16 + 4 * k) (nI i))) (nI i) (by rw [asd52]; exact h52) (by rw [ha 63 (by omega), wr_ne (by omega)]; exact eN) (fun j hj => by rw [ha 64 (by omega), wr_ne (by omega)]; exact hg j hj) (by omega) (by omega)
      exact ⟨S', v', q1, q2, fun c x1 x2 => by rw [q3 c x1 x2, ha c x2, wr_ne x1]⟩
    simp only [bI0, nI_1, add_0, it]
    show ∃ S' v', (if ¬ asB d (nI i) g N k = true then _ else _) = _ ∧ _
    by_cases hq : asB d (nI i) g N k = true
    · rw [show stR d g N k i a = a + 1 from if_pos hq, if_neg (not_not_intro hq)]
      exact nx _
    · rw [show stR d g N k i a = a from if_neg hq, if_pos hq]
      exact nx _
theorem op_kinds (x y : Int32) : Ok (G_X5_kinds_0 x y) (G_X6_kinds_51 x y) := by
  intro S h
  have h6 := h.2.2.2.2.2.1
  by_cases hx : 0 ≤ x ∧ x < 4
  · obtain ⟨s, hs, rfl⟩ := ofR (n := 4) (by decide) hx.1 hx.2
    obtain ⟨a1, a2, a3, a4, a5⟩ := h6 s hs
    by_cases h0 : S.1 62 s = 0
    · refine ok_fin h (i := 5) (by decide) ?_ ?_
      · simp only [G_X5_kinds_0, clackM hs (by rw [a1]; exact h0), fnd (show 5 < 7 by decide), bndS]
        rw [if_neg (fneg 5 (by decide))]
      · intro S1 h1
        simp only [G_X6_kinds_51, mwrM hs (show S1.1 62 s = 0 by rw [h1 62 (by omega)]; exact h0), bndS, G_X6_kinds_51_20, nb5]
        rw [if_pos (by decide), if_neg (by decide)]
    · obtain ⟨m, hm, hms⟩ := starsN h
      obtain ⟨N, hN, eN⟩ := shN h hs
      by_cases hy : 0 ≤ y ∧ y < S.1 1 0
      · have hy' := hy
        have hy2 := (starB h).mp hy
        rw [h.1.1, hms] at hy
        obtain ⟨k, hk, rfl⟩ := ofR (by omega) hy.1 hy.2
        have hk10 : k < 10 := by omega
        have c1 := ckinds (g := fun j => S.1 64 (40 * s + j)) h.1 hs hk10 hN (by rw [a2, eN]) a5 7 0 3000 0 (by omega) (by omega)
        obtain ⟨S2, v', m1, m2, m3⟩ := mkinds (g := fun j => S.1 64 (40 * s + j)) (S.1 52 (16 + 4 * k)) hm hms hk hs hN 7 0 3000 0 S (S.1 52 (16 + 4 * k)) (by rw [upd_self]) eN (fun j _ => rfl) (by omega) (by omega)
        rw [show nI 0 = 0 from rfl] at c1 m1
        have hb : ∀ c, c ≠ 54 → (wr S2 52 (16 + 4 * k) (S.1 52 (16 + 4 * k))).1 c = S.1 c := by
          intro c hc
          by_cases h52 : c = 52
          · subst h52
            rw [wr_eq, m2, upd_upd, upd_self]
          · rw [wr_ne h52, m3 c h52 hc]
        refine ⟨it (stR (S.1 52) (fun j => S.1 64 (40 * s + j)) N k) 0 7 0, S, wr S2 52 (16 + 4 * k) (S.1 52 (16 + 4 * k)), ?_, ?_, h.same (s54Sam hb)⟩
        · simp only [G_X5_kinds_0, clackO hs (by rw [a1]; exact h0), bndS, if_true, bel, ite10, c1]
          rw [if_neg (not_not_intro hy')]
        · simp only [G_X6_kinds_51, mwrO hs h0, bndS, isStar, ite10]
          rw [if_neg (by decide), if_neg (not_not_intro hy2)]
          simp only [G_X6_kinds_51_20, mget0 hk10, bndS, m1, mput0 hk10]
          rw [if_pos (by decide)]
      · refine ok_fin h (i := 0) (by decide) ?_ ?_
        · simp only [G_X5_kinds_0, clackO hs (by rw [a1]; exact h0), bndS, if_true, bel, ite10, fb0]
          rw [if_pos hy]
        · intro S1 h1
          simp only [G_X6_kinds_51, mwrO hs (show ¬ S1.1 62 s = 0 by rw [h1 62 (by omega)]; exact h0), bndS, isStar, ite10, h1 52 (by omega)]
          rw [if_neg (by decide), if_pos (fun q => hy ((starB h).mpr q))]
          unfold G_X6_kinds_51_20
          rw [if_neg (by decide), nb0]
  · refine ok_fin h (i := 0) (by decide) ?_ ?_
    · simp only [G_X5_kinds_0, clackN hx, fnd (show 0 < 7 by decide), bndS]
      rw [if_neg (fneg 0 (by decide))]
    · intro S1 h1
      simp only [G_X6_kinds_51, mwrN (fun q => hx (shB.mpr q)), bndS, G_X6_kinds_51_20, nb0]
      rw [if_pos (by decide), if_neg (by decide)]
