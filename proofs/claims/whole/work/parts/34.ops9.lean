theorem clb2 {S : ST} {k N : Nat} {u : Int32} (hk : k < 10) (hN : N < 1000) : ∀ (d j n : Nat) (l : Int32), j + d = N → d < n → G_X1_lifeBehind_1_11 n (nI k) u (nI N) l (nI j) S = some (lI (S.1 8 1) (S.1 2 k) u d l, S) := by
  intro d
  induction d with
  | zero =>
    intro j n l h1 h2
    obtain ⟨n, rfl⟩ : ∃ n', n = n' + 1 := ⟨n - 1, by omega⟩
    unfold G_X1_lifeBehind_1_11
    rw [if_pos (nI_le (by omega) (by omega))]
    rfl
  | succ d ih =>
    intro j n l h1 h2
    obtain ⟨n, rfl⟩ : ∃ n', n = n' + 1 := ⟨n - 1, by omega⟩
    unfold G_X1_lifeBehind_1_11
    rw [if_neg (nI_ge (by omega) (by omega)), if_pos (inB_nI (by omega) (by decide)), cl (by omega), cnext, bndS]
    simp only []
    rw [nI_1, ih (j + 1) n _ (by omega) (by omega)]
    rfl
theorem clb {S : ST} {k N : Nat} {u : Int32} (hk : k < 10) (hN : N < 1000) : G_X1_lifeBehind_1 (nI k) u (nI N) S = some (lI (S.1 8 1) (S.1 2 k) u N (S.1 4 k), S) := by
  have := clb2 (S := S) (u := u) hk hN N 0 3000 (S.1 4 k) (by omega) (by omega)
  rw [show nI 0 = 0 from rfl] at this
  simp only [G_X1_lifeBehind_1]
  rw [if_pos (inB_nI (by omega) (by decide)), cl (by omega), this]
  rfl
def lst0 (P : Nat → Bool) : Nat → Int32
  | 0 => -1
  | n + 1 => if P n = true then nI n else lst0 P n
def dsB (d : Nat → Int32) (k N : Nat) (u : Nat) : Bool := decide (¬ lI (d 5) (d (16 + 4 * k)) (nI u) N (d (18 + 4 * k)) ≤ dimK (d 5) (d (16 + 4 * k)))
theorem cdust {S : ST} {d : Nat → Int32} {k N : Nat} (hR : SkyR 1 S d) (hk : k < 10) (hN : N < 1000) : ∀ (e n : Nat), e ≤ 10 → e < n → G_X5_dustFor_0_36 n (nI k) (nI N) (nI e + (-1)) S = if 0 ≤ lst0 (dsB d k N) e then some (lst0 (dsB d k N) e, S) else G_X5_finding_0 (nI 3) S := by
  obtain ⟨-, -, -, -, e4, -, -, e7, -, e9, -⟩ := hR
  intro e
  induction e with
  | zero =>
    intro n h1 h2
    obtain ⟨n, rfl⟩ : ∃ n', n = n' + 1 := ⟨n - 1, by omega⟩
    unfold G_X5_dustFor_0_36
    rw [if_pos (by decide), if_neg (by unfold lst0; decide), fb3]
  | succ e ih =>
    intro n h1 h2
    obtain ⟨n, rfl⟩ : ∃ n', n = n' + 1 := ⟨n - 1, by omega⟩
    unfold G_X5_dustFor_0_36
    rw [pk_m1, if_neg (nI_pos (by omega)), if_pos (inB_nI hk (by decide)), cl (by omega), clb hk hN, bndS]
    simp only [cbright, bndS]
    rw [show S.1 8 1 = _ from e4 1 (by omega), show S.1 2 k = _ from e7 k hk, show S.1 4 k = _ from e9 k hk]
    unfold lst0
    by_cases hp : lI (d (4 + 1)) (d (16 + 4 * k)) (nI e) N (d (18 + 4 * k)) ≤ dimK (d (4 + 1)) (d (16 + 4 * k))
    · rw [if_pos hp]
      simp only [if_true]
      have : ¬ dsB d k N e = true := fun q => (of_decide_eq_true q) hp
      rw [if_neg this]
      exact ih n (by omega) (by omega)
    · rw [if_neg hp]
      simp only [show ¬ (1 : Int32) = 0 by decide, if_false]
      have : dsB d k N e = true := decide_eq_true hp
      rw [if_pos this, if_pos (nI_pos' (by omega))]
theorem mdust {S : ST} {m k N : Nat} (hm : m ≤ 10) (hk : k < m) (hN : N < 1000) (hs : S.1 52 1 = nI m) : ∀ (e j n : Nat) (a : Int32), j + e = 10 → e < n → G_X6_dustFor_51_34 n (nI k) (nI N) a (nI j) (asd S) = some (it (fun u a => if dsB (S.1 52) k N u = true then nI u else a) j e a, asd S) := by
  intro e
  induction e with
  | zero =>
    intro j n a h1 h2
    obtain ⟨n, rfl⟩ : ∃ n', n = n' + 1 := ⟨n - 1, by omega⟩
    unfold G_X6_dustFor_51_34
    rw [if_pos (show (9 : Int32) < nI j from nI_lt (a := 9) (by omega) (by omega))]
    rfl
  | succ e ih =>
    intro j n a h1 h2
    obtain ⟨n, rfl⟩ : ∃ n', n = n' + 1 := ⟨n - 1, by omega⟩
    unfold G_X6_dustFor_51_34
    rw [if_neg (show ¬ (9 : Int32) < nI j from nI_nlt (a := 9) (by omega) (by omega)), mnights hm (by rw [wr_eq, updN _ _ (by omega), asd52]; exact hs) hN, bndS, wr_sr, sr_eq, sr_sr, asd52]
    simp only [mshines (show k < 10 by omega), bndS, sr_eq, it]
    rw [ngs_star hk, ngs_oth (i := 5) (by omega) (by omega), ngs_oth (i := 16 + 4 * k) (by omega) (by omega), updI, updN _ _ (show 5 ≠ 4 by omega), updN _ _ (show 16 + 4 * k ≠ 4 by omega), updN _ _ (show 18 + 4 * k ≠ 4 by omega)]
    have hb : G_X6_laysBack_51 (sr (asd S) 52 (ngs m N (upd (S.1 52) 4 (nI j)))) = some ((), asd S) := mback (fun i hi => by rw [ngs_hi hm _ _ hi, updN _ _ (by omega)])
    by_cases hp : lI (S.1 52 5) (S.1 52 (16 + 4 * k)) (nI j) N (S.1 52 (18 + 4 * k)) ≤ dimK (S.1 52 5) (S.1 52 (16 + 4 * k))
    · rw [if_pos hp]
      simp only [if_true, hb, bndS]
      have : ¬ dsB (S.1 52) k N j = true := fun q => (of_decide_eq_true q) hp
      rw [if_neg this, nI_1]
      exact ih (j + 1) n a (by omega) (by omega)
    · rw [if_neg hp]
      simp only [show ¬ (1 : Int32) = 0 by decide, if_false, hb, bndS]
      have : dsB (S.1 52) k N j = true := decide_eq_true hp
      rw [if_pos this, nI_1]
      exact ih (j + 1) n (nI j) (by omega) (by omega)
theorem lst_it (P : Nat → Bool) : ∀ n, it (fun u a => if P u = true then nI u else a) 0 n (-1) = lst0 P n
  | 0 => rfl
  | n + 1 => by
    rw [it_last, lst_it P n, show 0 + n = n by omega]
    rfl
theorem op_dustFor (a b : Int32) : Ok (G_X5_dustFor_0 a b) (G_X6_dustFor_51 a b) := by
  intro S h
  obtain ⟨m, hm, hs⟩ := starsN h
  have hR := h.1
  have e0 : S.1 1 0 = S.1 52 1 := hR.1
  by_cases ha : 0 ≤ a ∧ a < S.1 1 0
  · have ha2 := (starB h).mp ha
    by_cases hb : 0 ≤ b ∧ b ≤ 200
    · have ha' := ha
      rw [e0, hs] at ha
      obtain ⟨k, hk, rfl⟩ := ofR (by omega) ha.1 ha.2
      obtain ⟨N, hN, rfl⟩ := ofR (n := 201) (by decide) hb.1 (by show _ < (201 : Int32); grind)
      have hc : G_X5_dustFor_0 (nI k) (nI N) S = if 0 ≤ lst0 (dsB (S.1 52) k N) 10 then some (lst0 (dsB (S.1 52) k N) 10, S) else G_X5_finding_0 (nI 3) S := by
        simp only [G_X5_dustFor_0, bel, wit, bndS, ite10]
        rw [if_neg (not_not_intro ha'), if_neg (not_not_intro hb)]
        exact cdust hR (by omega) (by omega) 10 3000 (by omega) (by omega)
      have hg : ∀ T : ST, T.1 52 = S.1 52 → G_X6_dustFor_51 (nI k) (nI N) T = if 0 ≤ lst0 (dsB (S.1 52) k N) 10 then some (lst0 (dsB (S.1 52) k N) 10, asd T) else G_X6_no_51 (nI 3) (asd T) := by
        intro T hT
        have := mdust (S := T) (N := N) hm hk (by omega) (by rw [hT]; exact hs) 10 0 3000 (-1) (by omega) (by omega)
        rw [show nI 0 = 0 from rfl, lst_it, hT] at this
        simp only [G_X6_dustFor_51, isStar, in1, bndS, ite10, masd, this, hT]
        rw [if_neg (not_not_intro ha2), if_neg (not_not_intro hb)]
        simp only [nb3]
      by_cases hq : 0 ≤ lst0 (dsB (S.1 52) k N) 10
      · exact ⟨_, S, asd S, by rw [hc, if_pos hq], by rw [hg _ rfl, if_pos hq], h.same (asdSame _)⟩
      · exact ok_fin2 h (i := 3) (by decide) Same.rfl (by rw [hc, if_neg hq]) (asdSame _) (by rw [hg _ (wr_ne (by omega)), if_neg hq])
    · refine ok_fin h (i := 0) (by decide) ?_ ?_
      · simp only [G_X5_dustFor_0, bel, wit, bndS, ite10, fb0]
        rw [if_neg (not_not_intro ha), if_pos hb]
      · intro S1 h1
        simp only [G_X6_dustFor_51, isStar, in1, bndS, ite10, nb0, h1 52 (by omega)]
        rw [if_neg (not_not_intro ha2), if_pos hb]
  · refine ok_fin h (i := 0) (by decide) ?_ ?_
    · simp only [G_X5_dustFor_0, bel, wit, bndS, ite10, fb0]
      rw [if_pos ha]
    · intro S1 h1
      simp only [G_X6_dustFor_51, isStar, in1, bndS, ite10, nb0, h1 52 (by omega)]
      rw [if_pos (fun q => ha ((starB h).mpr q))]
/-- uses: the dark are mended -/
def mdR (w : Int32) (K : Nat → Int32) (k d : Nat) (f : Nat → Int32) : Nat → Int32 := fun j => if k ≤ j ∧ j < k + d ∧ f j ≤ dimK w (K j) then 99 else f j
def cnR (w : Int32) (K f : Nat → Int32) (j : Nat) (a : Int32) : Int32 := if f j ≤ dimK w (K j) then a + 1 else a
theorem cmend2 {m : Nat} (hm : m ≤ 10) : ∀ (d k n : Nat) (a : Int32) (S : ST), S.1 1 0 = nI m → k + d = m → d < n → G_X1_mendDark_1_41_4 n a (nI k) S = some (it (cnR (S.1 8 1) (S.1 2) (S.1 41)) k d a, sr S 41 (mdR (S.1 8 1) (S.1 2) k d (S.1 41))) := by
  intro d
  induction d with
  | zero =>
    intro k n a S hs h1 h2
    obtain ⟨n, rfl⟩ : ∃ n', n = n' + 1 := ⟨n - 1, by omega⟩
    unfold G_X1_mendDark_1_41_4
    rw [hs, if_pos (nI_le (by omega) (by omega))]
    have : mdR (S.1 8 1) (S.1 2) k 0 (S.1 41) = S.1 41 := by
      funext i
      unfold mdR
      rw [if_neg (by omega)]
    rw [this, sr_self]
    rfl
  | succ d ih =>
    intro k n a S hs h1 h2
    obtain ⟨n, rfl⟩ : ∃ n', n = n' + 1 := ⟨n - 1, by omega⟩
    unfold G_X1_mendDark_1_41_4
    rw [hs, if_neg (nI_ge (by omega) (by omega))]
    simp only [inB_nI (show k < 10 by omega) (by decide), if_true, cl (show k < 1000 by omega), cbright, bndS]
    by_cases hq : S.1 41 k ≤ dimK (S.1 8 1) (S.1 2 k)
    · rw [if_pos hq]
      simp only [if_true]
      rw [nI_1, ih (k + 1) n (a + 1) _ (by rw [wr_ne (by omega)]; exact hs) (by omega) (by omega)]
      rw [wr_ne (show 8 ≠ 41 by omega), wr_ne (show 2 ≠ 41 by omega), wr_eq, wr_sr, sr_sr]
      simp only [it]
      rw [show cnR (S.1 8 1) (S.1 2) (S.1 41) k a = a + 1 from if_pos hq]
      rw [it_congr (f := cnR (S.1 8 1) (S.1 2) (upd (S.1 41) k 99)) (g := cnR (S.1 8 1) (S.1 2) (S.1 41)) d (k + 1) (a + 1) (fun i a h3 h4 => by unfold cnR; rw [updN _ _ (by omega)])]
      congr 3
      funext i
      simp only [mdR]
      by_cases hi : i = k
      · subst hi
        rw [updI, if_neg (by omega), if_pos ⟨by omega, by omega, hq⟩]
      · rw [updN _ _ hi]
        by_cases hc : k + 1 ≤ i ∧ i < k + 1 + d ∧ S.1 41 i ≤ dimK (S.1 8 1) (S.1 2 i)
        · rw [if_pos hc, if_pos ⟨by omega, by omega, hc.2.2⟩]
        · rw [if_neg hc, if_neg (fun q => hc ⟨by omega, by omega, q.2.2⟩)]
    · rw [if_neg hq]
      simp only [show ¬ (1 : Int32) = 0 by decide, if_false]
      rw [nI_1, ih (k + 1) n a _ hs (by omega) (by omega)]
      simp only [it]
      rw [show cnR (S.1 8 1) (S.1 2) (S.1 41) k a = a from if_neg hq]
      congr 3
      funext i
      simp only [mdR]
      by_cases hi : i = k
      · subst hi
        rw [if_neg (by omega), if_neg (fun q => hq q.2.2)]
      · by_cases hc : k + 1 ≤ i ∧ i < k + 1 + d ∧ S.1 41 i ≤ dimK (S.1 8 1) (S.1 2 i)
        · rw [if_pos hc, if_pos ⟨by omega, by omega, hc.2.2⟩]
        · rw [if_neg hc, if_neg (fun q => hc ⟨by omega, by omega, q.2.2⟩)]
def mdM (k e : Nat) (d : Nat → Int32) : Nat → Int32 := fun i => if 18 + 4 * k ≤ i ∧ i < 18 + 4 * (k + e) ∧ i % 4 = 2 ∧ d i ≤ dimK (d 5) (d (i - 2)) then 99 else d i
def cnM (d : Nat → Int32) (j : Nat) (a : Int32) : Int32 := if d (18 + 4 * j) ≤ dimK (d 5) (d (16 + 4 * j)) then a + 1 else a
theorem mmend2 {m : Nat} (hm : m ≤ 10) (x1 x3 : Int32) : ∀ (d k n : Nat) (a : Int32) (S : ST), S.1 52 1 = nI m → k + d = m → d < n → G_X6_uses_51_33 n x1 a x3 (nI k) S = some (x1, it (cnM (S.1 52)) k d a, x3, sr S 52 (mdM k d (S.1 52))) := by
  intro d
  induction d with
  | zero =>
    intro k n a S hs h1 h2
    obtain ⟨n, rfl⟩ : ∃ n', n = n' + 1 := ⟨n - 1, by omega⟩
    unfold G_X6_uses_51_33
    rw [hs, if_pos (nI_le (by omega) (by omega))]
    have : mdM k 0 (S.1 52) = S.1 52 := by
      funext i
      unfold mdM
      rw [if_neg (by omega)]
    rw [this, sr_self]
    rfl
  | succ d ih =>
    intro k n a S hs h1 h2
    obtain ⟨n, rfl⟩ : ∃ n', n = n' + 1 := ⟨n - 1, by omega⟩
    unfold G_X6_uses_51_33
    have hk : k < 10 := by omega
    rw [hs, if_neg (nI_ge (by omega) (by omega)), mshines hk, bndS]
    by_cases hq : S.1 52 (18 + 4 * k) ≤ dimK (S.1 52 5) (S.1 52 (16 + 4 * k))
    · rw [if_pos hq]
      simp only [if_true, mshines hk, bndS, if_pos hq, mput2 hk]
      rw [nI_1, ih (k + 1) n (a + 1) _ (by rw [wr_eq, updN _ _ (by omega)]; exact hs) (by omega) (by omega)]
      rw [wr_eq, wr_sr, sr_sr]
      simp only [it]
      rw [show cnM (S.1 52) k a = a + 1 from if_pos hq]
      rw [it_congr (f := cnM (upd (S.1 52) (18 + 4 * k) 99)) (g := cnM (S.1 52)) d (k + 1) (a + 1) (fun i a h3 h4 => by unfold cnM; rw [updN _ _ (by omega), updN _ _ (by omega), updN _ _ (by omega)])]
      congr 5
      funext i
      simp only [mdM]
      rw [updN _ _ (show 5 ≠ 18 + 4 * k by omega)]
      by_cases hi : i = 18 + 4 * k
      · subst hi
        rw [updI, if_pos (c := 18 + 4 * k ≤ 18 + 4 * k ∧ _) ⟨by omega, by omega, by omega, by rw [show 18 + 4 * k - 2 = 16 + 4 * k by omega]; exact hq⟩, ite_self]
      · rw [updN _ _ hi]
        by_cases hi2 : i - 2 = 18 + 4 * k
        · rw [if_neg (by omega), if_neg (by omega)]
        · rw [updN _ _ hi2]
          by_cases hc : 18 + 4 * (k + 1) ≤ i ∧ i < 18 + 4 * (k + 1 + d) ∧ i % 4 = 2 ∧ S.1 52 i ≤ dimK (S.1 52 5) (S.1 52 (i - 2))
          · rw [if_pos hc, if_pos ⟨by omega, by omega, hc.2.2⟩]
          · rw [if_neg hc, if_neg (fun q => hc ⟨by omega, by omega, q.2.2⟩)]
    · rw [if_neg hq]
      simp only [show ¬ (1 : Int32) = 0 by decide, if_false, mshines hk, bndS, if_neg hq, mget2 hk, mput2 hk, add_0]
      rw [wr_sr, upd_self, sr_self, nI_1, ih (k + 1) n a _ hs (by omega) (by omega)]
      simp only [it]
      rw [show cnM (S.1 52) k a = a from if_neg hq]
      congr 5
      funext i
      simp only [mdM]
      by_cases hi : i = 18 + 4 * k
      · subst hi
        rw [if_neg (by omega), if_neg (fun q => hq (by rw [show 18 + 4 * k - 2 = 16 + 4 * k by omega] at q; exact q.2.2.2))]
      · by_cases hc : 18 + 4 * (k + 1) ≤ i ∧ i < 18 + 4 * (k + 1 + d) ∧ i % 4 = 2 ∧ S.1 52 i ≤ dimK (S.1 52 5) (S.1 52 (i - 2))
        · rw [if_pos hc, if_pos ⟨by omega, by omega, hc.2.2⟩]
        · rw [if_neg hc, if_neg (fun q => hc ⟨by omega, by omega, q.2.2⟩)]
def RelU (m : Nat) (w u : Int32) (K f d : Nat → Int32) : Prop := (∀ j, j < m → f j = d (18 + 4 * j)) ∧ d 5 = w ∧ d 4 = u ∧ (∀ j, j < m → K j = d (16 + 4 * j)) ∧ d 1 = nI m
theorem cuses {S : ST} {m N : Nat} {w u : Int32} (hm : m ≤ 10) (hN : N < 1000) (hs : S.1 1 0 = nI m) (hw : S.1 8 1 = w) (hu : S.1 8 0 = u) : ∀ (e j n : Nat) (a : Int32) (f d : Nat → Int32), RelU m w u (S.1 2) f d → j + e = N → e < n → ∃ r f' d', G_X5_uses_0_24 n (nI N) a (nI j) (sr S 41 f) = some (r, sr S 41 f') ∧ (∀ T : ST, G_X6_uses_51_25 n (nI N) a (nI j) (sr T 52 d) = some (r, sr T 52 d')) ∧ (∀ i, 72 ≤ i → d' i = d i) := by
  intro e
  induction e with
  | zero =>
    intro j n a f d hr h1 h2
    obtain ⟨n, rfl⟩ : ∃ n', n = n' + 1 := ⟨n - 1, by omega⟩
    unfold G_X5_uses_0_24 G_X6_uses_51_25
    rw [if_pos (nI_le (by omega) (by omega))]
    exact ⟨a, f, d, rfl, fun T => by rw [if_pos (nI_le (by omega) (by omega))], fun _ _ => rfl⟩
  | succ e ih =>
    intro j n a f d hr h1 h2
    obtain ⟨n, rfl⟩ : ∃ n', n = n' + 1 := ⟨n - 1, by omega⟩
    obtain ⟨r1, r2, r3, r4, r5⟩ := hr
    unfold G_X5_uses_0_24 G_X6_uses_51_25
    rw [if_neg (nI_ge (by omega) (by omega))]
    have c1 := cmend2 hm m 0 3000 0 (sr S 41 f) (by rw [sr_ne (by omega)]; exact hs) (by omega) (by omega)
    rw [show nI 0 = 0 from rfl, sr_eq, sr_sr, sr_ne (show 8 ≠ 41 by omega), sr_ne (show 2 ≠ 41 by omega), hw] at c1
    have c2 := cwear41 (S := sr S 41 (mdR w (S.1 2) 0 m f)) hm (by rw [sr_ne (by omega)]; exact hs)
    rw [sr_eq, sr_sr, sr_ne (show 8 ≠ 41 by omega), sr_ne (show 2 ≠ 41 by omega), hw, hu] at c2
    simp only [G_X1_mendDark_1_41, c1, bndS, c2]
    have hcnt : it (cnR w (S.1 2) f) 0 m 0 = it (cnM d) 0 m 0 := it_congr m 0 0 (fun i a h3 h4 => by unfold cnR cnM; rw [r1 i (by omega), r4 i (by omega), r2])
    have hadd : ∀ (e k : Nat) (x a : Int32), it (cnM d) k e (a + x) = a + it (cnM d) k e x := by
      intro e
      induction e with
      | zero => intro k x a; rfl
      | succ e ih =>
        intro k x a
        simp only [it]
        by_cases hq : d (18 + 4 * k) ≤ dimK (d 5) (d (16 + 4 * k))
        · rw [show cnM d k (a + x) = a + (x + 1) by unfold cnM; rw [if_pos hq]; grind, show cnM d k x = x + 1 from if_pos hq]
          exact ih _ _ _
        · rw [show cnM d k (a + x) = a + x from if_neg hq, show cnM d k x = x from if_neg hq]
          exact ih _ _ _
    obtain ⟨r, f', d', q1, q2, q3⟩ := ih (j + 1) n (a + it (cnR w (S.1 2) f) 0 m 0) (wdR w u (S.1 2) 0 m (mdR w (S.1 2) 0 m f)) (ngD (mdM 0 m d) m) ⟨fun i hi => by
        rw [ngD_star hi]
        have h0 : ∀ i, ¬ (18 ≤ i ∧ i % 4 = 2) → mdM 0 m d i = d i := fun i hi => by unfold mdM; rw [if_neg (by omega)]
        rw [h0 5 (by omega), h0 4 (by omega), h0 (16 + 4 * i) (by omega)]
        unfold wdR
        rw [if_pos (by omega), r2, r3, r4 i hi]
        congr 1
        unfold mdR mdM
        rw [show 18 + 4 * i - 2 = 16 + 4 * i by omega, r1 i hi, r4 i hi, r2]
        by_cases hq : d (18 + 4 * i) ≤ dimK w (d (16 + 4 * i))
        · rw [if_pos ⟨by omega, by omega, hq⟩, if_pos ⟨by omega, by omega, by omega, hq⟩]
        · rw [if_neg (fun z => hq z.2.2), if_neg (fun z => hq z.2.2.2)], by
        rw [ngD_oth (by omega) (by omega)]
        unfold mdM
        rw [if_neg (by omega)]; exact r2, by
        rw [ngD_oth (by omega) (by omega)]
        unfold mdM
        rw [if_neg (by omega)]; exact r3, fun i hi => by
        rw [ngD_oth (by omega) (by omega)]
        unfold mdM
        rw [if_neg (by omega)]; exact r4 i hi, by
        rw [ngD_oth (by omega) (by omega)]
        unfold mdM
        rw [if_neg (by omega)]; exact r5⟩ (by omega) (by omega)
    rw [nI_1]
    refine ⟨r, f', d', q1, fun T => ?_, fun i hi => ?_⟩
    · rw [if_neg (nI_ge (by omega) (by omega))]
      have m1 := mmend2 hm (nI N) (nI j) m 0 3000 a (sr T 52 d) (by rw [sr_eq]; exact r5) (by omega) (by omega)
      rw [show nI 0 = 0 from rfl, sr_eq, sr_sr] at m1
      rw [m1, bndS]
      simp only []
      rw [mnight hm (by rw [sr_eq]; unfold mdM; rw [if_neg (by omega)]; exact r5), bndS, sr_eq, sr_sr]
      simp only []
      have := hadd m 0 0 a
      rw [add_0] at this
      rw [this, ← hcnt, nI_1]
      exact q2 T
    · rw [q3 i hi, ngD_oth (by omega) (by omega)]
      unfold mdM
      rw [if_neg (by omega)]
theorem op_uses (a : Int32) : Ok (G_X5_uses_0 a) (G_X6_uses_51 a) := by
  intro S h
  obtain ⟨m, hm, hs⟩ := starsN h
  by_cases ha : 0 ≤ a ∧ a ≤ 200
  · obtain ⟨N, hN, rfl⟩ := ofR (n := 201) (by decide) ha.1 (by show _ < (201 : Int32); grind)
    have h1 := h.same (cpSame S)
    have hs1 : (cpS S 4 41 0 0 10).1 52 1 = nI m := by rw [cpN S (by omega)]; exact hs
    obtain ⟨e0, -, -, -, e4, -, -, e7, -, e9, -⟩ := h1.1
    obtain ⟨r, f', d', q1, q2, q3⟩ := cuses (S := cpS S 4 41 0 0 10) hm (show N < 1000 by omega) (e0.trans hs1) rfl rfl N 0 3000 0 ((cpS S 4 41 0 0 10).1 41) ((cpS S 4 41 0 0 10).1 52) ⟨fun j hj => by rw [cp41 S (by omega), ← e9 j (by omega), cpN S (by omega)], (e4 1 (by omega)).symm, (e4 0 (by omega)).symm, fun j hj => e7 j (by omega), hs1⟩ (by omega) (by omega)
    rw [show nI 0 = 0 from rfl, sr_self] at q1
    refine ⟨r, sr (cpS S 4 41 0 0 10) 41 f', asd (sr (cpS S 4 41 0 0 10) 41 f'), ?_, ?_, (h1.same (s41Same _ f')).same (asdSame _)⟩
    · simp only [G_X5_uses_0, wit, bndS, ite10, G_X5_copyLives_0]
      rw [if_neg (not_not_intro ha), q1, bndS]
    · have := q2 (asd (sr (cpS S 4 41 0 0 10) 41 f'))
      have e5 : (cpS S 4 41 0 0 10).1 52 = (asd (sr (cpS S 4 41 0 0 10) 41 f')).1 52 := by rw [asd52, sr_ne (by omega)]
      rw [show nI 0 = 0 from rfl, e5, sr_self] at this
      simp only [G_X6_uses_51, in1, bndS, ite10, masd]
      rw [if_neg (not_not_intro ha), this, bndS]
      simp only []
      rw [mback (fun i hi => by rw [q3 i hi, e5, asd52]), bndS]
  · refine ok_fin h (i := 0) (by decide) ?_ ?_
    · simp only [G_X5_uses_0, bel, wit, bndS, ite10, fb0]
      rw [if_pos ha]
    · intro S1 h1
      simp only [G_X6_uses_51, isStar, in1, bndS, ite10, nb0]
      rw [if_pos ha]
