/-- the fewest stars that tell -/
theorem all1 : ∀ i, i < 32 → (-1 : Int32).toBitVec.getLsbD i = true := by decide
theorem sub_le {x A : Nat} (hx : x < 1024) (hA : A < 1024) (h : nI x &&& (nI A ^^^ (-1)) = 0) : x ≤ A := by
  have hb : ∀ i, i < 32 → x.testBit i = true → A.testBit i = true := by
    intro i hi hxi
    have h2 : (nI x &&& (nI A ^^^ (-1))).toBitVec.getLsbD i = false := by
      rw [h]
      simp
    have h4 : (nI x).toBitVec.getLsbD i = x.testBit i := by
      show (nI x).toBitVec.toNat.testBit i = _
      rw [pk_tn (by omega)]
    have h5 : (nI A).toBitVec.getLsbD i = A.testBit i := by
      show (nI A).toBitVec.toNat.testBit i = _
      rw [pk_tn (by omega)]
    rw [Int32.toBitVec_and, Int32.toBitVec_xor, BitVec.getLsbD_and, BitVec.getLsbD_xor, all1 i hi, h4, h5, hxi] at h2
    simpa using h2
  have h3 : x &&& A = x := by
    apply Nat.eq_of_testBit_eq
    intro i
    rw [Nat.testBit_and]
    by_cases hi : i < 32
    · cases hc : x.testBit i with
      | false => rfl
      | true => rw [hb i hi hc]; rfl
    · have : x.testBit i = false := Nat.testBit_lt_two_pow (Nat.lt_of_lt_of_le (show x < 2 ^ 32 by omega) (Nat.pow_le_pow_right (by decide) (by omega)))
      rw [this]
      rfl
  rw [← h3]
  exact Nat.and_le_right
theorem may_sub {d : Nat → Int32} {z s : Nat} {x : Int32} (hz : z ≤ 6) (hs : s < z) (h : mayI d z x = 1 <<< (nI s &&& 31)) : x &&& (d (56 + s) ^^^ (-1)) = 0 := by
  have h1 : mayI d z x = nI (setN (fun j => decide (x &&& (d (56 + j) ^^^ (-1)) = 0)) z) := by
    unfold mayI setN
    exact setN_it z 0 0 (by omega) (fun j y hj => by
      unfold stY
      by_cases hq : x &&& (d (56 + j) ^^^ (-1)) = 0
      · rw [if_pos hq, if_pos (decide_eq_true hq)]
      · rw [if_neg hq, if_neg (fun q => hq (of_decide_eq_true q))])
  have h2 := setN_lt (fun j => decide (x &&& (d (56 + j) ^^^ (-1)) = 0)) z
  have h3 : 2 ^ z ≤ 64 := Nat.pow_le_pow_right (n := 2) (by decide) (show z ≤ 6 from hz)
  have h4 : 2 ^ s ≤ 64 := Nat.pow_le_pow_right (n := 2) (by decide) (show s ≤ 6 by omega)
  rw [h1, shl1 (by omega)] at h
  have h5 := (nI_eq (by omega) (by omega)).mp h
  have h6 := setN_bit (fun j => decide (x &&& (d (56 + j) ^^^ (-1)) = 0)) z s
  rw [h5, Nat.testBit_two_pow_self] at h6
  have h7 := h6.symm
  rw [Bool.and_eq_true] at h7
  exact of_decide_eq_true h7.2
/-- the step: a set that tells, with fewer stars -/
def stL (d : Nat → Int32) (z : Nat) (g : Int32) (x : Nat) (a : Int32) : Int32 := if (a < 0 ∨ bcF (nI x) < bcF a) ∧ mayI d z (nI x) = g then nI x else a
def fwA (a : Int32) : Int32 := if a < 0 then 11 else bcF a
def fdA (a : Int32) : Int32 := if a < 0 then 0 else a
def okT (a : Int32) : Prop := a = -1 ∨ ∃ y : Nat, y < 1024 ∧ a = nI y
theorem okT_st {d : Nat → Int32} {z x : Nat} {g a : Int32} (hx : x < 1024) (h : okT a) : okT (stL d z g x a) := by
  unfold stL
  split
  · exact Or.inr ⟨x, hx, rfl⟩
  · exact h
theorem fw_iff {x : Nat} {a : Int32} (hx : x < 1024) : ¬ fwA a ≤ bcF (nI x) ↔ (a < 0 ∨ bcF (nI x) < bcF a) := by
  obtain ⟨b, hb, e⟩ := bc_b hx
  unfold fwA
  rw [e]
  have h1 : nI b ≤ 10 := nI_le (b := 10) hb (by decide)
  by_cases h : a < 0
  · rw [if_pos h]
    exact ⟨fun _ => Or.inl h, fun _ => by grind⟩
  · rw [if_neg h]
    constructor
    · intro q
      exact Or.inr (by grind)
    · rintro (q | q)
      · exact absurd q h
      · grind
theorem ctells {S : ST} {d : Nat → Int32} {z s A : Nat} (hR : SkyR 1 S d) (hz : z ≤ 6) (hzs : d 2 = nI z) (hs : s < z) (hA : d (56 + s) = nI A) (hA2 : A < 1024) : ∀ (e x n : Nat) (a : Int32), okT a → x + e = A + 1 → e < n → G_X5_tells_0_39 n (nI s) (nI A) (fwA a) (fdA a) (nI x) S = some (fwA (it (stL d z (1 <<< (nI s &&& 31))) x e a), fdA (it (stL d z (1 <<< (nI s &&& 31))) x e a), S) := by
  intro e
  induction e with
  | zero =>
    intro x n a ha h1 h2
    obtain ⟨n, rfl⟩ : ∃ n', n = n' + 1 := ⟨n - 1, by omega⟩
    unfold G_X5_tells_0_39
    rw [if_pos (nI_lt (by omega) (by omega))]
    rfl
  | succ e ih =>
    intro x n a ha h1 h2
    obtain ⟨n, rfl⟩ : ∃ n', n = n' + 1 := ⟨n - 1, by omega⟩
    have hx : x < 1024 := by omega
    unfold G_X5_tells_0_39
    rw [if_neg (nI_nlt (by omega) (by omega))]
    simp only [show ¬ (1 : Int32) = 0 by decide, if_false, if_true, cbits, bndS, cmay hR hz hzs, nI_1, it]
    have hok := okT_st (d := d) (z := z) (g := 1 <<< (nI s &&& 31)) hx ha
    by_cases c1 : nI x &&& (nI A ^^^ (-1)) = 0
    · rw [if_pos c1]
      by_cases c2 : fwA a ≤ bcF (nI x)
      · have e1 : stL d z (1 <<< (nI s &&& 31)) x a = a := if_neg (fun q => (fw_iff hx).mpr q.1 c2)
        rw [if_pos c2, e1]
        exact ih (x + 1) n a ha (by omega) (by omega)
      · rw [if_neg c2]
        by_cases c3 : mayI d z (nI x) = 1 <<< (nI s &&& 31)
        · have e1 : stL d z (1 <<< (nI s &&& 31)) x a = nI x := if_pos ⟨(fw_iff hx).mp c2, c3⟩
          rw [if_pos c3, e1]
          rw [e1] at hok
          have := ih (x + 1) n (nI x) hok (by omega) (by omega)
          have e2 : fwA (nI x) = bcF (nI x) := if_neg (nI_pos (by omega))
          have e3 : fdA (nI x) = nI x := if_neg (nI_pos (by omega))
          rw [e2, e3] at this
          exact this
        · have e1 : stL d z (1 <<< (nI s &&& 31)) x a = a := if_neg (fun q => c3 q.2)
          rw [if_neg c3, e1]
          exact ih (x + 1) n a ha (by omega) (by omega)
    · have e1 : stL d z (1 <<< (nI s &&& 31)) x a = a := if_neg (fun q => c1 (by have := may_sub hz hs q.2; rw [hA] at this; exact this))
      rw [if_neg c1, e1]
      exact ih (x + 1) n a ha (by omega) (by omega)
theorem mtells {S : ST} {m z s : Nat} (hm : m ≤ 10) (hms : S.1 52 1 = nI m) (hz : z ≤ 6) (hzs : S.1 52 2 = nI z) : ∀ (e x n : Nat) (a : Int32), okT a → x + e = 2 ^ m → e < n → G_X6_tells_51_18 n (nI s) a (nI x) S = some (it (stL (S.1 52) z (1 <<< (nI s &&& 31))) x e a, S) := by
  have hpw := pw_le hm
  intro e
  induction e with
  | zero =>
    intro x n a ha h1 h2
    obtain ⟨n, rfl⟩ : ∃ n', n = n' + 1 := ⟨n - 1, by omega⟩
    unfold G_X6_tells_51_18
    rw [hms, shl1 hm, if_pos (nI_le (by omega) (by omega))]
    rfl
  | succ e ih =>
    intro x n a ha h1 h2
    obtain ⟨n, rfl⟩ : ∃ n', n = n' + 1 := ⟨n - 1, by omega⟩
    have hx : x < 1024 := by omega
    have hok := okT_st (d := S.1 52) (z := z) (g := 1 <<< (nI s &&& 31)) hx ha
    unfold G_X6_tells_51_18
    rw [hms, shl1 hm, if_neg (nI_ge (by omega) (by omega))]
    simp only [show ¬ (1 : Int32) = 0 by decide, if_false, if_true, mbits hx, bndS, mmay hz hzs, nI_1, it]
    have fin : ∀ (b : Int32), (a < 0 ∨ bcF (nI x) < bcF a) → (if mayI (S.1 52) z (nI x) = 1 <<< (nI s &&& 31) then G_X6_tells_51_18 n (nI s) (nI x) (nI (x + 1)) S else G_X6_tells_51_18 n (nI s) a (nI (x + 1)) S) = some (it (stL (S.1 52) z (1 <<< (nI s &&& 31))) (x + 1) e (stL (S.1 52) z (1 <<< (nI s &&& 31)) x a), S) := by
      intro _ hc
      by_cases c3 : mayI (S.1 52) z (nI x) = 1 <<< (nI s &&& 31)
      · have e1 : stL (S.1 52) z (1 <<< (nI s &&& 31)) x a = nI x := if_pos ⟨hc, c3⟩
        rw [if_pos c3, e1]
        rw [e1] at hok
        exact ih (x + 1) n (nI x) hok (by omega) (by omega)
      · have e1 : stL (S.1 52) z (1 <<< (nI s &&& 31)) x a = a := if_neg (fun q => c3 q.2)
        rw [if_neg c3, e1]
        exact ih (x + 1) n a ha (by omega) (by omega)
    by_cases c0 : a < 0
    · rw [if_pos c0]
      exact fin 0 (Or.inl c0)
    · rw [if_neg c0]
      obtain ⟨y, hy, rfl⟩ : ∃ y : Nat, y < 1024 ∧ a = nI y := by
        rcases ha with h | h
        · exact absurd (show a < 0 by rw [h]; decide) c0
        · exact h
      simp only [mbits hx, mbits hy, bndS, mmay hz hzs]
      by_cases c2 : bcF (nI y) ≤ bcF (nI x)
      · have e1 : stL (S.1 52) z (1 <<< (nI s &&& 31)) x (nI y) = nI y := by
          unfold stL
          rw [if_neg]
          rintro ⟨q | q, _⟩
          · exact c0 q
          · grind
        rw [if_pos c2, e1]
        exact ih (x + 1) n (nI y) ha (by omega) (by omega)
      · rw [if_neg c2]
        exact fin 0 (Or.inr (by grind))
theorem it_add {α : Type} (f : Nat → α → α) : ∀ (a b k : Nat) (x : α), it f k (a + b) x = it f (k + a) b (it f k a x)
  | 0, b, k, x => by rw [Nat.zero_add]; rfl
  | a + 1, b, k, x => by
    rw [show a + 1 + b = (a + b) + 1 by omega]
    show it f (k + 1) (a + b) (f k x) = it f (k + (a + 1)) b (it f (k + 1) a (f k x))
    rw [it_add f a b (k + 1), show k + 1 + a = k + (a + 1) by omega]
theorem it_idr {α : Type} {f : Nat → α → α} : ∀ (d k : Nat) (a : α), (∀ j, k ≤ j → j < k + d → ∀ a, f j a = a) → it f k d a = a
  | 0, _, _, _ => rfl
  | d + 1, k, a, h => by
    show it f (k + 1) d (f k a) = a
    rw [h k (Nat.le_refl _) (by omega), it_idr d (k + 1) a (fun j x y => h j (by omega) (by omega))]
theorem okT_it {d : Nat → Int32} {z : Nat} {g : Int32} : ∀ (e x : Nat) (a : Int32), x + e ≤ 1024 → okT a → okT (it (stL d z g) x e a)
  | 0, _, _, _, h => h
  | e + 1, x, a, hx, h => okT_it e (x + 1) _ (by omega) (okT_st (by omega) h)
theorem signB {S : ST} (h : Inv S) {a : Int32} {z : Nat} (hz : z ≤ 6) (hzs : S.1 52 2 = nI z) : (0 ≤ a ∧ a < S.1 1 9) ↔ (0 ≤ a ∧ a ≤ S.1 52 2 - 1) := by
  rw [show S.1 1 9 = S.1 52 2 from h.1.2.2.1, hzs]
  have h4 : nI z ≤ 6 := nI_le (b := 6) hz (by decide)
  have h5 : 0 ≤ nI z := nI_pos' (by omega)
  generalize nI z = x at *
  grind
theorem op_tells (a : Int32) : Ok (G_X5_tells_0 a) (G_X6_tells_51 a) := by
  intro S h
  obtain ⟨m, hm, hms⟩ := starsN h
  obtain ⟨z, hz, hzs⟩ := signsN h
  have hK : SkyK (S.1 52) := h.2.1
  have hR := h.1
  by_cases ha : 0 ≤ a ∧ a < S.1 1 9
  · have ha' := ha
    have ha2 := (signB h hz hzs).mp ha
    rw [show S.1 1 9 = S.1 52 2 from hR.2.2.1, hzs] at ha
    obtain ⟨s, hs, rfl⟩ := ofR (by omega) ha.1 ha.2
    have hpw := pw_le hm
    have hp0 := Nat.two_pow_pos m
    have hsg := hK.2.2.2.2.2.2.2.2.2.2.2.2.2.1 s (by omega) (by rw [hzs]; exact nI_lt hs (by omega))
    rw [hms, shl1 hm] at hsg
    have hlt : S.1 52 (56 + s) < nI (2 ^ m) := by
      have h2 : S.1 52 (56 + s) ≤ nI (2 ^ m) - nI 1 := hsg.2
      rw [pk_sub (by omega)] at h2
      have h3 : nI (2 ^ m - 1) < nI (2 ^ m) := nI_lt (by omega) (by omega)
      grind
    obtain ⟨A, hA, eA⟩ := ofR (n := 2 ^ m) (by omega) (by have := hsg.1; grind) hlt
    have c1 := ctells hR hz hzs hs eA (by omega) (A + 1) 0 3000 (-1) (Or.inl rfl) (by omega) (by omega)
    have hsame : ∀ T : ST, T.1 52 = S.1 52 → G_X6_tells_51_18 3000 (nI s) (-1) 0 T = some (it (stL (S.1 52) z (1 <<< (nI s &&& 31))) 0 (A + 1) (-1), T) := by
      intro T hT
      have := mtells (S := T) (s := s) hm (by rw [hT]; exact hms) hz (by rw [hT]; exact hzs) (2 ^ m) 0 3000 (-1) (Or.inl rfl) (by omega) (by omega)
      rw [show nI 0 = 0 from rfl, hT] at this
      rw [this, show 2 ^ m = (A + 1) + (2 ^ m - (A + 1)) by omega, it_add, Nat.zero_add, it_idr]
      intro j h1 h2 b
      refine if_neg (fun q => ?_)
      have h3 := may_sub hz hs q.2
      rw [eA] at h3
      have := sub_le (by omega) (by omega) h3
      omega
    have hok := okT_it (d := S.1 52) (z := z) (g := 1 <<< (nI s &&& 31)) (A + 1) 0 (-1) (by omega) (Or.inl rfl)
    rw [show nI 0 = 0 from rfl, show fwA (-1) = 11 from rfl, show fdA (-1) = 0 from rfl] at c1
    generalize it (stL (S.1 52) z (1 <<< (nI s &&& 31))) 0 (A + 1) (-1) = r at *
    have e9 : S.1 9 s = nI A := (hR.2.2.2.2.2.2.2.2.2.2.2.1 s (by omega)).trans eA
    rcases hok with rfl | ⟨y, hy, rfl⟩
    · refine ok_fin h (i := 3) (by decide) ?_ ?_
      · simp only [G_X5_tells_0, bel, bndS, ite10, inB_nI (show s < 6 by omega) (by decide), if_true, cl (show s < 1000 by omega), e9, c1, fb3]
        rw [if_neg (not_not_intro ha')]
        exact if_neg (by decide)
      · intro S1 h1
        simp only [G_X6_tells_51, isSign, bndS, ite10, h1 52 (by omega), hsame S1 (h1 52 (by omega)), nb3]
        rw [if_neg (not_not_intro ha2), if_neg (by decide)]
    · obtain ⟨b, hb, eb⟩ := bc_b hy
      refine ⟨nI y, S, S, ?_, ?_, h⟩
      · simp only [G_X5_tells_0, bel, bndS, ite10, inB_nI (show s < 6 by omega) (by decide), if_true, cl (show s < 1000 by omega), e9, c1]
        have e2 : fwA (nI y) = nI b := (if_neg (nI_pos (by omega))).trans eb
        have e3 : fdA (nI y) = nI y := if_neg (nI_pos (by omega))
        rw [if_neg (not_not_intro ha'), e2, e3]
        exact if_pos (nI_le (b := 10) hb (by decide))
      · simp only [G_X6_tells_51, isSign, bndS, ite10, hsame S rfl]
        rw [if_neg (not_not_intro ha2), if_pos (nI_pos' (by omega))]
  · refine ok_fin h (i := 0) (by decide) ?_ ?_
    · simp only [G_X5_tells_0, bel, bndS, ite10, fb0]
      rw [if_pos ha]
    · intro S1 h1
      simp only [G_X6_tells_51, isSign, bndS, ite10, nb0, h1 52 (by omega)]
      rw [if_pos (fun q => ha ((signB h hz hzs).mpr q))]
