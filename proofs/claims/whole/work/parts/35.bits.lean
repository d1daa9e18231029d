theorem sh_ix : ∀ j, j < 32 → ((nI j &&& 31).toBitVec.smod 32).toNat = j := by decide
theorem bitN {x j : Nat} (hx : x < 2 ^ 31) (hj : j < 32) : (nI x >>> (nI j &&& 31)) &&& 1 = nI (x / 2 ^ j % 2) := by
  rw [pk_shrN hx _ j (sh_ix j hj), pk_andN (Nat.lt_of_le_of_lt (Nat.div_le_self _ _) (by omega)) 1 rfl]
theorem bitT {x j : Nat} (hx : x < 2 ^ 31) (hj : j < 32) : ((nI x >>> (nI j &&& 31)) &&& 1 = 1) ↔ x.testBit j = true := by
  rw [bitN hx hj, Nat.testBit_eq_decide_div_mod_eq]
  have h2 : x / 2 ^ j % 2 < 2 := Nat.mod_lt _ (by decide)
  constructor
  · intro h
    exact decide_eq_true ((nI_eq (b := 1) (by omega) (by omega)).mp h)
  · intro h
    rw [of_decide_eq_true h]
    rfl
theorem shlN : ∀ j, j < 31 → (1 : Int32) <<< (nI j &&& 31) = nI (2 ^ j) := by decide
/-- a set from a test -/
def orN (P : Nat → Bool) (j a : Nat) : Nat := if P j = true then a ||| 2 ^ j else a
def setN (P : Nat → Bool) (n : Nat) : Nat := it (orN P) 0 n 0
theorem setN_succ (P : Nat → Bool) (n : Nat) : setN P (n + 1) = if P n = true then setN P n ||| 2 ^ n else setN P n := by
  unfold setN
  rw [it_last, show 0 + n = n by omega]
  rfl
theorem setN_bit (P : Nat → Bool) : ∀ (n j : Nat), (setN P n).testBit j = (decide (j < n) && P j)
  | 0, j => by simp [setN, it]
  | n + 1, j => by
    rw [setN_succ]
    by_cases hp : P n = true
    · rw [if_pos hp, Nat.testBit_or, setN_bit P n j, Nat.testBit_two_pow]
      by_cases hj : n = j
      · subst hj; simp [hp]
      · have : (decide (j < n)) = (decide (j < n + 1)) := decide_eq_decide.mpr (by omega)
        simp [hj, this]
    · rw [if_neg hp, setN_bit P n j]
      by_cases hj : n = j
      · subst hj; simp [hp]
      · congr 1
        simp
        omega
theorem setN_lt (P : Nat → Bool) : ∀ n, setN P n < 2 ^ n
  | 0 => by simp [setN, it]
  | n + 1 => by
    have h1 := setN_lt P n
    have h2 : 2 ^ n < 2 ^ (n + 1) := Nat.pow_lt_pow_right (by decide) (by omega)
    rw [setN_succ]
    split
    · exact Nat.or_lt_two_pow (by omega) h2
    · omega
theorem setN_it {f : Nat → Int32 → Int32} {P : Nat → Bool} : ∀ (d k a : Nat), k + d ≤ 31 → (∀ j x, j < k + d → f j x = if P j = true then x ||| (1 <<< (nI j &&& 31)) else x) → it f k d (nI a) = nI (it (orN P) k d a)
  | 0, _, _, _, _ => rfl
  | d + 1, k, a, h, hf => by
    simp only [it]
    rw [hf k _ (by omega)]
    unfold orN
    by_cases hp : P k = true
    · rw [if_pos hp, if_pos hp, shlN k (by omega), nI_or]
      exact setN_it d (k + 1) _ (by omega) (fun j x hj => hf j x (by omega))
    · rw [if_neg hp, if_neg hp]
      exact setN_it d (k + 1) _ (by omega) (fun j x hj => hf j x (by omega))
def briB (d : Nat → Int32) (j : Nat) : Bool := decide (¬ d (18 + 4 * j) ≤ dimK (d 5) (d (16 + 4 * j)))
theorem brI_N {d : Nat → Int32} {m : Nat} (hm : m ≤ 10) : brI d m = nI (setN (briB d) m) := by
  unfold brI setN
  exact setN_it m 0 0 (by omega) (fun j x hj => by
    unfold stM briB
    by_cases hq : d (18 + 4 * j) ≤ dimK (d 5) (d (16 + 4 * j))
    · rw [if_pos hq, if_neg (by simp [hq])]
    · rw [if_neg hq, if_pos (by simp [hq])])
theorem brI_bit {d : Nat → Int32} {m j : Nat} (hm : m ≤ 10) (hj : j < m) : ((brI d m >>> (nI j &&& 31)) &&& 1 = 1) ↔ ¬ d (18 + 4 * j) ≤ dimK (d 5) (d (16 + 4 * j)) := by
  have h1 := setN_lt (briB d) m
  have h2 := pw_le hm
  rw [brI_N hm, bitT (by omega) (by omega), setN_bit]
  simp [hj, briB]
/-- signs with a set -/
def stY (sg : Nat → Int32) (x : Int32) (j : Nat) (a : Int32) : Int32 := if x &&& (sg j ^^^ (-1)) = 0 then a ||| (1 <<< (nI j &&& 31)) else a
def mayI (d : Nat → Int32) (z : Nat) (x : Int32) : Int32 := it (stY (fun j => d (56 + j)) x) 0 z 0
theorem cmay2 {S : ST} {z : Nat} (hz : z ≤ 6) (hs : S.1 1 9 = nI z) (x : Int32) : ∀ (d k n : Nat) (a : Int32), k + d = z → d < n → G_X1_signsWith_1_4 n x a (nI k) S = some (it (stY (S.1 9) x) k d a, S) := by
  intro d
  induction d with
  | zero =>
    intro k n a h1 h2
    obtain ⟨n, rfl⟩ : ∃ n', n = n' + 1 := ⟨n - 1, by omega⟩
    unfold G_X1_signsWith_1_4
    rw [hs, if_pos (nI_le (by omega) (by omega))]
    rfl
  | succ d ih =>
    intro k n a h1 h2
    obtain ⟨n, rfl⟩ : ∃ n', n = n' + 1 := ⟨n - 1, by omega⟩
    unfold G_X1_signsWith_1_4
    rw [hs, if_neg (nI_ge (by omega) (by omega)), if_pos (inB_nI (by omega) (by decide)), cl (by omega)]
    simp only [it]
    by_cases hq : x &&& (S.1 9 k ^^^ (-1)) = 0
    · rw [if_pos hq, nI_1, ih (k + 1) n _ (by omega) (by omega), show stY (S.1 9) x k a = a ||| (1 <<< (nI k &&& 31)) from if_pos hq]
    · rw [if_neg hq, nI_1, ih (k + 1) n _ (by omega) (by omega), show stY (S.1 9) x k a = a from if_neg hq]
theorem mmay2 {S : ST} {z : Nat} (hz : z ≤ 6) (hs : S.1 52 2 = nI z) (x : Int32) : ∀ (d k n : Nat) (a : Int32), k + d = z → d < n → G_X6_mayBe_51_4 n x a (nI k) S = some (it (stY (fun j => S.1 52 (56 + j)) x) k d a, S) := by
  intro d
  induction d with
  | zero =>
    intro k n a h1 h2
    obtain ⟨n, rfl⟩ : ∃ n', n = n' + 1 := ⟨n - 1, by omega⟩
    unfold G_X6_mayBe_51_4
    rw [hs, if_pos (nI_le (by omega) (by omega))]
    rfl
  | succ d ih =>
    intro k n a h1 h2
    obtain ⟨n, rfl⟩ : ∃ n', n = n' + 1 := ⟨n - 1, by omega⟩
    unfold G_X6_mayBe_51_4
    rw [hs, if_neg (nI_ge (by omega) (by omega)), ix56, if_pos (inB_nI (by omega) (by decide)), cl (by omega)]
    simp only [it]
    by_cases hq : x &&& (S.1 52 (56 + k) ^^^ (-1)) = 0
    · rw [if_pos hq, nI_1, ih (k + 1) n _ (by omega) (by omega), show stY (fun j => S.1 52 (56 + j)) x k a = a ||| (1 <<< (nI k &&& 31)) from if_pos hq]
    · rw [if_neg hq, nI_1, or_0, ih (k + 1) n _ (by omega) (by omega), show stY (fun j => S.1 52 (56 + j)) x k a = a from if_neg hq]
theorem cmay {S : ST} {d : Nat → Int32} {z : Nat} (hR : SkyR 1 S d) (hz : z ≤ 6) (hs : d 2 = nI z) (x : Int32) : G_X1_signsWith_1 x S = some (mayI d z x, S) := by
  have := cmay2 (S := S) hz (hR.2.2.1.trans hs) x z 0 3000 0 (by omega) (by omega)
  rw [show nI 0 = 0 from rfl] at this
  simp only [G_X1_signsWith_1, this, bndS, mayI]
  rw [it_congr (f := stY (S.1 9) x) (g := stY (fun j => d (56 + j)) x) z 0 0 (fun i a _ h => by simp only [stY]; rw [show S.1 9 i = d (56 + i) from hR.2.2.2.2.2.2.2.2.2.2.2.1 i (by omega)])]
theorem mmay {S : ST} {z : Nat} (hz : z ≤ 6) (hs : S.1 52 2 = nI z) (x : Int32) : G_X6_mayBe_51 x S = some (mayI (S.1 52) z x, S) := by
  have := mmay2 (S := S) hz hs x z 0 3000 0 (by omega) (by omega)
  rw [show nI 0 = 0 from rfl] at this
  simp only [G_X6_mayBe_51, this, bndS, mayI]
theorem setB {S : ST} (h : Inv S) {a : Int32} : (0 ≤ a ∧ a < 1 <<< (S.1 1 0 &&& 31)) ↔ (0 ≤ a ∧ a ≤ (1 <<< (S.1 52 1 &&& 31)) - 1) := by
  obtain ⟨m, hm, hs⟩ := starsN h
  rw [h.1.1, hs, shl1 hm]
  have h2 := pw_le hm
  have h5 : nI (2 ^ m) ≤ 1024 := nI_le (b := 1024) h2 (by omega)
  have h6 : 0 ≤ nI (2 ^ m) := nI_pos' (by omega)
  generalize nI (2 ^ m) = x1 at *
  grind
theorem op_may (a : Int32) : Ok (G_X5_may_0 a) (G_X6_may_51 a) := by
  intro S h
  obtain ⟨z, hz, hzs⟩ := signsN h
  by_cases ha : 0 ≤ a ∧ a < 1 <<< (S.1 1 0 &&& 31)
  · refine ⟨mayI (S.1 52) z a, S, S, ?_, ?_, h⟩
    · simp only [G_X5_may_0, cset, bndS, ite10, cmay h.1 hz hzs]
      rw [if_neg (not_not_intro ha)]
    · simp only [G_X6_may_51, isSet, bndS, ite10, mmay hz hzs]
      rw [if_neg (not_not_intro ((setB h).mp ha))]
  · refine ok_fin h (i := 0) (by decide) ?_ ?_
    · simp only [G_X5_may_0, cset, bndS, ite10, fb0]
      rw [if_pos ha]
    · intro S1 h1
      simp only [G_X6_may_51, isSet, bndS, ite10, nb0, h1 52 (by omega)]
      rw [if_pos (fun q => ha ((setB h).mpr q))]
def stV (d : Nat → Int32) (z : Nat) (x : Int32) (j : Nat) (a : Int32) : Int32 := if mayI d z (d (56 + j) &&& x) = 1 <<< (nI j &&& 31) then a ||| (1 <<< (nI j &&& 31)) else a
theorem ctold {S : ST} {d : Nat → Int32} {z : Nat} (hR : SkyR 1 S d) (hz : z ≤ 6) (hs : d 2 = nI z) (x : Int32) : ∀ (e k n : Nat) (a : Int32), k + e = z → e < n → G_X5_told_0_19 n x a (nI k) S = some (it (stV d z x) k e a, S) := by
  intro e
  induction e with
  | zero =>
    intro k n a h1 h2
    obtain ⟨n, rfl⟩ : ∃ n', n = n' + 1 := ⟨n - 1, by omega⟩
    unfold G_X5_told_0_19
    rw [hR.2.2.1, hs, if_pos (nI_le (by omega) (by omega))]
    rfl
  | succ e ih =>
    intro k n a h1 h2
    obtain ⟨n, rfl⟩ : ∃ n', n = n' + 1 := ⟨n - 1, by omega⟩
    unfold G_X5_told_0_19
    rw [hR.2.2.1, hs, if_neg (nI_ge (by omega) (by omega)), if_pos (inB_nI (by omega) (by decide)), cl (by omega), cmay hR hz hs, bndS, show S.1 9 k = _ from hR.2.2.2.2.2.2.2.2.2.2.2.1 k (by omega)]
    simp only [it]
    by_cases hq : mayI d z (d (56 + k) &&& x) = 1 <<< (nI k &&& 31)
    · rw [if_pos hq, nI_1, ih (k + 1) n _ (by omega) (by omega), show stV d z x k a = a ||| (1 <<< (nI k &&& 31)) from if_pos hq]
    · rw [if_neg hq, nI_1, ih (k + 1) n _ (by omega) (by omega), show stV d z x k a = a from if_neg hq]
theorem mtold {S : ST} {z : Nat} (hz : z ≤ 6) (hs : S.1 52 2 = nI z) (x : Int32) : ∀ (e k n : Nat) (a : Int32), k + e = z → e < n → G_X6_told_51_9 n x a (nI k) S = some (it (stV (S.1 52) z x) k e a, S) := by
  intro e
  induction e with
  | zero =>
    intro k n a h1 h2
    obtain ⟨n, rfl⟩ : ∃ n', n = n' + 1 := ⟨n - 1, by omega⟩
    unfold G_X6_told_51_9
    rw [hs, if_pos (nI_le (by omega) (by omega))]
    rfl
  | succ e ih =>
    intro k n a h1 h2
    obtain ⟨n, rfl⟩ : ∃ n', n = n' + 1 := ⟨n - 1, by omega⟩
    unfold G_X6_told_51_9
    rw [hs, if_neg (nI_ge (by omega) (by omega)), ix56, if_pos (inB_nI (by omega) (by decide)), cl (by omega), mmay hz hs, bndS]
    simp only [it]
    by_cases hq : mayI (S.1 52) z (S.1 52 (56 + k) &&& x) = 1 <<< (nI k &&& 31)
    · rw [if_pos hq, nI_1, ih (k + 1) n _ (by omega) (by omega), show stV (S.1 52) z x k a = a ||| (1 <<< (nI k &&& 31)) from if_pos hq]
    · rw [if_neg hq, nI_1, or_0, ih (k + 1) n _ (by omega) (by omega), show stV (S.1 52) z x k a = a from if_neg hq]
theorem op_told : Ok G_X5_told_0 G_X6_told_51 := by
  intro S h
  obtain ⟨m, hm, hs⟩ := starsN h
  obtain ⟨z, hz, hzs⟩ := signsN h
  have c1 := ctold h.1 hz hzs (brI (S.1 52) m) z 0 3000 0 (by omega) (by omega)
  have c2 := mtold hz hzs (brI (S.1 52) m) z 0 3000 0 (by omega) (by omega)
  rw [show nI 0 = 0 from rfl] at c1 c2
  refine ⟨it (stV (S.1 52) z (brI (S.1 52) m)) 0 z 0, S, S, ?_, ?_, h⟩
  · simp only [G_X5_told_0, cBright h.1 hm hs, bndS, c1]
  · simp only [G_X6_told_51, mshining hm hs, bndS, c2]
/-- the nearest -/
def dsI (p q : Int32) : Int32 := imn (iab (p - q)) (100 - iab (p - q))
theorem dsI_b {p q : Int32} (hp : 0 ≤ p ∧ p ≤ 99) (hq : 0 ≤ q ∧ q ≤ 99) : 0 ≤ dsI p q ∧ dsI p q ≤ 50 := by
  unfold dsI imn iab
  split <;> split <;> grind
def stN (d : Nat → Int32) (p : Int32) (j : Nat) (a : Int32) : Int32 := if ¬ d (18 + 4 * j) ≤ dimK (d 5) (d (16 + 4 * j)) ∧ (a < 0 ∨ dsI p (d (17 + 4 * j)) < dsI p (d (17 + 4 * a.toNatClampNeg))) then nI j else a
def dOf (d : Nat → Int32) (p a : Int32) : Int32 := if a < 0 then 1000000 else dsI p (d (17 + 4 * a.toNatClampNeg))
def okA (a : Int32) : Prop := a = -1 ∨ ∃ i : Nat, i < 10 ∧ a = nI i
theorem okA_st {d : Nat → Int32} {p a : Int32} {j : Nat} (hj : j < 10) (h : okA a) : okA (stN d p j a) := by
  unfold stN
  split
  · exact Or.inr ⟨j, hj, rfl⟩
  · exact h
theorem cnear2 {S : ST} {d : Nat → Int32} {m : Nat} {p : Int32} (hR : SkyR 1 S d) (hK : SkyK d) (hm : m ≤ 10) (hs : d 1 = nI m) (hp : 0 ≤ p ∧ p ≤ 99) : ∀ (e k n : Nat) (a : Int32), okA a → k + e = m → e < n → G_X1_nearestOf_1_9 n (brI d m) p (dOf d p a) a (nI k) S = some (it (stN d p) k e a, S) := by
  intro e
  induction e with
  | zero =>
    intro k n a ha h1 h2
    obtain ⟨n, rfl⟩ : ∃ n', n = n' + 1 := ⟨n - 1, by omega⟩
    unfold G_X1_nearestOf_1_9
    rw [hR.1, hs, if_pos (nI_le (by omega) (by omega))]
    rfl
  | succ e ih =>
    intro k n a ha h1 h2
    obtain ⟨n, rfl⟩ : ∃ n', n = n' + 1 := ⟨n - 1, by omega⟩
    unfold G_X1_nearestOf_1_9
    have hk : k < 10 := by omega
    rw [hR.1, hs, if_neg (nI_ge (by omega) (by omega)), if_pos (inB_nI hk (by decide)), cl (by omega)]
    simp only [G_X5_stepsBetween, bndS, it]
    rw [show S.1 3 k = _ from hR.2.2.2.2.2.2.2.2.1 k hk]
    have hb := dsI_b hp (hK.2.2.2.2.2.2.2.2.2.2.1 k hk)
    have hkk := okA_st (d := d) (p := p) hk ha
    have hbit := brI_bit (d := d) hm (show k < m by omega)
    show (if brI d m >>> (nI k &&& 31) &&& 1 = 1 then if dOf d p a ≤ dsI p (d (17 + 4 * k)) then _ else G_X1_nearestOf_1_9 n (brI d m) p (dsI p (d (17 + 4 * k))) (nI k) (nI k + 1) S else _) = _
    by_cases hq : brI d m >>> (nI k &&& 31) &&& 1 = 1
    · rw [if_pos hq]
      by_cases hle : dOf d p a ≤ dsI p (d (17 + 4 * k))
      · rw [if_pos hle, nI_1, ih (k + 1) n a ha (by omega) (by omega)]
        have : stN d p k a = a := by
          unfold stN
          rw [if_neg]
          rintro ⟨_, q⟩
          unfold dOf at hle
          rcases q with q | q
          · rw [if_pos q] at hle
            grind
          · by_cases q0 : a < 0
            · rw [if_pos q0] at hle
              grind
            · rw [if_neg q0] at hle
              grind
        rw [this]
      · have : stN d p k a = nI k := by
          unfold stN
          rw [if_pos]
          refine ⟨hbit.mp hq, ?_⟩
          unfold dOf at hle
          by_cases q0 : a < 0
          · exact Or.inl q0
          · rw [if_neg q0] at hle
            exact Or.inr (by grind)
        rw [this] at hkk
        have e1 : dOf d p (nI k) = dsI p (d (17 + 4 * k)) := by
          unfold dOf
          rw [if_neg (nI_pos (by omega)), cl (by omega)]
        have := ih (k + 1) n (nI k) hkk (by omega) (by omega)
        rw [e1] at this
        rw [if_neg hle, nI_1, this, ‹stN d p k a = nI k›]
    · rw [if_neg hq, nI_1, ih (k + 1) n a ha (by omega) (by omega)]
      have : stN d p k a = a := by
        unfold stN
        rw [if_neg (fun q => hq (hbit.mpr q.1))]
      rw [this]
theorem mnear2 {S : ST} {m : Nat} {p : Int32} (hK : SkyK (S.1 52)) (hm : m ≤ 10) (hs : S.1 52 1 = nI m) (hp : 0 ≤ p ∧ p ≤ 99) : ∀ (e k n : Nat) (a : Int32), okA a → k + e = m → e < n → G_X6_nearest_51_4 n p a (nI k) S = some (it (stN (S.1 52) p) k e a, S) := by
  intro e
  induction e with
  | zero =>
    intro k n a ha h1 h2
    obtain ⟨n, rfl⟩ : ∃ n', n = n' + 1 := ⟨n - 1, by omega⟩
    unfold G_X6_nearest_51_4
    rw [hs, if_pos (nI_le (by omega) (by omega))]
    rfl
  | succ e ih =>
    intro k n a ha h1 h2
    obtain ⟨n, rfl⟩ : ∃ n', n = n' + 1 := ⟨n - 1, by omega⟩
    unfold G_X6_nearest_51_4
    have hk : k < 10 := by omega
    have hkk := okA_st (d := S.1 52) (p := p) hk ha
    rw [hs, if_neg (nI_ge (by omega) (by omega))]
    simp only [it, mshines hk, bndS, show ¬ (1 : Int32) = 0 by decide, if_false, if_true]
    have hpl := hK.2.2.2.2.2.2.2.2.2.2.1
    rcases ha with rfl | ⟨i, hi, rfl⟩
    · rw [if_pos (by decide)]
      by_cases hq : S.1 52 (18 + 4 * k) ≤ dimK (S.1 52 5) (S.1 52 (16 + 4 * k))
      · rw [if_pos hq, if_pos rfl, nI_1]
        have : stN (S.1 52) p k (-1) = -1 := if_neg (fun z => z.1 hq)
        rw [this, ih (k + 1) n _ (Or.inl rfl) (by omega) (by omega)]
      · rw [if_neg hq, if_neg (by decide), nI_1]
        have : stN (S.1 52) p k (-1) = nI k := if_pos ⟨hq, Or.inl (by decide)⟩
        rw [this, ih (k + 1) n _ (Or.inr ⟨k, hk, rfl⟩) (by omega) (by omega)]
    · rw [if_neg (nI_pos (by omega))]
      simp only [mget1 hk, mget1 hi, bndS, mapart hp (hpl k hk), mapart hp (hpl i hi), mshines hk]
      show (if dsI p (S.1 52 (17 + 4 * i)) ≤ dsI p (S.1 52 (17 + 4 * k)) then _ else _) = _
      by_cases hle : dsI p (S.1 52 (17 + 4 * i)) ≤ dsI p (S.1 52 (17 + 4 * k))
      · rw [if_pos hle]
        have : stN (S.1 52) p k (nI i) = nI i := by
          unfold stN
          rw [if_neg, ]
          rintro ⟨_, q⟩
          rw [cl (by omega)] at q
          rcases q with q | q
          · exact nI_pos (by omega) q
          · grind
        rw [this, nI_1, ih (k + 1) n _ (Or.inr ⟨i, hi, rfl⟩) (by omega) (by omega), ite_self]
      · rw [if_neg hle]
        by_cases hq : S.1 52 (18 + 4 * k) ≤ dimK (S.1 52 5) (S.1 52 (16 + 4 * k))
        · rw [if_pos hq, if_pos rfl, nI_1]
          have : stN (S.1 52) p k (nI i) = nI i := if_neg (fun z => z.1 hq)
          rw [this, ih (k + 1) n _ (Or.inr ⟨i, hi, rfl⟩) (by omega) (by omega)]
        · rw [if_neg hq, if_neg (by decide), nI_1]
          have : stN (S.1 52) p k (nI i) = nI k := if_pos ⟨hq, Or.inr (by rw [cl (by omega)]; grind)⟩
          rw [this, ih (k + 1) n _ (Or.inr ⟨k, hk, rfl⟩) (by omega) (by omega)]
def nrI (d : Nat → Int32) (m : Nat) (p : Int32) : Int32 := it (stN d p) 0 m (-1)
theorem cnear {S : ST} {d : Nat → Int32} {m : Nat} {p : Int32} (hR : SkyR 1 S d) (hK : SkyK d) (hm : m ≤ 10) (hs : d 1 = nI m) (hp : 0 ≤ p ∧ p ≤ 99) : G_X1_nearestOf_1 (brI d m) p S = some (nrI d m p, S) := by
  have := cnear2 hR hK hm hs hp m 0 3000 (-1) (Or.inl rfl) (by omega) (by omega)
  rw [show nI 0 = 0 from rfl, show dOf d p (-1) = 1000000 from rfl] at this
  simp only [G_X1_nearestOf_1, this, bndS]
  rfl
theorem mnear {S : ST} {m : Nat} {p : Int32} (hK : SkyK (S.1 52)) (hm : m ≤ 10) (hs : S.1 52 1 = nI m) (hp : 0 ≤ p ∧ p ≤ 99) : G_X6_nearest_51 p S = some (nrI (S.1 52) m p, S) := by
  have := mnear2 hK hm hs hp m 0 3000 (-1) (Or.inl rfl) (by omega) (by omega)
  rw [show nI 0 = 0 from rfl] at this
  simp only [G_X6_nearest_51, this, bndS]
  rfl
theorem op_steers (a : Int32) : Ok (G_X5_steers_0 a) (G_X6_steers_51 a) := by
  intro S h
  obtain ⟨m, hm, hs⟩ := starsN h
  by_cases ha : 0 ≤ a ∧ a ≤ 99
  · have c1 := cnear h.1 h.2.1 hm hs ha
    by_cases hq : 0 ≤ nrI (S.1 52) m a
    · refine ⟨nrI (S.1 52) m a, S, S, ?_, ?_, h⟩
      · simp only [G_X5_steers_0, bel, bndS, ite10, cBright h.1 hm hs, c1]
        rw [if_neg (by grind), if_pos hq]
      · simp only [G_X6_steers_51, isPlace, bndS, ite10, mnear h.2.1 hm hs ha]
        rw [if_neg (not_not_intro ha), if_pos hq]
    · refine ok_fin h (i := 3) (by decide) ?_ ?_
      · simp only [G_X5_steers_0, bel, bndS, ite10, cBright h.1 hm hs, c1, fb3]
        rw [if_neg (by grind), if_neg hq]
      · intro S1 h1
        have e5 := h1 52 (by omega)
        simp only [G_X6_steers_51, isPlace, bndS, ite10, mnear (S := S1) (by rw [e5]; exact h.2.1) hm (by rw [e5]; exact hs) ha, nb3]
        rw [if_neg (not_not_intro ha), e5, if_neg hq]
  · refine ok_fin h (i := 0) (by decide) ?_ ?_
    · simp only [G_X5_steers_0, bel, bndS, ite10, fb0]
      rw [if_pos (by grind)]
    · intro S1 h1
      simp only [G_X6_steers_51, isPlace, bndS, ite10, nb0, h1 52 (by omega)]
      rw [if_pos ha]
def stX (d : Nat → Int32) (m : Nat) (x : Int32) (q : Nat) (a : Int32) : Int32 := if nrI d m (nI q) = x then a + 1 else a
theorem pl_in {k : Nat} (h : k < 100) : 0 ≤ nI k ∧ nI k ≤ 99 := ⟨nI_pos' (by omega), nI_le (b := 99) (by omega) (by omega)⟩
theorem csees {S : ST} {d : Nat → Int32} {m : Nat} {x : Int32} (hR : SkyR 1 S d) (hK : SkyK d) (hm : m ≤ 10) (hs : d 1 = nI m) : ∀ (e k n : Nat) (a : Int32), k + e = 100 → e < n → G_X5_sees_0_40 n x (brI d m) a (nI k) S = some (it (stX d m x) k e a, S) := by
  intro e
  induction e with
  | zero =>
    intro k n a h1 h2
    obtain ⟨n, rfl⟩ : ∃ n', n = n' + 1 := ⟨n - 1, by omega⟩
    unfold G_X5_sees_0_40
    rw [if_pos (show (100 : Int32) ≤ nI k from nI_le (a := 100) (by omega) (by omega))]
    rfl
  | succ e ih =>
    intro k n a h1 h2
    obtain ⟨n, rfl⟩ : ∃ n', n = n' + 1 := ⟨n - 1, by omega⟩
    unfold G_X5_sees_0_40
    rw [if_neg (show ¬ (100 : Int32) ≤ nI k from nI_ge (b := 100) (by omega) (by omega)), cnear hR hK hm hs (pl_in (by omega)), bndS]
    simp only [it]
    by_cases hq : nrI d m (nI k) = x
    · rw [if_pos hq, nI_1, ih (k + 1) n _ (by omega) (by omega), show stX d m x k a = a + 1 from if_pos hq]
    · rw [if_neg hq, nI_1, ih (k + 1) n _ (by omega) (by omega), show stX d m x k a = a from if_neg hq]
theorem msees {S : ST} {m : Nat} {x : Int32} (hK : SkyK (S.1 52)) (hm : m ≤ 10) (hs : S.1 52 1 = nI m) : ∀ (e k n : Nat) (a : Int32), k + e = 100 → e < n → G_X6_sees_51_18 n x a (nI k) S = some (it (stX (S.1 52) m x) k e a, S) := by
  intro e
  induction e with
  | zero =>
    intro k n a h1 h2
    obtain ⟨n, rfl⟩ : ∃ n', n = n' + 1 := ⟨n - 1, by omega⟩
    unfold G_X6_sees_51_18
    rw [if_pos (show (100 : Int32) ≤ nI k from nI_le (a := 100) (by omega) (by omega))]
    rfl
  | succ e ih =>
    intro k n a h1 h2
    obtain ⟨n, rfl⟩ : ∃ n', n = n' + 1 := ⟨n - 1, by omega⟩
    unfold G_X6_sees_51_18
    rw [if_neg (show ¬ (100 : Int32) ≤ nI k from nI_ge (b := 100) (by omega) (by omega)), mnear hK hm hs (pl_in (by omega)), bndS]
    simp only [it]
    by_cases hq : nrI (S.1 52) m (nI k) = x
    · rw [if_pos hq, nI_1, ih (k + 1) n _ (by omega) (by omega), show stX (S.1 52) m x k a = a + 1 from if_pos hq]
    · rw [if_neg hq, nI_1, add_0, ih (k + 1) n _ (by omega) (by omega), show stX (S.1 52) m x k a = a from if_neg hq]
theorem op_sees (a : Int32) : Ok (G_X5_sees_0 a) (G_X6_sees_51 a) := by
  intro S h
  obtain ⟨m, hm, hs⟩ := starsN h
  by_cases ha : 0 ≤ a ∧ a < S.1 1 0
  · have c1 := csees (x := a) h.1 h.2.1 hm hs 100 0 3000 0 (by omega) (by omega)
    have c2 := msees (x := a) h.2.1 hm hs 100 0 3000 0 (by omega) (by omega)
    rw [show nI 0 = 0 from rfl] at c1 c2
    refine ⟨it (stX (S.1 52) m a) 0 100 0, S, S, ?_, ?_, h⟩
    · simp only [G_X5_sees_0, bel, bndS, ite10, cBright h.1 hm hs, c1]
      rw [if_neg (not_not_intro ha)]
    · simp only [G_X6_sees_51, isStar, bndS, ite10, c2]
      rw [if_neg (not_not_intro ((starB h).mp ha))]
  · refine ok_fin h (i := 0) (by decide) ?_ ?_
    · simp only [G_X5_sees_0, bel, bndS, ite10, fb0]
      rw [if_pos ha]
    · intro S1 h1
      simp only [G_X6_sees_51, isStar, bndS, ite10, nb0, h1 52 (by omega)]
      rw [if_pos (fun q => ha ((starB h).mpr q))]
