theorem nI_or (a b : Nat) : nI a ||| nI b = nI (a ||| b) := by
  apply Int32.toBitVec_inj.mp
  simp [nI, BitVec.ofNat_or]
theorem or_0 (a : Int32) : a ||| 0 = a := by
  apply Int32.toBitVec_inj.mp
  simp
def stB (S : ST) (r j : Nat) (a : Int32) : Int32 := if S.1 r j ≤ dimK (S.1 8 1) (S.1 2 j) then a else a ||| (1 <<< (nI j &&& 31))
def stM (d : Nat → Int32) (j : Nat) (a : Int32) : Int32 := if d (18 + 4 * j) ≤ dimK (d 5) (d (16 + 4 * j)) then a else a ||| (1 <<< (nI j &&& 31))
theorem cbs4 {S : ST} {m : Nat} (hm : m ≤ 10) (hs : S.1 1 0 = nI m) : ∀ (d k n : Nat) (a : Int32), k + d = m → d < n → G_X1_brightSet_1_4_4 n a (nI k) S = some (it (stB S 4) k d a, S) := by
  intro d
  induction d with
  | zero =>
    intro k n a h1 h2
    obtain ⟨n, rfl⟩ : ∃ n', n = n' + 1 := ⟨n - 1, by omega⟩
    unfold G_X1_brightSet_1_4_4
    rw [hs, if_pos (nI_le (by omega) (by omega))]
    rfl
  | succ d ih =>
    intro k n a h1 h2
    obtain ⟨n, rfl⟩ : ∃ n', n = n' + 1 := ⟨n - 1, by omega⟩
    unfold G_X1_brightSet_1_4_4
    rw [hs, if_neg (nI_ge (by omega) (by omega)), if_pos (inB_nI (by omega) (by decide)), if_pos (inB_nI (by omega) (by decide)), cl (by omega), cbright, bndS]
    by_cases hq : S.1 4 k ≤ dimK (S.1 8 1) (S.1 2 k)
    · simp only [if_pos hq, if_true]
      rw [nI_1, ih (k + 1) n a (by omega) (by omega)]
      simp only [it, stB, if_pos hq]
    · simp only [if_neg hq]
      rw [if_neg (by decide), nI_1, ih (k + 1) n _ (by omega) (by omega)]
      simp only [it, stB, if_neg hq]
theorem cbs41 {S : ST} {m : Nat} (hm : m ≤ 10) (hs : S.1 1 0 = nI m) : ∀ (d k n : Nat) (a : Int32), k + d = m → d < n → G_X1_brightSet_1_41_4 n a (nI k) S = some (it (stB S 41) k d a, S) := by
  intro d
  induction d with
  | zero =>
    intro k n a h1 h2
    obtain ⟨n, rfl⟩ : ∃ n', n = n' + 1 := ⟨n - 1, by omega⟩
    unfold G_X1_brightSet_1_41_4
    rw [hs, if_pos (nI_le (by omega) (by omega))]
    rfl
  | succ d ih =>
    intro k n a h1 h2
    obtain ⟨n, rfl⟩ : ∃ n', n = n' + 1 := ⟨n - 1, by omega⟩
    unfold G_X1_brightSet_1_41_4
    rw [hs, if_neg (nI_ge (by omega) (by omega)), if_pos (inB_nI (by omega) (by decide)), if_pos (inB_nI (by omega) (by decide)), cl (by omega), cbright, bndS]
    by_cases hq : S.1 41 k ≤ dimK (S.1 8 1) (S.1 2 k)
    · simp only [if_pos hq, if_true]
      rw [nI_1, ih (k + 1) n a (by omega) (by omega)]
      simp only [it, stB, if_pos hq]
    · simp only [if_neg hq]
      rw [if_neg (by decide), nI_1, ih (k + 1) n _ (by omega) (by omega)]
      simp only [it, stB, if_neg hq]
theorem msh {S : ST} {m : Nat} (hm : m ≤ 10) (hs : S.1 52 1 = nI m) : ∀ (d k n : Nat) (a : Int32), k + d = m → d < n → G_X6_shining_51_4 n a (nI k) S = some (it (stM (S.1 52)) k d a, S) := by
  intro d
  induction d with
  | zero =>
    intro k n a h1 h2
    obtain ⟨n, rfl⟩ : ∃ n', n = n' + 1 := ⟨n - 1, by omega⟩
    unfold G_X6_shining_51_4
    rw [hs, if_pos (nI_le (by omega) (by omega))]
    rfl
  | succ d ih =>
    intro k n a h1 h2
    obtain ⟨n, rfl⟩ : ∃ n', n = n' + 1 := ⟨n - 1, by omega⟩
    unfold G_X6_shining_51_4
    rw [hs, if_neg (nI_ge (by omega) (by omega)), mshines (by omega), bndS]
    by_cases hq : S.1 52 (18 + 4 * k) ≤ dimK (S.1 52 5) (S.1 52 (16 + 4 * k))
    · simp only [if_pos hq, if_true, or_0]
      rw [nI_1, ih (k + 1) n a (by omega) (by omega)]
      simp only [it, stM, if_pos hq]
    · simp only [if_neg hq]
      rw [if_neg (by decide), nI_1, ih (k + 1) n _ (by omega) (by omega)]
      simp only [it, stM, if_neg hq]
/-- what shines, as a set -/
def brI (d : Nat → Int32) (m : Nat) : Int32 := it (stM d) 0 m 0
theorem mshining {S : ST} {m : Nat} (hm : m ≤ 10) (hs : S.1 52 1 = nI m) : G_X6_shining_51 S = some (brI (S.1 52) m, S) := by
  have := msh hm hs m 0 3000 0 (by omega) (by omega)
  rw [show nI 0 = 0 from rfl] at this
  simp only [G_X6_shining_51, this, bndS, brI]
theorem cbright4 {S : ST} {m : Nat} (hm : m ≤ 10) (hs : S.1 1 0 = nI m) : G_X1_brightSet_1_4 S = some (it (stB S 4) 0 m 0, S) := by
  have := cbs4 hm hs m 0 3000 0 (by omega) (by omega)
  rw [show nI 0 = 0 from rfl] at this
  simp only [G_X1_brightSet_1_4, this, bndS]
theorem cbright41 {S : ST} {m : Nat} (hm : m ≤ 10) (hs : S.1 1 0 = nI m) : G_X1_brightSet_1_41 S = some (it (stB S 41) 0 m 0, S) := by
  have := cbs41 hm hs m 0 3000 0 (by omega) (by omega)
  rw [show nI 0 = 0 from rfl] at this
  simp only [G_X1_brightSet_1_41, this, bndS]
theorem stBM {S : ST} {d : Nat → Int32} {r m : Nat} (hm : m ≤ 10) (hk : ∀ j, j < 10 → S.1 2 j = d (16 + 4 * j)) (hl : ∀ j, j < m → S.1 r j = d (18 + 4 * j)) (hw : S.1 8 1 = d 5) : it (stB S r) 0 m 0 = brI d m := by
  refine it_congr m 0 0 (fun i a _ h => ?_)
  simp only [stB, stM, hw]
  rw [hk i (by omega), hl i (by omega)]
theorem brI_lt {d : Nat → Int32} {m : Nat} (hm : m ≤ 10) : ∃ x : Nat, x < 2 ^ m ∧ brI d m = nI x := by
  have := it_inv (f := stM d) (P := fun k a => k ≤ 10 → ∃ x : Nat, x < 2 ^ k ∧ a = nI x) m 0 0 (fun _ => ⟨0, by decide, rfl⟩) (fun i a _ h ih hi => by
    obtain ⟨x, hx, rfl⟩ := ih (by omega)
    unfold stM
    split
    · exact ⟨x, by rw [Nat.pow_succ]; omega, rfl⟩
    · refine ⟨x ||| 2 ^ i, Nat.or_lt_two_pow (by rw [Nat.pow_succ]; omega) (by rw [Nat.pow_succ]; have := Nat.two_pow_pos i; omega), ?_⟩
      rw [shl1 (by omega), nI_or])
  rw [Nat.zero_add] at this
  exact this hm
/-- counting a set -/
def bcF (x : Int32) : Int32 := match G_J6_bitCount_0f7a4 x S_0 with
  | some q => q.1
  | none => 0
theorem cbits (x : Int32) (S : ST) : G_J6_bitCount_0f7a4 x S = some (bcF x, S) := rfl
theorem mbits4 (S T : ST) : ∀ (n : Nat) (a x : Int32), G_X6_bits_4 n a x S = (G_X6_bits_4 n a x T).map (fun q => (q.1, S)) := by
  intro n
  induction n with
  | zero => intro a x; rfl
  | succ n ih =>
    intro a x
    unfold G_X6_bits_4
    split
    · rfl
    · exact ih _ _
set_option maxRecDepth 100000 in
theorem bits_all : ∀ x, x < 1024 → (match G_X6_bits_4 3000 0 (nI x) S_0 with | some q => q.1 == bcF (nI x) | none => false) = true := by decide +kernel
theorem mbits {x : Nat} (h : x < 1024) (S : ST) : G_X6_bits (nI x) S = some (bcF (nI x), S) := by
  have h1 := bits_all x h
  unfold G_X6_bits
  rw [mbits4 S S_0]
  revert h1
  cases G_X6_bits_4 3000 0 (nI x) S_0 with
  | none => intro h; cases h
  | some q =>
    intro h
    simp only [beq_iff_eq] at h
    simp only [Option.map_some, bndS, h]
