theorem bel (x b : Int32) (S : ST) : G_X5_isBelow x b S = some (if 0 ≤ x ∧ x < b then 1 else 0, S) := by
  unfold G_X5_isBelow; grind
theorem wit (x b : Int32) (S : ST) : G_X5_isWithin x b S = some (if 0 ≤ x ∧ x ≤ b then 1 else 0, S) := by
  unfold G_X5_isWithin; grind
theorem in1 (x a b : Int32) (S : ST) : G_X6_in1 x a b S = some (if a ≤ x ∧ x ≤ b then 1 else 0, S) := by
  unfold G_X6_in1; grind
theorem inB_nI {k n : Nat} (h : k < n) (hn : n < 2 ^ 31) : inB (nI k) n = true := decide_eq_true (nI_in h hn)
theorem bit01 {c : Prop} {d : Decidable c} : bitB (if c then 1 else 0) = true := by by_cases h : c <;> simp [h, bitB]
theorem fnd {i : Nat} (h : i < 7) (S : ST) : G_X5_finding_0 (nI i) S = some (-1000001 - nI i, wr S 42 i (S.1 42 i + 1)) := by
  unfold G_X5_finding_0
  rw [if_pos (inB_nI h (by decide)), if_pos (inB_nI h (by decide)), nI_clamp (by omega)]
theorem nof {i : Nat} (h : i < 7) (S : ST) : G_X6_no_51 (nI i) S = some (-1000001 - nI i, wr S 55 i (S.1 55 i + 1)) := by
  unfold G_X6_no_51
  rw [if_pos (inB_nI h (by decide)), if_pos (inB_nI h (by decide)), nI_clamp (by omega)]
theorem isPlace (x : Int32) (S : ST) : G_X6_isPlace x S = some (if 0 ≤ x ∧ x ≤ 99 then 1 else 0, S) := by
  simp only [G_X6_isPlace, in1, Option.bind_some, bit01, if_true]
theorem isCrew (x : Int32) (S : ST) : G_X6_isCrew x S = some (if 0 ≤ x ∧ x ≤ 3 then 1 else 0, S) := by
  simp only [G_X6_isCrew, in1, Option.bind_some, bit01, if_true]
theorem isStar (x : Int32) (S : ST) : G_X6_isStar_51 x S = some (if 0 ≤ x ∧ x ≤ S.1 52 1 - 1 then 1 else 0, S) := by
  simp only [G_X6_isStar_51, in1, Option.bind_some, bit01, if_true]
theorem ix4 (k f : Nat) : (16 + 4 * nI k) + nI f = nI (16 + 4 * k + f) := by
  show (nI 16 + nI 4 * nI k) + nI f = _
  rw [pk_mul, nI_add, nI_add]
theorem mget {k f : Nat} (h : 16 + 4 * k + f < 72) (S : ST) : G_X6_get_51 (nI k) (nI f) S = some (S.1 52 (16 + 4 * k + f), S) := by
  unfold G_X6_get_51
  rw [ix4, if_pos (inB_nI h (by decide)), nI_clamp (by omega)]
theorem mput {k f : Nat} (h : 16 + 4 * k + f < 72) (v : Int32) (S : ST) : G_X6_puts_51 (nI k) (nI f) v S = some ((), wr S 52 (16 + 4 * k + f) v) := by
  unfold G_X6_puts_51
  rw [ix4, if_pos (inB_nI h (by decide)), nI_clamp (by omega)]
theorem nI_ne_neg {k : Nat} (h : k < 2 ^ 31) : ¬ nI k < 0 := nI_pos h
/-- a loop's closed form -/
def it {α : Type} (f : Nat → α → α) : Nat → Nat → α → α
  | _, 0, a => a
  | k, d + 1, a => it f (k + 1) d (f k a)
theorem it_congr {α : Type} {f g : Nat → α → α} : ∀ (d k : Nat) (a : α), (∀ i a, k ≤ i → i < k + d → f i a = g i a) → it f k d a = it g k d a
  | 0, _, _, _ => rfl
  | d + 1, k, a, h => by
    show it f (k + 1) d (f k a) = it g (k + 1) d (g k a)
    rw [h k a (Nat.le_refl _) (by omega)]
    exact it_congr d (k + 1) _ (fun i a h1 h2 => h i a (by omega) (by omega))
theorem it_inv {α : Type} {f : Nat → α → α} {P : Nat → α → Prop} : ∀ (d k : Nat) (a : α), P k a → (∀ i a, k ≤ i → i < k + d → P i a → P (i + 1) (f i a)) → P (k + d) (it f k d a)
  | 0, _, _, h, _ => h
  | d + 1, k, a, h, hs => by
    have h2 := it_inv (f := f) (P := P) d (k + 1) (f k a) (hs k a (Nat.le_refl _) (by omega) h) (fun i a h1 h2 => hs i a (by omega) (by omega))
    rw [show k + (d + 1) = k + 1 + d by omega]
    exact h2
/-- a whole row set -/
def sr (S : ST) (k : Nat) (f : Nat → Int32) : ST := (fun c => if c = k then f else S.1 c, S.2)
theorem sr_eq {S : ST} {k : Nat} {f : Nat → Int32} : (sr S k f).1 k = f := by simp [sr]
theorem sr_ne {S : ST} {k c : Nat} {f : Nat → Int32} (h : c ≠ k) : (sr S k f).1 c = S.1 c := by simp [sr, h]
theorem wr_sr (S : ST) (k i : Nat) (v : Int32) : wr S k i v = sr S k (upd (S.1 k) i v) := by
  unfold wr sr
  congr 1
  funext c
  by_cases h : c = k
  · subst h; simp
  · simp [h]
theorem sr_sr (S : ST) (k : Nat) (f g : Nat → Int32) : sr (sr S k f) k g = sr S k g := by
  unfold sr
  congr 1
  funext c
  by_cases h : c = k
  · simp [h]
  · simp [h]
theorem sr_self (S : ST) (k : Nat) : sr S k (S.1 k) = S := by
  unfold sr
  congr 1
  funext c
  by_cases h : c = k
  · simp [h]
  · simp [h]
/-- the wear of a kind -/
def wearK (w k l u : Int32) : Int32 :=
  if k = 1 then (u + 1) + 2 else if k = 2 then (u + 1) / 2 else if k = 3 then (u + 1) / 2 + (if w < 5 then 0 else 1) else if k = 4 then ((u + 1) / 2 + (if w < 5 then 0 else 1)) + w else if k = 5 then (u + 1) + (99 - l) / 10 else if k = 6 then 2 * ((u + 1) + 2) else u + 1
def dimK (w k : Int32) : Int32 := if k = 1 then 19 else if k = 2 then 4 else if k = 3 then 0 else if k = 4 then 0 else if k = 5 then 9 + w else if k = 6 then 19 else 9
def lifeN (w k l u : Int32) : Int32 := imx 0 (l - wearK w k l u)
theorem cwear (k l u : Int32) (S : ST) : G_X1_wearOf_1 k l u S = some (wearK (S.1 8 1) k l u, S) := by
  unfold G_X1_wearOf_1 G_X1_wearOf_1_24 wearK
  grind
theorem cdim (k : Int32) (S : ST) : G_X1_dimOf_1 k S = some (dimK (S.1 8 1) k, S) := by
  unfold G_X1_dimOf_1 dimK
  have : (9 : Int32) / 2 = 4 := by decide
  grind
theorem cnext (k l u : Int32) (S : ST) : G_X1_lifeNext_1 k l u S = some (lifeN (S.1 8 1) k l u, S) := by
  simp only [G_X1_lifeNext_1, cwear, Option.bind_some, lifeN]
theorem cbright (k l : Int32) (S : ST) : G_X1_isBright_1 k l S = some (if l ≤ dimK (S.1 8 1) k then 0 else 1, S) := by
  simp only [G_X1_isBright_1, cdim, Option.bind_some]
  grind
theorem mwear {k : Nat} (h : k < 10) (S : ST) : G_X6_wearOf_51 (nI k) S = some (wearK (S.1 52 5) (S.1 52 (16 + 4 * k)) (S.1 52 (18 + 4 * k)) (S.1 52 4), S) := by
  have h0 := mget (k := k) (f := 0) (by omega) S
  have h2 := mget (k := k) (f := 2) (by omega) S
  rw [show nI 0 = 0 from rfl, show 16 + 4 * k + 0 = 16 + 4 * k by omega] at h0
  rw [show nI 2 = 2 from rfl, show 16 + 4 * k + 2 = 18 + 4 * k by omega] at h2
  unfold G_X6_wearOf_51 G_X6_wearOf_51_27 wearK
  simp only [h0, h2, Option.bind_some]
  grind
theorem mdim {k : Nat} (h : k < 10) (S : ST) : G_X6_dimOf_51 (nI k) S = some (dimK (S.1 52 5) (S.1 52 (16 + 4 * k)), S) := by
  have h0 := mget (k := k) (f := 0) (by omega) S
  rw [show nI 0 = 0 from rfl, show 16 + 4 * k + 0 = 16 + 4 * k by omega] at h0
  unfold G_X6_dimOf_51 dimK
  simp only [h0, Option.bind_some]
  grind
theorem mshines {k : Nat} (h : k < 10) (S : ST) : G_X6_shines_51 (nI k) S = some (if S.1 52 (18 + 4 * k) ≤ dimK (S.1 52 5) (S.1 52 (16 + 4 * k)) then 0 else 1, S) := by
  have h2 := mget (k := k) (f := 2) (by omega) S
  rw [show nI 2 = 2 from rfl, show 16 + 4 * k + 2 = 18 + 4 * k by omega] at h2
  simp only [G_X6_shines_51, h2, mdim h, Option.bind_some]
  grind
