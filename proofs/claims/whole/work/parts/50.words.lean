/-- the words -/
def kN : List (List Nat) := [[99, 114, 101, 119], [97, 116], [115, 116, 101, 112, 115], [115, 105, 103, 110], [108, 97, 109, 112], [114, 101, 100], [102, 105, 120, 101, 100], [112, 111, 108, 101], [103, 117, 105, 100, 101], [111, 108, 100], [103, 105, 97, 110, 116], [108, 105, 102, 101], [119, 111, 114, 116, 104], [100, 117, 115, 116], [119, 105, 115, 104, 101, 115], [109, 101, 110, 100], [112, 97, 114, 116, 115]]
def kL (j : Nat) : Nat := (kN.getD j []).length
def kW (j i : Nat) : Nat := (kN.getD j []).getD i 0
set_option maxRecDepth 100000 in
theorem k_all : ∀ j, j < 17 → (strB j = true ∧ strN j = nI (kL j) ∧ kL j ≤ 6 ∧ 0 < kL j) ∧ ∀ i, i < kL j → strI j (nI i) = true ∧ strC j (nI i) = nI (kW j i) ∧ isL (kW j i) = true := by decide +kernel
set_option maxRecDepth 100000 in
theorem k_inj : ∀ j, j < 17 → ∀ i, i < 17 → (kL j = kL i ∧ ∀ x, x < kL j → kW j x = kW i x) → j = i := by decide +kernel
def mU (B : Nat → Nat) (s j : Nat) : Nat → Nat → Bool
  | 0, _ => true
  | e + 1, i => decide (B (s + i) = kW j i) && mU B s j e (i + 1)
theorem mU_iff {B : Nat → Nat} {s j : Nat} : ∀ (e i : Nat), mU B s j e i = true ↔ ∀ x, i ≤ x → x < i + e → B (s + x) = kW j x
  | 0, i => ⟨fun _ x a b => by omega, fun _ => rfl⟩
  | e + 1, i => by
    show (decide (B (s + i) = kW j i) && mU B s j e (i + 1)) = true ↔ _
    rw [Bool.and_eq_true, decide_eq_true_eq, mU_iff e (i + 1)]
    constructor
    · rintro ⟨h1, h2⟩ x a b
      by_cases hx : x = i
      · rw [hx]; exact h1
      · exact h2 x (by omega) (by omega)
    · intro h
      exact ⟨h i (Nat.le_refl _) (by omega), fun x a b => h x (by omega) (by omega)⟩
def isW (B : Nat → Nat) (k : Tk) (j : Nat) : Bool := decide (k.1 = 1) && (decide (k.2.2.1 - k.2.1 = kL j) && mU B k.2.1 j (kL j) 0)
theorem isW_iff {B : Nat → Nat} {k : Tk} {j : Nat} : isW B k j = true ↔ k.1 = 1 ∧ k.2.2.1 - k.2.1 = kL j ∧ ∀ x, x < kL j → B (k.2.1 + x) = kW j x := by
  unfold isW
  rw [Bool.and_eq_true, Bool.and_eq_true, decide_eq_true_eq, decide_eq_true_eq, mU_iff]
  exact and_congr Iff.rfl (and_congr Iff.rfl ⟨fun h x hx => h x (Nat.zero_le _) (by omega), fun h x _ hx => h x (by omega)⟩)
theorem isW_u {B : Nat → Nat} {k : Tk} {j i : Nat} (hj : j < 17) (hi : i < 17) (h1 : isW B k j = true) (h2 : isW B k i = true) : j = i := by
  obtain ⟨-, a2, a3⟩ := isW_iff.mp h1
  obtain ⟨-, b2, b3⟩ := isW_iff.mp h2
  exact k_inj j hj i hi ⟨a2.symm.trans b2, fun x hx => (a3 x hx).symm.trans (b3 x (by omega))⟩
def wxF (B : Nat → Nat) (k : Tk) : Nat → Nat → Nat
  | 0, _ => 17
  | e + 1, j => if isW B k j = true then j else wxF B k e (j + 1)
theorem wxF_s {B : Nat → Nat} {k : Tk} : ∀ (e j : Nat), j + e = 17 → (wxF B k e j = 17 ∧ ∀ i, j ≤ i → i < 17 → ¬ isW B k i = true) ∨ (wxF B k e j < 17 ∧ isW B k (wxF B k e j) = true)
  | 0, j, h => Or.inl ⟨rfl, fun i a b => by omega⟩
  | e + 1, j, h => by
    unfold wxF
    by_cases hq : isW B k j = true
    · rw [if_pos hq]
      exact Or.inr ⟨by omega, hq⟩
    · rw [if_neg hq]
      rcases wxF_s e (j + 1) (by omega) with ⟨h1, h2⟩ | h1
      · refine Or.inl ⟨h1, fun i a b => ?_⟩
        by_cases hi : i = j
        · rw [hi]; exact hq
        · exact h2 i (by omega) b
      · exact Or.inr h1
/-- which word: its number, or 17 -/
def wix (B : Nat → Nat) (k : Tk) : Nat := wxF B k 17 0
theorem wix_le (B : Nat → Nat) (k : Tk) : wix B k < 18 := by
  unfold wix
  rcases wxF_s (B := B) (k := k) 17 0 (by omega) with h | h <;> omega
theorem wix_iff {B : Nat → Nat} {k : Tk} {j : Nat} (hj : j < 17) : isW B k j = true ↔ wix B k = j := by
  unfold wix
  rcases wxF_s (B := B) (k := k) 17 0 (by omega) with ⟨h1, h2⟩ | ⟨h1, h2⟩
  · constructor
    · intro h
      exact absurd h (h2 j (Nat.zero_le _) hj)
    · intro h
      omega
  · constructor
    · intro h
      exact isW_u h1 hj h2 h
    · intro h
      rw [← h]; exact h2
theorem isW_wix (B : Nat → Nat) (k : Tk) {j : Nat} (hj : j < 17) : isW B k j = decide (wix B k = j) := by
  rw [Bool.eq_iff_iff, wix_iff hj, decide_eq_true_eq]
/-- the digest -/
def dwf (B : Nat → Nat) (i v : Nat) : Nat := if 9999999999999 < v then v else v * 27 + (B i - 96)
theorem dwV_it {B : Nat → Nat} : ∀ (e k v : Nat), dwV B e k v = it (dwf B) k (run isL B e k - k) v
  | 0, k, v => by
    show v = it (dwf B) k (k - k) v
    rw [Nat.sub_self]
    rfl
  | e + 1, k, v => by
    have hb := run_b (P := isL) (B := B) e (k + 1)
    unfold dwV run
    by_cases h : isL (B k) = true
    · rw [if_pos h, if_pos h, dwV_it e (k + 1), show run isL B e (k + 1) - k = (run isL B e (k + 1) - (k + 1)) + 1 by omega]
      rfl
    · rw [if_neg h, if_neg h, Nat.sub_self]
      rfl
theorem dw_b {B : Nat → Nat} {k c : Nat} (hL : ∀ i, k ≤ i → i < k + c → isL (B i) = true) : it (dwf B) k c 0 < 2 ^ 60 := by
  have := it_inv (f := dwf B) (P := fun _ v => v < 2 ^ 60) c k 0 (by decide) (fun i a h1 h2 h3 => by
    have := isL_i (hL i h1 h2)
    unfold dwf
    split <;> omega)
  exact this
theorem dw_inj {B W : Nat → Nat} {s : Nat} : ∀ (c c2 : Nat), (∀ i, i < c → isL (B (s + i)) = true) → (∀ i, i < c2 → isL (W i) = true) → it (dwf B) s c 0 = it (dwf W) 0 c2 0 → it (dwf W) 0 c2 0 ≤ 9999999999999 → c = c2 ∧ ∀ i, i < c → B (s + i) = W i := by
  intro c
  induction c with
  | zero =>
    intro c2 _ hW h hc
    cases c2 with
    | zero => exact ⟨rfl, fun i hi => by omega⟩
    | succ c2 =>
      exfalso
      rw [it_last] at h hc
      have hl := isL_i (hW c2 (by omega))
      rw [Nat.zero_add] at h hc
      have h0 : it (dwf B) s 0 0 = 0 := rfl
      rw [h0] at h
      unfold dwf at h hc
      split at h
      · split at hc <;> omega
      · omega
  | succ c ih =>
    intro c2 hB hW h hc
    have hb := isL_i (hB c (by omega))
    rw [it_last] at h
    cases c2 with
    | zero =>
      exfalso
      have h0 : it (dwf W) 0 0 0 = 0 := rfl
      rw [h0] at h
      unfold dwf at h
      split at h <;> omega
    | succ c2 =>
      rw [it_last] at h hc
      have hl := isL_i (hW c2 (by omega))
      rw [Nat.zero_add] at h hc
      have hx : it (dwf B) s c 0 = it (dwf W) 0 c2 0 ∧ B (s + c) = W c2 ∧ it (dwf W) 0 c2 0 ≤ 9999999999999 := by
        generalize it (dwf B) s c 0 = x at h
        generalize it (dwf W) 0 c2 0 = y at h hc
        unfold dwf at h hc
        by_cases q1 : 9999999999999 < y
        · rw [if_pos q1] at hc
          omega
        · rw [if_neg q1] at hc h
          by_cases q2 : 9999999999999 < x
          · rw [if_pos q2] at h
            omega
          · rw [if_neg q2] at h
            omega
      obtain ⟨e1, e2⟩ := ih c2 (fun i hi => hB i (by omega)) (fun i hi => hW i (by omega)) hx.1 hx.2.2
      refine ⟨by omega, fun i hi => ?_⟩
      by_cases hic : i = c
      · rw [hic, hx.2.1, e1]
      · exact e2 i (by omega)
def dgK (j : Nat) : Nat := it (dwf (kW j)) 0 (kL j) 0
set_option maxRecDepth 100000 in
theorem dgK_b : ∀ j, j < 17 → dgK j ≤ 9999999999999 := by decide +kernel
/-- a token as it is read -/
def Wf (B : Nat → Nat) (t : Nat) (k : Tk) : Prop := k.1 ≤ 4 ∧ k.2.1 ≤ k.2.2.1 ∧ k.2.2.1 ≤ t ∧ (k.1 = 0 ↔ k.2.1 = t) ∧ (¬ k.1 = 0 → k.2.1 < k.2.2.1) ∧ (k.1 = 1 → (∀ i, k.2.1 ≤ i → i < k.2.2.1 → isL (B i) = true) ∧ k.2.2.2 = it (dwf B) k.2.1 (k.2.2.1 - k.2.1) 0)
theorem adv_wf {B : Nat → Nat} {t p : Nat} (hp : p ≤ t) : Wf B t (adv B t p) ∧ p ≤ (adv B t p).2.1 := by
  unfold adv
  have hs := run_b (P := isSp) (B := B) (t - p) p
  generalize run isSp B (t - p) p = s at hs
  unfold tkA Wf
  by_cases hst : s = t
  · rw [if_pos hst]
    exact ⟨⟨by show (0 : Nat) ≤ 4; decide, Nat.le_refl _, by show s ≤ t; omega, ⟨fun _ => hst, fun _ => rfl⟩, fun h => absurd rfl h, fun h => absurd h (show ¬ (0 : Nat) = 1 by decide)⟩, hs.1⟩
  · rw [if_neg hst]
    by_cases hl : isL (B s) = true
    · rw [if_pos hl]
      have hr := run_b (P := isL) (B := B) (t - s) s
      have hq := run_pos (P := isL) (B := B) (e := t - s) (k := s) (by omega) hl
      refine ⟨⟨by show (1 : Nat) ≤ 4; decide, hr.1, by show run isL B (t - s) s ≤ t; omega, ⟨fun h => absurd h (show ¬ (1 : Nat) = 0 by decide), fun h => absurd h hst⟩, fun _ => hq, fun _ => ⟨fun i a b => run_P _ _ i a b, dwV_it _ _ _⟩⟩, hs.1⟩
    · rw [if_neg hl]
      by_cases hd : isD (B s) = true
      · rw [if_pos hd]
        have hr := run_b (P := isD) (B := B) (t - s) s
        have hq := run_pos (P := isD) (B := B) (e := t - s) (k := s) (by omega) hd
        exact ⟨⟨by show (2 : Nat) ≤ 4; decide, hr.1, by show run isD B (t - s) s ≤ t; omega, ⟨fun h => absurd h (show ¬ (2 : Nat) = 0 by decide), fun h => absurd h hst⟩, fun _ => hq, fun h => absurd h (show ¬ (2 : Nat) = 1 by decide)⟩, hs.1⟩
      · rw [if_neg hd]
        by_cases h59 : B s = 59
        · rw [if_pos h59]
          exact ⟨⟨by show (3 : Nat) ≤ 4; decide, by show s ≤ s + 1; omega, by show s + 1 ≤ t; omega, ⟨fun h => absurd h (show ¬ (3 : Nat) = 0 by decide), fun h => absurd h hst⟩, fun _ => by show s < s + 1; omega, fun h => absurd h (show ¬ (3 : Nat) = 1 by decide)⟩, hs.1⟩
        · rw [if_neg h59]
          exact ⟨⟨by show (4 : Nat) ≤ 4; decide, by show s ≤ s + 1; omega, by show s + 1 ≤ t; omega, ⟨fun h => absurd h (show ¬ (4 : Nat) = 0 by decide), fun h => absurd h hst⟩, fun _ => by show s < s + 1; omega, fun h => absurd h (show ¬ (4 : Nat) = 1 by decide)⟩, hs.1⟩
/-- the class looks at a word -/
theorem cisW2 {B : Nat → Nat} {t : Nat} {S : ST} {k : Tk} (hT : TpC B t S) (hC : CT S k) (hW : Wf B t k) (h1 : k.1 = 1) {j : Nat} (hj : j < 17) (hl : k.2.2.1 - k.2.1 = kL j) : ∀ (e i n : Nat), i + e = kL j → e < n → G_X2_isWord_32_28 n j (nI i) S = some (bI (mU B k.2.1 j e i), S) := by
  obtain ⟨⟨b1, b2, b3, b4⟩, b5⟩ := k_all j hj
  have ht := hT.1
  intro e
  induction e with
  | zero =>
    intro i n h2 h3
    obtain ⟨n, rfl⟩ : ∃ n', n = n' + 1 := ⟨n - 1, by omega⟩
    unfold G_X2_isWord_32_28
    rw [if_pos b1, b2, if_pos (nI_le (by omega) (by omega))]
    rfl
  | succ e ih =>
    intro i n h2 h3
    obtain ⟨n, rfl⟩ : ∃ n', n = n' + 1 := ⟨n - 1, by omega⟩
    obtain ⟨c1, c2, c3⟩ := b5 i (by omega)
    obtain ⟨d1, d2, d3, d4, d5, d6⟩ := hW
    obtain ⟨hb, he⟩ := hT.2.2 (k.2.1 + i) (by omega)
    have hL := (d6 h1).1 (k.2.1 + i) (by omega) (by omega)
    unfold G_X2_isWord_32_28
    rw [if_pos b1, b2, if_neg (nI_ge (by omega) (by omega)), hC.2.1, nI_add, if_pos (inB_nI (by omega) (by decide)), if_pos b1, if_pos c1, cl (by omega), he, sB_eq hb (Or.inl hL), c2]
    show _ = some (bI (decide (B (k.2.1 + i) = kW j i) && mU B k.2.1 j e (i + 1)), S)
    have hkw := isL_i c3
    by_cases hq : B (k.2.1 + i) = kW j i
    · rw [if_pos (by rw [hq]), nI_1, ih (i + 1) n (by omega) (by omega), decide_eq_true hq, Bool.true_and]
    · rw [if_neg (fun q => hq ((nI_eq (by omega) (by omega)).mp q)), decide_eq_false hq, Bool.false_and]
      rfl
theorem cisW {B : Nat → Nat} {t : Nat} {S : ST} {k : Tk} (hT : TpC B t S) (hC : CT S k) (hW : Wf B t k) {j : Nat} (hj : j < 17) : G_X2_isWord_32 j S = some (if wix B k = j then 1 else 0, S) := by
  have key : G_X2_isWord_32 j S = some (bI (isW B k j), S) := by
    obtain ⟨⟨b1, b2, b3, b4⟩, b5⟩ := k_all j hj
    have ht := hT.1
    obtain ⟨d1, d2, d3, d4, d5, d6⟩ := id hW
    unfold G_X2_isWord_32 isW
    rw [hC.1, hC.2.1, hC.2.2.1]
    by_cases h1 : k.1 = 1
    · rw [if_pos (by rw [h1]; rfl), if_pos b1, b2, pk_sub d2, decide_eq_true h1, Bool.true_and]
      by_cases h2 : k.2.2.1 - k.2.1 = kL j
      · have := cisW2 hT hC hW h1 hj h2 (kL j) 0 3000 (by omega) (by omega)
        rw [show nI 0 = 0 from rfl] at this
        rw [if_pos (by rw [h2]), this, decide_eq_true h2, Bool.true_and]
      · rw [if_neg (fun q => h2 ((nI_eq (by omega) (by omega)).mp q)), decide_eq_false h2, Bool.false_and]
        rfl
    · rw [if_neg (show ¬ nI k.1 = 1 from fun q => h1 ((nI_eq (b := 1) (by omega) (by decide)).mp q)), decide_eq_false h1, Bool.false_and]
      rfl
  rw [key, isW_wix B k hj]
  by_cases h : wix B k = j
  · rw [if_pos h, decide_eq_true h]
    rfl
  · rw [if_neg h, decide_eq_false h]
    rfl
theorem it_id {α : Type} {f : Nat → α → α} (h : ∀ j a, f j a = a) : ∀ (d k : Nat) (a : α), it f k d a = a
  | 0, _, _ => rfl
  | d + 1, k, a => by
    show it f (k + 1) d (f k a) = a
    rw [h, it_id h d]
/-- the digest tells a word -/
theorem dg_isW {B : Nat → Nat} {t : Nat} {k : Tk} (hW : Wf B t k) (h1 : k.1 = 1) {j : Nat} (hj : j < 17) : lN (dgK j) = lN k.2.2.2 ↔ isW B k j = true := by
  obtain ⟨d1, d2, d3, d4, d5, d6⟩ := hW
  obtain ⟨e1, e2⟩ := d6 h1
  have hb := dw_b (B := B) (k := k.2.1) (c := k.2.2.1 - k.2.1) (fun i a b => e1 i a (by omega))
  have hk := dgK_b j hj
  rw [e2, pk_lEQ (by omega) (by omega), isW_iff]
  have hWl : ∀ i, i < kL j → isL (kW j i) = true := fun i hi => ((k_all j hj).2 i hi).2.2
  constructor
  · intro h
    obtain ⟨c1, c2⟩ := dw_inj (k.2.2.1 - k.2.1) (kL j) (fun i hi => e1 _ (by omega) (by omega)) hWl h.symm hk
    exact ⟨h1, c1, fun x hx => c2 x (by omega)⟩
  · rintro ⟨-, c1, c2⟩
    unfold dgK
    rw [c1]
    clear hb e2 hk
    have : ∀ c, c ≤ kL j → it (dwf (kW j)) 0 c 0 = it (dwf B) k.2.1 c 0 := by
      intro c
      induction c with
      | zero => intro _; rfl
      | succ c ih =>
        intro hc
        rw [it_last, it_last, ih (by omega), Nat.zero_add]
        unfold dwf
        rw [c2 c (by omega)]
    exact this (kL j) (Nat.le_refl _)
/-- the model's words, array 58 -/
def mp58 (w : Nat) : Nat := 4 + w
theorem wi58 {S T : ST} (h : S.1 58 = T.1 58) (x2 y2 : Int32) : ∀ (n : Nat) (x3 : Int32) (x4 : Int64) (x6 : Int32), G_X6_wordOf_51_58_27 n x2 x3 x4 x6 S = (G_X6_wordOf_51_58_27 n y2 x3 x4 x6 T).map (fun q => (x2, q.2.1, q.2.2.1, S)) := by
  intro n
  induction n with
  | zero => intros; rfl
  | succ n ih =>
    intro x3 x4 x6
    unfold G_X6_wordOf_51_58_27
    rw [h]
    split
    · rfl
    · split
      · split
        · exact ih _ _ _
        · first | exact ih _ _ _ | (split; exact ih _ _ _; rfl)
      · rfl
set_option maxRecDepth 100000 in
theorem wc58 : ∀ w, w < 7 → mp58 w < 17 ∧ (match G_X6_wordOf_51_58_27 3000 0 (nI w) 0 0 S_12 with | some q => (q.2.1 == nI w) && (q.2.2.1 == lN (dgK (mp58 w))) | none => false) = true := by decide +kernel
theorem mwi58 {S : ST} (hS : S.1 58 = S_12.1 58) (x2 : Int32) {w : Nat} (hw : w < 7) : G_X6_wordOf_51_58_27 3000 x2 (nI w) 0 0 S = some (x2, nI w, lN (dgK (mp58 w)), S) := by
  have h1 := (wc58 w hw).2
  rw [wi58 hS x2 0]
  revert h1
  cases G_X6_wordOf_51_58_27 3000 0 (nI w) 0 0 S_12 with
  | none => intro h; cases h
  | some q =>
    intro h
    simp only [Bool.and_eq_true, beq_iff_eq] at h
    simp only [Option.map_some, h.1, h.2]
theorem mwo58 {B : Nat → Nat} {t : Nat} {S : ST} {k : Tk} (hM : MT S k) (hW : Wf B t k) (hS : S.1 58 = S_12.1 58) : ∀ (e w n : Nat) (a : Int32), w + e = 7 → e < n → G_X6_wordOf_51_58_4 n a (nI w) S = some (it (fun w a => if isW B k (mp58 w) = true then nI w else a) w e a, S) := by
  intro e
  induction e with
  | zero =>
    intro w n a h1 h2
    obtain ⟨n, rfl⟩ : ∃ n', n = n' + 1 := ⟨n - 1, by omega⟩
    unfold G_X6_wordOf_51_58_4
    rw [show (56 : Int32) / 8 = nI 7 from by decide, if_pos (nI_le (by omega) (by omega))]
    rfl
  | succ e ih =>
    intro w n a h1 h2
    obtain ⟨n, rfl⟩ : ∃ n', n = n' + 1 := ⟨n - 1, by omega⟩
    have hw : w < 7 := by omega
    unfold G_X6_wordOf_51_58_4
    rw [show (56 : Int32) / 8 = nI 7 from by decide, if_neg (nI_ge (by omega) (by omega)), hM.1]
    by_cases h3 : k.1 = 1
    · have ety : tyM k = 1 := by
        unfold tyM
        rw [if_neg (fun q => absurd (h3.symm.trans q.1) (by decide)), h3]
      rw [if_pos (by rw [ety]; rfl), mwi58 hS a hw, bndS]
      simp only [lg_cmp_eq, hM.2.2.2 (Or.inl h3), nI_1, it]
      by_cases hq : isW B k (mp58 w) = true
      · rw [if_pos ((dg_isW hW h3 (wc58 w hw).1).mpr hq), if_pos hq]
        exact ih (w + 1) n (nI w) (by omega) (by omega)
      · rw [if_neg (fun q => hq ((dg_isW hW h3 (wc58 w hw).1).mp q)), if_neg hq]
        exact ih (w + 1) n a (by omega) (by omega)
    · have ety : ¬ tyM k = 1 := by
        unfold tyM
        split
        · decide
        · exact h3
      have hty : tyM k ≤ 4 := by
        unfold tyM
        split
        · decide
        · exact hW.1
      rw [if_neg (show ¬ nI (tyM k) = 1 from fun q => ety ((nI_eq (b := 1) (by omega) (by decide)).mp q))]
      rw [it_id (fun j a => if_neg (fun q => h3 (isW_iff.mp q).1))]
def w58 (x : Nat) : Int32 := if 4 ≤ x ∧ x ≤ 10 then nI (x - 4) else -1
theorem wt58 : ∀ x, x < 18 → it (fun w a => if decide (x = mp58 w) = true then nI w else a) 0 7 (-1) = w58 x := by decide
theorem mword58 {B : Nat → Nat} {t : Nat} {S : ST} {k : Tk} (hM : MT S k) (hW : Wf B t k) (hS : S.1 58 = S_12.1 58) : G_X6_wordOf_51_58 S = some (w58 (wix B k), S) := by
  have := mwo58 hM hW hS 7 0 3000 (-1) (by omega) (by omega)
  rw [show nI 0 = 0 from rfl] at this
  unfold G_X6_wordOf_51_58
  rw [this, ← wt58 (wix B k) (wix_le B k)]
  rw [it_congr (g := fun w a => if decide (wix B k = mp58 w) = true then nI w else a) 7 0 (-1) (fun i a _ h => by rw [isW_wix B k (wc58 i (by omega)).1])]
  rfl
/-- the model's words, array 59 -/
def mp59 (w : Nat) : Nat := ([1, 11, 12] : List Nat).getD w 17
theorem wi59 {S T : ST} (h : S.1 59 = T.1 59) (x2 y2 : Int32) : ∀ (n : Nat) (x3 : Int32) (x4 : Int64) (x6 : Int32), G_X6_wordOf_51_59_27 n x2 x3 x4 x6 S = (G_X6_wordOf_51_59_27 n y2 x3 x4 x6 T).map (fun q => (x2, q.2.1, q.2.2.1, S)) := by
  intro n
  induction n with
  | zero => intros; rfl
  | succ n ih =>
    intro x3 x4 x6
    unfold G_X6_wordOf_51_59_27
    rw [h]
    split
    · rfl
    · split
      · split
        · exact ih _ _ _
        · first | exact ih _ _ _ | (split; exact ih _ _ _; rfl)
      · rfl
set_option maxRecDepth 100000 in
theorem wc59 : ∀ w, w < 3 → mp59 w < 17 ∧ (match G_X6_wordOf_51_59_27 3000 0 (nI w) 0 0 S_12 with | some q => (q.2.1 == nI w) && (q.2.2.1 == lN (dgK (mp59 w))) | none => false) = true := by decide +kernel
theorem mwi59 {S : ST} (hS : S.1 59 = S_12.1 59) (x2 : Int32) {w : Nat} (hw : w < 3) : G_X6_wordOf_51_59_27 3000 x2 (nI w) 0 0 S = some (x2, nI w, lN (dgK (mp59 w)), S) := by
  have h1 := (wc59 w hw).2
  rw [wi59 hS x2 0]
  revert h1
  cases G_X6_wordOf_51_59_27 3000 0 (nI w) 0 0 S_12 with
  | none => intro h; cases h
  | some q =>
    intro h
    simp only [Bool.and_eq_true, beq_iff_eq] at h
    simp only [Option.map_some, h.1, h.2]
theorem mwo59 {B : Nat → Nat} {t : Nat} {S : ST} {k : Tk} (hM : MT S k) (hW : Wf B t k) (hS : S.1 59 = S_12.1 59) : ∀ (e w n : Nat) (a : Int32), w + e = 3 → e < n → G_X6_wordOf_51_59_4 n a (nI w) S = some (it (fun w a => if isW B k (mp59 w) = true then nI w else a) w e a, S) := by
  intro e
  induction e with
  | zero =>
    intro w n a h1 h2
    obtain ⟨n, rfl⟩ : ∃ n', n = n' + 1 := ⟨n - 1, by omega⟩
    unfold G_X6_wordOf_51_59_4
    rw [show (24 : Int32) / 8 = nI 3 from by decide, if_pos (nI_le (by omega) (by omega))]
    rfl
  | succ e ih =>
    intro w n a h1 h2
    obtain ⟨n, rfl⟩ : ∃ n', n = n' + 1 := ⟨n - 1, by omega⟩
    have hw : w < 3 := by omega
    unfold G_X6_wordOf_51_59_4
    rw [show (24 : Int32) / 8 = nI 3 from by decide, if_neg (nI_ge (by omega) (by omega)), hM.1]
    by_cases h3 : k.1 = 1
    · have ety : tyM k = 1 := by
        unfold tyM
        rw [if_neg (fun q => absurd (h3.symm.trans q.1) (by decide)), h3]
      rw [if_pos (by rw [ety]; rfl), mwi59 hS a hw, bndS]
      simp only [lg_cmp_eq, hM.2.2.2 (Or.inl h3), nI_1, it]
      by_cases hq : isW B k (mp59 w) = true
      · rw [if_pos ((dg_isW hW h3 (wc59 w hw).1).mpr hq), if_pos hq]
        exact ih (w + 1) n (nI w) (by omega) (by omega)
      · rw [if_neg (fun q => hq ((dg_isW hW h3 (wc59 w hw).1).mp q)), if_neg hq]
        exact ih (w + 1) n a (by omega) (by omega)
    · have ety : ¬ tyM k = 1 := by
        unfold tyM
        split
        · decide
        · exact h3
      have hty : tyM k ≤ 4 := by
        unfold tyM
        split
        · decide
        · exact hW.1
      rw [if_neg (show ¬ nI (tyM k) = 1 from fun q => ety ((nI_eq (b := 1) (by omega) (by decide)).mp q))]
      rw [it_id (fun j a => if_neg (fun q => h3 (isW_iff.mp q).1))]
def w59 (x : Nat) : Int32 := if x = 1 then 0 else if x = 11 then 1 else if x = 12 then 2 else -1
theorem wt59 : ∀ x, x < 18 → it (fun w a => if decide (x = mp59 w) = true then nI w else a) 0 3 (-1) = w59 x := by decide
theorem mword59 {B : Nat → Nat} {t : Nat} {S : ST} {k : Tk} (hM : MT S k) (hW : Wf B t k) (hS : S.1 59 = S_12.1 59) : G_X6_wordOf_51_59 S = some (w59 (wix B k), S) := by
  have := mwo59 hM hW hS 3 0 3000 (-1) (by omega) (by omega)
  rw [show nI 0 = 0 from rfl] at this
  unfold G_X6_wordOf_51_59
  rw [this, ← wt59 (wix B k) (wix_le B k)]
  rw [it_congr (g := fun w a => if decide (wix B k = mp59 w) = true then nI w else a) 3 0 (-1) (fun i a _ h => by rw [isW_wix B k (wc59 i (by omega)).1])]
  rfl
/-- the model's words, array 60 -/
def mp60 (w : Nat) : Nat := 1 + w
theorem wi60 {S T : ST} (h : S.1 60 = T.1 60) (x2 y2 : Int32) : ∀ (n : Nat) (x3 : Int32) (x4 : Int64) (x6 : Int32), G_X6_wordOf_51_60_27 n x2 x3 x4 x6 S = (G_X6_wordOf_51_60_27 n y2 x3 x4 x6 T).map (fun q => (x2, q.2.1, q.2.2.1, S)) := by
  intro n
  induction n with
  | zero => intros; rfl
  | succ n ih =>
    intro x3 x4 x6
    unfold G_X6_wordOf_51_60_27
    rw [h]
    split
    · rfl
    · split
      · split
        · exact ih _ _ _
        · first | exact ih _ _ _ | (split; exact ih _ _ _; rfl)
      · rfl
set_option maxRecDepth 100000 in
theorem wc60 : ∀ w, w < 2 → mp60 w < 17 ∧ (match G_X6_wordOf_51_60_27 3000 0 (nI w) 0 0 S_12 with | some q => (q.2.1 == nI w) && (q.2.2.1 == lN (dgK (mp60 w))) | none => false) = true := by decide +kernel
theorem mwi60 {S : ST} (hS : S.1 60 = S_12.1 60) (x2 : Int32) {w : Nat} (hw : w < 2) : G_X6_wordOf_51_60_27 3000 x2 (nI w) 0 0 S = some (x2, nI w, lN (dgK (mp60 w)), S) := by
  have h1 := (wc60 w hw).2
  rw [wi60 hS x2 0]
  revert h1
  cases G_X6_wordOf_51_60_27 3000 0 (nI w) 0 0 S_12 with
  | none => intro h; cases h
  | some q =>
    intro h
    simp only [Bool.and_eq_true, beq_iff_eq] at h
    simp only [Option.map_some, h.1, h.2]
theorem mwo60 {B : Nat → Nat} {t : Nat} {S : ST} {k : Tk} (hM : MT S k) (hW : Wf B t k) (hS : S.1 60 = S_12.1 60) : ∀ (e w n : Nat) (a : Int32), w + e = 2 → e < n → G_X6_wordOf_51_60_4 n a (nI w) S = some (it (fun w a => if isW B k (mp60 w) = true then nI w else a) w e a, S) := by
  intro e
  induction e with
  | zero =>
    intro w n a h1 h2
    obtain ⟨n, rfl⟩ : ∃ n', n = n' + 1 := ⟨n - 1, by omega⟩
    unfold G_X6_wordOf_51_60_4
    rw [show (16 : Int32) / 8 = nI 2 from by decide, if_pos (nI_le (by omega) (by omega))]
    rfl
  | succ e ih =>
    intro w n a h1 h2
    obtain ⟨n, rfl⟩ : ∃ n', n = n' + 1 := ⟨n - 1, by omega⟩
    have hw : w < 2 := by omega
    unfold G_X6_wordOf_51_60_4
    rw [show (16 : Int32) / 8 = nI 2 from by decide, if_neg (nI_ge (by omega) (by omega)), hM.1]
    by_cases h3 : k.1 = 1
    · have ety : tyM k = 1 := by
        unfold tyM
        rw [if_neg (fun q => absurd (h3.symm.trans q.1) (by decide)), h3]
      rw [if_pos (by rw [ety]; rfl), mwi60 hS a hw, bndS]
      simp only [lg_cmp_eq, hM.2.2.2 (Or.inl h3), nI_1, it]
      by_cases hq : isW B k (mp60 w) = true
      · rw [if_pos ((dg_isW hW h3 (wc60 w hw).1).mpr hq), if_pos hq]
        exact ih (w + 1) n (nI w) (by omega) (by omega)
      · rw [if_neg (fun q => hq ((dg_isW hW h3 (wc60 w hw).1).mp q)), if_neg hq]
        exact ih (w + 1) n a (by omega) (by omega)
    · have ety : ¬ tyM k = 1 := by
        unfold tyM
        split
        · decide
        · exact h3
      have hty : tyM k ≤ 4 := by
        unfold tyM
        split
        · decide
        · exact hW.1
      rw [if_neg (show ¬ nI (tyM k) = 1 from fun q => ety ((nI_eq (b := 1) (by omega) (by decide)).mp q))]
      rw [it_id (fun j a => if_neg (fun q => h3 (isW_iff.mp q).1))]
def w60 (x : Nat) : Int32 := if x = 1 then 0 else if x = 2 then 1 else -1
theorem wt60 : ∀ x, x < 18 → it (fun w a => if decide (x = mp60 w) = true then nI w else a) 0 2 (-1) = w60 x := by decide
theorem mword60 {B : Nat → Nat} {t : Nat} {S : ST} {k : Tk} (hM : MT S k) (hW : Wf B t k) (hS : S.1 60 = S_12.1 60) : G_X6_wordOf_51_60 S = some (w60 (wix B k), S) := by
  have := mwo60 hM hW hS 2 0 3000 (-1) (by omega) (by omega)
  rw [show nI 0 = 0 from rfl] at this
  unfold G_X6_wordOf_51_60
  rw [this, ← wt60 (wix B k) (wix_le B k)]
  rw [it_congr (g := fun w a => if decide (wix B k = mp60 w) = true then nI w else a) 2 0 (-1) (fun i a _ h => by rw [isW_wix B k (wc60 i (by omega)).1])]
  rfl
/-- the model's words, array 61 -/
def mp61 (w : Nat) : Nat := ([13, 14, 15, 16, 0, 3] : List Nat).getD w 17
theorem wi61 {S T : ST} (h : S.1 61 = T.1 61) (x2 y2 : Int32) : ∀ (n : Nat) (x3 : Int32) (x4 : Int64) (x6 : Int32), G_X6_wordOf_51_61_27 n x2 x3 x4 x6 S = (G_X6_wordOf_51_61_27 n y2 x3 x4 x6 T).map (fun q => (x2, q.2.1, q.2.2.1, S)) := by
  intro n
  induction n with
  | zero => intros; rfl
  | succ n ih =>
    intro x3 x4 x6
    unfold G_X6_wordOf_51_61_27
    rw [h]
    split
    · rfl
    · split
      · split
        · exact ih _ _ _
        · first | exact ih _ _ _ | (split; exact ih _ _ _; rfl)
      · rfl
set_option maxRecDepth 100000 in
theorem wc61 : ∀ w, w < 6 → mp61 w < 17 ∧ (match G_X6_wordOf_51_61_27 3000 0 (nI w) 0 0 S_12 with | some q => (q.2.1 == nI w) && (q.2.2.1 == lN (dgK (mp61 w))) | none => false) = true := by decide +kernel
theorem mwi61 {S : ST} (hS : S.1 61 = S_12.1 61) (x2 : Int32) {w : Nat} (hw : w < 6) : G_X6_wordOf_51_61_27 3000 x2 (nI w) 0 0 S = some (x2, nI w, lN (dgK (mp61 w)), S) := by
  have h1 := (wc61 w hw).2
  rw [wi61 hS x2 0]
  revert h1
  cases G_X6_wordOf_51_61_27 3000 0 (nI w) 0 0 S_12 with
  | none => intro h; cases h
  | some q =>
    intro h
    simp only [Bool.and_eq_true, beq_iff_eq] at h
    simp only [Option.map_some, h.1, h.2]
theorem mwo61 {B : Nat → Nat} {t : Nat} {S : ST} {k : Tk} (hM : MT S k) (hW : Wf B t k) (hS : S.1 61 = S_12.1 61) : ∀ (e w n : Nat) (a : Int32), w + e = 6 → e < n → G_X6_wordOf_51_61_4 n a (nI w) S = some (it (fun w a => if isW B k (mp61 w) = true then nI w else a) w e a, S) := by
  intro e
  induction e with
  | zero =>
    intro w n a h1 h2
    obtain ⟨n, rfl⟩ : ∃ n', n = n' + 1 := ⟨n - 1, by omega⟩
    unfold G_X6_wordOf_51_61_4
    rw [show (48 : Int32) / 8 = nI 6 from by decide, if_pos (nI_le (by omega) (by omega))]
    rfl
  | succ e ih =>
    intro w n a h1 h2
    obtain ⟨n, rfl⟩ : ∃ n', n = n' + 1 := ⟨n - 1, by omega⟩
    have hw : w < 6 := by omega
    unfold G_X6_wordOf_51_61_4
    rw [show (48 : Int32) / 8 = nI 6 from by decide, if_neg (nI_ge (by omega) (by omega)), hM.1]
    by_cases h3 : k.1 = 1
    · have ety : tyM k = 1 := by
        unfold tyM
        rw [if_neg (fun q => absurd (h3.symm.trans q.1) (by decide)), h3]
      rw [if_pos (by rw [ety]; rfl), mwi61 hS a hw, bndS]
      simp only [lg_cmp_eq, hM.2.2.2 (Or.inl h3), nI_1, it]
      by_cases hq : isW B k (mp61 w) = true
      · rw [if_pos ((dg_isW hW h3 (wc61 w hw).1).mpr hq), if_pos hq]
        exact ih (w + 1) n (nI w) (by omega) (by omega)
      · rw [if_neg (fun q => hq ((dg_isW hW h3 (wc61 w hw).1).mp q)), if_neg hq]
        exact ih (w + 1) n a (by omega) (by omega)
    · have ety : ¬ tyM k = 1 := by
        unfold tyM
        split
        · decide
        · exact h3
      have hty : tyM k ≤ 4 := by
        unfold tyM
        split
        · decide
        · exact hW.1
      rw [if_neg (show ¬ nI (tyM k) = 1 from fun q => ety ((nI_eq (b := 1) (by omega) (by decide)).mp q))]
      rw [it_id (fun j a => if_neg (fun q => h3 (isW_iff.mp q).1))]
def w61 (x : Nat) : Int32 := if x = 13 then 0 else if x = 14 then 1 else if x = 15 then 2 else if x = 16 then 3 else if x = 0 then 4 else if x = 3 then 5 else -1
theorem wt61 : ∀ x, x < 18 → it (fun w a => if decide (x = mp61 w) = true then nI w else a) 0 6 (-1) = w61 x := by decide
theorem mword61 {B : Nat → Nat} {t : Nat} {S : ST} {k : Tk} (hM : MT S k) (hW : Wf B t k) (hS : S.1 61 = S_12.1 61) : G_X6_wordOf_51_61 S = some (w61 (wix B k), S) := by
  have := mwo61 hM hW hS 6 0 3000 (-1) (by omega) (by omega)
  rw [show nI 0 = 0 from rfl] at this
  unfold G_X6_wordOf_51_61
  rw [this, ← wt61 (wix B k) (wix_le B k)]
  rw [it_congr (g := fun w a => if decide (wix B k = mp61 w) = true then nI w else a) 6 0 (-1) (fun i a _ h => by rw [isW_wix B k (wc61 i (by omega)).1])]
  rfl
