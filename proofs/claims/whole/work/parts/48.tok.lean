/-- bytes of the tape -/
def sB (b : Nat) : Int32 := (nI b).toInt8.toInt32
def isSp (b : Nat) : Bool := decide (b = 32)
def isL (b : Nat) : Bool := decide (97 ≤ b ∧ b ≤ 122)
def isD (b : Nat) : Bool := decide (48 ≤ b ∧ b ≤ 57)
set_option maxRecDepth 100000 in
theorem sB_all : ∀ b, b < 256 → ((decide (sB b = 32) == isSp b) && (decide (¬ sB b < 97 ∧ ¬ 122 < sB b) == isL b) && (decide (¬ sB b < 48 ∧ ¬ 57 < sB b) == isD b) && (decide (sB b = 59) == decide (b = 59)) && (!(isL b || isD b) || decide (sB b = nI b))) = true := by decide +kernel
theorem sB_sp {b : Nat} (h : b < 256) : sB b = 32 ↔ isSp b = true := by
  have := sB_all b h
  simp only [Bool.and_eq_true, beq_iff_eq] at this
  rw [← this.1.1.1.1, decide_eq_true_eq]
theorem sB_L {b : Nat} (h : b < 256) : (¬ sB b < 97 ∧ ¬ 122 < sB b) ↔ isL b = true := by
  have := sB_all b h
  simp only [Bool.and_eq_true, beq_iff_eq] at this
  rw [← this.1.1.1.2, decide_eq_true_eq]
theorem sB_D {b : Nat} (h : b < 256) : (¬ sB b < 48 ∧ ¬ 57 < sB b) ↔ isD b = true := by
  have := sB_all b h
  simp only [Bool.and_eq_true, beq_iff_eq] at this
  rw [← this.1.1.2, decide_eq_true_eq]
theorem sB_59 {b : Nat} (h : b < 256) : sB b = 59 ↔ b = 59 := by
  have := sB_all b h
  simp only [Bool.and_eq_true, beq_iff_eq] at this
  have h2 := this.1.2
  constructor
  · intro q
    rw [decide_eq_true q] at h2
    exact of_decide_eq_true h2.symm
  · intro q
    rw [decide_eq_true q] at h2
    exact of_decide_eq_true h2
theorem sB_eq {b : Nat} (h : b < 256) (h2 : isL b = true ∨ isD b = true) : sB b = nI b := by
  have := sB_all b h
  simp only [Bool.and_eq_true] at this
  have h3 := this.2
  rcases h2 with h2 | h2
  · simp only [h2, Bool.true_or, Bool.not_true, Bool.false_or, decide_eq_true_eq] at h3
    exact h3
  · simp only [h2, Bool.or_true, Bool.not_true, Bool.false_or, decide_eq_true_eq] at h3
    exact h3
theorem isL_i {b : Nat} (h : isL b = true) : 97 ≤ b ∧ b ≤ 122 := of_decide_eq_true h
theorem isD_i {b : Nat} (h : isD b = true) : 48 ≤ b ∧ b ≤ 57 := of_decide_eq_true h
/-- how far -/
def run (P : Nat → Bool) (B : Nat → Nat) : Nat → Nat → Nat
  | 0, k => k
  | e + 1, k => if P (B k) = true then run P B e (k + 1) else k
theorem run_b {P : Nat → Bool} {B : Nat → Nat} : ∀ (e k : Nat), k ≤ run P B e k ∧ run P B e k ≤ k + e
  | 0, k => ⟨Nat.le_refl _, Nat.le_refl _⟩
  | e + 1, k => by
    have := run_b (P := P) (B := B) e (k + 1)
    unfold run
    split
    · omega
    · omega
theorem run_P {P : Nat → Bool} {B : Nat → Nat} : ∀ (e k i : Nat), k ≤ i → i < run P B e k → P (B i) = true
  | 0, k, i, h1, h2 => by
    unfold run at h2
    omega
  | e + 1, k, i, h1, h2 => by
    unfold run at h2
    by_cases h : P (B k) = true
    · rw [if_pos h] at h2
      by_cases hi : i = k
      · rw [hi]; exact h
      · exact run_P e (k + 1) i (by omega) h2
    · rw [if_neg h] at h2
      omega
theorem run_pos {P : Nat → Bool} {B : Nat → Nat} {e k : Nat} (he : 0 < e) (h : P (B k) = true) : k < run P B e k := by
  obtain ⟨e, rfl⟩ : ∃ e', e = e' + 1 := ⟨e - 1, by omega⟩
  have := run_b (P := P) (B := B) e (k + 1)
  unfold run
  rw [if_pos h]
  omega
def dgV (B : Nat → Nat) : Nat → Nat → Nat → Nat
  | 0, _, v => v
  | e + 1, k, v => if isD (B k) = true then dgV B e (k + 1) (if 99999 < v then v else v * 10 + (B k - 48)) else v
def dwV (B : Nat → Nat) : Nat → Nat → Nat → Nat
  | 0, _, v => v
  | e + 1, k, v => if isL (B k) = true then dwV B e (k + 1) (if 9999999999999 < v then v else v * 27 + (B k - 96)) else v
/-- a token: what it is (0 the end, 1 a word, 2 a number, 3 ;, 4 another byte), from where to where, its value -/
abbrev Tk : Type := Nat × Nat × Nat × Nat
def tkA (B : Nat → Nat) (t s : Nat) : Tk := if s = t then (0, s, s, 0) else if isL (B s) = true then (1, s, run isL B (t - s) s, dwV B (t - s) s 0) else if isD (B s) = true then (2, s, run isD B (t - s) s, dgV B (t - s) s 0) else if B s = 59 then (3, s, s + 1, 0) else (4, s, s + 1, 0)
def adv (B : Nat → Nat) (t p : Nat) : Tk := tkA B t (run isSp B (t - p) p)
def TpC (B : Nat → Nat) (t : Nat) (S : ST) : Prop := t ≤ 120 ∧ S.1 32 1 = nI t ∧ ∀ j, j < t → B j < 256 ∧ S.1 33 j = sB (B j)
def TpM (B : Nat → Nat) (t : Nat) (S : ST) : Prop := t ≤ 120 ∧ S.1 51 7 = nI t ∧ ∀ j, j < t → B j < 256 ∧ S.1 57 j = nI (B j)
def F32 (S S' : ST) : Prop := (∀ c, c ≠ 32 → S'.1 c = S.1 c) ∧ S'.1 32 1 = S.1 32 1
def F51 (S S' : ST) : Prop := (∀ c, c ≠ 51 → S'.1 c = S.1 c) ∧ S'.1 51 3 = S.1 51 3 ∧ S'.1 51 7 = S.1 51 7
theorem F32.rf {S : ST} : F32 S S := ⟨fun _ _ => rfl, rfl⟩
theorem F51.rf {S : ST} : F51 S S := ⟨fun _ _ => rfl, rfl, rfl⟩
theorem F32.tr {S S1 S2 : ST} (h : F32 S S1) (h2 : F32 S1 S2) : F32 S S2 := ⟨fun c hc => (h2.1 c hc).trans (h.1 c hc), h2.2.trans h.2⟩
theorem F51.tr {S S1 S2 : ST} (h : F51 S S1) (h2 : F51 S1 S2) : F51 S S2 := ⟨fun c hc => (h2.1 c hc).trans (h.1 c hc), h2.2.1.trans h.2.1, h2.2.2.trans h.2.2⟩
theorem F32.w {S : ST} {i : Nat} {v : Int32} (hi : i ≠ 1) : F32 S (wr S 32 i v) := ⟨fun c hc => wr_ne hc, by rw [wr_eq, updN _ _ (Ne.symm hi)]⟩
theorem F51.w {S : ST} {i : Nat} {v : Int32} (hi : i ≠ 3) (hi2 : i ≠ 7) : F51 S (wr S 51 i v) := ⟨fun c hc => wr_ne hc, by rw [wr_eq, updN _ _ (Ne.symm hi)], by rw [wr_eq, updN _ _ (Ne.symm hi2)]⟩
theorem F51.l {S : ST} {v : Int64} : F51 S (wL S v) := ⟨fun _ _ => rfl, rfl, rfl⟩
theorem TpC.f {B : Nat → Nat} {t : Nat} {S S' : ST} (h : TpC B t S) (hf : F32 S S') : TpC B t S' := by
  obtain ⟨h1, h2, h3⟩ := h
  refine ⟨h1, by rw [hf.2]; exact h2, fun j hj => ?_⟩
  rw [hf.1 33 (by omega)]
  exact h3 j hj
theorem TpM.f {B : Nat → Nat} {t : Nat} {S S' : ST} (h : TpM B t S) (hf : F51 S S') : TpM B t S' := by
  obtain ⟨h1, h2, h3⟩ := h
  refine ⟨h1, by rw [hf.2.2]; exact h2, fun j hj => ?_⟩
  rw [hf.1 57 (by omega)]
  exact h3 j hj
def CT (S : ST) (k : Tk) : Prop := S.1 32 2 = nI k.1 ∧ S.1 32 3 = nI k.2.1 ∧ S.1 32 5 = nI k.2.2.1 ∧ (k.1 = 2 → ∃ c, S.1 32 4 = nI c ∧ c < 1000000 ∧ (c = k.2.2.2 ∨ (99999 < c ∧ 99999 < k.2.2.2)))
def tyM (k : Tk) : Nat := if k.1 = 2 ∧ 99999 < k.2.2.2 then 4 else k.1
def MT (S : ST) (k : Tk) : Prop := S.1 51 8 = nI (tyM k) ∧ S.1 51 9 = nI k.2.1 ∧ S.1 51 10 = nI k.2.2.1 ∧ ((k.1 = 1 ∨ k.1 = 2) → S.2 = lN k.2.2.2)
/-- the class's token -/
theorem cskip {B : Nat → Nat} {t : Nat} : ∀ (e k n : Nat) (S : ST), TpC B t S → S.1 32 5 = nI k → k + e = t → e < n → ∃ S', G_X2_advance_32_0 n S = some S' ∧ S'.1 32 5 = nI (run isSp B e k) ∧ F32 S S' := by
  intro e
  induction e with
  | zero =>
    intro k n S hT hk h1 h2
    obtain ⟨n, rfl⟩ : ∃ n', n = n' + 1 := ⟨n - 1, by omega⟩
    have ht := hT.1
    unfold G_X2_advance_32_0
    rw [hT.2.1, hk, if_pos (nI_le (by omega) (by omega))]
    exact ⟨S, rfl, hk, F32.rf⟩
  | succ e ih =>
    intro k n S hT hk h1 h2
    obtain ⟨n, rfl⟩ : ∃ n', n = n' + 1 := ⟨n - 1, by omega⟩
    have ht := hT.1
    obtain ⟨hb, he⟩ := hT.2.2 k (by omega)
    unfold G_X2_advance_32_0
    rw [hT.2.1, hk, if_neg (nI_ge (by omega) (by omega)), if_pos (inB_nI (by omega) (by decide)), cl (by omega), he]
    unfold run
    by_cases hq : isSp (B k) = true
    · rw [if_pos ((sB_sp hb).mpr hq), if_pos hq, nI_1]
      have hF : F32 S (wr S 32 5 (nI (k + 1))) := F32.w (by omega)
      obtain ⟨S', q1, q2, q3⟩ := ih (k + 1) n _ (hT.f hF) (by rw [wr_eq, updI]) (by omega) (by omega)
      exact ⟨S', q1, q2, hF.tr q3⟩
    · rw [if_neg (fun q => hq ((sB_sp hb).mp q)), if_neg hq]
      exact ⟨S, rfl, hk, F32.rf⟩
theorem cletters {B : Nat → Nat} {t : Nat} : ∀ (e k n : Nat) (S : ST), TpC B t S → S.1 32 5 = nI k → k + e = t → e < n → ∃ S', G_X2_advance_32_98 n S = some S' ∧ S'.1 32 5 = nI (run isL B e k) ∧ S'.1 32 2 = S.1 32 2 ∧ S'.1 32 3 = S.1 32 3 ∧ F32 S S' := by
  intro e
  induction e with
  | zero =>
    intro k n S hT hk h1 h2
    obtain ⟨n, rfl⟩ : ∃ n', n = n' + 1 := ⟨n - 1, by omega⟩
    have ht := hT.1
    unfold G_X2_advance_32_98
    rw [hT.2.1, hk, if_pos (nI_le (by omega) (by omega))]
    exact ⟨S, rfl, hk, rfl, rfl, F32.rf⟩
  | succ e ih =>
    intro k n S hT hk h1 h2
    obtain ⟨n, rfl⟩ : ∃ n', n = n' + 1 := ⟨n - 1, by omega⟩
    have ht := hT.1
    obtain ⟨hb, he⟩ := hT.2.2 k (by omega)
    unfold G_X2_advance_32_98
    rw [hT.2.1, hk, if_neg (nI_ge (by omega) (by omega)), if_pos (inB_nI (by omega) (by decide)), if_pos (inB_nI (by omega) (by decide)), cl (by omega), he]
    unfold run
    by_cases hq : isL (B k) = true
    · have hs := (sB_L hb).mpr hq
      rw [if_neg hs.1, if_neg hs.2, if_pos hq, nI_1]
      have hF : F32 S (wr S 32 5 (nI (k + 1))) := F32.w (by omega)
      obtain ⟨S', q1, q2, q4, q5, q3⟩ := ih (k + 1) n _ (hT.f hF) (by rw [wr_eq, updI]) (by omega) (by omega)
      refine ⟨S', q1, q2, ?_, ?_, hF.tr q3⟩
      · rw [q4, wr_eq, updN _ _ (by omega)]
      · rw [q5, wr_eq, updN _ _ (by omega)]
    · rw [if_neg hq]
      by_cases h3 : sB (B k) < 97
      · rw [if_pos h3]
        exact ⟨S, rfl, hk, rfl, rfl, F32.rf⟩
      · rw [if_neg h3]
        by_cases h4 : 122 < sB (B k)
        · rw [if_pos h4]
          exact ⟨S, rfl, hk, rfl, rfl, F32.rf⟩
        · exact absurd ((sB_L hb).mp ⟨h3, h4⟩) hq
theorem cdigits {B : Nat → Nat} {t : Nat} : ∀ (e k v c n : Nat) (S : ST), TpC B t S → S.1 32 5 = nI k → S.1 32 4 = nI c → c < 1000000 → (c = v ∨ (99999 < c ∧ 99999 < v)) → k + e = t → e < n → ∃ S' c', G_X2_advance_32_188 n S = some S' ∧ S'.1 32 5 = nI (run isD B e k) ∧ S'.1 32 4 = nI c' ∧ c' < 1000000 ∧ (c' = dgV B e k v ∨ (99999 < c' ∧ 99999 < dgV B e k v)) ∧ S'.1 32 2 = S.1 32 2 ∧ S'.1 32 3 = S.1 32 3 ∧ F32 S S' := by
  intro e
  induction e with
  | zero =>
    intro k v c n S hT hk hc hc2 hcv h1 h2
    obtain ⟨n, rfl⟩ : ∃ n', n = n' + 1 := ⟨n - 1, by omega⟩
    have ht := hT.1
    unfold G_X2_advance_32_188
    rw [hT.2.1, hk, if_pos (nI_le (by omega) (by omega))]
    exact ⟨S, c, rfl, hk, hc, hc2, hcv, rfl, rfl, F32.rf⟩
  | succ e ih =>
    intro k v c n S hT hk hc hc2 hcv h1 h2
    obtain ⟨n, rfl⟩ : ∃ n', n = n' + 1 := ⟨n - 1, by omega⟩
    have ht := hT.1
    obtain ⟨hb, he⟩ := hT.2.2 k (by omega)
    unfold G_X2_advance_32_188
    have hkk : inB (nI k) 120 = true := inB_nI (by omega) (by decide)
    rw [hT.2.1, hk, if_neg (nI_ge (by omega) (by omega)), if_pos hkk, if_pos hkk, if_pos hkk, cl (by omega), he, hc]
    unfold run dgV
    by_cases hq : isD (B k) = true
    · have hs := (sB_D hb).mpr hq
      have hd := isD_i hq
      rw [if_neg hs.1, if_neg hs.2, if_pos hq, if_pos hq, nI_1, sB_eq hb (Or.inr hq)]
      by_cases h3 : c < 100000
      · have hcv2 : c = v := by omega
        subst hcv2
        rw [if_pos (show nI c < 100000 from nI_lt (b := 100000) h3 (by decide)), if_neg (show ¬ 99999 < c by omega)]
        have ew : nI c * 10 + nI (B k) - 48 = nI (c * 10 + (B k - 48)) := by
          show nI c * nI 10 + nI (B k) - nI 48 = _
          rw [pk_mul, nI_add, pk_sub (by omega), show c * 10 + B k - 48 = c * 10 + (B k - 48) by omega]
        rw [ew]
        have hF : F32 S (wr (wr S 32 4 (nI (c * 10 + (B k - 48)))) 32 5 (nI (k + 1))) := (F32.w (by omega)).tr (F32.w (by omega))
        obtain ⟨S', c', q1, q2, q3, q4, q5, q6, q7, q8⟩ := ih (k + 1) (c * 10 + (B k - 48)) (c * 10 + (B k - 48)) n _ (hT.f hF) (by rw [wr_eq, updI]) (by rw [wr_eq, updN _ _ (by omega), wr_eq, updI]) (by omega) (Or.inl rfl) (by omega) (by omega)
        refine ⟨S', c', q1, q2, q3, q4, q5, ?_, ?_, hF.tr q8⟩
        · rw [q6, wr_eq, updN _ _ (by omega), wr_eq, updN _ _ (by omega)]
        · rw [q7, wr_eq, updN _ _ (by omega), wr_eq, updN _ _ (by omega)]
      · rw [if_neg (show ¬ nI c < 100000 from nI_nlt (b := 100000) (by omega) (by omega)), if_pos (show 99999 < v by omega)]
        have hF : F32 S (wr (wr S 32 4 100000) 32 5 (nI (k + 1))) := (F32.w (by omega)).tr (F32.w (by omega))
        obtain ⟨S', c', q1, q2, q3, q4, q5, q6, q7, q8⟩ := ih (k + 1) v 100000 n _ (hT.f hF) (by rw [wr_eq, updI]) (by rw [wr_eq, updN _ _ (by omega), wr_eq, updI]; rfl) (by omega) (Or.inr ⟨by omega, by omega⟩) (by omega) (by omega)
        refine ⟨S', c', q1, q2, q3, q4, q5, ?_, ?_, hF.tr q8⟩
        · rw [q6, wr_eq, updN _ _ (by omega), wr_eq, updN _ _ (by omega)]
        · rw [q7, wr_eq, updN _ _ (by omega), wr_eq, updN _ _ (by omega)]
    · rw [if_neg hq, if_neg hq]
      by_cases h3 : sB (B k) < 48
      · rw [if_pos h3]
        exact ⟨S, c, rfl, hk, hc, hc2, hcv, rfl, rfl, F32.rf⟩
      · rw [if_neg h3]
        by_cases h4 : 57 < sB (B k)
        · rw [if_pos h4]
          exact ⟨S, c, rfl, hk, hc, hc2, hcv, rfl, rfl, F32.rf⟩
        · exact absurd ((sB_D hb).mp ⟨h3, h4⟩) hq
theorem cadv {B : Nat → Nat} {t p : Nat} {S : ST} (hT : TpC B t S) (hp : S.1 32 5 = nI p) (h1 : p ≤ t) : ∃ S', G_X2_advance_32 S = some ((), S') ∧ CT S' (adv B t p) ∧ F32 S S' := by
  have ht := hT.1
  obtain ⟨S1, q1, q2, q3⟩ := cskip (t - p) p 3000 S hT hp (by omega) (by omega)
  have hT1 := hT.f q3
  unfold G_X2_advance_32 adv
  rw [q1, bndS]
  have hs := run_b (P := isSp) (B := B) (t - p) p
  generalize run isSp B (t - p) p = s at q2 hs
  unfold G_X2_advance_32_38 tkA
  rw [q2, hT1.2.1]
  have hF3 : F32 S1 (wr S1 32 3 (nI s)) := F32.w (by omega)
  have h33 : (wr S1 32 3 (nI s)).1 32 3 = nI s := by rw [wr_eq, updI]
  have h35 : (wr S1 32 3 (nI s)).1 32 5 = nI s := by rw [wr_eq, updN _ _ (by omega)]; exact q2
  have hT3 := hT1.f hF3
  by_cases hst : s = t
  · rw [if_neg (nI_nlt (by omega) (by omega)), if_pos hst]
    refine ⟨_, rfl, ⟨?_, ?_, ?_, fun h => ?_⟩, q3.tr (hF3.tr (F32.w (by omega)))⟩
    · rw [wr_eq, updI]; rfl
    · rw [wr_eq, updN _ _ (by omega)]; exact h33
    · rw [wr_eq, updN _ _ (by omega)]; exact h35
    · exact absurd h (show ¬ (0 : Nat) = 2 by decide)
  · obtain ⟨hb, he⟩ := hT1.2.2 s (by omega)
    have hss : inB (nI s) 120 = true := inB_nI (by omega) (by decide)
    rw [if_pos (nI_lt (by omega) (by omega)), if_neg hst, if_pos hss, if_pos hss, cl (by omega), he]
    have hother : isL (B s) = false → ∃ S', G_X2_advance_32_150 (wr S1 32 3 (nI s)) = some ((), S') ∧ CT S' (if isD (B s) = true then (2, s, run isD B (t - s) s, dgV B (t - s) s 0) else if B s = 59 then (3, s, s + 1, 0) else (4, s, s + 1, 0)) ∧ F32 S S' := by
      intro hl
      unfold G_X2_advance_32_150
      have he3 : (wr S1 32 3 (nI s)).1 33 s = sB (B s) := by rw [wr_ne (by omega)]; exact he
      rw [h33, if_pos hss, if_pos hss, cl (by omega), he3]
      have hstop : isD (B s) = false → ∃ S', G_X2_advance_32_278 (wr S1 32 3 (nI s)) = some ((), S') ∧ CT S' (if B s = 59 then (3, s, s + 1, 0) else (4, s, s + 1, 0)) ∧ F32 S S' := by
        intro _
        unfold G_X2_advance_32_278
        rw [h33, if_pos hss, cl (by omega), he3]
        unfold G_X2_advance_32_298
        rw [h35, nI_1]
        by_cases h59 : B s = 59
        · rw [if_pos ((sB_59 hb).mpr h59), if_pos h59]
          refine ⟨_, rfl, ⟨?_, ?_, ?_, fun h => ?_⟩, q3.tr (hF3.tr ((F32.w (by omega)).tr (F32.w (by omega))))⟩
          · rw [wr_eq, updN _ _ (by omega), wr_eq, updI]; rfl
          · rw [wr_eq, updN _ _ (by omega), wr_eq, updN _ _ (by omega)]; exact h33
          · rw [wr_eq, updI]
          · exact absurd h (show ¬ (3 : Nat) = 2 by decide)
        · rw [if_neg (fun q => h59 ((sB_59 hb).mp q)), if_neg h59]
          refine ⟨_, rfl, ⟨?_, ?_, ?_, fun h => ?_⟩, q3.tr (hF3.tr ((F32.w (by omega)).tr (F32.w (by omega))))⟩
          · rw [wr_eq, updN _ _ (by omega), wr_eq, updI]; rfl
          · rw [wr_eq, updN _ _ (by omega), wr_eq, updN _ _ (by omega)]; exact h33
          · rw [wr_eq, updI]
          · exact absurd h (show ¬ (4 : Nat) = 2 by decide)
      by_cases hd : isD (B s) = true
      · have hs2 := (sB_D hb).mpr hd
        rw [if_neg hs2.1, if_neg hs2.2, if_pos hd]
        have hF4 : F32 S1 (wr (wr (wr S1 32 3 (nI s)) 32 2 2) 32 4 0) := hF3.tr ((F32.w (by omega)).tr (F32.w (by omega)))
        obtain ⟨S', c', w1, w2, w3, w4, w5, w6, w7, w8⟩ := cdigits (t - s) s 0 0 3000 (wr (wr (wr S1 32 3 (nI s)) 32 2 2) 32 4 0) (hT1.f hF4) (by rw [wr_eq, updN _ _ (by omega), wr_eq, updN _ _ (by omega)]; exact h35) (by rw [wr_eq, updI]; rfl) (by omega) (Or.inl rfl) (by omega) (by omega)
        rw [w1, bndS]
        refine ⟨S', rfl, ⟨?_, ?_, w2, fun _ => ⟨c', w3, w4, w5⟩⟩, q3.tr (hF4.tr w8)⟩
        · rw [w6, wr_eq, updN _ _ (by omega), wr_eq, updI]; rfl
        · rw [w7, wr_eq, updN _ _ (by omega), wr_eq, updN _ _ (by omega)]; exact h33
      · have hd' : isD (B s) = false := by simpa using hd
        obtain ⟨S', w1, w2, w3⟩ := hstop hd'
        rw [if_neg hd]
        by_cases h3 : sB (B s) < 48
        · rw [if_pos h3]
          exact ⟨S', w1, w2, w3⟩
        · rw [if_neg h3]
          by_cases h4 : 57 < sB (B s)
          · rw [if_pos h4]
            exact ⟨S', w1, w2, w3⟩
          · exact absurd ((sB_D hb).mp ⟨h3, h4⟩) hd
    by_cases hl : isL (B s) = true
    · have hs2 := (sB_L hb).mpr hl
      rw [if_neg hs2.1, if_neg hs2.2, if_pos hl]
      have hF4 : F32 S1 (wr (wr S1 32 3 (nI s)) 32 2 1) := hF3.tr (F32.w (by omega))
      obtain ⟨S', w1, w2, w6, w7, w8⟩ := cletters (t - s) s 3000 (wr (wr S1 32 3 (nI s)) 32 2 1) (hT1.f hF4) (by rw [wr_eq, updN _ _ (by omega)]; exact h35) (by omega) (by omega)
      rw [w1, bndS]
      refine ⟨S', rfl, ⟨?_, ?_, w2, fun h => absurd h (show ¬ (1 : Nat) = 2 by decide)⟩, q3.tr (hF4.tr w8)⟩
      · rw [w6, wr_eq, updI]; rfl
      · rw [w7, wr_eq, updN _ _ (by omega)]; exact h33
    · have hl' : isL (B s) = false := by simpa using hl
      obtain ⟨S', w1, w2, w3⟩ := hother hl'
      rw [if_neg hl]
      by_cases h3 : sB (B s) < 97
      · rw [if_pos h3]
        exact ⟨S', w1, w2, w3⟩
      · rw [if_neg h3]
        by_cases h4 : 122 < sB (B s)
        · rw [if_pos h4]
          exact ⟨S', w1, w2, w3⟩
        · exact absurd ((sB_L hb).mp ⟨h3, h4⟩) hl
