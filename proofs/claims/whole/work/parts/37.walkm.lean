theorem lesI (a b : Int32) (S : ST) : G_X6_less a b S = some (imn a b, S) := by
  unfold G_X6_less imn
  by_cases h : b < a
  · rw [if_pos (by grind), if_pos h]
  · rw [if_neg h]
    by_cases h2 : b ≤ a
    · rw [if_pos h2]
      congr 2
      grind
    · rw [if_neg h2]
theorem greI (a b : Int32) (S : ST) : G_X6_greater a b S = some (imx a b, S) := by
  unfold G_X6_greater imx
  by_cases h : a < b
  · rw [if_pos (by grind), if_pos h]
  · rw [if_neg h]
    by_cases h2 : a ≤ b
    · rw [if_pos h2]
      congr 2
      grind
    · rw [if_neg h2]
theorem min2 (a1 a2 a3 a4 x2 : Int32) : ∀ (t n : Nat) (T : ST), t < n → t < 11 → ∃ u T', G_X6_walk_51_45 n a1 a2 a3 a4 x2 (nI t) T = some (a1, a2, a3, a4, x2, nI u, T') ∧ u ≤ t ∧ (∀ c, c ≠ 56 → T'.1 c = T.1 c) ∧ (∀ i, i < u → T'.1 56 i = T.1 56 i) ∧ (∀ i, u ≤ i → i < t → T'.1 56 (i + 1) = T.1 56 i ∧ ¬ T.1 56 i ≤ x2) ∧ (u = 0 ∨ T.1 56 (u - 1) ≤ x2) ∧ (∀ i, t < i → T'.1 56 i = T.1 56 i) := by
  intro t
  induction t with
  | zero =>
    intro n T h1 h2
    obtain ⟨n, rfl⟩ : ∃ n', n = n' + 1 := ⟨n - 1, by omega⟩
    unfold G_X6_walk_51_45
    rw [if_pos (by decide)]
    exact ⟨0, T, rfl, Nat.le_refl _, fun _ _ => rfl, fun _ _ => rfl, fun i _ h => by omega, Or.inl rfl, fun _ _ => rfl⟩
  | succ t ih =>
    intro n T h1 h2
    obtain ⟨n, rfl⟩ : ∃ n', n = n' + 1 := ⟨n - 1, by omega⟩
    unfold G_X6_walk_51_45
    rw [if_neg (nI_nle (by omega) (by omega)), nI_pred]
    simp only [inB_nI (show t < 11 by omega) (by decide), inB_nI (show t + 1 < 11 by omega) (by decide), if_true, cl (show t < 1000 by omega), cl (show t + 1 < 1000 by omega)]
    by_cases hq : T.1 56 t ≤ x2
    · rw [if_pos hq]
      exact ⟨t + 1, T, rfl, Nat.le_refl _, fun _ _ => rfl, fun _ _ => rfl, fun i _ h => by omega, Or.inr (by rw [show t + 1 - 1 = t by omega]; exact hq), fun _ _ => rfl⟩
    · rw [if_neg hq, pk_m1]
      obtain ⟨u, T', q1, q2, q3, q4, q5, q6, q7⟩ := ih n (wr T 56 (t + 1) (T.1 56 t)) (by omega) (by omega)
      have r1 : ∀ j, j ≠ t + 1 → (wr T 56 (t + 1) (T.1 56 t)).1 56 j = T.1 56 j := fun j hj => by rw [wr_eq, updN _ _ hj]
      have r2 : (wr T 56 (t + 1) (T.1 56 t)).1 56 (t + 1) = T.1 56 t := by rw [wr_eq, updI]
      refine ⟨u, T', q1, by omega, fun c a => by rw [q3 c a, wr_ne a], fun j hj => by rw [q4 j hj, r1 j (by omega)], fun j a b => ?_, ?_, fun j hj => by rw [q7 j (by omega), r1 j (by omega)]⟩
      · by_cases hj : j = t
        · subst hj
          exact ⟨by rw [q7 (j + 1) (by omega), r2], hq⟩
        · have := q5 j a (by omega)
          rw [r1 j (by omega)] at this
          exact this
      · rcases q6 with q6 | q6
        · exact Or.inl q6
        · rw [r1 (u - 1) (by omega)] at q6
          exact Or.inr q6
def Wlk (S : ST) (d : Nat → Int32) (p x : Int32) (k c : Nat) (T : ST) : Prop := c ≤ k ∧ (∀ r, r ≠ 56 → T.1 r = S.1 r) ∧ (∀ i j, i < j → j < c → T.1 56 i ≤ T.1 56 j) ∧ lfk (T.1 56) 0 c = mlL d p x k
theorem mwalk5 {S : ST} {p x : Int32} {m : Nat} (hm : m ≤ 10) (hs : S.1 52 1 = nI m) : ∀ (e k c n : Nat) (T : ST), Wlk S (S.1 52) p x k c T → k + e = m → e < n → ∃ c' T', G_X6_walk_51_5 n p x (nI c) (nI k) T = some (nI c', T') ∧ Wlk S (S.1 52) p x m c' T' := by
  intro e
  induction e with
  | zero =>
    intro k c n T hT h1 h2
    obtain ⟨n, rfl⟩ : ∃ n', n = n' + 1 := ⟨n - 1, by omega⟩
    unfold G_X6_walk_51_5
    rw [hT.2.1 52 (by omega), hs, if_pos (nI_le (by omega) (by omega))]
    have : k = m := by omega
    subst this
    exact ⟨c, T, rfl, hT⟩
  | succ e ih =>
    intro k c n T hT h1 h2
    obtain ⟨n, rfl⟩ : ∃ n', n = n' + 1 := ⟨n - 1, by omega⟩
    obtain ⟨t1, t2, t3, t4⟩ := hT
    have hk : k < 10 := by omega
    unfold G_X6_walk_51_5
    rw [t2 52 (by omega), hs, if_neg (nI_ge (by omega) (by omega)), misIn, bndS]
    simp only [ite10]
    by_cases hx : (x >>> (nI k &&& 31)) &&& 1 = 1
    · rw [if_neg (not_not_intro hx), mget1 hk, bndS]
      simp only [t2 52 (by omega)]
      obtain ⟨u, T', q1, q2, q3, q4, q5, q6, q7⟩ := min2 p x (nI c) (nI k) (ofI (S.1 52) p k) c 3000 T (by omega) (by omega)
      rw [show irm (S.1 52 (17 + 4 * k) - p + 100) 100 = ofI (S.1 52) p k from rfl, q1, bndS]
      simp only []
      rw [if_pos (inB_nI (show u < 11 by omega) (by decide)), cl (by omega), nI_1, nI_1]
      have g1 : ∀ j, j ≠ u → (wr T' 56 u (ofI (S.1 52) p k)).1 56 j = T'.1 56 j := fun j hj => by rw [wr_eq, updN _ _ hj]
      have g2 : (wr T' 56 u (ofI (S.1 52) p k)).1 56 u = ofI (S.1 52) p k := by rw [wr_eq, updI]
      have f1 : ∀ j, j < u → (wr T' 56 u (ofI (S.1 52) p k)).1 56 j = T.1 56 j := fun j hj => by rw [g1 j (by omega), q4 j hj]
      have f3 : ∀ j, u ≤ j → j < c → (wr T' 56 u (ofI (S.1 52) p k)).1 56 (j + 1) = T.1 56 j := fun j a b => by rw [g1 (j + 1) (by omega), (q5 j a b).1]
      have lo : ∀ j, j < u → T.1 56 j ≤ ofI (S.1 52) p k := by
        intro j hj
        rcases q6 with q6 | q6
        · omega
        · by_cases hju : j = u - 1
          · rw [hju]; exact q6
          · have := t3 j (u - 1) (by omega) (by omega)
            grind
      have hi2 : ∀ j, u ≤ j → j < c → ¬ T.1 56 j ≤ ofI (S.1 52) p k := fun j a b => (q5 j a b).2
      refine ih (k + 1) (c + 1) n _ ⟨by omega, fun r a => by rw [wr_ne a, q3 r a, t2 r a], ?_, ?_⟩ (by omega) (by omega)
      · intro a b hab hb
        generalize (wr T' 56 u (ofI (S.1 52) p k)).1 56 = R at f1 g2 f3
        by_cases c1 : b < u
        · rw [f1 a (by omega), f1 b c1]; exact t3 a b hab (by omega)
        · by_cases c2 : b = u
          · rw [f1 a (by omega), c2, g2]; exact lo a (by omega)
          · have eb : R b = T.1 56 (b - 1) := by
              have := f3 (b - 1) (by omega) (by omega)
              rw [show b - 1 + 1 = b by omega] at this
              exact this
            have hb2 := hi2 (b - 1) (by omega) (by omega)
            by_cases c3 : a < u
            · rw [f1 a c3, eb]
              have := lo a c3
              grind
            · by_cases c4 : a = u
              · rw [c4, g2, eb]
                grind
              · have ea : R a = T.1 56 (a - 1) := by
                  have := f3 (a - 1) (by omega) (by omega)
                  rw [show a - 1 + 1 = a by omega] at this
                  exact this
                rw [ea, eb]
                exact t3 (a - 1) (b - 1) (by omega) (by omega)
      · have e1 := lfk_ins (F := T.1 56) (G := (wr T' 56 u (ofI (S.1 52) p k)).1 56) q2 f1 g2 f3
        have e2 := t4
        rw [lfk_cut q2] at e2
        rw [e1]
        show _ = mlL (S.1 52) p x (k + 1)
        rw [show mlL (S.1 52) p x (k + 1) = if (x >>> (nI k &&& 31)) &&& 1 = 1 then insI (ofI (S.1 52) p k) (mlL (S.1 52) p x k) else mlL (S.1 52) p x k from rfl, if_pos hx, ← e2, insI_app]
        · intro y hy
          obtain ⟨j, a, b, rfl⟩ := lfk_mem _ _ hy
          exact lo j (by omega)
        · intro y hy
          obtain ⟨j, a, b, rfl⟩ := lfk_mem _ _ hy
          exact hi2 j a (by omega)
    · rw [if_pos hx, nI_1]
      refine ih (k + 1) c n T ⟨by omega, t2, t3, ?_⟩ (by omega) (by omega)
      rw [t4]
      rw [show mlL (S.1 52) p x (k + 1) = if (x >>> (nI k &&& 31)) &&& 1 = 1 then insI (ofI (S.1 52) p k) (mlL (S.1 52) p x k) else mlL (S.1 52) p x k from rfl, if_neg hx]
/-- the costs -/
def mnA (a v : Int32) : Int32 := if 0 ≤ a then imn a v else v
def wm (pv a : Int32) : List Int32 → Int32
  | [] => mnA a ((pv + 0) + imn pv 0)
  | o :: L => wm o (mnA a ((pv + (100 - o)) + imn pv (100 - o))) L
theorem mwalk110 {T : ST} {c : Nat} (hc : c ≤ 10) : ∀ (e k n : Nat) (a : Int32), k + e = c → e + 1 < n → G_X6_walk_51_110 n (nI c) a (nI k) T = some (wm (if k = 0 then 0 else T.1 56 (k - 1)) a (lfk (T.1 56) k e), T) := by
  intro e
  induction e with
  | zero =>
    intro k n a h1 h2
    obtain ⟨n, rfl⟩ : ∃ n', n = n' + 1 := ⟨n - 1, by omega⟩
    have hk : k = c := by omega
    subst hk
    have fin : ∀ v, G_X6_walk_51_110 n (nI k) v (nI (k + 1)) T = some (v, T) := by
      intro v
      obtain ⟨n, rfl⟩ : ∃ n', n = n' + 1 := ⟨n - 1, by omega⟩
      unfold G_X6_walk_51_110
      rw [if_pos (nI_lt (by omega) (by omega))]
    unfold G_X6_walk_51_110
    rw [if_neg (nI_nlt (by omega) (by omega))]
    simp only [lesI, bndS, nI_1, fin, lfk, wm]
    by_cases h0 : k = 0
    · subst h0
      rw [show nI 0 = 0 from rfl, if_pos rfl]
      simp only [if_true]
      unfold mnA
      by_cases ha : 0 ≤ a
      · rw [if_pos ha, if_pos ha]
      · rw [if_neg ha, if_neg ha]
    · rw [if_neg (nI_ne0 (by omega) (by omega)), if_neg h0]
      obtain ⟨j, rfl⟩ : ∃ j, k = j + 1 := ⟨k - 1, by omega⟩
      rw [nI_pred, if_pos (inB_nI (by omega) (by decide)), cl (by omega), show j + 1 - 1 = j by omega]
      simp only [if_true]
      unfold mnA
      by_cases ha : 0 ≤ a
      · rw [if_pos ha, if_pos ha]
      · rw [if_neg ha, if_neg ha]
  | succ e ih =>
    intro k n a h1 h2
    obtain ⟨n, rfl⟩ : ∃ n', n = n' + 1 := ⟨n - 1, by omega⟩
    have nxt : ∀ v, G_X6_walk_51_110 n (nI c) v (nI (k + 1)) T = some (wm (T.1 56 k) v (lfk (T.1 56) (k + 1) e), T) := by
      intro v
      have := ih (k + 1) n v (by omega) (by omega)
      rw [if_neg (by omega), show k + 1 - 1 = k by omega] at this
      exact this
    unfold G_X6_walk_51_110
    rw [if_neg (nI_nlt (by omega) (by omega))]
    have hne : ¬ nI k = nI c := fun q => by
      have := (nI_eq (by omega) (by omega)).mp q
      omega
    simp only [lesI, bndS, nI_1, nxt, lfk, wm, if_neg hne, inB_nI (show k < 11 by omega) (by decide), if_true, cl (show k < 1000 by omega)]
    by_cases h0 : k = 0
    · subst h0
      rw [show nI 0 = 0 from rfl, if_pos rfl]
      simp only [if_true]
      unfold mnA
      by_cases ha : 0 ≤ a
      · rw [if_pos ha, if_pos ha]
      · rw [if_neg ha, if_neg ha]
    · rw [if_neg (nI_ne0 (by omega) (by omega)), if_neg h0]
      obtain ⟨j, rfl⟩ : ∃ j, k = j + 1 := ⟨k - 1, by omega⟩
      rw [nI_pred]
      simp only [inB_nI (show j < 11 by omega) (by decide), inB_nI (show j + 1 < 11 by omega) (by decide), if_true, cl (show j < 1000 by omega), show j + 1 - 1 = j by omega]
      unfold mnA
      by_cases ha : 0 ≤ a
      · rw [if_pos ha, if_pos ha]
      · rw [if_neg ha, if_neg ha]
theorem cost_b {pv o : Int32} (hp : 0 ≤ pv ∧ pv ≤ 99) (ho : 0 ≤ o ∧ o ≤ 99) : 0 ≤ (pv + (100 - o)) + imn pv (100 - o) ∧ (pv + (100 - o)) + imn pv (100 - o) ≤ 1000 := by
  obtain ⟨a, ha, rfl⟩ := ofR (n := 100) (x := pv) (by decide) hp.1 (by show _ < (100 : Int32); grind)
  obtain ⟨b, hb, rfl⟩ := ofR (n := 100) (x := o) (by decide) ho.1 (by show _ < (100 : Int32); grind)
  have e : (100 : Int32) - nI b = nI (100 - b) := pk_sub (a := 100) (by omega)
  rw [e]
  unfold imn
  by_cases h : 100 - b < a
  · rw [if_pos (nI_lt h (by omega)), nI_add, nI_add]
    exact ⟨nI_pos' (by omega), nI_le (b := 1000) (by omega) (by decide)⟩
  · rw [if_neg (nI_nlt (by omega) (by omega)), nI_add, nI_add]
    exact ⟨nI_pos' (by omega), nI_le (b := 1000) (by omega) (by decide)⟩
theorem wm_eq : ∀ (L : List Int32) (pv a b : Int32), (0 ≤ pv ∧ pv ≤ 99) → (∀ o, o ∈ L → 0 ≤ o ∧ o ≤ 99) → ((a = -1 ∧ b = 1000000) ∨ (a = b ∧ 0 ≤ a ∧ a ≤ 1000)) → wm pv a L = imn (L.foldl stC (b, pv)).1 (L.foldl stC (b, pv)).2
  | [], pv, a, b, hp, _, hab => by
    show mnA a ((pv + 0) + imn pv 0) = imn b pv
    have e : (pv + 0) + imn pv 0 = pv := by
      unfold imn
      split <;> grind
    rw [e]
    unfold mnA
    rcases hab with ⟨rfl, rfl⟩ | ⟨rfl, h1, h2⟩
    · rw [if_neg (by decide)]
      unfold imn
      rw [if_pos (by grind)]
    · rw [if_pos h1]
  | o :: L, pv, a, b, hp, hL, hab => by
    have ho := hL o List.mem_cons_self
    have hc := cost_b hp ho
    show wm o (mnA a ((pv + (100 - o)) + imn pv (100 - o))) L = imn (L.foldl stC (stC (b, pv) o)).1 (L.foldl stC (stC (b, pv) o)).2
    refine wm_eq L o _ _ ho (fun y hy => hL y (List.mem_cons_of_mem _ hy)) (Or.inr ?_)
    show mnA a ((pv + (100 - o)) + imn pv (100 - o)) = imn b ((pv + (100 - o)) + imn pv (100 - o)) ∧ _
    generalize (pv + (100 - o)) + imn pv (100 - o) = v at hc
    unfold mnA
    rcases hab with ⟨rfl, rfl⟩ | ⟨rfl, h1, h2⟩
    · rw [if_neg (by decide)]
      unfold imn
      rw [if_pos (by grind)]
      exact ⟨rfl, hc⟩
    · rw [if_pos h1]
      refine ⟨rfl, ?_⟩
      unfold imn
      split <;> grind
theorem mround {S : ST} {m y : Nat} {p : Int32} (hK : SkyK (S.1 52)) (hm : m ≤ 10) (hs : S.1 52 1 = nI m) (hp : 0 ≤ p ∧ p ≤ 99) (hy : y < 1024) : ∃ T, G_X6_roundOf_51 p (nI y) S = some (wkC (mlL (S.1 52) p (nI y) m) + S.1 52 6 * bcF (nI y), T) ∧ ∀ r, r ≠ 56 → T.1 r = S.1 r := by
  obtain ⟨c, T, q1, t1, t2, t3, t4⟩ := mwalk5 (x := nI y) (p := p) hm hs m 0 0 3000 S ⟨Nat.le_refl _, fun _ _ => rfl, fun i j _ h => by omega, rfl⟩ (by omega) (by omega)
  have q2 := mwalk110 (T := T) (c := c) (by omega) c 0 3000 (-1) (by omega) (by omega)
  rw [show nI 0 = 0 from rfl] at q1 q2
  rw [if_pos rfl, t4, wm_eq _ 0 (-1) 1000000 (by decide) (mlL_b hK hp m hm) (Or.inl ⟨rfl, rfl⟩)] at q2
  refine ⟨T, ?_, t2⟩
  simp only [G_X6_roundOf_51, G_X6_walk_51, q1, bndS, q2, mbits hy]
  rw [t2 52 (by omega)]
  rfl
