def lfk {α : Type} (F : Nat → α) : Nat → Nat → List α
  | _, 0 => []
  | k, d + 1 => F k :: lfk F (k + 1) d
theorem lfk_app {α : Type} (F : Nat → α) : ∀ (a b k : Nat), lfk F k (a + b) = lfk F k a ++ lfk F (k + a) b
  | 0, b, k => by rw [Nat.zero_add]; rfl
  | a + 1, b, k => by
    rw [show a + 1 + b = (a + b) + 1 by omega]
    show F k :: lfk F (k + 1) (a + b) = F k :: (lfk F (k + 1) a ++ lfk F (k + (a + 1)) b)
    rw [lfk_app F a b (k + 1), show k + 1 + a = k + (a + 1) by omega]
theorem lfk_congr {α : Type} {F G : Nat → α} : ∀ (d k : Nat), (∀ i, k ≤ i → i < k + d → F i = G i) → lfk F k d = lfk G k d
  | 0, _, _ => rfl
  | d + 1, k, h => by
    show F k :: lfk F (k + 1) d = G k :: lfk G (k + 1) d
    rw [h k (Nat.le_refl _) (by omega), lfk_congr d (k + 1) (fun i a b => h i (by omega) (by omega))]
theorem lfk_shift {α : Type} {F G : Nat → α} : ∀ (d k : Nat), (∀ i, k ≤ i → i < k + d → F (i + 1) = G i) → lfk F (k + 1) d = lfk G k d
  | 0, _, _ => rfl
  | d + 1, k, h => by
    show F (k + 1) :: lfk F (k + 1 + 1) d = G k :: lfk G (k + 1) d
    rw [h k (Nat.le_refl _) (by omega), lfk_shift d (k + 1) (fun i a b => h i (by omega) (by omega))]
theorem lfk_mem {α : Type} {F : Nat → α} {y : α} : ∀ (d k : Nat), y ∈ lfk F k d → ∃ i, k ≤ i ∧ i < k + d ∧ y = F i
  | 0, _, h => by simp [lfk] at h
  | d + 1, k, h => by
    rcases List.mem_cons.mp h with h | h
    · exact ⟨k, Nat.le_refl _, by omega, h⟩
    · obtain ⟨i, a, b, e⟩ := lfk_mem d (k + 1) h
      exact ⟨i, by omega, by omega, e⟩
theorem lfk_len {α : Type} (F : Nat → α) : ∀ (d k : Nat), (lfk F k d).length = d
  | 0, _ => rfl
  | d + 1, k => by
    show (F k :: lfk F (k + 1) d).length = _
    rw [List.length_cons, lfk_len F d (k + 1)]
theorem lfk_ins {α : Type} {F G : Nat → α} {t u : Nat} {x : α} (hu : u ≤ t) (h1 : ∀ i, i < u → G i = F i) (h2 : G u = x) (h3 : ∀ i, u ≤ i → i < t → G (i + 1) = F i) : lfk G 0 (t + 1) = lfk F 0 u ++ x :: lfk F u (t - u) := by
  rw [show t + 1 = u + ((t - u) + 1) by omega, lfk_app, Nat.zero_add]
  congr 1
  · exact lfk_congr u 0 (fun i _ b => h1 i (by omega))
  · show G u :: lfk G (u + 1) (t - u) = _
    rw [h2, lfk_shift (t - u) u (fun i a b => h3 i a (by omega))]
theorem lfk_cut {α : Type} {F : Nat → α} {t u : Nat} (hu : u ≤ t) : lfk F 0 t = lfk F 0 u ++ lfk F u (t - u) := by
  have := lfk_app F u (t - u) 0
  rw [show u + (t - u) = t by omega, Nat.zero_add] at this
  exact this
/-- into a sorted list -/
def insI (x : Int32) : List Int32 → List Int32
  | [] => [x]
  | y :: L => if y ≤ x then y :: insI x L else x :: y :: L
theorem insI_app {x : Int32} : ∀ (A B : List Int32), (∀ y, y ∈ A → y ≤ x) → (∀ y, y ∈ B → ¬ y ≤ x) → insI x (A ++ B) = A ++ x :: B
  | [], [], _, _ => rfl
  | [], b :: B, _, h => by
    show insI x (b :: B) = x :: b :: B
    unfold insI
    rw [if_neg (h b List.mem_cons_self)]
  | a :: A, B, h1, h2 => by
    show insI x (a :: (A ++ B)) = a :: (A ++ x :: B)
    unfold insI
    rw [if_pos (h1 a List.mem_cons_self), insI_app A B (fun y hy => h1 y (List.mem_cons_of_mem _ hy)) h2]
theorem insI_mem {x y : Int32} : ∀ (L : List Int32), y ∈ insI x L → y = x ∨ y ∈ L
  | [], h => by
    unfold insI at h
    exact Or.inl (List.mem_singleton.mp h)
  | a :: L, h => by
    unfold insI at h
    split at h
    · rcases List.mem_cons.mp h with h | h
      · exact Or.inr (by rw [h]; exact List.mem_cons_self)
      · rcases insI_mem L h with h | h
        · exact Or.inl h
        · exact Or.inr (List.mem_cons_of_mem _ h)
    · rcases List.mem_cons.mp h with h | h
      · exact Or.inl h
      · exact Or.inr h
def ofI (d : Nat → Int32) (p : Int32) (j : Nat) : Int32 := irm ((d (17 + 4 * j) - p) + 100) 100
def mlL (d : Nat → Int32) (p x : Int32) : Nat → List Int32
  | 0 => []
  | j + 1 => if (x >>> (nI j &&& 31)) &&& 1 = 1 then insI (ofI d p j) (mlL d p x j) else mlL d p x j
theorem ofI_b {d : Nat → Int32} {p : Int32} {j : Nat} (hK : SkyK d) (hp : 0 ≤ p ∧ p ≤ 99) (hj : j < 10) : 0 ≤ ofI d p j ∧ ofI d p j ≤ 99 := by
  have h2 := hK.2.2.2.2.2.2.2.2.2.2.1 j hj
  unfold ofI irm
  obtain ⟨q, hq, e⟩ := ofR (x := (d (17 + 4 * j) - p) + 100) (n := 200) (by decide) (by grind) (by show _ < (200 : Int32); grind)
  rw [e]
  show 0 ≤ nI q - nI q / nI 100 * nI 100 ∧ _
  have h3 : nI q - nI q / 100 * 100 = nI (q % 100) := pk_rem (d := 100) (by omega) (by decide) (by decide)
  rw [show nI 100 = 100 from rfl, h3]
  exact pl_in (Nat.mod_lt _ (by decide))
theorem mlL_b {d : Nat → Int32} {p x : Int32} (hK : SkyK d) (hp : 0 ≤ p ∧ p ≤ 99) : ∀ (j : Nat), j ≤ 10 → ∀ o, o ∈ mlL d p x j → 0 ≤ o ∧ o ≤ 99
  | 0, _, o, h => by simp [mlL] at h
  | j + 1, hj, o, h => by
    unfold mlL at h
    split at h
    · rcases insI_mem _ h with h | h
      · rw [h]; exact ofI_b hK hp (by omega)
      · exact mlL_b hK hp j (by omega) o h
    · exact mlL_b hK hp j (by omega) o h
def bitP (x : Int32) (q : Int32 × Int32) : Bool := decide ((x >>> (q.1 &&& 31)) &&& 1 = 1)
def stC (q : Int32 × Int32) (o : Int32) : Int32 × Int32 := (imn q.1 ((q.2 + (100 - o)) + imn q.2 (100 - o)), o)
def wkC (L : List Int32) : Int32 := imn (L.foldl stC (1000000, 0)).1 (L.foldl stC (1000000, 0)).2

def pr35 (T : ST) (i : Nat) : Int32 × Int32 := (T.1 36 i, T.1 37 i)
theorem cin35 (x1 x2 : Int32) : ∀ (t n : Nat) (T : ST), t < n → t < 10 → ∃ u T', G_X4_insert_35_3 n x1 x2 (nI t) T = some (x1, x2, nI u, T') ∧ u ≤ t ∧ (∀ c, c ≠ 36 → c ≠ 37 → T'.1 c = T.1 c) ∧ (∀ i, i < u → pr35 T' i = pr35 T i) ∧ (∀ i, u ≤ i → i < t → pr35 T' (i + 1) = pr35 T i ∧ ¬ T.1 37 i ≤ x2) ∧ (u = 0 ∨ T.1 37 (u - 1) ≤ x2) ∧ (∀ i, t < i → pr35 T' i = pr35 T i) := by
  intro t
  induction t with
  | zero =>
    intro n T h1 h2
    obtain ⟨n, rfl⟩ : ∃ n', n = n' + 1 := ⟨n - 1, by omega⟩
    unfold G_X4_insert_35_3
    rw [if_pos (by decide)]
    exact ⟨0, T, rfl, Nat.le_refl _, fun _ _ _ => rfl, fun _ _ => rfl, fun i _ h => by omega, Or.inl rfl, fun _ _ => rfl⟩
  | succ t ih =>
    intro n T h1 h2
    obtain ⟨n, rfl⟩ : ∃ n', n = n' + 1 := ⟨n - 1, by omega⟩
    unfold G_X4_insert_35_3
    rw [if_neg (nI_nle (by omega) (by omega)), nI_pred]
    simp only [inB_nI (show t < 10 by omega) (by decide), inB_nI (show t + 1 < 10 by omega) (by decide), if_true, cl (show t < 1000 by omega), cl (show t + 1 < 1000 by omega)]
    by_cases hq : T.1 37 t ≤ x2
    · rw [if_pos hq]
      exact ⟨t + 1, T, rfl, Nat.le_refl _, fun _ _ _ => rfl, fun _ _ => rfl, fun i _ h => by omega, Or.inr (by rw [show t + 1 - 1 = t by omega]; exact hq), fun _ _ => rfl⟩
    · rw [if_neg hq, pk_m1]
      obtain ⟨u, T', q1, q2, q3, q4, q5, q6, q7⟩ := ih n (wr (wr T 36 (t + 1) (T.1 36 t)) 37 (t + 1) (T.1 37 t)) (by omega) (by omega)
      have r1 : ∀ j, j ≠ t + 1 → pr35 (wr (wr T 36 (t + 1) (T.1 36 t)) 37 (t + 1) (T.1 37 t)) j = pr35 T j := by
        intro j hj
        unfold pr35
        rw [wr_ne (show 36 ≠ 37 by omega), wr_eq, wr_eq, wr_ne (show 37 ≠ 36 by omega), updN _ _ hj, updN _ _ hj]
      have r2 : pr35 (wr (wr T 36 (t + 1) (T.1 36 t)) 37 (t + 1) (T.1 37 t)) (t + 1) = pr35 T t := by
        unfold pr35
        rw [wr_ne (show 36 ≠ 37 by omega), wr_eq, wr_eq, wr_ne (show 37 ≠ 36 by omega), updI, updI]
      have r3 : ∀ j, j ≠ t + 1 → (wr (wr T 36 (t + 1) (T.1 36 t)) 37 (t + 1) (T.1 37 t)).1 37 j = T.1 37 j := fun j hj => congrArg Prod.snd (r1 j hj)
      refine ⟨u, T', q1, by omega, fun c a b => by rw [q3 c a b, wr_ne b, wr_ne a], fun j hj => by rw [q4 j hj, r1 j (by omega)], fun j a b => ?_, ?_, fun j hj => by rw [q7 j (by omega), r1 j (by omega)]⟩
      · by_cases hj : j = t
        · subst hj
          exact ⟨by rw [q7 (j + 1) (by omega), r2], hq⟩
        · have := q5 j a (by omega)
          rw [r1 j (by omega), r3 j (by omega)] at this
          exact this
      · rcases q6 with q6 | q6
        · exact Or.inl q6
        · rw [r3 (u - 1) (by omega)] at q6
          exact Or.inr q6
def Std35 (S : ST) (d : Nat → Int32) (p : Int32) (m k : Nat) (T : ST) : Prop := (∀ c, c ≠ 35 → c ≠ 36 → c ≠ 37 → T.1 c = S.1 c) ∧ T.1 35 2 = nI m ∧ T.1 35 3 = d 6 ∧ (∀ i j, i < j → j < k → T.1 37 i ≤ T.1 37 j) ∧ ∀ x, ((lfk (pr35 T) 0 k).filter (bitP x)).map Prod.snd = mlL d p x k
theorem cst35 {S : ST} {d : Nat → Int32} {p : Int32} {m : Nat} (hR : SkyR 1 S d) (hm : m ≤ 10) : ∀ (e k n : Nat) (T : ST), Std35 S d p m k T → k + e = m → e < n → ∃ T', G_X4_standAt_35_1_20 n p (nI k) T = some T' ∧ Std35 S d p m m T' := by
  intro e
  induction e with
  | zero =>
    intro k n T hT h1 h2
    obtain ⟨n, rfl⟩ : ∃ n', n = n' + 1 := ⟨n - 1, by omega⟩
    unfold G_X4_standAt_35_1_20
    rw [hT.2.1, if_pos (nI_le (by omega) (by omega))]
    have : k = m := by omega
    subst this
    exact ⟨T, rfl, hT⟩
  | succ e ih =>
    intro k n T hT h1 h2
    obtain ⟨n, rfl⟩ : ∃ n', n = n' + 1 := ⟨n - 1, by omega⟩
    obtain ⟨t1, t2, t3, t4, t5⟩ := hT
    have hk : k < 10 := by omega
    unfold G_X4_standAt_35_1_20
    rw [t2, if_neg (nI_ge (by omega) (by omega)), if_pos (inB_nI hk (by decide)), cl (by omega), t1 3 (by omega) (by omega) (by omega), show S.1 3 k = _ from hR.2.2.2.2.2.2.2.2.1 k hk]
    obtain ⟨u, T', q1, q2, q3, q4, q5, q6, q7⟩ := cin35 (nI k) (ofI d p k) k 3000 T (by omega) hk
    have hi : G_X4_insert_35 (nI k) (irm ((d (17 + 4 * k) - p) + 100) 100) (nI k) T = some ((), wr (wr T' 36 u (nI k)) 37 u (ofI d p k)) := by
      unfold G_X4_insert_35
      show (G_X4_insert_35_3 3000 (nI k) (ofI d p k) (nI k) T).bind _ = _
      rw [q1, bndS]
      simp only [G_X4_insert_35_59]
      rw [if_pos (inB_nI (by omega) (by decide)), if_pos (inB_nI (by omega) (by decide)), cl (by omega)]
    rw [hi, bndS, nI_1]
    have g1 : ∀ j, j ≠ u → pr35 (wr (wr T' 36 u (nI k)) 37 u (ofI d p k)) j = pr35 T' j := by
      intro j hj
      unfold pr35
      rw [wr_ne (show 36 ≠ 37 by omega), wr_eq, wr_eq, wr_ne (show 37 ≠ 36 by omega), updN _ _ hj, updN _ _ hj]
    have g2 : pr35 (wr (wr T' 36 u (nI k)) 37 u (ofI d p k)) u = (nI k, ofI d p k) := by
      unfold pr35
      rw [wr_ne (show 36 ≠ 37 by omega), wr_eq, wr_eq, updI, updI]
    refine ih (k + 1) n _ ?_ (by omega) (by omega)
    have f1 : ∀ j, j < u → pr35 (wr (wr T' 36 u (nI k)) 37 u (ofI d p k)) j = pr35 T j := fun j hj => by rw [g1 j (by omega), q4 j hj]
    have f3 : ∀ j, u ≤ j → j < k → pr35 (wr (wr T' 36 u (nI k)) 37 u (ofI d p k)) (j + 1) = pr35 T j := fun j a b => by rw [g1 (j + 1) (by omega), (q5 j a b).1]
    have lo : ∀ j, j < u → T.1 37 j ≤ ofI d p k := by
      intro j hj
      rcases q6 with q6 | q6
      · omega
      · by_cases hju : j = u - 1
        · rw [hju]; exact q6
        · have := t4 j (u - 1) (by omega) (by omega)
          grind
    have hi2 : ∀ j, u ≤ j → j < k → ¬ T.1 37 j ≤ ofI d p k := fun j a b => (q5 j a b).2
    refine ⟨fun c a b e => by rw [wr_ne e, wr_ne b, q3 c b e, t1 c a b e], by rw [wr_ne (by omega), wr_ne (by omega), q3 35 (by omega) (by omega), t2], by rw [wr_ne (by omega), wr_ne (by omega), q3 35 (by omega) (by omega), t3], ?_, ?_⟩
    · intro a b hab hb
      have v1 : ∀ j, j < u → (wr (wr T' 36 u (nI k)) 37 u (ofI d p k)).1 37 j = T.1 37 j := fun j hj => congrArg Prod.snd (f1 j hj)
      have v2 : (wr (wr T' 36 u (nI k)) 37 u (ofI d p k)).1 37 u = ofI d p k := congrArg Prod.snd g2
      have v3 : ∀ j, u ≤ j → j < k → (wr (wr T' 36 u (nI k)) 37 u (ofI d p k)).1 37 (j + 1) = T.1 37 j := fun j x y => congrArg Prod.snd (f3 j x y)
      generalize (wr (wr T' 36 u (nI k)) 37 u (ofI d p k)).1 37 = R at v1 v2 v3
      by_cases c1 : b < u
      · rw [v1 a (by omega), v1 b c1]; exact t4 a b hab (by omega)
      · by_cases c2 : b = u
        · rw [v1 a (by omega), c2, v2]; exact lo a (by omega)
        · have eb : R b = T.1 37 (b - 1) := by
            have := v3 (b - 1) (by omega) (by omega)
            rw [show b - 1 + 1 = b by omega] at this
            exact this
          have hb2 := hi2 (b - 1) (by omega) (by omega)
          by_cases c3 : a < u
          · rw [v1 a c3, eb]
            have := lo a c3
            grind
          · by_cases c4 : a = u
            · rw [c4, v2, eb]
              grind
            · have ea : R a = T.1 37 (a - 1) := by
                have := v3 (a - 1) (by omega) (by omega)
                rw [show a - 1 + 1 = a by omega] at this
                exact this
              rw [ea, eb]
              exact t4 (a - 1) (b - 1) (by omega) (by omega)
    · intro x
      have e1 := lfk_ins (F := pr35 T) (G := pr35 (wr (wr T' 36 u (nI k)) 37 u (ofI d p k))) q2 f1 g2 f3
      have e2 := t5 x
      rw [lfk_cut q2, List.filter_append, List.map_append] at e2
      rw [e1, List.filter_append, List.map_append]
      unfold mlL
      have hA : ∀ y, y ∈ ((lfk (pr35 T) 0 u).filter (bitP x)).map Prod.snd → y ≤ ofI d p k := by
        intro y hy
        obtain ⟨z, hz, rfl⟩ := List.mem_map.mp hy
        obtain ⟨j, a, b, rfl⟩ := lfk_mem _ _ (List.mem_filter.mp hz).1
        exact lo j (by omega)
      have hB : ∀ y, y ∈ ((lfk (pr35 T) u (k - u)).filter (bitP x)).map Prod.snd → ¬ y ≤ ofI d p k := by
        intro y hy
        obtain ⟨z, hz, rfl⟩ := List.mem_map.mp hy
        obtain ⟨j, a, b, rfl⟩ := lfk_mem _ _ (List.mem_filter.mp hz).1
        exact hi2 j a (by omega)
      by_cases hx : (x >>> (nI k &&& 31)) &&& 1 = 1
      · rw [if_pos hx, ← e2, insI_app _ _ hA hB, List.filter_cons_of_pos (show bitP x (nI k, ofI d p k) = true from decide_eq_true hx)]
        rfl
      · rw [if_neg hx, ← e2, List.filter_cons_of_neg (show ¬ bitP x (nI k, ofI d p k) = true from fun q => hx (of_decide_eq_true q))]
theorem cstand35 {S : ST} {d : Nat → Int32} {p : Int32} {m : Nat} (hR : SkyR 1 S d) (hm : m ≤ 10) (hs : d 1 = nI m) : ∃ T', G_X4_standAt_35_1 p S = some ((), T') ∧ Std35 S d p m m T' := by
  obtain ⟨T', q1, q2⟩ := cst35 (p := p) hR hm m 0 3000 (wr (wr S 35 2 (S.1 1 0)) 35 3 (S.1 8 2)) ⟨fun c a b e => by rw [wr_ne a, wr_ne a], by rw [wr_eq, updN _ _ (by omega), wr_eq, updI, hR.1, hs], by rw [wr_eq, updI]; exact hR.2.2.2.2.1 2 (by omega), fun i j _ h => by omega, fun x => rfl⟩ (by omega) (by omega)
  refine ⟨T', ?_, q2⟩
  unfold G_X4_standAt_35_1
  rw [show nI 0 = 0 from rfl] at q1
  rw [q1, bndS]
theorem cby35 {T : ST} {m : Nat} (hm : m ≤ 10) (h2 : T.1 35 2 = nI m) (x : Int32) : ∀ (e k n : Nat) (q : Int32 × Int32), k + e = m → e < n → G_X4_stepsBy_35_8 n x q.1 q.2 (nI k) T = some (x, ((((lfk (pr35 T) k e).filter (bitP x)).map Prod.snd).foldl stC q).1, ((((lfk (pr35 T) k e).filter (bitP x)).map Prod.snd).foldl stC q).2, T) := by
  intro e
  induction e with
  | zero =>
    intro k n q h1 h3
    obtain ⟨n, rfl⟩ : ∃ n', n = n' + 1 := ⟨n - 1, by omega⟩
    unfold G_X4_stepsBy_35_8
    rw [h2, if_pos (nI_le (by omega) (by omega))]
    rfl
  | succ e ih =>
    intro k n q h1 h3
    obtain ⟨n, rfl⟩ : ∃ n', n = n' + 1 := ⟨n - 1, by omega⟩
    unfold G_X4_stepsBy_35_8
    rw [h2, if_neg (nI_ge (by omega) (by omega))]
    simp only [inB_nI (show k < 10 by omega) (by decide), if_true, cl (show k < 1000 by omega), lfk]
    by_cases hx : (x >>> (T.1 36 k &&& 31)) &&& 1 = 1
    · rw [if_pos hx, nI_1, List.filter_cons_of_pos (show bitP x (pr35 T k) = true from decide_eq_true hx)]
      exact ih (k + 1) n (stC q (T.1 37 k)) (by omega) (by omega)
    · rw [if_neg hx, nI_1, List.filter_cons_of_neg (show ¬ bitP x (pr35 T k) = true from fun z => hx (of_decide_eq_true z))]
      exact ih (k + 1) n q (by omega) (by omega)
theorem csteps35 {S T : ST} {d : Nat → Int32} {p : Int32} {m : Nat} (hm : m ≤ 10) (hT : Std35 S d p m m T) (x : Int32) : G_X4_stepsBy_35 x T = some (wkC (mlL d p x m) + d 6 * bcF x, T) := by
  obtain ⟨t1, t2, t3, t4, t5⟩ := hT
  have := cby35 hm t2 x m 0 3000 (1000000, 0) (by omega) (by omega)
  rw [show nI 0 = 0 from rfl, t5 x] at this
  unfold G_X4_stepsBy_35
  rw [this, bndS]
  simp only [cbits, bndS, t3]
  rfl
def pr38 (T : ST) (i : Nat) : Int32 × Int32 := (T.1 39 i, T.1 40 i)
theorem cin38 (x1 x2 : Int32) : ∀ (t n : Nat) (T : ST), t < n → t < 10 → ∃ u T', G_X4_insert_38_3 n x1 x2 (nI t) T = some (x1, x2, nI u, T') ∧ u ≤ t ∧ (∀ c, c ≠ 39 → c ≠ 40 → T'.1 c = T.1 c) ∧ (∀ i, i < u → pr38 T' i = pr38 T i) ∧ (∀ i, u ≤ i → i < t → pr38 T' (i + 1) = pr38 T i ∧ ¬ T.1 40 i ≤ x2) ∧ (u = 0 ∨ T.1 40 (u - 1) ≤ x2) ∧ (∀ i, t < i → pr38 T' i = pr38 T i) := by
  intro t
  induction t with
  | zero =>
    intro n T h1 h2
    obtain ⟨n, rfl⟩ : ∃ n', n = n' + 1 := ⟨n - 1, by omega⟩
    unfold G_X4_insert_38_3
    rw [if_pos (by decide)]
    exact ⟨0, T, rfl, Nat.le_refl _, fun _ _ _ => rfl, fun _ _ => rfl, fun i _ h => by omega, Or.inl rfl, fun _ _ => rfl⟩
  | succ t ih =>
    intro n T h1 h2
    obtain ⟨n, rfl⟩ : ∃ n', n = n' + 1 := ⟨n - 1, by omega⟩
    unfold G_X4_insert_38_3
    rw [if_neg (nI_nle (by omega) (by omega)), nI_pred]
    simp only [inB_nI (show t < 10 by omega) (by decide), inB_nI (show t + 1 < 10 by omega) (by decide), if_true, cl (show t < 1000 by omega), cl (show t + 1 < 1000 by omega)]
    by_cases hq : T.1 40 t ≤ x2
    · rw [if_pos hq]
      exact ⟨t + 1, T, rfl, Nat.le_refl _, fun _ _ _ => rfl, fun _ _ => rfl, fun i _ h => by omega, Or.inr (by rw [show t + 1 - 1 = t by omega]; exact hq), fun _ _ => rfl⟩
    · rw [if_neg hq, pk_m1]
      obtain ⟨u, T', q1, q2, q3, q4, q5, q6, q7⟩ := ih n (wr (wr T 39 (t + 1) (T.1 39 t)) 40 (t + 1) (T.1 40 t)) (by omega) (by omega)
      have r1 : ∀ j, j ≠ t + 1 → pr38 (wr (wr T 39 (t + 1) (T.1 39 t)) 40 (t + 1) (T.1 40 t)) j = pr38 T j := by
        intro j hj
        unfold pr38
        rw [wr_ne (show 39 ≠ 40 by omega), wr_eq, wr_eq, wr_ne (show 40 ≠ 39 by omega), updN _ _ hj, updN _ _ hj]
      have r2 : pr38 (wr (wr T 39 (t + 1) (T.1 39 t)) 40 (t + 1) (T.1 40 t)) (t + 1) = pr38 T t := by
        unfold pr38
        rw [wr_ne (show 39 ≠ 40 by omega), wr_eq, wr_eq, wr_ne (show 40 ≠ 39 by omega), updI, updI]
      have r3 : ∀ j, j ≠ t + 1 → (wr (wr T 39 (t + 1) (T.1 39 t)) 40 (t + 1) (T.1 40 t)).1 40 j = T.1 40 j := fun j hj => congrArg Prod.snd (r1 j hj)
      refine ⟨u, T', q1, by omega, fun c a b => by rw [q3 c a b, wr_ne b, wr_ne a], fun j hj => by rw [q4 j hj, r1 j (by omega)], fun j a b => ?_, ?_, fun j hj => by rw [q7 j (by omega), r1 j (by omega)]⟩
      · by_cases hj : j = t
        · subst hj
          exact ⟨by rw [q7 (j + 1) (by omega), r2], hq⟩
        · have := q5 j a (by omega)
          rw [r1 j (by omega), r3 j (by omega)] at this
          exact this
      · rcases q6 with q6 | q6
        · exact Or.inl q6
        · rw [r3 (u - 1) (by omega)] at q6
          exact Or.inr q6
def Std38 (S : ST) (d : Nat → Int32) (p : Int32) (m k : Nat) (T : ST) : Prop := (∀ c, c ≠ 38 → c ≠ 39 → c ≠ 40 → T.1 c = S.1 c) ∧ T.1 38 2 = nI m ∧ T.1 38 3 = d 6 ∧ (∀ i j, i < j → j < k → T.1 40 i ≤ T.1 40 j) ∧ ∀ x, ((lfk (pr38 T) 0 k).filter (bitP x)).map Prod.snd = mlL d p x k
theorem cst38 {S : ST} {d : Nat → Int32} {p : Int32} {m : Nat} (hR : SkyR 1 S d) (hm : m ≤ 10) : ∀ (e k n : Nat) (T : ST), Std38 S d p m k T → k + e = m → e < n → ∃ T', G_X4_standAt_38_1_20 n p (nI k) T = some T' ∧ Std38 S d p m m T' := by
  intro e
  induction e with
  | zero =>
    intro k n T hT h1 h2
    obtain ⟨n, rfl⟩ : ∃ n', n = n' + 1 := ⟨n - 1, by omega⟩
    unfold G_X4_standAt_38_1_20
    rw [hT.2.1, if_pos (nI_le (by omega) (by omega))]
    have : k = m := by omega
    subst this
    exact ⟨T, rfl, hT⟩
  | succ e ih =>
    intro k n T hT h1 h2
    obtain ⟨n, rfl⟩ : ∃ n', n = n' + 1 := ⟨n - 1, by omega⟩
    obtain ⟨t1, t2, t3, t4, t5⟩ := hT
    have hk : k < 10 := by omega
    unfold G_X4_standAt_38_1_20
    rw [t2, if_neg (nI_ge (by omega) (by omega)), if_pos (inB_nI hk (by decide)), cl (by omega), t1 3 (by omega) (by omega) (by omega), show S.1 3 k = _ from hR.2.2.2.2.2.2.2.2.1 k hk]
    obtain ⟨u, T', q1, q2, q3, q4, q5, q6, q7⟩ := cin38 (nI k) (ofI d p k) k 3000 T (by omega) hk
    have hi : G_X4_insert_38 (nI k) (irm ((d (17 + 4 * k) - p) + 100) 100) (nI k) T = some ((), wr (wr T' 39 u (nI k)) 40 u (ofI d p k)) := by
      unfold G_X4_insert_38
      show (G_X4_insert_38_3 3000 (nI k) (ofI d p k) (nI k) T).bind _ = _
      rw [q1, bndS]
      simp only [G_X4_insert_38_59]
      rw [if_pos (inB_nI (by omega) (by decide)), if_pos (inB_nI (by omega) (by decide)), cl (by omega)]
    rw [hi, bndS, nI_1]
    have g1 : ∀ j, j ≠ u → pr38 (wr (wr T' 39 u (nI k)) 40 u (ofI d p k)) j = pr38 T' j := by
      intro j hj
      unfold pr38
      rw [wr_ne (show 39 ≠ 40 by omega), wr_eq, wr_eq, wr_ne (show 40 ≠ 39 by omega), updN _ _ hj, updN _ _ hj]
    have g2 : pr38 (wr (wr T' 39 u (nI k)) 40 u (ofI d p k)) u = (nI k, ofI d p k) := by
      unfold pr38
      rw [wr_ne (show 39 ≠ 40 by omega), wr_eq, wr_eq, updI, updI]
    refine ih (k + 1) n _ ?_ (by omega) (by omega)
    have f1 : ∀ j, j < u → pr38 (wr (wr T' 39 u (nI k)) 40 u (ofI d p k)) j = pr38 T j := fun j hj => by rw [g1 j (by omega), q4 j hj]
    have f3 : ∀ j, u ≤ j → j < k → pr38 (wr (wr T' 39 u (nI k)) 40 u (ofI d p k)) (j + 1) = pr38 T j := fun j a b => by rw [g1 (j + 1) (by omega), (q5 j a b).1]
    have lo : ∀ j, j < u → T.1 40 j ≤ ofI d p k := by
      intro j hj
      rcases q6 with q6 | q6
      · omega
      · by_cases hju : j = u - 1
        · rw [hju]; exact q6
        · have := t4 j (u - 1) (by omega) (by omega)
          grind
    have hi2 : ∀ j, u ≤ j → j < k → ¬ T.1 40 j ≤ ofI d p k := fun j a b => (q5 j a b).2
    refine ⟨fun c a b e => by rw [wr_ne e, wr_ne b, q3 c b e, t1 c a b e], by rw [wr_ne (by omega), wr_ne (by omega), q3 38 (by omega) (by omega), t2], by rw [wr_ne (by omega), wr_ne (by omega), q3 38 (by omega) (by omega), t3], ?_, ?_⟩
    · intro a b hab hb
      have v1 : ∀ j, j < u → (wr (wr T' 39 u (nI k)) 40 u (ofI d p k)).1 40 j = T.1 40 j := fun j hj => congrArg Prod.snd (f1 j hj)
      have v2 : (wr (wr T' 39 u (nI k)) 40 u (ofI d p k)).1 40 u = ofI d p k := congrArg Prod.snd g2
      have v3 : ∀ j, u ≤ j → j < k → (wr (wr T' 39 u (nI k)) 40 u (ofI d p k)).1 40 (j + 1) = T.1 40 j := fun j x y => congrArg Prod.snd (f3 j x y)
      generalize (wr (wr T' 39 u (nI k)) 40 u (ofI d p k)).1 40 = R at v1 v2 v3
      by_cases c1 : b < u
      · rw [v1 a (by omega), v1 b c1]; exact t4 a b hab (by omega)
      · by_cases c2 : b = u
        · rw [v1 a (by omega), c2, v2]; exact lo a (by omega)
        · have eb : R b = T.1 40 (b - 1) := by
            have := v3 (b - 1) (by omega) (by omega)
            rw [show b - 1 + 1 = b by omega] at this
            exact this
          have hb2 := hi2 (b - 1) (by omega) (by omega)
          by_cases c3 : a < u
          · rw [v1 a c3, eb]
            have := lo a c3
            grind
          · by_cases c4 : a = u
            · rw [c4, v2, eb]
              grind
            · have ea : R a = T.1 40 (a - 1) := by
                have := v3 (a - 1) (by omega) (by omega)
                rw [show a - 1 + 1 = a by omega] at this
                exact this
              rw [ea, eb]
              exact t4 (a - 1) (b - 1) (by omega) (by omega)
    · intro x
      have e1 := lfk_ins (F := pr38 T) (G := pr38 (wr (wr T' 39 u (nI k)) 40 u (ofI d p k))) q2 f1 g2 f3
      have e2 := t5 x
      rw [lfk_cut q2, List.filter_append, List.map_append] at e2
      rw [e1, List.filter_append, List.map_append]
      unfold mlL
      have hA : ∀ y, y ∈ ((lfk (pr38 T) 0 u).filter (bitP x)).map Prod.snd → y ≤ ofI d p k := by
        intro y hy
        obtain ⟨z, hz, rfl⟩ := List.mem_map.mp hy
        obtain ⟨j, a, b, rfl⟩ := lfk_mem _ _ (List.mem_filter.mp hz).1
        exact lo j (by omega)
      have hB : ∀ y, y ∈ ((lfk (pr38 T) u (k - u)).filter (bitP x)).map Prod.snd → ¬ y ≤ ofI d p k := by
        intro y hy
        obtain ⟨z, hz, rfl⟩ := List.mem_map.mp hy
        obtain ⟨j, a, b, rfl⟩ := lfk_mem _ _ (List.mem_filter.mp hz).1
        exact hi2 j a (by omega)
      by_cases hx : (x >>> (nI k &&& 31)) &&& 1 = 1
      · rw [if_pos hx, ← e2, insI_app _ _ hA hB, List.filter_cons_of_pos (show bitP x (nI k, ofI d p k) = true from decide_eq_true hx)]
        rfl
      · rw [if_neg hx, ← e2, List.filter_cons_of_neg (show ¬ bitP x (nI k, ofI d p k) = true from fun q => hx (of_decide_eq_true q))]
theorem cstand38 {S : ST} {d : Nat → Int32} {p : Int32} {m : Nat} (hR : SkyR 1 S d) (hm : m ≤ 10) (hs : d 1 = nI m) : ∃ T', G_X4_standAt_38_1 p S = some ((), T') ∧ Std38 S d p m m T' := by
  obtain ⟨T', q1, q2⟩ := cst38 (p := p) hR hm m 0 3000 (wr (wr S 38 2 (S.1 1 0)) 38 3 (S.1 8 2)) ⟨fun c a b e => by rw [wr_ne a, wr_ne a], by rw [wr_eq, updN _ _ (by omega), wr_eq, updI, hR.1, hs], by rw [wr_eq, updI]; exact hR.2.2.2.2.1 2 (by omega), fun i j _ h => by omega, fun x => rfl⟩ (by omega) (by omega)
  refine ⟨T', ?_, q2⟩
  unfold G_X4_standAt_38_1
  rw [show nI 0 = 0 from rfl] at q1
  rw [q1, bndS]
theorem cby38 {T : ST} {m : Nat} (hm : m ≤ 10) (h2 : T.1 38 2 = nI m) (x : Int32) : ∀ (e k n : Nat) (q : Int32 × Int32), k + e = m → e < n → G_X4_stepsBy_38_8 n x q.1 q.2 (nI k) T = some (x, ((((lfk (pr38 T) k e).filter (bitP x)).map Prod.snd).foldl stC q).1, ((((lfk (pr38 T) k e).filter (bitP x)).map Prod.snd).foldl stC q).2, T) := by
  intro e
  induction e with
  | zero =>
    intro k n q h1 h3
    obtain ⟨n, rfl⟩ : ∃ n', n = n' + 1 := ⟨n - 1, by omega⟩
    unfold G_X4_stepsBy_38_8
    rw [h2, if_pos (nI_le (by omega) (by omega))]
    rfl
  | succ e ih =>
    intro k n q h1 h3
    obtain ⟨n, rfl⟩ : ∃ n', n = n' + 1 := ⟨n - 1, by omega⟩
    unfold G_X4_stepsBy_38_8
    rw [h2, if_neg (nI_ge (by omega) (by omega))]
    simp only [inB_nI (show k < 10 by omega) (by decide), if_true, cl (show k < 1000 by omega), lfk]
    by_cases hx : (x >>> (T.1 39 k &&& 31)) &&& 1 = 1
    · rw [if_pos hx, nI_1, List.filter_cons_of_pos (show bitP x (pr38 T k) = true from decide_eq_true hx)]
      exact ih (k + 1) n (stC q (T.1 40 k)) (by omega) (by omega)
    · rw [if_neg hx, nI_1, List.filter_cons_of_neg (show ¬ bitP x (pr38 T k) = true from fun z => hx (of_decide_eq_true z))]
      exact ih (k + 1) n q (by omega) (by omega)
theorem csteps38 {S T : ST} {d : Nat → Int32} {p : Int32} {m : Nat} (hm : m ≤ 10) (hT : Std38 S d p m m T) (x : Int32) : G_X4_stepsBy_38 x T = some (wkC (mlL d p x m) + d 6 * bcF x, T) := by
  obtain ⟨t1, t2, t3, t4, t5⟩ := hT
  have := cby38 hm t2 x m 0 3000 (1000000, 0) (by omega) (by omega)
  rw [show nI 0 = 0 from rfl, t5 x] at this
  unfold G_X4_stepsBy_38
  rw [this, bndS]
  simp only [cbits, bndS, t3]
  rfl
