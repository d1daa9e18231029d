/-- kinds under kinds -/
def koI (x : Int32) : Int32 := if x = 1 then 0 else if x = 2 then 0 else if x = 3 then 2 else if x = 4 then 3 else if x = 5 then 0 else if x = 6 then 1 else -1
theorem kov (x : Int32) (S : ST) : G_X5_kindOver x S = some (koI x, S) := by
  unfold G_X5_kindOver koI
  grind
theorem und4 (S T : ST) : ∀ (n : Nat) (a b c : Int32), G_X5_isUnder_4 n a b c S = (G_X5_isUnder_4 n a b c T).map (fun q => (q.1, S)) := by
  intro n
  induction n with
  | zero => intro a b c; rfl
  | succ n ih =>
    intro a b c
    unfold G_X5_isUnder_4
    split
    · rfl
    · split
      · rfl
      · split
        · rfl
        · rw [kov, kov, bndS, bndS]
          exact ih _ _ _
def abI (x : Int32) : Int32 := if x = 3 then 2 else if x = 4 then 3 else if x = 6 then 1 else 0
theorem abv (x : Int32) (S : ST) : G_X6_above x S = some (abI x, S) := by
  unfold G_X6_above abI
  grind
theorem as51 (S T : ST) (v w : Int32) : ∀ (n : Nat) (a c : Int32), G_X6_as_51_51 n a v c S = (G_X6_as_51_51 n a w c T).map (fun q => (q.1, v, q.2.2.1, S)) := by
  intro n
  induction n with
  | zero => intro a c; rfl
  | succ n ih =>
    intro a c
    unfold G_X6_as_51_51
    split
    · rfl
    · split
      · rfl
      · rw [abv, abv, bndS, bndS]
        exact ih _ _
def undI (c b : Nat) : Bool := match G_X5_isUnder (nI c) (nI b) S_0 with
  | some q => q.1 == 1
  | none => false
def undM (c b : Nat) : Int32 := match G_X6_as_51_51 3000 (nI b) 0 (nI c) S_0 with
  | some q => q.2.2.1
  | none => 0
set_option maxRecDepth 100000 in
theorem und_all : ∀ c, c < 7 → ∀ b, b < 7 → ((match G_X5_isUnder (nI c) (nI b) S_0 with | some q => q.1 == (if undI c b then 1 else 0) | none => false) && (match G_X6_as_51_51 3000 (nI b) 0 (nI c) S_0 with | some q => (q.1 == nI b) && (q.2.2.1 == undM c b) | none => false) && (decide (undM c b = nI b) == undI c b)) = true := by decide +kernel
theorem cund {c b : Nat} (hc : c < 7) (hb : b < 7) (S : ST) : G_X5_isUnder (nI c) (nI b) S = some (if undI c b then 1 else 0, S) := by
  have h := und_all c hc b hb
  simp only [Bool.and_eq_true] at h
  have h1 := h.1.1
  have e : G_X5_isUnder (nI c) (nI b) S = (G_X5_isUnder (nI c) (nI b) S_0).map (fun q => (q.1, S)) := und4 S S_0 3000 _ _ _
  rw [e]
  revert h1
  cases G_X5_isUnder (nI c) (nI b) S_0 with
  | none => intro h; cases h
  | some q =>
    intro h
    simp only [beq_iff_eq] at h
    simp only [Option.map_some, h]
theorem mund {c b : Nat} (hc : c < 7) (hb : b < 7) (v : Int32) (S : ST) : G_X6_as_51_51 3000 (nI b) v (nI c) S = some (nI b, v, undM c b, S) ∧ (undM c b = nI b ↔ undI c b = true) := by
  have h := und_all c hc b hb
  simp only [Bool.and_eq_true] at h
  have h1 := h.1.2
  have h2 := h.2
  constructor
  · rw [as51 S S_0 v 0]
    revert h1
    cases G_X6_as_51_51 3000 (nI b) 0 (nI c) S_0 with
    | none => intro h; cases h
    | some q =>
      intro h
      simp only [Bool.and_eq_true, beq_iff_eq] at h
      simp only [Option.map_some, h.1, h.2]
  · simp only [beq_iff_eq] at h2
    rw [← h2, decide_eq_true_eq]
theorem op_as (a b : Int32) : Ok (G_X5_as_0 a b) (G_X6_as_51 a b) := by
  intro S h
  obtain ⟨m, hm, hs⟩ := starsN h
  have hR := h.1
  have hK : SkyK (S.1 52) := h.2.1
  by_cases ha : 0 ≤ a ∧ a < 10
  · have ha' := ha
    obtain ⟨k, hk, rfl⟩ := ofR (n := 10) (by decide) ha.1 ha.2
    have ha2 : 0 ≤ nI k ∧ nI k ≤ 9 := by grind
    by_cases hb : 0 ≤ b ∧ b < 7
    · have hb' := hb
      obtain ⟨t, ht, rfl⟩ := ofR (n := 7) (by decide) hb.1 hb.2
      have hb2 : 0 ≤ nI t ∧ nI t ≤ 6 := by grind
      have esp : S.1 10 k = S.1 52 (62 + k) := hR.2.2.2.2.2.2.2.2.2.2.2.2 k hk
      have hsp := hK.2.2.2.2.2.2.2.2.2.2.2.2.2.2 k hk
      rcases hsp with hsp | hsp
      · refine ok_fin h (i := 5) (by decide) ?_ ?_
        · simp only [G_X5_as_0, bel, bndS, ite10, fb5]
          rw [if_neg (not_not_intro ha'), if_neg (not_not_intro hb'), if_pos (inB_nI hk (by decide)), cl (by omega), esp, hsp, if_pos (fun q => absurd q.1 (by decide))]
        · intro S1 h1
          simp only [G_X6_as_51, isSpot, in1, bndS, ite10, nb5, h1 52 (by omega), ix62]
          rw [if_neg (not_not_intro ha2), if_neg (not_not_intro hb2), if_pos (inB_nI (by omega) (by decide)), cl (by omega), hsp, if_neg (by decide)]
      · rw [hs] at hsp
        have hlt : S.1 52 (62 + k) < nI m := by
          have : nI m ≤ 10 := nI_le (b := 10) hm (by decide)
          have : 0 ≤ nI m := nI_pos' (by omega)
          grind
        obtain ⟨j, hj, ej⟩ := ofR (by omega) hsp.1 hlt
        have hkd := hK.2.2.2.2.2.2.2.2.2.1 j (by omega)
        obtain ⟨c, hc, ec⟩ := ofR (n := 7) (x := S.1 52 (16 + 4 * j)) (by decide) hkd.1 (by show _ < (7 : Int32); grind)
        have ekd : S.1 2 j = nI c := (hR.2.2.2.2.2.2.2.1 j (by omega)).trans ec
        have hjm : 0 ≤ nI j ∧ nI j < S.1 1 0 := by
          rw [hR.1, hs]
          exact ⟨nI_pos' (by omega), nI_lt hj (by omega)⟩
        have cc : G_X5_as_0 (nI k) (nI t) S = if undI c t = true then some (nI j, S) else G_X5_finding_0 (nI 2) S := by
          simp only [G_X5_as_0, bel, bndS, ite10, fb2]
          rw [if_neg (not_not_intro ha'), if_neg (not_not_intro hb'), if_pos (inB_nI hk (by decide)), cl (by omega), esp, ej, if_neg (not_not_intro hjm), if_pos (inB_nI (by omega) (by decide)), cl (by omega), ekd, cund hc ht, bndS]
          by_cases hu : undI c t = true
          · rw [if_pos hu, if_pos hu]
            exact if_neg (show ¬ (1 : Int32) = 0 by decide)
          · rw [if_neg hu, if_neg hu, if_pos rfl]
        have mm : ∀ T : ST, T.1 52 = S.1 52 → G_X6_as_51 (nI k) (nI t) T = if undI c t = true then some (nI j, T) else G_X6_no_51 (nI 2) T := by
          intro T hT
          obtain ⟨w1, w2⟩ := mund hc ht (nI j) T
          simp only [G_X6_as_51, isSpot, in1, bndS, ite10, nb5, hT, ix62]
          rw [if_neg (not_not_intro ha2), if_neg (not_not_intro hb2), if_pos (inB_nI (by omega) (by decide)), cl (by omega), ej, if_pos (nI_pos' (by omega)), mget0 (by omega), bndS, hT]
          simp only [ec, w1, bndS, G_X6_as_51_72, nb2]
          by_cases hu : undI c t = true
          · rw [if_pos (w2.mpr hu), if_pos hu]
          · rw [if_neg (fun q => hu (w2.mp q)), if_neg hu]
        by_cases hu : undI c t = true
        · exact ⟨nI j, S, S, by rw [cc, if_pos hu], by rw [mm S rfl, if_pos hu], h⟩
        · exact ok_fin h (i := 2) (by decide) (by rw [cc, if_neg hu]) (fun S1 h1 => by rw [mm S1 (h1 52 (by omega)), if_neg hu])
    · refine ok_fin h (i := 0) (by decide) ?_ ?_
      · simp only [G_X5_as_0, bel, bndS, ite10, fb0]
        rw [if_neg (not_not_intro ha'), if_pos hb]
      · intro S1 h1
        simp only [G_X6_as_51, isSpot, in1, bndS, ite10, nb0]
        rw [if_neg (not_not_intro ha2), if_pos (by grind)]
  · refine ok_fin h (i := 0) (by decide) ?_ ?_
    · simp only [G_X5_as_0, bel, bndS, ite10, fb0]
      rw [if_pos ha]
    · intro S1 h1
      simp only [G_X6_as_51, isSpot, in1, bndS, ite10, nb0]
      rw [if_pos (by grind)]
/-- the odds, in longs -/
def OkL (f g : ST → Option (Int64 × ST)) : Prop := ∀ S, Inv S → ∃ r S1 S2, f S = some (r, S1) ∧ g S1 = some (r, S2) ∧ Inv S2
theorem od42 (S T : ST) : ∀ (n : Nat) (a b c e i : Int32), G_X5_odds_0_42 n a b c e i S = (G_X5_odds_0_42 n a b c e i T).map (fun q => (q.1, q.2.1, q.2.2.1, q.2.2.2.1, S)) := by
  intro n
  induction n with
  | zero => intros; rfl
  | succ n ih =>
    intro a b c e i
    unfold G_X5_odds_0_42
    split
    · rfl
    · split
      · split
        · exact ih _ _ _ _ _
        · rfl
      · rfl
theorem pw5 (S T : ST) : ∀ (n : Nat) (a b : Int32) (c : Int64) (i : Int32), G_X5_power_5 n a b c i S = (G_X5_power_5 n a b c i T).map (fun q => (q.1, S)) := by
  intro n
  induction n with
  | zero => intros; rfl
  | succ n ih =>
    intro a b c i
    unfold G_X5_power_5
    split
    · rfl
    · exact ih _ _ _ _
theorem pw0 (S T : ST) (a b : Int32) : G_X5_power a b S = (G_X5_power a b T).map (fun q => (q.1, S)) := by
  unfold G_X5_power
  rw [pw5 S T]
  cases G_X5_power_5 3000 a b 1 0 T <;> rfl
theorem od34 (S T : ST) (h : S.1 52 1 = T.1 52 1) : ∀ (n : Nat) (a b : Int32) (c e : Int64) (i : Int32), G_X6_odds_51_34 n a b c e i S = (G_X6_odds_51_34 n a b c e i T).map (fun q => (q.1, q.2.1, q.2.2.1, S)) := by
  intro n
  induction n with
  | zero => intros; rfl
  | succ n ih =>
    intro a b c e i
    unfold G_X6_odds_51_34
    split
    · rfl
    · rw [h]
      exact ih _ _ _ _ _
theorem od75 (S T : ST) : ∀ (n : Nat) (a : Int32) (b c e i : Int64), G_X6_odds_51_75 n a b c e i S = (G_X6_odds_51_75 n a b c e i T).map (fun q => (q.1, q.2.1, q.2.2.1, q.2.2.2.1, S)) := by
  intro n
  induction n with
  | zero => intros; rfl
  | succ n ih =>
    intro a b c e i
    unfold G_X6_odds_51_75
    split
    · rfl
    · split
      · rfl
      · exact ih _ _ _ _ _
def odC (n w m : Nat) : Option Int64 := (G_X5_odds_0_42 3000 (nI n) (nI w) (16 - nI m) 16 0 S_0).bind fun q => (G_X5_odds_0_77 q.1 q.2.1 q.2.2.1 q.2.2.2.1 S_0).map (fun r => r.1)
def odS (m : Nat) : ST := ((fun _ _ => nI m), 0)
def odM (n w m : Nat) : Option Int64 := (G_X6_odds_51_34 3000 (nI n) (nI w) 1 1 0 (odS m)).bind fun q7 => (G_X6_odds_51_75 3000 q7.1 q7.2.1 q7.2.2.1 q7.2.1 q7.2.2.1 (odS m)).bind fun q10 => (if q10.1 = 0 then (if q10.2.2.2.1 = 0 then none else some (q10.2.1 / q10.2.2.2.1)) else (if q10.2.2.2.1 = 0 then none else some (q10.2.2.1 / q10.2.2.2.1)))
set_option maxRecDepth 100000 in
theorem od_all : ∀ n, n < 15 → ∀ m, m < 11 → ∀ w, w < 2 → ((odC n w m).isSome && (odC n w m == odM n w m)) = true := by decide +kernel
theorem od77 (a b c e : Int32) (S T : ST) : G_X5_odds_0_77 a b c e S = (G_X5_odds_0_77 a b c e T).map (fun r => (r.1, S)) := by
  unfold G_X5_odds_0_77
  rw [pw0 S T, pw0 S T]
  cases G_X5_power c a T <;> cases G_X5_power e a T <;> split <;> rfl
theorem fb0L {S : ST} : ((G_X5_finding_0 0 S).bind fun q => some (q.1.toInt64, q.2)) = (G_X5_finding_0 (nI 0) S).map (fun q => (q.1.toInt64, q.2)) := by
  rw [show nI 0 = 0 from rfl]
  cases G_X5_finding_0 0 S <;> rfl
theorem nb0L {S : ST} : ((G_X6_no_51 0 S).bind fun q => some (q.1.toInt64, q.2)) = (G_X6_no_51 (nI 0) S).map (fun q => (q.1.toInt64, q.2)) := by
  rw [show nI 0 = 0 from rfl]
  cases G_X6_no_51 0 S <;> rfl
theorem ok_finL {S : ST} (h : Inv S) {i : Nat} (hi : i < 7) {f g : ST → Option (Int64 × ST)} (hf : f S = (G_X5_finding_0 (nI i) S).map (fun q => (q.1.toInt64, q.2))) (hg : ∀ S1, (∀ c, c ≠ 42 → S1.1 c = S.1 c) → g S1 = (G_X6_no_51 (nI i) S1).map (fun q => (q.1.toInt64, q.2))) : ∃ r S1 S2, f S = some (r, S1) ∧ g S1 = some (r, S2) ∧ Inv S2 := by
  obtain ⟨r, S1, S2, e1, e2, e3⟩ := ok_fin (f := G_X5_finding_0 (nI i)) (g := G_X6_no_51 (nI i)) h hi rfl (fun _ _ => rfl)
  have e4 : ∀ c, c ≠ 42 → S1.1 c = S.1 c := by
    rw [fnd hi] at e1
    simp only [Option.some.injEq, Prod.mk.injEq] at e1
    rw [← e1.2]
    exact fun c hc => wr_ne hc
  exact ⟨r.toInt64, S1, S2, by rw [hf, e1]; rfl, by rw [hg S1 e4, e2]; rfl, e3⟩
theorem op_odds (a b : Int32) : OkL (G_X5_odds_0 a b) (G_X6_odds_51 a b) := by
  intro S h
  obtain ⟨m, hm, hs⟩ := starsN h
  by_cases ha : 0 ≤ a ∧ a ≤ 14
  · by_cases hb : 0 ≤ b ∧ b ≤ 1
    · have ha' := ha
      have hb' := hb
      obtain ⟨n, hn, rfl⟩ := ofR (n := 15) (by decide) ha.1 (by show _ < (15 : Int32); grind)
      obtain ⟨w, hw, rfl⟩ := ofR (n := 2) (by decide) hb.1 (by show _ < (2 : Int32); grind)
      have hall := od_all n hn m (by omega) w hw
      simp only [Bool.and_eq_true, beq_iff_eq] at hall
      obtain ⟨v, hv⟩ := Option.isSome_iff_exists.mp hall.1
      refine ⟨v, S, S, ?_, ?_, h⟩
      · unfold odC at hv
        simp only [G_X5_odds_0, wit, bndS, ite10]
        rw [if_neg (not_not_intro ha'), if_neg (not_not_intro hb'), h.1.1, hs, od42 S S_0]
        revert hv
        cases G_X5_odds_0_42 3000 (nI n) (nI w) (16 - nI m) 16 0 S_0 with
        | none => intro hv; cases hv
        | some q =>
          intro hv
          simp only [Option.map_some, bndS] at hv ⊢
          rw [od77 _ _ _ _ S S_0]
          revert hv
          cases G_X5_odds_0_77 q.1 q.2.1 q.2.2.1 q.2.2.2.1 S_0 with
          | none => intro hv; cases hv
          | some r =>
            intro hv
            simp only [Option.map_some, Option.some.injEq] at hv ⊢
            rw [hv]
      · rw [hall.2] at hv
        unfold odM at hv
        simp only [G_X6_odds_51, in1, bndS, ite10]
        rw [if_neg (not_not_intro ha'), if_neg (not_not_intro hb'), od34 S (odS m) hs]
        revert hv
        cases G_X6_odds_51_34 3000 (nI n) (nI w) 1 1 0 (odS m) with
        | none => intro hv; cases hv
        | some q =>
          intro hv
          simp only [Option.map_some, bndS] at hv ⊢
          rw [od75 S (odS m)]
          revert hv
          cases G_X6_odds_51_75 3000 q.1 q.2.1 q.2.2.1 q.2.1 q.2.2.1 (odS m) with
          | none => intro hv; cases hv
          | some r =>
            intro hv
            simp only [Option.map_some, bndS] at hv ⊢
            by_cases h1 : r.1 = 0
            · rw [if_pos h1] at hv ⊢
              by_cases h2 : r.2.2.2.1 = 0
              · rw [if_pos h2] at hv; cases hv
              · rw [if_neg h2] at hv ⊢
                simp only [Option.some.injEq] at hv
                rw [hv]
            · rw [if_neg h1] at hv ⊢
              by_cases h2 : r.2.2.2.1 = 0
              · rw [if_pos h2] at hv; cases hv
              · rw [if_neg h2] at hv ⊢
                simp only [Option.some.injEq] at hv
                rw [hv]
    · refine ok_finL h (i := 0) (by decide) ?_ ?_
      · simp only [G_X5_odds_0, wit, bndS, ite10, fb0L]
        rw [if_neg (not_not_intro ha), if_pos hb]
      · intro S1 h1
        simp only [G_X6_odds_51, in1, bndS, ite10, nb0L]
        rw [if_neg (not_not_intro ha), if_pos hb]
  · refine ok_finL h (i := 0) (by decide) ?_ ?_
    · simp only [G_X5_odds_0, wit, bndS, ite10, fb0L]
      rw [if_pos ha]
    · intro S1 h1
      simp only [G_X6_odds_51, in1, bndS, ite10, nb0L]
      rw [if_pos ha]
