set_option maxRecDepth 20000 in
theorem mxS : Cond.static Lib.Math.max.name ∈ TB := TB_in (List.mem_of_getElem? (i := 366) rfl) rfl
set_option maxRecDepth 20000 in
theorem mxO : Cond.code Lib.Math.max.name Lib.Math.max.code 2 (some .int) ∈ TB := TB_in (List.mem_of_getElem? (i := 367) rfl) rfl
set_option maxRecDepth 20000 in
theorem mnS : Cond.static Lib.Math.min.name ∈ TB := TB_in (List.mem_of_getElem? (i := 345) rfl) rfl
set_option maxRecDepth 20000 in
theorem mnO : Cond.code Lib.Math.min.name Lib.Math.min.code 2 (some .int) ∈ TB := TB_in (List.mem_of_getElem? (i := 346) rfl) rfl
set_option maxRecDepth 20000 in
theorem mbS : Cond.static Lib.Math.abs.name ∈ TB := TB_in (List.mem_of_getElem? (i := 342) rfl) rfl
set_option maxRecDepth 20000 in
theorem mbO : Cond.code Lib.Math.abs.name Lib.Math.abs.code 1 (some .int) ∈ TB := TB_in (List.mem_of_getElem? (i := 343) rfl) rfl
/-! what the functions are written with -/
def ush (x w : Int32) : Int32 := (x.toUInt32 >>> (w.toUInt32 &&& Int32.toUInt32 31)).toInt32
def irm (x w : Int32) : Int32 := x - x / w * w
def lrm (x w : Int64) : Int64 := x - x / w * w
def bitB (v : Int32) : Bool := v == 0 || v == 1
def cpB (sp dp w : Int32) (n0 n1 : Nat) : Bool := decide (¬ sp < 0) && (decide (¬ dp < 0) && (decide (¬ w < 0) && (decide (sp.toNatClampNeg + w.toNatClampNeg ≤ n0) && decide (dp.toNatClampNeg + w.toNatClampNeg ≤ n1))))
theorem cpB_ok {sp dp w : Int32} {n0 n1 : Nat} (h : cpB sp dp w n0 n1 = true) : ¬ sp < 0 ∧ ¬ dp < 0 ∧ ¬ w < 0 ∧ sp.toNatClampNeg + w.toNatClampNeg ≤ n0 ∧ dp.toNatClampNeg + w.toNatClampNeg ≤ n1 := by
  simpa [cpB] using h
theorem bitB_z {v : Int32} (h : bitB v = true) : narrow .boolean (.int v) = .int v := by
  simp only [bitB, Bool.or_eq_true, beq_iff_eq] at h
  rcases h with rfl | rfl <;> rfl
def nl {α : Type} (o : Option Nat) (a : α) (f : Nat → α) : α := match o with
  | none => a
  | some k => f k
theorem chk_some {α : Type} {b : Bool} {x : Option α} {r : α} (h : (if b = true then x else none) = some r) : b = true ∧ x = some r := by
  by_cases hb : b = true
  · rw [if_pos hb] at h; exact ⟨hb, h⟩
  · rw [if_neg hb] at h; cases h
theorem bnd {α β : Type} {x : Option α} {f : α → Option β} {r : β} (h : x.bind f = some r) : ∃ q, x = some q ∧ f q = some r := by
  cases x with
  | none => cases h
  | some q => exact ⟨q, rfl, h⟩
section TU
variable {E : EV} {M : MI} {pc q n i : Nat} {lv : List (Nat × Value)} {st : List Value} {S : ST} {Q : Option Value → ST → Prop}
theorem v_iushr {x w : Int32} (hd : decode M.2.1 pc = .ok (.iushr, 1)) (hq : pc + 1 = q) (k : SS E M q lv (.int (ush x w) :: st) S Q) : SS E M pc lv (.int w :: .int x :: st) S Q := s_iushr hd hq k
theorem v_irem {x w : Int32} (hd : decode M.2.1 pc = .ok (.irem, 1)) (hq : pc + 1 = q) (hne : ¬ w = 0) (k : SS E M q lv (.int (irm x w) :: st) S Q) : SS E M pc lv (.int w :: .int x :: st) S Q := s_irem hd hq hne k
theorem v_lrem {x w : Int64} (hd : decode M.2.1 pc = .ok (.lrem, 1)) (hq : pc + 1 = q) (hne : ¬ w = 0) (k : SS E M q lv (.long (lrm x w) :: st) S Q) : SS E M pc lv (.long w :: .long x :: st) S Q := s_lrem hd hq hne k
theorem u_iald {k j : Nat} {x v : Int32} (hd : decode M.2.1 pc = .ok (.iaload, 1)) (hq : pc + 1 = q) (hs : shp[k]? = some (.inr (.inl (0, n)))) (hx : vp_in x n) (hj : x.toNatClampNeg = j) (hv : S.1 k j = v) (kk : SS E M q lv (.int v :: st) S Q) : SS E M pc lv (.int x :: .ref (eB E + k) :: st) S Q := by
  subst hj
  exact t_iald hd hq hs hx hv kk
theorem u_bald {k j : Nat} {x v : Int32} (hd : decode M.2.1 pc = .ok (.baload, 1)) (hq : pc + 1 = q) (hs : shp[k]? = some (.inr (.inl (1, n)))) (hx : vp_in x n) (hj : x.toNatClampNeg = j) (hv : S.1 k j = v) (kk : SS E M q lv (.int v :: st) S Q) : SS E M pc lv (.int x :: .ref (eB E + k) :: st) S Q := by
  subst hj
  exact t_bald hd hq hs hx hv kk
theorem u_cald {k j : Nat} {x v : Int32} (hd : decode M.2.1 pc = .ok (.caload, 1)) (hq : pc + 1 = q) (hs : shp[k]? = some (.inr (.inl (2, n)))) (hx : vp_in x n) (hj : x.toNatClampNeg = j) (hv : S.1 k j = v) (kk : SS E M q lv (.int v :: st) S Q) : SS E M pc lv (.int x :: .ref (eB E + k) :: st) S Q := by
  subst hj
  exact t_cald hd hq hs hx hv kk
theorem u_iast {k j : Nat} {x v : Int32} (hd : decode M.2.1 pc = .ok (.iastore, 1)) (hq : pc + 1 = q) (hs : shp[k]? = some (.inr (.inl (0, n)))) (hx : vp_in x n) (hj : x.toNatClampNeg = j) (kk : SS E M q lv st (wr S k j v) Q) : SS E M pc lv (.int v :: .int x :: .ref (eB E + k) :: st) S Q := by
  subst hj
  exact t_iast hd hq hs hx kk
theorem u_bast {k j : Nat} {x v : Int32} (hd : decode M.2.1 pc = .ok (.bastore, 1)) (hq : pc + 1 = q) (hs : shp[k]? = some (.inr (.inl (1, n)))) (hx : vp_in x n) (hj : x.toNatClampNeg = j) (kk : SS E M q lv st (wr S k j (vp_nar .byte v)) Q) : SS E M pc lv (.int v :: .int x :: .ref (eB E + k) :: st) S Q := by
  subst hj
  exact t_bast hd hq hs hx kk
theorem u_copy {k0 k1 n0 n1 js jd jw : Nat} {sp dp w : Int32} (hd : decode M.2.1 pc = .ok (.invokestatic i, 3)) (hq : pc + 3 = q) (hlk : Cond.methodLink M.1.cls i arraycopyName ∈ TB) (h0 : shp[k0]? = some (.inr (.inl (0, n0)))) (h1 : shp[k1]? = some (.inr (.inl (0, n1)))) (hg : cpB sp dp w n0 n1 = true) (hjs : sp.toNatClampNeg = js) (hjd : dp.toNatClampNeg = jd) (hjw : w.toNatClampNeg = jw) (hfr : 1 ≤ M.2.2.2.2.1) (hlo : (st.map fun v => v.category).sum + (nativeFrameWords "java/lang/System" "arraycopy" 5 + 11) ≤ M.2.2.2.2.2)
    (kk : SS E M q lv st (cpS S k0 k1 js jd jw) Q) : SS E M pc lv (.int w :: .int dp :: .ref (eB E + k1) :: .int sp :: .ref (eB E + k0) :: st) S Q := by
  subst hjs hjd hjw
  obtain ⟨g1, g2, g3, g4, g5⟩ := cpB_ok hg
  exact t_copy hd hq hlk nAc sAc nJ10 h0 h1 g1 g2 g3 g4 g5 hfr hlo kk
def imx (x w : Int32) : Int32 := if x < w then w else x
def imn (x w : Int32) : Int32 := if w < x then w else x
def iab (x : Int32) : Int32 := if 0 ≤ x then x else 0 - x
theorem v_max {x w : Int32} (hd : decode M.2.1 pc = .ok (.invokestatic i, 3)) (hq : pc + 3 = q) (hlk : Cond.methodLink M.1.cls i Lib.Math.max.name ∈ TB) (hfr : 1 ≤ M.2.2.2.2.1) (hlo : (st.map fun v => v.category).sum + 13 ≤ M.2.2.2.2.2) (k : SS E M q lv (.int (imx x w) :: st) S Q) : SS E M pc lv (.int w :: .int x :: st) S Q := by
  intro p e R s m args below meth c C H locs cells slots ls hz hP hS hl hcc hss
  subst hq
  exact va_mmax C.x C.b (by rw [C.ml]; exact hl.1.symm) C.o (C.ts _ hlk) (C.ts _ mxS) (C.ts _ nJ9) (C.ts _ mxO) (Nat.le_trans hfr C.fr) (Nat.le_trans hlo C.lo) hcc hss hd (k p e R s m args below meth c C H locs cells slots ls hz hP hS hl hcc hss)
theorem v_min {x w : Int32} (hd : decode M.2.1 pc = .ok (.invokestatic i, 3)) (hq : pc + 3 = q) (hlk : Cond.methodLink M.1.cls i Lib.Math.min.name ∈ TB) (hfr : 1 ≤ M.2.2.2.2.1) (hlo : (st.map fun v => v.category).sum + 13 ≤ M.2.2.2.2.2) (k : SS E M q lv (.int (imn x w) :: st) S Q) : SS E M pc lv (.int w :: .int x :: st) S Q := by
  intro p e R s m args below meth c C H locs cells slots ls hz hP hS hl hcc hss
  subst hq
  exact va_mmin C.x C.b (by rw [C.ml]; exact hl.1.symm) C.o (C.ts _ hlk) (C.ts _ mnS) (C.ts _ nJ9) (C.ts _ mnO) (Nat.le_trans hfr C.fr) (Nat.le_trans hlo C.lo) hcc hss hd (k p e R s m args below meth c C H locs cells slots ls hz hP hS hl hcc hss)
theorem v_abs {x : Int32} (hd : decode M.2.1 pc = .ok (.invokestatic i, 3)) (hq : pc + 3 = q) (hlk : Cond.methodLink M.1.cls i Lib.Math.abs.name ∈ TB) (hfr : 1 ≤ M.2.2.2.2.1) (hlo : (st.map fun v => v.category).sum + 13 ≤ M.2.2.2.2.2) (k : SS E M q lv (.int (iab x) :: st) S Q) : SS E M pc lv (.int x :: st) S Q := by
  intro p e R s m args below meth c C H locs cells slots ls hz hP hS hl hcc hss
  subst hq
  exact va_mabs C.x C.b (by rw [C.ml]; exact hl.1.symm) C.o (C.ts _ hlk) (C.ts _ mbS) (C.ts _ nJ9) (C.ts _ mbO) (Nat.le_trans hfr C.fr) (Nat.le_trans hlo C.lo) hcc hss hd (k p e R s m args below meth c C H locs cells slots ls hz hP hS hl hcc hss)
theorem rv_null {o : Option Nat} (h : o = none) (k : SS E M q lv (.null :: st) S Q) : SS E M q lv (((some (va_rf (o.map fun t => eB E + t))).toList) ++ st) S Q := by
  subst h
  exact k
theorem rv_ref {o : Option Nat} {k : Nat} (h : o = some k) (kk : SS E M q lv (.ref (eB E + k) :: st) S Q) : SS E M q lv (((some (va_rf (o.map fun t => eB E + t))).toList) ++ st) S Q := by
  subst h
  exact kk
end TU
/-! every method: its name, code, room -/
abbrev mJ0_charAt_5068e : MI := (yJ0_charAt_5068e, cJ0_charAt_5068e, 2, (some .char), 3, 64)
theorem nkJ0_charAt_5068e : okN mJ0_charAt_5068e 1 := ⟨oJ0_charAt_5068e, nJ0, ⟨by decide +kernel, by decide +kernel, by decide +kernel⟩, by decide +kernel⟩
theorem vkJ0_charAt_5068e : okV mJ0_charAt_5068e := ⟨iJ0_charAt_5068e, vJ0_charAt_5068e⟩
abbrev mJ0_checkIndex_df160 : MI := (yJ0_checkIndex_df160, cJ0_checkIndex_df160, 2, none, 1, 22)
theorem nkJ0_checkIndex_df160 : okN mJ0_checkIndex_df160 2 := ⟨oJ0_checkIndex_df160, nJ0, ⟨by decide +kernel, by decide +kernel, by decide +kernel⟩, by decide +kernel⟩
abbrev mJ0_coder_7d493 : MI := (yJ0_coder_7d493, cJ0_coder_7d493, 1, (some .byte), 0, 0)
theorem nkJ0_coder_7d493 : okN mJ0_coder_7d493 0 := ⟨oJ0_coder_7d493, nJ0, ⟨by decide +kernel, by decide +kernel, by decide +kernel⟩, by decide +kernel⟩
theorem vkJ0_coder_7d493 : okV mJ0_coder_7d493 := ⟨iJ0_coder_7d493, vJ0_coder_7d493⟩
abbrev mJ0_isLatin1_aae02 : MI := (yJ0_isLatin1_aae02, cJ0_isLatin1_aae02, 1, (some .boolean), 0, 0)
theorem nkJ0_isLatin1_aae02 : okN mJ0_isLatin1_aae02 0 := ⟨oJ0_isLatin1_aae02, nJ0, ⟨by decide +kernel, by decide +kernel, by decide +kernel⟩, by decide +kernel⟩
theorem vkJ0_isLatin1_aae02 : okV mJ0_isLatin1_aae02 := ⟨iJ0_isLatin1_aae02, vJ0_isLatin1_aae02⟩
abbrev mJ0_length_8abf5 : MI := (yJ0_length_8abf5, cJ0_length_8abf5, 1, (some .int), 1, 20)
theorem nkJ0_length_8abf5 : okN mJ0_length_8abf5 0 := ⟨oJ0_length_8abf5, nJ0, ⟨by decide +kernel, by decide +kernel, by decide +kernel⟩, by decide +kernel⟩
theorem vkJ0_length_8abf5 : okV mJ0_length_8abf5 := ⟨iJ0_length_8abf5, vJ0_length_8abf5⟩
abbrev mJ1_charAt_3b067 : MI := (yJ1_charAt_3b067, cJ1_charAt_3b067, 2, (some .char), 2, 43)
theorem nkJ1_charAt_3b067 : okN mJ1_charAt_3b067 2 := ⟨oJ1_charAt_3b067, nJ1, ⟨by decide +kernel, by decide +kernel, by decide +kernel⟩, by decide +kernel⟩
abbrev mJ3_checkIndex_8e157 : MI := (yJ3_checkIndex_8e157, cJ3_checkIndex_8e157, 3, (some .int), 0, 0)
theorem nkJ3_checkIndex_8e157 : okN mJ3_checkIndex_8e157 3 := ⟨oJ3_checkIndex_8e157, nJ3, ⟨by decide +kernel, by decide +kernel, by decide +kernel⟩, by decide +kernel⟩
abbrev mJ6_bitCount_0f7a4 : MI := (yJ6_bitCount_0f7a4, cJ6_bitCount_0f7a4, 1, (some .int), 0, 0)
theorem nkJ6_bitCount_0f7a4 : okN mJ6_bitCount_0f7a4 1 := ⟨oJ6_bitCount_0f7a4, nJ6, ⟨by decide +kernel, by decide +kernel, by decide +kernel⟩, by decide +kernel⟩
abbrev mJ7_fill_53178 : MI := (yJ7_fill_53178, cJ7_fill_53178, 4, none, 0, 0)
theorem nkJ7_fill_53178 : okN mJ7_fill_53178 2 := ⟨oJ7_fill_53178, nJ7, ⟨by decide +kernel, by decide +kernel, by decide +kernel⟩, by decide +kernel⟩
abbrev mL_law : MI := (yL_law, cL_law, 4, (some .boolean), 13, 486)
abbrev mX0_hasRange : MI := (yX0_hasRange, cX0_hasRange, 3, (some .boolean), 0, 0)
theorem nkX0_hasRange : okN mX0_hasRange 2 := ⟨oX0_hasRange, nX0, ⟨by decide +kernel, by decide +kernel, by decide +kernel⟩, by decide +kernel⟩
theorem vkX0_hasRange : okV mX0_hasRange := ⟨iX0_hasRange, vX0_hasRange⟩
abbrev mX0_init : MI := (yX0_init, cX0_init, 1, none, 1, 40)
theorem nkX0_init : okN mX0_init 0 := ⟨oX0_init, nX0, ⟨by decide +kernel, by decide +kernel, by decide +kernel⟩, by decide +kernel⟩
abbrev mX0_put : MI := (yX0_put, cX0_put, 3, none, 0, 0)
theorem nkX0_put : okN mX0_put 2 := ⟨oX0_put, nX0, ⟨by decide +kernel, by decide +kernel, by decide +kernel⟩, by decide +kernel⟩
theorem vkX0_put : okV mX0_put := ⟨iX0_put, vX0_put⟩
abbrev mX0_renew : MI := (yX0_renew, cX0_renew, 3, none, 1, 23)
theorem nkX0_renew : okN mX0_renew 2 := ⟨oX0_renew, nX0, ⟨by decide +kernel, by decide +kernel, by decide +kernel⟩, by decide +kernel⟩
theorem vkX0_renew : okV mX0_renew := ⟨iX0_renew, vX0_renew⟩
abbrev mX1_addSign : MI := (yX1_addSign, cX1_addSign, 2, (some .int), 0, 0)
theorem nkX1_addSign : okN mX1_addSign 1 := ⟨oX1_addSign, nX1, ⟨by decide +kernel, by decide +kernel, by decide +kernel⟩, by decide +kernel⟩
theorem vkX1_addSign : okV mX1_addSign := ⟨iX1_addSign, vX1_addSign⟩
abbrev mX1_addStar : MI := (yX1_addStar, cX1_addStar, 5, (some .int), 0, 0)
theorem nkX1_addStar : okN mX1_addStar 4 := ⟨oX1_addStar, nX1, ⟨by decide +kernel, by decide +kernel, by decide +kernel⟩, by decide +kernel⟩
theorem vkX1_addStar : okV mX1_addStar := ⟨iX1_addStar, vX1_addStar⟩
abbrev mX1_become : MI := (yX1_become, cX1_become, 2, none, 1, 40)
theorem nkX1_become : okN mX1_become 1 := ⟨oX1_become, nX1, ⟨by decide +kernel, by decide +kernel, by decide +kernel⟩, by decide +kernel⟩
theorem vkX1_become : okV mX1_become := ⟨iX1_become, vX1_become⟩
abbrev mX1_brightSet : MI := (yX1_brightSet, cX1_brightSet, 4, (some .int), 2, 44)
theorem nkX1_brightSet : okN mX1_brightSet 1 := ⟨oX1_brightSet, nX1, ⟨by decide +kernel, by decide +kernel, by decide +kernel⟩, by decide +kernel⟩
theorem vkX1_brightSet : okV mX1_brightSet := ⟨iX1_brightSet, vX1_brightSet⟩
abbrev mX1_crewRow : MI := (yX1_crewRow, cX1_crewRow, 2, (some (.array .int)), 0, 0)
theorem nkX1_crewRow : okN mX1_crewRow 1 := ⟨oX1_crewRow, nX1, ⟨by decide +kernel, by decide +kernel, by decide +kernel⟩, by decide +kernel⟩
theorem vkX1_crewRow : okV mX1_crewRow := ⟨iX1_crewRow, vX1_crewRow⟩
abbrev mX1_dimOf : MI := (yX1_dimOf, cX1_dimOf, 3, (some .int), 0, 0)
theorem nkX1_dimOf : okN mX1_dimOf 1 := ⟨oX1_dimOf, nX1, ⟨by decide +kernel, by decide +kernel, by decide +kernel⟩, by decide +kernel⟩
theorem vkX1_dimOf : okV mX1_dimOf := ⟨iX1_dimOf, vX1_dimOf⟩
abbrev mX1_draw : MI := (yX1_draw, cX1_draw, 1, (some .int), 0, 0)
theorem nkX1_draw : okN mX1_draw 0 := ⟨oX1_draw, nX1, ⟨by decide +kernel, by decide +kernel, by decide +kernel⟩, by decide +kernel⟩
theorem vkX1_draw : okV mX1_draw := ⟨iX1_draw, vX1_draw⟩
abbrev mX1_init : MI := (yX1_init, cX1_init, 1, none, 1, 40)
theorem nkX1_init : okN mX1_init 0 := ⟨oX1_init, nX1, ⟨by decide +kernel, by decide +kernel, by decide +kernel⟩, by decide +kernel⟩
abbrev mX1_isBright : MI := (yX1_isBright, cX1_isBright, 3, (some .boolean), 1, 22)
theorem nkX1_isBright : okN mX1_isBright 2 := ⟨oX1_isBright, nX1, ⟨by decide +kernel, by decide +kernel, by decide +kernel⟩, by decide +kernel⟩
theorem vkX1_isBright : okV mX1_isBright := ⟨iX1_isBright, vX1_isBright⟩
abbrev mX1_lifeBehind : MI := (yX1_lifeBehind, cX1_lifeBehind, 6, (some .int), 2, 63)
theorem nkX1_lifeBehind : okN mX1_lifeBehind 3 := ⟨oX1_lifeBehind, nX1, ⟨by decide +kernel, by decide +kernel, by decide +kernel⟩, by decide +kernel⟩
theorem vkX1_lifeBehind : okV mX1_lifeBehind := ⟨iX1_lifeBehind, vX1_lifeBehind⟩
abbrev mX1_lifeNext : MI := (yX1_lifeNext, cX1_lifeNext, 4, (some .int), 1, 40)
theorem nkX1_lifeNext : okN mX1_lifeNext 3 := ⟨oX1_lifeNext, nX1, ⟨by decide +kernel, by decide +kernel, by decide +kernel⟩, by decide +kernel⟩
theorem vkX1_lifeNext : okV mX1_lifeNext := ⟨iX1_lifeNext, vX1_lifeNext⟩
abbrev mX1_lifeTogether : MI := (yX1_lifeTogether, cX1_lifeTogether, 3, (some .int), 0, 0)
theorem nkX1_lifeTogether : okN mX1_lifeTogether 0 := ⟨oX1_lifeTogether, nX1, ⟨by decide +kernel, by decide +kernel, by decide +kernel⟩, by decide +kernel⟩
theorem vkX1_lifeTogether : okV mX1_lifeTogether := ⟨iX1_lifeTogether, vX1_lifeTogether⟩
abbrev mX1_mendDark : MI := (yX1_mendDark, cX1_mendDark, 4, (some .int), 2, 44)
theorem nkX1_mendDark : okN mX1_mendDark 1 := ⟨oX1_mendDark, nX1, ⟨by decide +kernel, by decide +kernel, by decide +kernel⟩, by decide +kernel⟩
theorem vkX1_mendDark : okV mX1_mendDark := ⟨iX1_mendDark, vX1_mendDark⟩
abbrev mX1_mostOfCrew : MI := (yX1_mostOfCrew, cX1_mostOfCrew, 1, (some .int), 0, 0)
theorem nkX1_mostOfCrew : okN mX1_mostOfCrew 1 := ⟨oX1_mostOfCrew, nX1, ⟨by decide +kernel, by decide +kernel, by decide +kernel⟩, by decide +kernel⟩
abbrev mX1_mostOfStar : MI := (yX1_mostOfStar, cX1_mostOfStar, 1, (some .int), 0, 0)
theorem nkX1_mostOfStar : okN mX1_mostOfStar 1 := ⟨oX1_mostOfStar, nX1, ⟨by decide +kernel, by decide +kernel, by decide +kernel⟩, by decide +kernel⟩
abbrev mX1_nearestOf : MI := (yX1_nearestOf, cX1_nearestOf, 7, (some .int), 2, 62)
theorem nkX1_nearestOf : okN mX1_nearestOf 2 := ⟨oX1_nearestOf, nX1, ⟨by decide +kernel, by decide +kernel, by decide +kernel⟩, by decide +kernel⟩
theorem vkX1_nearestOf : okV mX1_nearestOf := ⟨iX1_nearestOf, vX1_nearestOf⟩
abbrev mX1_nightsBright : MI := (yX1_nightsBright, cX1_nightsBright, 5, (some .int), 2, 63)
theorem nkX1_nightsBright : okN mX1_nightsBright 2 := ⟨oX1_nightsBright, nX1, ⟨by decide +kernel, by decide +kernel, by decide +kernel⟩, by decide +kernel⟩
theorem vkX1_nightsBright : okV mX1_nightsBright := ⟨iX1_nightsBright, vX1_nightsBright⟩
abbrev mX1_passNight : MI := (yX1_passNight, cX1_passNight, 1, none, 3, 85)
theorem nkX1_passNight : okN mX1_passNight 0 := ⟨oX1_passNight, nX1, ⟨by decide +kernel, by decide +kernel, by decide +kernel⟩, by decide +kernel⟩
theorem vkX1_passNight : okV mX1_passNight := ⟨iX1_passNight, vX1_passNight⟩
abbrev mX1_signsWith : MI := (yX1_signsWith, cX1_signsWith, 4, (some .int), 0, 0)
theorem nkX1_signsWith : okN mX1_signsWith 1 := ⟨oX1_signsWith, nX1, ⟨by decide +kernel, by decide +kernel, by decide +kernel⟩, by decide +kernel⟩
theorem vkX1_signsWith : okV mX1_signsWith := ⟨iX1_signsWith, vX1_signsWith⟩
abbrev mX1_spotsHeld : MI := (yX1_spotsHeld, cX1_spotsHeld, 3, (some .int), 0, 0)
theorem nkX1_spotsHeld : okN mX1_spotsHeld 0 := ⟨oX1_spotsHeld, nX1, ⟨by decide +kernel, by decide +kernel, by decide +kernel⟩, by decide +kernel⟩
theorem vkX1_spotsHeld : okV mX1_spotsHeld := ⟨iX1_spotsHeld, vX1_spotsHeld⟩
abbrev mX1_starRow : MI := (yX1_starRow, cX1_starRow, 2, (some (.array .int)), 0, 0)
theorem nkX1_starRow : okN mX1_starRow 1 := ⟨oX1_starRow, nX1, ⟨by decide +kernel, by decide +kernel, by decide +kernel⟩, by decide +kernel⟩
theorem vkX1_starRow : okV mX1_starRow := ⟨iX1_starRow, vX1_starRow⟩
abbrev mX1_wearDown : MI := (yX1_wearDown, cX1_wearDown, 3, none, 2, 63)
theorem nkX1_wearDown : okN mX1_wearDown 1 := ⟨oX1_wearDown, nX1, ⟨by decide +kernel, by decide +kernel, by decide +kernel⟩, by decide +kernel⟩
theorem vkX1_wearDown : okV mX1_wearDown := ⟨iX1_wearDown, vX1_wearDown⟩
abbrev mX1_wearOf : MI := (yX1_wearOf, cX1_wearOf, 6, (some .int), 0, 0)
theorem nkX1_wearOf : okN mX1_wearOf 3 := ⟨oX1_wearOf, nX1, ⟨by decide +kernel, by decide +kernel, by decide +kernel⟩, by decide +kernel⟩
theorem vkX1_wearOf : okV mX1_wearOf := ⟨iX1_wearOf, vX1_wearOf⟩
abbrev mX1_worthOf : MI := (yX1_worthOf, cX1_worthOf, 4, (some .int), 0, 0)
theorem nkX1_worthOf : okN mX1_worthOf 1 := ⟨oX1_worthOf, nX1, ⟨by decide +kernel, by decide +kernel, by decide +kernel⟩, by decide +kernel⟩
theorem vkX1_worthOf : okV mX1_worthOf := ⟨iX1_worthOf, vX1_worthOf⟩
abbrev mX2_advance : MI := (yX2_advance, cX2_advance, 1, none, 0, 0)
theorem nkX2_advance : okN mX2_advance 0 := ⟨oX2_advance, nX2, ⟨by decide +kernel, by decide +kernel, by decide +kernel⟩, by decide +kernel⟩
theorem vkX2_advance : okV mX2_advance := ⟨iX2_advance, vX2_advance⟩
abbrev mX2_append : MI := (yX2_append, cX2_append, 4, none, 0, 0)
theorem nkX2_append : okN mX2_append 2 := ⟨oX2_append, nX2, ⟨by decide +kernel, by decide +kernel, by decide +kernel⟩, by decide +kernel⟩
theorem vkX2_append : okV mX2_append := ⟨iX2_append, vX2_append⟩
abbrev mX2_init : MI := (yX2_init, cX2_init, 1, none, 1, 40)
theorem nkX2_init : okN mX2_init 0 := ⟨oX2_init, nX2, ⟨by decide +kernel, by decide +kernel, by decide +kernel⟩, by decide +kernel⟩
abbrev mX2_isWord : MI := (yX2_isWord, cX2_isWord, 3, (some .boolean), 4, 85)
theorem nkX2_isWord : okN mX2_isWord 1 := ⟨oX2_isWord, nX2, ⟨by decide +kernel, by decide +kernel, by decide +kernel⟩, by decide +kernel⟩
theorem vkX2_isWord : okV mX2_isWord := ⟨iX2_isWord, vX2_isWord⟩
abbrev mX2_rewind : MI := (yX2_rewind, cX2_rewind, 1, none, 1, 20)
theorem nkX2_rewind : okN mX2_rewind 0 := ⟨oX2_rewind, nX2, ⟨by decide +kernel, by decide +kernel, by decide +kernel⟩, by decide +kernel⟩
theorem vkX2_rewind : okV mX2_rewind := ⟨iX2_rewind, vX2_rewind⟩
abbrev mX3_init : MI := (yX3_init, cX3_init, 1, none, 2, 60)
theorem nkX3_init : okN mX3_init 0 := ⟨oX3_init, nX3, ⟨by decide +kernel, by decide +kernel, by decide +kernel⟩, by decide +kernel⟩
abbrev mX3_kindNamed : MI := (yX3_kindNamed, cX3_kindNamed, 1, (some .int), 5, 107)
theorem nkX3_kindNamed : okN mX3_kindNamed 0 := ⟨oX3_kindNamed, nX3, ⟨by decide +kernel, by decide +kernel, by decide +kernel⟩, by decide +kernel⟩
theorem vkX3_kindNamed : okV mX3_kindNamed := ⟨iX3_kindNamed, vX3_kindNamed⟩
abbrev mX3_number : MI := (yX3_number, cX3_number, 4, (some .int), 1, 20)
theorem nkX3_number : okN mX3_number 2 := ⟨oX3_number, nX3, ⟨by decide +kernel, by decide +kernel, by decide +kernel⟩, by decide +kernel⟩
theorem vkX3_number : okV mX3_number := ⟨iX3_number, vX3_number⟩
abbrev mX3_numberBehind : MI := (yX3_numberBehind, cX3_numberBehind, 4, (some .int), 5, 107)
theorem nkX3_numberBehind : okN mX3_numberBehind 3 := ⟨oX3_numberBehind, nX3, ⟨by decide +kernel, by decide +kernel, by decide +kernel⟩, by decide +kernel⟩
theorem vkX3_numberBehind : okV mX3_numberBehind := ⟨iX3_numberBehind, vX3_numberBehind⟩
abbrev mX3_readCrew : MI := (yX3_readCrew, cX3_readCrew, 5, (some .boolean), 6, 130)
theorem nkX3_readCrew : okN mX3_readCrew 1 := ⟨oX3_readCrew, nX3, ⟨by decide +kernel, by decide +kernel, by decide +kernel⟩, by decide +kernel⟩
theorem vkX3_readCrew : okV mX3_readCrew := ⟨iX3_readCrew, vX3_readCrew⟩
abbrev mX3_readInto : MI := (yX3_readInto, cX3_readInto, 3, (some .int), 8, 178)
theorem nkX3_readInto : okN mX3_readInto 1 := ⟨oX3_readInto, nX3, ⟨by decide +kernel, by decide +kernel, by decide +kernel⟩, by decide +kernel⟩
theorem vkX3_readInto : okV mX3_readInto := ⟨iX3_readInto, vX3_readInto⟩
abbrev mX3_readItem : MI := (yX3_readItem, cX3_readItem, 4, (some .boolean), 7, 155)
theorem nkX3_readItem : okN mX3_readItem 1 := ⟨oX3_readItem, nX3, ⟨by decide +kernel, by decide +kernel, by decide +kernel⟩, by decide +kernel⟩
theorem vkX3_readItem : okV mX3_readItem := ⟨iX3_readItem, vX3_readItem⟩
abbrev mX3_readSetting : MI := (yX3_readSetting, cX3_readSetting, 4, (some .boolean), 2, 43)
theorem nkX3_readSetting : okN mX3_readSetting 2 := ⟨oX3_readSetting, nX3, ⟨by decide +kernel, by decide +kernel, by decide +kernel⟩, by decide +kernel⟩
theorem vkX3_readSetting : okV mX3_readSetting := ⟨iX3_readSetting, vX3_readSetting⟩
abbrev mX3_readSign : MI := (yX3_readSign, cX3_readSign, 3, (some .boolean), 2, 43)
theorem nkX3_readSign : okN mX3_readSign 1 := ⟨oX3_readSign, nX3, ⟨by decide +kernel, by decide +kernel, by decide +kernel⟩, by decide +kernel⟩
theorem vkX3_readSign : okV mX3_readSign := ⟨iX3_readSign, vX3_readSign⟩
abbrev mX3_readStar : MI := (yX3_readStar, cX3_readStar, 6, (some .boolean), 6, 130)
theorem nkX3_readStar : okN mX3_readStar 2 := ⟨oX3_readStar, nX3, ⟨by decide +kernel, by decide +kernel, by decide +kernel⟩, by decide +kernel⟩
theorem vkX3_readStar : okV mX3_readStar := ⟨iX3_readStar, vX3_readStar⟩
abbrev mX3_settingNamed : MI := (yX3_settingNamed, cX3_settingNamed, 1, (some .int), 5, 107)
theorem nkX3_settingNamed : okN mX3_settingNamed 0 := ⟨oX3_settingNamed, nX3, ⟨by decide +kernel, by decide +kernel, by decide +kernel⟩, by decide +kernel⟩
theorem vkX3_settingNamed : okV mX3_settingNamed := ⟨iX3_settingNamed, vX3_settingNamed⟩
abbrev mX4_init : MI := (yX4_init, cX4_init, 1, none, 1, 40)
theorem nkX4_init : okN mX4_init 0 := ⟨oX4_init, nX4, ⟨by decide +kernel, by decide +kernel, by decide +kernel⟩, by decide +kernel⟩
abbrev mX4_insert : MI := (yX4_insert, cX4_insert, 5, none, 0, 0)
theorem nkX4_insert : okN mX4_insert 3 := ⟨oX4_insert, nX4, ⟨by decide +kernel, by decide +kernel, by decide +kernel⟩, by decide +kernel⟩
theorem vkX4_insert : okV mX4_insert := ⟨iX4_insert, vX4_insert⟩
abbrev mX4_standAt : MI := (yX4_standAt, cX4_standAt, 4, none, 1, 24)
theorem nkX4_standAt : okN mX4_standAt 2 := ⟨oX4_standAt, nX4, ⟨by decide +kernel, by decide +kernel, by decide +kernel⟩, by decide +kernel⟩
theorem vkX4_standAt : okV mX4_standAt := ⟨iX4_standAt, vX4_standAt⟩
abbrev mX4_stepsBy : MI := (yX4_stepsBy, cX4_stepsBy, 6, (some .int), 1, 40)
theorem nkX4_stepsBy : okN mX4_stepsBy 1 := ⟨oX4_stepsBy, nX4, ⟨by decide +kernel, by decide +kernel, by decide +kernel⟩, by decide +kernel⟩
theorem vkX4_stepsBy : okV mX4_stepsBy := ⟨iX4_stepsBy, vX4_stepsBy⟩
abbrev mX5_ahead : MI := (yX5_ahead, cX5_ahead, 3, (some .int), 3, 88)
theorem nkX5_ahead : okN mX5_ahead 2 := ⟨oX5_ahead, nX5, ⟨by decide +kernel, by decide +kernel, by decide +kernel⟩, by decide +kernel⟩
theorem vkX5_ahead : okV mX5_ahead := ⟨iX5_ahead, vX5_ahead⟩
abbrev mX5_apart : MI := (yX5_apart, cX5_apart, 3, (some .int), 2, 62)
theorem nkX5_apart : okN mX5_apart 2 := ⟨oX5_apart, nX5, ⟨by decide +kernel, by decide +kernel, by decide +kernel⟩, by decide +kernel⟩
theorem vkX5_apart : okV mX5_apart := ⟨iX5_apart, vX5_apart⟩
abbrev mX5_as : MI := (yX5_as, cX5_as, 4, (some .int), 2, 43)
theorem nkX5_as : okN mX5_as 2 := ⟨oX5_as, nX5, ⟨by decide +kernel, by decide +kernel, by decide +kernel⟩, by decide +kernel⟩
theorem vkX5_as : okV mX5_as := ⟨iX5_as, vX5_as⟩
abbrev mX5_best : MI := (yX5_best, cX5_best, 2, (some .int), 3, 90)
theorem nkX5_best : okN mX5_best 1 := ⟨oX5_best, nX5, ⟨by decide +kernel, by decide +kernel, by decide +kernel⟩, by decide +kernel⟩
theorem vkX5_best : okV mX5_best := ⟨iX5_best, vX5_best⟩
abbrev mX5_bestSet : MI := (yX5_bestSet, cX5_bestSet, 6, (some .int), 2, 65)
theorem nkX5_bestSet : okN mX5_bestSet 1 := ⟨oX5_bestSet, nX5, ⟨by decide +kernel, by decide +kernel, by decide +kernel⟩, by decide +kernel⟩
theorem vkX5_bestSet : okV mX5_bestSet := ⟨iX5_bestSet, vX5_bestSet⟩
abbrev mX5_bestWorth : MI := (yX5_bestWorth, cX5_bestWorth, 2, (some .int), 3, 90)
theorem nkX5_bestWorth : okN mX5_bestWorth 1 := ⟨oX5_bestWorth, nX5, ⟨by decide +kernel, by decide +kernel, by decide +kernel⟩, by decide +kernel⟩
theorem vkX5_bestWorth : okV mX5_bestWorth := ⟨iX5_bestWorth, vX5_bestWorth⟩
abbrev mX5_canShare : MI := (yX5_canShare, cX5_canShare, 4, (some .boolean), 2, 42)
theorem nkX5_canShare : okN mX5_canShare 3 := ⟨oX5_canShare, nX5, ⟨by decide +kernel, by decide +kernel, by decide +kernel⟩, by decide +kernel⟩
theorem vkX5_canShare : okV mX5_canShare := ⟨iX5_canShare, vX5_canShare⟩
abbrev mX5_change : MI := (yX5_change, cX5_change, 5, (some .int), 1, 23)
theorem nkX5_change : okN mX5_change 3 := ⟨oX5_change, nX5, ⟨by decide +kernel, by decide +kernel, by decide +kernel⟩, by decide +kernel⟩
theorem vkX5_change : okV mX5_change := ⟨iX5_change, vX5_change⟩
abbrev mX5_copy : MI := (yX5_copy, cX5_copy, 8, (some .int), 1, 40)
theorem nkX5_copy : okN mX5_copy 5 := ⟨oX5_copy, nX5, ⟨by decide +kernel, by decide +kernel, by decide +kernel⟩, by decide +kernel⟩
theorem vkX5_copy : okV mX5_copy := ⟨iX5_copy, vX5_copy⟩
abbrev mX5_copyLives : MI := (yX5_copyLives, cX5_copyLives, 1, none, 1, 40)
theorem nkX5_copyLives : okN mX5_copyLives 0 := ⟨oX5_copyLives, nX5, ⟨by decide +kernel, by decide +kernel, by decide +kernel⟩, by decide +kernel⟩
theorem vkX5_copyLives : okV mX5_copyLives := ⟨iX5_copyLives, vX5_copyLives⟩
abbrev mX5_count : MI := (yX5_count, cX5_count, 2, (some .int), 3, 67)
theorem nkX5_count : okN mX5_count 1 := ⟨oX5_count, nX5, ⟨by decide +kernel, by decide +kernel, by decide +kernel⟩, by decide +kernel⟩
theorem vkX5_count : okV mX5_count := ⟨iX5_count, vX5_count⟩
abbrev mX5_crew : MI := (yX5_crew, cX5_crew, 5, (some .int), 1, 23)
theorem nkX5_crew : okN mX5_crew 3 := ⟨oX5_crew, nX5, ⟨by decide +kernel, by decide +kernel, by decide +kernel⟩, by decide +kernel⟩
theorem vkX5_crew : okV mX5_crew := ⟨iX5_crew, vX5_crew⟩
abbrev mX5_crewOf : MI := (yX5_crewOf, cX5_crewOf, 4, (some .int), 1, 21)
theorem nkX5_crewOf : okN mX5_crewOf 2 := ⟨oX5_crewOf, nX5, ⟨by decide +kernel, by decide +kernel, by decide +kernel⟩, by decide +kernel⟩
theorem vkX5_crewOf : okV mX5_crewOf := ⟨iX5_crewOf, vX5_crewOf⟩
abbrev mX5_dark : MI := (yX5_dark, cX5_dark, 3, (some .int), 3, 85)
theorem nkX5_dark : okN mX5_dark 1 := ⟨oX5_dark, nX5, ⟨by decide +kernel, by decide +kernel, by decide +kernel⟩, by decide +kernel⟩
theorem vkX5_dark : okV mX5_dark := ⟨iX5_dark, vX5_dark⟩
abbrev mX5_drops : MI := (yX5_drops, cX5_drops, 5, (some .int), 4, 105)
theorem nkX5_drops : okN mX5_drops 1 := ⟨oX5_drops, nX5, ⟨by decide +kernel, by decide +kernel, by decide +kernel⟩, by decide +kernel⟩
theorem vkX5_drops : okV mX5_drops := ⟨iX5_drops, vX5_drops⟩
abbrev mX5_dustFor : MI := (yX5_dustFor, cX5_dustFor, 4, (some .int), 3, 88)
theorem nkX5_dustFor : okN mX5_dustFor 2 := ⟨oX5_dustFor, nX5, ⟨by decide +kernel, by decide +kernel, by decide +kernel⟩, by decide +kernel⟩
theorem vkX5_dustFor : okV mX5_dustFor := ⟨iX5_dustFor, vX5_dustFor⟩
abbrev mX5_feed : MI := (yX5_feed, cX5_feed, 3, (some .int), 1, 23)
theorem nkX5_feed : okN mX5_feed 2 := ⟨oX5_feed, nX5, ⟨by decide +kernel, by decide +kernel, by decide +kernel⟩, by decide +kernel⟩
theorem vkX5_feed : okV mX5_feed := ⟨iX5_feed, vX5_feed⟩
abbrev mX5_finding : MI := (yX5_finding, cX5_finding, 2, (some .int), 0, 0)
theorem nkX5_finding : okN mX5_finding 1 := ⟨oX5_finding, nX5, ⟨by decide +kernel, by decide +kernel, by decide +kernel⟩, by decide +kernel⟩
theorem vkX5_finding : okV mX5_finding := ⟨iX5_finding, vX5_finding⟩
abbrev mX5_firstShare : MI := (yX5_firstShare, cX5_firstShare, 8, (some .int), 3, 87)
theorem nkX5_firstShare : okN mX5_firstShare 3 := ⟨oX5_firstShare, nX5, ⟨by decide +kernel, by decide +kernel, by decide +kernel⟩, by decide +kernel⟩
theorem vkX5_firstShare : okV mX5_firstShare := ⟨iX5_firstShare, vX5_firstShare⟩
abbrev mX5_from : MI := (yX5_from, cX5_from, 7, (some .int), 2, 65)
theorem nkX5_from : okN mX5_from 2 := ⟨oX5_from, nX5, ⟨by decide +kernel, by decide +kernel, by decide +kernel⟩, by decide +kernel⟩
theorem vkX5_from : okV mX5_from := ⟨iX5_from, vX5_from⟩
abbrev mX5_go : MI := (yX5_go, cX5_go, 3, (some .int), 4, 105)
theorem nkX5_go : okN mX5_go 1 := ⟨oX5_go, nX5, ⟨by decide +kernel, by decide +kernel, by decide +kernel⟩, by decide +kernel⟩
theorem vkX5_go : okV mX5_go := ⟨iX5_go, vX5_go⟩
abbrev mX5_hold : MI := (yX5_hold, cX5_hold, 3, (some .int), 1, 21)
theorem nkX5_hold : okN mX5_hold 2 := ⟨oX5_hold, nX5, ⟨by decide +kernel, by decide +kernel, by decide +kernel⟩, by decide +kernel⟩
theorem vkX5_hold : okV mX5_hold := ⟨iX5_hold, vX5_hold⟩
abbrev mX5_image : MI := (yX5_image, cX5_image, 1, (some .int), 2, 61)
theorem nkX5_image : okN mX5_image 0 := ⟨oX5_image, nX5, ⟨by decide +kernel, by decide +kernel, by decide +kernel⟩, by decide +kernel⟩
theorem vkX5_image : okV mX5_image := ⟨iX5_image, vX5_image⟩
abbrev mX5_init : MI := (yX5_init, cX5_init, 2, none, 3, 80)
theorem nkX5_init : okN mX5_init 0 := ⟨oX5_init, nX5, ⟨by decide +kernel, by decide +kernel, by decide +kernel⟩, by decide +kernel⟩
abbrev mX5_isAsSheet : MI := (yX5_isAsSheet, cX5_isAsSheet, 7, (some .boolean), 2, 63)
theorem nkX5_isAsSheet : okN mX5_isAsSheet 3 := ⟨oX5_isAsSheet, nX5, ⟨by decide +kernel, by decide +kernel, by decide +kernel⟩, by decide +kernel⟩
theorem vkX5_isAsSheet : okV mX5_isAsSheet := ⟨iX5_isAsSheet, vX5_isAsSheet⟩
abbrev mX5_isBelow : MI := (yX5_isBelow, cX5_isBelow, 2, (some .boolean), 0, 0)
theorem nkX5_isBelow : okN mX5_isBelow 2 := ⟨oX5_isBelow, nX5, ⟨by decide +kernel, by decide +kernel, by decide +kernel⟩, by decide +kernel⟩
abbrev mX5_isSetOfStars : MI := (yX5_isSetOfStars, cX5_isSetOfStars, 2, (some .boolean), 1, 21)
theorem nkX5_isSetOfStars : okN mX5_isSetOfStars 1 := ⟨oX5_isSetOfStars, nX5, ⟨by decide +kernel, by decide +kernel, by decide +kernel⟩, by decide +kernel⟩
theorem vkX5_isSetOfStars : okV mX5_isSetOfStars := ⟨iX5_isSetOfStars, vX5_isSetOfStars⟩
abbrev mX5_isUnder : MI := (yX5_isUnder, cX5_isUnder, 4, (some .boolean), 1, 20)
theorem nkX5_isUnder : okN mX5_isUnder 2 := ⟨oX5_isUnder, nX5, ⟨by decide +kernel, by decide +kernel, by decide +kernel⟩, by decide +kernel⟩
abbrev mX5_isWithin : MI := (yX5_isWithin, cX5_isWithin, 2, (some .boolean), 0, 0)
theorem nkX5_isWithin : okN mX5_isWithin 2 := ⟨oX5_isWithin, nX5, ⟨by decide +kernel, by decide +kernel, by decide +kernel⟩, by decide +kernel⟩
abbrev mX5_judge : MI := (yX5_judge, cX5_judge, 9, (some .int), 2, 62)
theorem nkX5_judge : okN mX5_judge 1 := ⟨oX5_judge, nX5, ⟨by decide +kernel, by decide +kernel, by decide +kernel⟩, by decide +kernel⟩
theorem vkX5_judge : okV mX5_judge := ⟨iX5_judge, vX5_judge⟩
abbrev mX5_kindFor : MI := (yX5_kindFor, cX5_kindFor, 6, (some .int), 3, 87)
theorem nkX5_kindFor : okN mX5_kindFor 1 := ⟨oX5_kindFor, nX5, ⟨by decide +kernel, by decide +kernel, by decide +kernel⟩, by decide +kernel⟩
theorem vkX5_kindFor : okV mX5_kindFor := ⟨iX5_kindFor, vX5_kindFor⟩
abbrev mX5_kindOver : MI := (yX5_kindOver, cX5_kindOver, 1, (some .int), 0, 0)
theorem nkX5_kindOver : okN mX5_kindOver 1 := ⟨oX5_kindOver, nX5, ⟨by decide +kernel, by decide +kernel, by decide +kernel⟩, by decide +kernel⟩
abbrev mX5_kinds : MI := (yX5_kinds, cX5_kinds, 6, (some .int), 3, 89)
theorem nkX5_kinds : okN mX5_kinds 2 := ⟨oX5_kinds, nX5, ⟨by decide +kernel, by decide +kernel, by decide +kernel⟩, by decide +kernel⟩
theorem vkX5_kinds : okV mX5_kinds := ⟨iX5_kinds, vX5_kinds⟩
abbrev mX5_lackOfSheet : MI := (yX5_lackOfSheet, cX5_lackOfSheet, 2, (some .int), 1, 21)
theorem nkX5_lackOfSheet : okN mX5_lackOfSheet 1 := ⟨oX5_lackOfSheet, nX5, ⟨by decide +kernel, by decide +kernel, by decide +kernel⟩, by decide +kernel⟩
theorem vkX5_lackOfSheet : okV mX5_lackOfSheet := ⟨iX5_lackOfSheet, vX5_lackOfSheet⟩
abbrev mX5_lasts : MI := (yX5_lasts, cX5_lasts, 3, (some .int), 3, 87)
theorem nkX5_lasts : okN mX5_lasts 1 := ⟨oX5_lasts, nX5, ⟨by decide +kernel, by decide +kernel, by decide +kernel⟩, by decide +kernel⟩
theorem vkX5_lasts : okV mX5_lasts := ⟨iX5_lasts, vX5_lasts⟩
abbrev mX5_load : MI := (yX5_load, cX5_load, 6, (some .int), 2, 42)
theorem nkX5_load : okN mX5_load 1 := ⟨oX5_load, nX5, ⟨by decide +kernel, by decide +kernel, by decide +kernel⟩, by decide +kernel⟩
theorem vkX5_load : okV mX5_load := ⟨iX5_load, vX5_load⟩
abbrev mX5_longer : MI := (yX5_longer, cX5_longer, 4, (some .int), 4, 114)
theorem nkX5_longer : okN mX5_longer 3 := ⟨oX5_longer, nX5, ⟨by decide +kernel, by decide +kernel, by decide +kernel⟩, by decide +kernel⟩
theorem vkX5_longer : okV mX5_longer := ⟨iX5_longer, vX5_longer⟩
abbrev mX5_longerWay : MI := (yX5_longerWay, cX5_longerWay, 3, (some .int), 2, 65)
theorem nkX5_longerWay : okN mX5_longerWay 2 := ⟨oX5_longerWay, nX5, ⟨by decide +kernel, by decide +kernel, by decide +kernel⟩, by decide +kernel⟩
theorem vkX5_longerWay : okV mX5_longerWay := ⟨iX5_longerWay, vX5_longerWay⟩
abbrev mX5_may : MI := (yX5_may, cX5_may, 2, (some .int), 2, 42)
theorem nkX5_may : okN mX5_may 1 := ⟨oX5_may, nX5, ⟨by decide +kernel, by decide +kernel, by decide +kernel⟩, by decide +kernel⟩
theorem vkX5_may : okV mX5_may := ⟨iX5_may, vX5_may⟩
abbrev mX5_mends : MI := (yX5_mends, cX5_mends, 4, (some .int), 2, 62)
theorem nkX5_mends : okN mX5_mends 2 := ⟨oX5_mends, nX5, ⟨by decide +kernel, by decide +kernel, by decide +kernel⟩, by decide +kernel⟩
theorem vkX5_mends : okV mX5_mends := ⟨iX5_mends, vX5_mends⟩
abbrev mX5_now : MI := (yX5_now, cX5_now, 2, (some .int), 3, 67)
theorem nkX5_now : okN mX5_now 1 := ⟨oX5_now, nX5, ⟨by decide +kernel, by decide +kernel, by decide +kernel⟩, by decide +kernel⟩
theorem vkX5_now : okV mX5_now := ⟨iX5_now, vX5_now⟩
abbrev mX5_odds : MI := (yX5_odds, cX5_odds, 6, (some .long), 1, 24)
theorem nkX5_odds : okN mX5_odds 2 := ⟨oX5_odds, nX5, ⟨by decide +kernel, by decide +kernel, by decide +kernel⟩, by decide +kernel⟩
theorem vkX5_odds : okV mX5_odds := ⟨iX5_odds, vX5_odds⟩
abbrev mX5_of : MI := (yX5_of, cX5_of, 4, (some .int), 2, 44)
theorem nkX5_of : okN mX5_of 2 := ⟨oX5_of, nX5, ⟨by decide +kernel, by decide +kernel, by decide +kernel⟩, by decide +kernel⟩
theorem vkX5_of : okV mX5_of := ⟨iX5_of, vX5_of⟩
abbrev mX5_power : MI := (yX5_power, cX5_power, 5, (some .long), 0, 0)
theorem nkX5_power : okN mX5_power 2 := ⟨oX5_power, nX5, ⟨by decide +kernel, by decide +kernel, by decide +kernel⟩, by decide +kernel⟩
abbrev mX5_replaced : MI := (yX5_replaced, cX5_replaced, 4, (some .int), 0, 0)
theorem nkX5_replaced : okN mX5_replaced 3 := ⟨oX5_replaced, nX5, ⟨by decide +kernel, by decide +kernel, by decide +kernel⟩, by decide +kernel⟩
abbrev mX5_round : MI := (yX5_round, cX5_round, 3, (some .int), 2, 65)
theorem nkX5_round : okN mX5_round 2 := ⟨oX5_round, nX5, ⟨by decide +kernel, by decide +kernel, by decide +kernel⟩, by decide +kernel⟩
theorem vkX5_round : okV mX5_round := ⟨iX5_round, vX5_round⟩
abbrev mX5_seed : MI := (yX5_seed, cX5_seed, 3, (some .int), 0, 0)
theorem nkX5_seed : okN mX5_seed 1 := ⟨oX5_seed, nX5, ⟨by decide +kernel, by decide +kernel, by decide +kernel⟩, by decide +kernel⟩
theorem vkX5_seed : okV mX5_seed := ⟨iX5_seed, vX5_seed⟩
abbrev mX5_sees : MI := (yX5_sees, cX5_sees, 5, (some .int), 3, 88)
theorem nkX5_sees : okN mX5_sees 1 := ⟨oX5_sees, nX5, ⟨by decide +kernel, by decide +kernel, by decide +kernel⟩, by decide +kernel⟩
theorem vkX5_sees : okV mX5_sees := ⟨iX5_sees, vX5_sees⟩
abbrev mX5_set : MI := (yX5_set, cX5_set, 3, (some .int), 1, 23)
theorem nkX5_set : okN mX5_set 2 := ⟨oX5_set, nX5, ⟨by decide +kernel, by decide +kernel, by decide +kernel⟩, by decide +kernel⟩
theorem vkX5_set : okV mX5_set := ⟨iX5_set, vX5_set⟩
abbrev mX5_share : MI := (yX5_share, cX5_share, 4, (some .int), 4, 114)
theorem nkX5_share : okN mX5_share 3 := ⟨oX5_share, nX5, ⟨by decide +kernel, by decide +kernel, by decide +kernel⟩, by decide +kernel⟩
theorem vkX5_share : okV mX5_share := ⟨iX5_share, vX5_share⟩
abbrev mX5_sheet : MI := (yX5_sheet, cX5_sheet, 4, (some .int), 2, 45)
theorem nkX5_sheet : okN mX5_sheet 3 := ⟨oX5_sheet, nX5, ⟨by decide +kernel, by decide +kernel, by decide +kernel⟩, by decide +kernel⟩
theorem vkX5_sheet : okV mX5_sheet := ⟨iX5_sheet, vX5_sheet⟩
abbrev mX5_shine : MI := (yX5_shine, cX5_shine, 3, (some .int), 3, 85)
theorem nkX5_shine : okN mX5_shine 1 := ⟨oX5_shine, nX5, ⟨by decide +kernel, by decide +kernel, by decide +kernel⟩, by decide +kernel⟩
theorem vkX5_shine : okV mX5_shine := ⟨iX5_shine, vX5_shine⟩
abbrev mX5_sign : MI := (yX5_sign, cX5_sign, 2, (some .int), 2, 42)
theorem nkX5_sign : okN mX5_sign 1 := ⟨oX5_sign, nX5, ⟨by decide +kernel, by decide +kernel, by decide +kernel⟩, by decide +kernel⟩
theorem vkX5_sign : okV mX5_sign := ⟨iX5_sign, vX5_sign⟩
abbrev mX5_signOf : MI := (yX5_signOf, cX5_signOf, 2, (some .int), 1, 21)
theorem nkX5_signOf : okN mX5_signOf 1 := ⟨oX5_signOf, nX5, ⟨by decide +kernel, by decide +kernel, by decide +kernel⟩, by decide +kernel⟩
theorem vkX5_signOf : okV mX5_signOf := ⟨iX5_signOf, vX5_signOf⟩
abbrev mX5_star : MI := (yX5_star, cX5_star, 3, (some .int), 1, 24)
theorem nkX5_star : okN mX5_star 2 := ⟨oX5_star, nX5, ⟨by decide +kernel, by decide +kernel, by decide +kernel⟩, by decide +kernel⟩
theorem vkX5_star : okV mX5_star := ⟨iX5_star, vX5_star⟩
abbrev mX5_status : MI := (yX5_status, cX5_status, 4, (some .int), 1, 21)
theorem nkX5_status : okN mX5_status 1 := ⟨oX5_status, nX5, ⟨by decide +kernel, by decide +kernel, by decide +kernel⟩, by decide +kernel⟩
theorem vkX5_status : okV mX5_status := ⟨iX5_status, vX5_status⟩
abbrev mX5_steers : MI := (yX5_steers, cX5_steers, 3, (some .int), 3, 88)
theorem nkX5_steers : okN mX5_steers 1 := ⟨oX5_steers, nX5, ⟨by decide +kernel, by decide +kernel, by decide +kernel⟩, by decide +kernel⟩
theorem vkX5_steers : okV mX5_steers := ⟨iX5_steers, vX5_steers⟩
abbrev mX5_stepsBetween : MI := (yX5_stepsBetween, cX5_stepsBetween, 3, (some .int), 1, 40)
theorem nkX5_stepsBetween : okN mX5_stepsBetween 2 := ⟨oX5_stepsBetween, nX5, ⟨by decide +kernel, by decide +kernel, by decide +kernel⟩, by decide +kernel⟩
abbrev mX5_tear : MI := (yX5_tear, cX5_tear, 2, (some .int), 0, 0)
theorem nkX5_tear : okN mX5_tear 0 := ⟨oX5_tear, nX5, ⟨by decide +kernel, by decide +kernel, by decide +kernel⟩, by decide +kernel⟩
theorem vkX5_tear : okV mX5_tear := ⟨iX5_tear, vX5_tear⟩
abbrev mX5_tells : MI := (yX5_tells, cX5_tells, 7, (some .int), 1, 23)
theorem nkX5_tells : okN mX5_tells 1 := ⟨oX5_tells, nX5, ⟨by decide +kernel, by decide +kernel, by decide +kernel⟩, by decide +kernel⟩
theorem vkX5_tells : okV mX5_tells := ⟨iX5_tells, vX5_tells⟩
abbrev mX5_text : MI := (yX5_text, cX5_text, 2, (some .int), 9, 200)
theorem nkX5_text : okN mX5_text 0 := ⟨oX5_text, nX5, ⟨by decide +kernel, by decide +kernel, by decide +kernel⟩, by decide +kernel⟩
theorem vkX5_text : okV mX5_text := ⟨iX5_text, vX5_text⟩
abbrev mX5_told : MI := (yX5_told, cX5_told, 4, (some .int), 3, 67)
theorem nkX5_told : okN mX5_told 0 := ⟨oX5_told, nX5, ⟨by decide +kernel, by decide +kernel, by decide +kernel⟩, by decide +kernel⟩
theorem vkX5_told : okV mX5_told := ⟨iX5_told, vX5_told⟩
abbrev mX5_undo : MI := (yX5_undo, cX5_undo, 1, (some .int), 2, 61)
theorem nkX5_undo : okN mX5_undo 0 := ⟨oX5_undo, nX5, ⟨by decide +kernel, by decide +kernel, by decide +kernel⟩, by decide +kernel⟩
theorem vkX5_undo : okV mX5_undo := ⟨iX5_undo, vX5_undo⟩
abbrev mX5_uses : MI := (yX5_uses, cX5_uses, 4, (some .int), 3, 85)
theorem nkX5_uses : okN mX5_uses 1 := ⟨oX5_uses, nX5, ⟨by decide +kernel, by decide +kernel, by decide +kernel⟩, by decide +kernel⟩
theorem vkX5_uses : okV mX5_uses := ⟨iX5_uses, vX5_uses⟩
abbrev mX5_which : MI := (yX5_which, cX5_which, 5, (some .int), 3, 89)
theorem nkX5_which : okN mX5_which 1 := ⟨oX5_which, nX5, ⟨by decide +kernel, by decide +kernel, by decide +kernel⟩, by decide +kernel⟩
theorem vkX5_which : okV mX5_which := ⟨iX5_which, vX5_which⟩
abbrev mX5_wipe : MI := (yX5_wipe, cX5_wipe, 2, (some .int), 0, 0)
theorem nkX5_wipe : okN mX5_wipe 0 := ⟨oX5_wipe, nX5, ⟨by decide +kernel, by decide +kernel, by decide +kernel⟩, by decide +kernel⟩
theorem vkX5_wipe : okV mX5_wipe := ⟨iX5_wipe, vX5_wipe⟩
abbrev mX5_write : MI := (yX5_write, cX5_write, 5, (some .int), 2, 42)
theorem nkX5_write : okN mX5_write 3 := ⟨oX5_write, nX5, ⟨by decide +kernel, by decide +kernel, by decide +kernel⟩, by decide +kernel⟩
theorem vkX5_write : okV mX5_write := ⟨iX5_write, vX5_write⟩
abbrev mX6_above : MI := (yX6_above, cX6_above, 1, (some .int), 0, 0)
theorem nkX6_above : okN mX6_above 1 := ⟨oX6_above, nX6, ⟨by decide +kernel, by decide +kernel, by decide +kernel⟩, by decide +kernel⟩
abbrev mX6_addsSign : MI := (yX6_addsSign, cX6_addsSign, 2, none, 0, 0)
theorem nkX6_addsSign : okN mX6_addsSign 1 := ⟨oX6_addsSign, nX6, ⟨by decide +kernel, by decide +kernel, by decide +kernel⟩, by decide +kernel⟩
theorem vkX6_addsSign : okV mX6_addsSign := ⟨iX6_addsSign, vX6_addsSign⟩
abbrev mX6_addsStar : MI := (yX6_addsStar, cX6_addsStar, 4, none, 1, 23)
theorem nkX6_addsStar : okN mX6_addsStar 2 := ⟨oX6_addsStar, nX6, ⟨by decide +kernel, by decide +kernel, by decide +kernel⟩, by decide +kernel⟩
theorem vkX6_addsStar : okV mX6_addsStar := ⟨iX6_addsStar, vX6_addsStar⟩
abbrev mX6_ahead : MI := (yX6_ahead, cX6_ahead, 4, (some .int), 4, 88)
theorem nkX6_ahead : okN mX6_ahead 2 := ⟨oX6_ahead, nX6, ⟨by decide +kernel, by decide +kernel, by decide +kernel⟩, by decide +kernel⟩
theorem vkX6_ahead : okV mX6_ahead := ⟨iX6_ahead, vX6_ahead⟩
abbrev mX6_apart : MI := (yX6_apart, cX6_apart, 3, (some .int), 2, 43)
theorem nkX6_apart : okN mX6_apart 2 := ⟨oX6_apart, nX6, ⟨by decide +kernel, by decide +kernel, by decide +kernel⟩, by decide +kernel⟩
theorem vkX6_apart : okV mX6_apart := ⟨iX6_apart, vX6_apart⟩
abbrev mX6_apartOf : MI := (yX6_apartOf, cX6_apartOf, 3, (some .int), 1, 21)
theorem nkX6_apartOf : okN mX6_apartOf 2 := ⟨oX6_apartOf, nX6, ⟨by decide +kernel, by decide +kernel, by decide +kernel⟩, by decide +kernel⟩
abbrev mX6_as : MI := (yX6_as, cX6_as, 5, (some .int), 2, 42)
theorem nkX6_as : okN mX6_as 2 := ⟨oX6_as, nX6, ⟨by decide +kernel, by decide +kernel, by decide +kernel⟩, by decide +kernel⟩
theorem vkX6_as : okV mX6_as := ⟨iX6_as, vX6_as⟩
abbrev mX6_at : MI := (yX6_at, cX6_at, 2, (some .int), 0, 0)
theorem nkX6_at : okN mX6_at 1 := ⟨oX6_at, nX6, ⟨by decide +kernel, by decide +kernel, by decide +kernel⟩, by decide +kernel⟩
theorem vkX6_at : okV mX6_at := ⟨iX6_at, vX6_at⟩
abbrev mX6_best : MI := (yX6_best, cX6_best, 2, (some .int), 4, 96)
theorem nkX6_best : okN mX6_best 1 := ⟨oX6_best, nX6, ⟨by decide +kernel, by decide +kernel, by decide +kernel⟩, by decide +kernel⟩
theorem vkX6_best : okV mX6_best := ⟨iX6_best, vX6_best⟩
abbrev mX6_bestOf : MI := (yX6_bestOf, cX6_bestOf, 5, (some .int), 3, 72)
theorem nkX6_bestOf : okN mX6_bestOf 1 := ⟨oX6_bestOf, nX6, ⟨by decide +kernel, by decide +kernel, by decide +kernel⟩, by decide +kernel⟩
theorem vkX6_bestOf : okV mX6_bestOf := ⟨iX6_bestOf, vX6_bestOf⟩
abbrev mX6_bestShare : MI := (yX6_bestShare, cX6_bestShare, 9, (some .int), 4, 96)
theorem nkX6_bestShare : okN mX6_bestShare 3 := ⟨oX6_bestShare, nX6, ⟨by decide +kernel, by decide +kernel, by decide +kernel⟩, by decide +kernel⟩
theorem vkX6_bestShare : okV mX6_bestShare := ⟨iX6_bestShare, vX6_bestShare⟩
abbrev mX6_bestWorth : MI := (yX6_bestWorth, cX6_bestWorth, 2, (some .int), 4, 96)
theorem nkX6_bestWorth : okN mX6_bestWorth 1 := ⟨oX6_bestWorth, nX6, ⟨by decide +kernel, by decide +kernel, by decide +kernel⟩, by decide +kernel⟩
theorem vkX6_bestWorth : okV mX6_bestWorth := ⟨iX6_bestWorth, vX6_bestWorth⟩
abbrev mX6_bits : MI := (yX6_bits, cX6_bits, 3, (some .int), 0, 0)
theorem nkX6_bits : okN mX6_bits 1 := ⟨oX6_bits, nX6, ⟨by decide +kernel, by decide +kernel, by decide +kernel⟩, by decide +kernel⟩
abbrev mX6_canShare : MI := (yX6_canShare, cX6_canShare, 4, (some .boolean), 2, 43)
theorem nkX6_canShare : okN mX6_canShare 3 := ⟨oX6_canShare, nX6, ⟨by decide +kernel, by decide +kernel, by decide +kernel⟩, by decide +kernel⟩
theorem vkX6_canShare : okV mX6_canShare := ⟨iX6_canShare, vX6_canShare⟩
abbrev mX6_change : MI := (yX6_change, cX6_change, 5, (some .int), 2, 43)
theorem nkX6_change : okN mX6_change 3 := ⟨oX6_change, nX6, ⟨by decide +kernel, by decide +kernel, by decide +kernel⟩, by decide +kernel⟩
theorem vkX6_change : okV mX6_change := ⟨iX6_change, vX6_change⟩
abbrev mX6_copy : MI := (yX6_copy, cX6_copy, 7, (some .int), 2, 42)
theorem nkX6_copy : okN mX6_copy 5 := ⟨oX6_copy, nX6, ⟨by decide +kernel, by decide +kernel, by decide +kernel⟩, by decide +kernel⟩
theorem vkX6_copy : okV mX6_copy := ⟨iX6_copy, vX6_copy⟩
abbrev mX6_count : MI := (yX6_count, cX6_count, 4, (some .int), 4, 86)
theorem nkX6_count : okN mX6_count 1 := ⟨oX6_count, nX6, ⟨by decide +kernel, by decide +kernel, by decide +kernel⟩, by decide +kernel⟩
theorem vkX6_count : okV mX6_count := ⟨iX6_count, vX6_count⟩
abbrev mX6_crew : MI := (yX6_crew, cX6_crew, 5, (some .int), 2, 42)
theorem nkX6_crew : okN mX6_crew 3 := ⟨oX6_crew, nX6, ⟨by decide +kernel, by decide +kernel, by decide +kernel⟩, by decide +kernel⟩
theorem vkX6_crew : okV mX6_crew := ⟨iX6_crew, vX6_crew⟩
abbrev mX6_crewOf : MI := (yX6_crewOf, cX6_crewOf, 3, (some .int), 2, 42)
theorem nkX6_crewOf : okN mX6_crewOf 2 := ⟨oX6_crewOf, nX6, ⟨by decide +kernel, by decide +kernel, by decide +kernel⟩, by decide +kernel⟩
theorem vkX6_crewOf : okV mX6_crewOf := ⟨iX6_crewOf, vX6_crewOf⟩
abbrev mX6_dark : MI := (yX6_dark, cX6_dark, 3, (some .int), 4, 86)
theorem nkX6_dark : okN mX6_dark 1 := ⟨oX6_dark, nX6, ⟨by decide +kernel, by decide +kernel, by decide +kernel⟩, by decide +kernel⟩
theorem vkX6_dark : okV mX6_dark := ⟨iX6_dark, vX6_dark⟩
abbrev mX6_dimOf : MI := (yX6_dimOf, cX6_dimOf, 2, (some .int), 1, 22)
theorem nkX6_dimOf : okN mX6_dimOf 1 := ⟨oX6_dimOf, nX6, ⟨by decide +kernel, by decide +kernel, by decide +kernel⟩, by decide +kernel⟩
theorem vkX6_dimOf : okV mX6_dimOf := ⟨iX6_dimOf, vX6_dimOf⟩
abbrev mX6_dimsSo : MI := (yX6_dimsSo, cX6_dimsSo, 5, (some .boolean), 3, 66)
theorem nkX6_dimsSo : okN mX6_dimsSo 2 := ⟨oX6_dimsSo, nX6, ⟨by decide +kernel, by decide +kernel, by decide +kernel⟩, by decide +kernel⟩
theorem vkX6_dimsSo : okV mX6_dimsSo := ⟨iX6_dimsSo, vX6_dimsSo⟩
abbrev mX6_draw : MI := (yX6_draw, cX6_draw, 1, (some .int), 0, 0)
theorem nkX6_draw : okN mX6_draw 0 := ⟨oX6_draw, nX6, ⟨by decide +kernel, by decide +kernel, by decide +kernel⟩, by decide +kernel⟩
theorem vkX6_draw : okV mX6_draw := ⟨iX6_draw, vX6_draw⟩
abbrev mX6_drops : MI := (yX6_drops, cX6_drops, 5, (some .int), 3, 66)
theorem nkX6_drops : okN mX6_drops 1 := ⟨oX6_drops, nX6, ⟨by decide +kernel, by decide +kernel, by decide +kernel⟩, by decide +kernel⟩
theorem vkX6_drops : okV mX6_drops := ⟨iX6_drops, vX6_drops⟩
abbrev mX6_dustFor : MI := (yX6_dustFor, cX6_dustFor, 5, (some .int), 4, 88)
theorem nkX6_dustFor : okN mX6_dustFor 2 := ⟨oX6_dustFor, nX6, ⟨by decide +kernel, by decide +kernel, by decide +kernel⟩, by decide +kernel⟩
theorem vkX6_dustFor : okV mX6_dustFor := ⟨iX6_dustFor, vX6_dustFor⟩
abbrev mX6_feed : MI := (yX6_feed, cX6_feed, 4, (some .int), 1, 22)
theorem nkX6_feed : okN mX6_feed 2 := ⟨oX6_feed, nX6, ⟨by decide +kernel, by decide +kernel, by decide +kernel⟩, by decide +kernel⟩
theorem vkX6_feed : okV mX6_feed := ⟨iX6_feed, vX6_feed⟩
abbrev mX6_from : MI := (yX6_from, cX6_from, 5, (some .int), 3, 72)
theorem nkX6_from : okN mX6_from 2 := ⟨oX6_from, nX6, ⟨by decide +kernel, by decide +kernel, by decide +kernel⟩, by decide +kernel⟩
theorem vkX6_from : okV mX6_from := ⟨iX6_from, vX6_from⟩
abbrev mX6_get : MI := (yX6_get, cX6_get, 3, (some .int), 0, 0)
theorem nkX6_get : okN mX6_get 2 := ⟨oX6_get, nX6, ⟨by decide +kernel, by decide +kernel, by decide +kernel⟩, by decide +kernel⟩
theorem vkX6_get : okV mX6_get := ⟨iX6_get, vX6_get⟩
abbrev mX6_go : MI := (yX6_go, cX6_go, 2, (some .int), 4, 88)
theorem nkX6_go : okN mX6_go 1 := ⟨oX6_go, nX6, ⟨by decide +kernel, by decide +kernel, by decide +kernel⟩, by decide +kernel⟩
theorem vkX6_go : okV mX6_go := ⟨iX6_go, vX6_go⟩
abbrev mX6_greater : MI := (yX6_greater, cX6_greater, 2, (some .int), 0, 0)
theorem nkX6_greater : okN mX6_greater 2 := ⟨oX6_greater, nX6, ⟨by decide +kernel, by decide +kernel, by decide +kernel⟩, by decide +kernel⟩
abbrev mX6_greatest : MI := (yX6_greatest, cX6_greatest, 1, (some .int), 0, 0)
theorem nkX6_greatest : okN mX6_greatest 1 := ⟨oX6_greatest, nX6, ⟨by decide +kernel, by decide +kernel, by decide +kernel⟩, by decide +kernel⟩
abbrev mX6_hold : MI := (yX6_hold, cX6_hold, 3, (some .int), 2, 43)
theorem nkX6_hold : okN mX6_hold 2 := ⟨oX6_hold, nX6, ⟨by decide +kernel, by decide +kernel, by decide +kernel⟩, by decide +kernel⟩
theorem vkX6_hold : okV mX6_hold := ⟨iX6_hold, vX6_hold⟩
abbrev mX6_image : MI := (yX6_image, cX6_image, 2, (some .int), 0, 0)
theorem nkX6_image : okN mX6_image 0 := ⟨oX6_image, nX6, ⟨by decide +kernel, by decide +kernel, by decide +kernel⟩, by decide +kernel⟩
theorem vkX6_image : okV mX6_image := ⟨iX6_image, vX6_image⟩
abbrev mX6_in1 : MI := (yX6_in1, cX6_in1, 3, (some .boolean), 0, 0)
theorem nkX6_in1 : okN mX6_in1 3 := ⟨oX6_in1, nX6, ⟨by decide +kernel, by decide +kernel, by decide +kernel⟩, by decide +kernel⟩
abbrev mX6_init : MI := (yX6_init, cX6_init, 2, none, 1, 40)
theorem nkX6_init : okN mX6_init 0 := ⟨oX6_init, nX6, ⟨by decide +kernel, by decide +kernel, by decide +kernel⟩, by decide +kernel⟩
abbrev mX6_isCrew : MI := (yX6_isCrew, cX6_isCrew, 1, (some .boolean), 1, 22)
theorem nkX6_isCrew : okN mX6_isCrew 1 := ⟨oX6_isCrew, nX6, ⟨by decide +kernel, by decide +kernel, by decide +kernel⟩, by decide +kernel⟩
abbrev mX6_isDigit : MI := (yX6_isDigit, cX6_isDigit, 1, (some .boolean), 1, 22)
theorem nkX6_isDigit : okN mX6_isDigit 1 := ⟨oX6_isDigit, nX6, ⟨by decide +kernel, by decide +kernel, by decide +kernel⟩, by decide +kernel⟩
abbrev mX6_isIn : MI := (yX6_isIn, cX6_isIn, 2, (some .boolean), 0, 0)
theorem nkX6_isIn : okN mX6_isIn 2 := ⟨oX6_isIn, nX6, ⟨by decide +kernel, by decide +kernel, by decide +kernel⟩, by decide +kernel⟩
abbrev mX6_isLetter : MI := (yX6_isLetter, cX6_isLetter, 1, (some .boolean), 1, 22)
theorem nkX6_isLetter : okN mX6_isLetter 1 := ⟨oX6_isLetter, nX6, ⟨by decide +kernel, by decide +kernel, by decide +kernel⟩, by decide +kernel⟩
abbrev mX6_isPlace : MI := (yX6_isPlace, cX6_isPlace, 1, (some .boolean), 1, 22)
theorem nkX6_isPlace : okN mX6_isPlace 1 := ⟨oX6_isPlace, nX6, ⟨by decide +kernel, by decide +kernel, by decide +kernel⟩, by decide +kernel⟩
abbrev mX6_isSet : MI := (yX6_isSet, cX6_isSet, 2, (some .boolean), 1, 22)
theorem nkX6_isSet : okN mX6_isSet 1 := ⟨oX6_isSet, nX6, ⟨by decide +kernel, by decide +kernel, by decide +kernel⟩, by decide +kernel⟩
theorem vkX6_isSet : okV mX6_isSet := ⟨iX6_isSet, vX6_isSet⟩
abbrev mX6_isSheet : MI := (yX6_isSheet, cX6_isSheet, 1, (some .boolean), 1, 22)
theorem nkX6_isSheet : okN mX6_isSheet 1 := ⟨oX6_isSheet, nX6, ⟨by decide +kernel, by decide +kernel, by decide +kernel⟩, by decide +kernel⟩
abbrev mX6_isSign : MI := (yX6_isSign, cX6_isSign, 2, (some .boolean), 1, 22)
theorem nkX6_isSign : okN mX6_isSign 1 := ⟨oX6_isSign, nX6, ⟨by decide +kernel, by decide +kernel, by decide +kernel⟩, by decide +kernel⟩
theorem vkX6_isSign : okV mX6_isSign := ⟨iX6_isSign, vX6_isSign⟩
abbrev mX6_isSpot : MI := (yX6_isSpot, cX6_isSpot, 1, (some .boolean), 1, 22)
theorem nkX6_isSpot : okN mX6_isSpot 1 := ⟨oX6_isSpot, nX6, ⟨by decide +kernel, by decide +kernel, by decide +kernel⟩, by decide +kernel⟩
abbrev mX6_isStar : MI := (yX6_isStar, cX6_isStar, 2, (some .boolean), 1, 22)
theorem nkX6_isStar : okN mX6_isStar 1 := ⟨oX6_isStar, nX6, ⟨by decide +kernel, by decide +kernel, by decide +kernel⟩, by decide +kernel⟩
theorem vkX6_isStar : okV mX6_isStar := ⟨iX6_isStar, vX6_isStar⟩
abbrev mX6_judge : MI := (yX6_judge, cX6_judge, 9, (some .int), 3, 63)
theorem nkX6_judge : okN mX6_judge 1 := ⟨oX6_judge, nX6, ⟨by decide +kernel, by decide +kernel, by decide +kernel⟩, by decide +kernel⟩
theorem vkX6_judge : okV mX6_judge := ⟨iX6_judge, vX6_judge⟩
abbrev mX6_kindFor : MI := (yX6_kindFor, cX6_kindFor, 7, (some .int), 4, 88)
theorem nkX6_kindFor : okN mX6_kindFor 1 := ⟨oX6_kindFor, nX6, ⟨by decide +kernel, by decide +kernel, by decide +kernel⟩, by decide +kernel⟩
theorem vkX6_kindFor : okV mX6_kindFor := ⟨iX6_kindFor, vX6_kindFor⟩
abbrev mX6_kinds : MI := (yX6_kinds, cX6_kinds, 7, (some .int), 4, 90)
theorem nkX6_kinds : okN mX6_kinds 2 := ⟨oX6_kinds, nX6, ⟨by decide +kernel, by decide +kernel, by decide +kernel⟩, by decide +kernel⟩
theorem vkX6_kinds : okV mX6_kinds := ⟨iX6_kinds, vX6_kinds⟩
abbrev mX6_lasts : MI := (yX6_lasts, cX6_lasts, 3, (some .int), 4, 88)
theorem nkX6_lasts : okN mX6_lasts 1 := ⟨oX6_lasts, nX6, ⟨by decide +kernel, by decide +kernel, by decide +kernel⟩, by decide +kernel⟩
theorem vkX6_lasts : okV mX6_lasts := ⟨iX6_lasts, vX6_lasts⟩
abbrev mX6_lastsNow : MI := (yX6_lastsNow, cX6_lastsNow, 3, (some .int), 3, 66)
theorem nkX6_lastsNow : okN mX6_lastsNow 1 := ⟨oX6_lastsNow, nX6, ⟨by decide +kernel, by decide +kernel, by decide +kernel⟩, by decide +kernel⟩
theorem vkX6_lastsNow : okV mX6_lastsNow := ⟨iX6_lastsNow, vX6_lastsNow⟩
abbrev mX6_laysBack : MI := (yX6_laysBack, cX6_laysBack, 2, none, 0, 0)
theorem nkX6_laysBack : okN mX6_laysBack 0 := ⟨oX6_laysBack, nX6, ⟨by decide +kernel, by decide +kernel, by decide +kernel⟩, by decide +kernel⟩
theorem vkX6_laysBack : okV mX6_laysBack := ⟨iX6_laysBack, vX6_laysBack⟩
abbrev mX6_less : MI := (yX6_less, cX6_less, 2, (some .int), 0, 0)
theorem nkX6_less : okN mX6_less 2 := ⟨oX6_less, nX6, ⟨by decide +kernel, by decide +kernel, by decide +kernel⟩, by decide +kernel⟩
abbrev mX6_lives : MI := (yX6_lives, cX6_lives, 3, (some .int), 1, 22)
theorem nkX6_lives : okN mX6_lives 0 := ⟨oX6_lives, nX6, ⟨by decide +kernel, by decide +kernel, by decide +kernel⟩, by decide +kernel⟩
theorem vkX6_lives : okV mX6_lives := ⟨iX6_lives, vX6_lives⟩
abbrev mX6_load : MI := (yX6_load, cX6_load, 4, (some .int), 3, 63)
theorem nkX6_load : okN mX6_load 1 := ⟨oX6_load, nX6, ⟨by decide +kernel, by decide +kernel, by decide +kernel⟩, by decide +kernel⟩
theorem vkX6_load : okV mX6_load := ⟨iX6_load, vX6_load⟩
abbrev mX6_longer : MI := (yX6_longer, cX6_longer, 5, (some .int), 5, 124)
theorem nkX6_longer : okN mX6_longer 3 := ⟨oX6_longer, nX6, ⟨by decide +kernel, by decide +kernel, by decide +kernel⟩, by decide +kernel⟩
theorem vkX6_longer : okV mX6_longer := ⟨iX6_longer, vX6_longer⟩
abbrev mX6_longerOf : MI := (yX6_longerOf, cX6_longerOf, 5, (some .int), 3, 72)
theorem nkX6_longerOf : okN mX6_longerOf 4 := ⟨oX6_longerOf, nX6, ⟨by decide +kernel, by decide +kernel, by decide +kernel⟩, by decide +kernel⟩
theorem vkX6_longerOf : okV mX6_longerOf := ⟨iX6_longerOf, vX6_longerOf⟩
abbrev mX6_may : MI := (yX6_may, cX6_may, 2, (some .int), 2, 43)
theorem nkX6_may : okN mX6_may 1 := ⟨oX6_may, nX6, ⟨by decide +kernel, by decide +kernel, by decide +kernel⟩, by decide +kernel⟩
theorem vkX6_may : okV mX6_may := ⟨iX6_may, vX6_may⟩
abbrev mX6_mayBe : MI := (yX6_mayBe, cX6_mayBe, 4, (some .int), 0, 0)
theorem nkX6_mayBe : okN mX6_mayBe 1 := ⟨oX6_mayBe, nX6, ⟨by decide +kernel, by decide +kernel, by decide +kernel⟩, by decide +kernel⟩
theorem vkX6_mayBe : okV mX6_mayBe := ⟨iX6_mayBe, vX6_mayBe⟩
abbrev mX6_mends : MI := (yX6_mends, cX6_mends, 4, (some .int), 2, 43)
theorem nkX6_mends : okN mX6_mends 2 := ⟨oX6_mends, nX6, ⟨by decide +kernel, by decide +kernel, by decide +kernel⟩, by decide +kernel⟩
theorem vkX6_mends : okV mX6_mends := ⟨iX6_mends, vX6_mends⟩
abbrev mX6_nearest : MI := (yX6_nearest, cX6_nearest, 5, (some .int), 3, 64)
theorem nkX6_nearest : okN mX6_nearest 1 := ⟨oX6_nearest, nX6, ⟨by decide +kernel, by decide +kernel, by decide +kernel⟩, by decide +kernel⟩
theorem vkX6_nearest : okV mX6_nearest := ⟨iX6_nearest, vX6_nearest⟩
abbrev mX6_nextToken : MI := (yX6_nextToken, cX6_nextToken, 1, none, 2, 42)
theorem nkX6_nextToken : okN mX6_nextToken 0 := ⟨oX6_nextToken, nX6, ⟨by decide +kernel, by decide +kernel, by decide +kernel⟩, by decide +kernel⟩
theorem vkX6_nextToken : okV mX6_nextToken := ⟨iX6_nextToken, vX6_nextToken⟩
abbrev mX6_night : MI := (yX6_night, cX6_night, 2, none, 2, 45)
theorem nkX6_night : okN mX6_night 0 := ⟨oX6_night, nX6, ⟨by decide +kernel, by decide +kernel, by decide +kernel⟩, by decide +kernel⟩
theorem vkX6_night : okV mX6_night := ⟨iX6_night, vX6_night⟩
abbrev mX6_nights : MI := (yX6_nights, cX6_nights, 3, none, 3, 66)
theorem nkX6_nights : okN mX6_nights 1 := ⟨oX6_nights, nX6, ⟨by decide +kernel, by decide +kernel, by decide +kernel⟩, by decide +kernel⟩
theorem vkX6_nights : okV mX6_nights := ⟨iX6_nights, vX6_nights⟩
abbrev mX6_no : MI := (yX6_no, cX6_no, 2, (some .int), 0, 0)
theorem nkX6_no : okN mX6_no 1 := ⟨oX6_no, nX6, ⟨by decide +kernel, by decide +kernel, by decide +kernel⟩, by decide +kernel⟩
theorem vkX6_no : okV mX6_no := ⟨iX6_no, vX6_no⟩
abbrev mX6_now : MI := (yX6_now, cX6_now, 2, (some .int), 4, 86)
theorem nkX6_now : okN mX6_now 1 := ⟨oX6_now, nX6, ⟨by decide +kernel, by decide +kernel, by decide +kernel⟩, by decide +kernel⟩
theorem vkX6_now : okV mX6_now := ⟨iX6_now, vX6_now⟩
abbrev mX6_odds : MI := (yX6_odds, cX6_odds, 13, (some .long), 1, 22)
theorem nkX6_odds : okN mX6_odds 2 := ⟨oX6_odds, nX6, ⟨by decide +kernel, by decide +kernel, by decide +kernel⟩, by decide +kernel⟩
theorem vkX6_odds : okV mX6_odds := ⟨iX6_odds, vX6_odds⟩
abbrev mX6_of : MI := (yX6_of, cX6_of, 3, (some .int), 3, 64)
theorem nkX6_of : okN mX6_of 2 := ⟨oX6_of, nX6, ⟨by decide +kernel, by decide +kernel, by decide +kernel⟩, by decide +kernel⟩
theorem vkX6_of : okV mX6_of := ⟨iX6_of, vX6_of⟩
abbrev mX6_puts : MI := (yX6_puts, cX6_puts, 4, none, 0, 0)
theorem nkX6_puts : okN mX6_puts 3 := ⟨oX6_puts, nX6, ⟨by decide +kernel, by decide +kernel, by decide +kernel⟩, by decide +kernel⟩
theorem vkX6_puts : okV mX6_puts := ⟨iX6_puts, vX6_puts⟩
abbrev mX6_readsCrew : MI := (yX6_readsCrew, cX6_readsCrew, 4, (some .boolean), 4, 85)
theorem nkX6_readsCrew : okN mX6_readsCrew 0 := ⟨oX6_readsCrew, nX6, ⟨by decide +kernel, by decide +kernel, by decide +kernel⟩, by decide +kernel⟩
theorem vkX6_readsCrew : okV mX6_readsCrew := ⟨iX6_readsCrew, vX6_readsCrew⟩
abbrev mX6_readsItem : MI := (yX6_readsItem, cX6_readsItem, 4, (some .boolean), 5, 109)
theorem nkX6_readsItem : okN mX6_readsItem 0 := ⟨oX6_readsItem, nX6, ⟨by decide +kernel, by decide +kernel, by decide +kernel⟩, by decide +kernel⟩
theorem vkX6_readsItem : okV mX6_readsItem := ⟨iX6_readsItem, vX6_readsItem⟩
abbrev mX6_readsStar : MI := (yX6_readsStar, cX6_readsStar, 5, (some .boolean), 4, 85)
theorem nkX6_readsStar : okN mX6_readsStar 1 := ⟨oX6_readsStar, nX6, ⟨by decide +kernel, by decide +kernel, by decide +kernel⟩, by decide +kernel⟩
theorem vkX6_readsStar : okV mX6_readsStar := ⟨iX6_readsStar, vX6_readsStar⟩
abbrev mX6_round : MI := (yX6_round, cX6_round, 3, (some .int), 3, 72)
theorem nkX6_round : okN mX6_round 2 := ⟨oX6_round, nX6, ⟨by decide +kernel, by decide +kernel, by decide +kernel⟩, by decide +kernel⟩
theorem vkX6_round : okV mX6_round := ⟨iX6_round, vX6_round⟩
abbrev mX6_roundOf : MI := (yX6_roundOf, cX6_roundOf, 3, (some .int), 2, 50)
theorem nkX6_roundOf : okN mX6_roundOf 2 := ⟨oX6_roundOf, nX6, ⟨by decide +kernel, by decide +kernel, by decide +kernel⟩, by decide +kernel⟩
theorem vkX6_roundOf : okV mX6_roundOf := ⟨iX6_roundOf, vX6_roundOf⟩
abbrev mX6_seed : MI := (yX6_seed, cX6_seed, 3, (some .int), 0, 0)
theorem nkX6_seed : okN mX6_seed 1 := ⟨oX6_seed, nX6, ⟨by decide +kernel, by decide +kernel, by decide +kernel⟩, by decide +kernel⟩
theorem vkX6_seed : okV mX6_seed := ⟨iX6_seed, vX6_seed⟩
abbrev mX6_sees : MI := (yX6_sees, cX6_sees, 4, (some .int), 4, 88)
theorem nkX6_sees : okN mX6_sees 1 := ⟨oX6_sees, nX6, ⟨by decide +kernel, by decide +kernel, by decide +kernel⟩, by decide +kernel⟩
theorem vkX6_sees : okV mX6_sees := ⟨iX6_sees, vX6_sees⟩
abbrev mX6_set : MI := (yX6_set, cX6_set, 4, (some .int), 1, 22)
theorem nkX6_set : okN mX6_set 2 := ⟨oX6_set, nX6, ⟨by decide +kernel, by decide +kernel, by decide +kernel⟩, by decide +kernel⟩
theorem vkX6_set : okV mX6_set := ⟨iX6_set, vX6_set⟩
abbrev mX6_setsAside : MI := (yX6_setsAside, cX6_setsAside, 2, none, 0, 0)
theorem nkX6_setsAside : okN mX6_setsAside 0 := ⟨oX6_setsAside, nX6, ⟨by decide +kernel, by decide +kernel, by decide +kernel⟩, by decide +kernel⟩
theorem vkX6_setsAside : okV mX6_setsAside := ⟨iX6_setsAside, vX6_setsAside⟩
abbrev mX6_share : MI := (yX6_share, cX6_share, 4, (some .int), 5, 124)
theorem nkX6_share : okN mX6_share 3 := ⟨oX6_share, nX6, ⟨by decide +kernel, by decide +kernel, by decide +kernel⟩, by decide +kernel⟩
theorem vkX6_share : okV mX6_share := ⟨iX6_share, vX6_share⟩
abbrev mX6_sheet : MI := (yX6_sheet, cX6_sheet, 5, (some .int), 2, 42)
theorem nkX6_sheet : okN mX6_sheet 3 := ⟨oX6_sheet, nX6, ⟨by decide +kernel, by decide +kernel, by decide +kernel⟩, by decide +kernel⟩
theorem vkX6_sheet : okV mX6_sheet := ⟨iX6_sheet, vX6_sheet⟩
abbrev mX6_shine : MI := (yX6_shine, cX6_shine, 3, (some .int), 4, 88)
theorem nkX6_shine : okN mX6_shine 1 := ⟨oX6_shine, nX6, ⟨by decide +kernel, by decide +kernel, by decide +kernel⟩, by decide +kernel⟩
theorem vkX6_shine : okV mX6_shine := ⟨iX6_shine, vX6_shine⟩
abbrev mX6_shines : MI := (yX6_shines, cX6_shines, 2, (some .boolean), 2, 43)
theorem nkX6_shines : okN mX6_shines 1 := ⟨oX6_shines, nX6, ⟨by decide +kernel, by decide +kernel, by decide +kernel⟩, by decide +kernel⟩
theorem vkX6_shines : okV mX6_shines := ⟨iX6_shines, vX6_shines⟩
abbrev mX6_shining : MI := (yX6_shining, cX6_shining, 3, (some .int), 3, 64)
theorem nkX6_shining : okN mX6_shining 0 := ⟨oX6_shining, nX6, ⟨by decide +kernel, by decide +kernel, by decide +kernel⟩, by decide +kernel⟩
theorem vkX6_shining : okV mX6_shining := ⟨iX6_shining, vX6_shining⟩
abbrev mX6_sign : MI := (yX6_sign, cX6_sign, 2, (some .int), 2, 43)
theorem nkX6_sign : okN mX6_sign 1 := ⟨oX6_sign, nX6, ⟨by decide +kernel, by decide +kernel, by decide +kernel⟩, by decide +kernel⟩
theorem vkX6_sign : okV mX6_sign := ⟨iX6_sign, vX6_sign⟩
abbrev mX6_signOf : MI := (yX6_signOf, cX6_signOf, 2, (some .int), 2, 43)
theorem nkX6_signOf : okN mX6_signOf 1 := ⟨oX6_signOf, nX6, ⟨by decide +kernel, by decide +kernel, by decide +kernel⟩, by decide +kernel⟩
theorem vkX6_signOf : okV mX6_signOf := ⟨iX6_signOf, vX6_signOf⟩
abbrev mX6_star : MI := (yX6_star, cX6_star, 3, (some .int), 2, 46)
theorem nkX6_star : okN mX6_star 2 := ⟨oX6_star, nX6, ⟨by decide +kernel, by decide +kernel, by decide +kernel⟩, by decide +kernel⟩
theorem vkX6_star : okV mX6_star := ⟨iX6_star, vX6_star⟩
abbrev mX6_status : MI := (yX6_status, cX6_status, 4, (some .int), 1, 22)
theorem nkX6_status : okN mX6_status 1 := ⟨oX6_status, nX6, ⟨by decide +kernel, by decide +kernel, by decide +kernel⟩, by decide +kernel⟩
theorem vkX6_status : okV mX6_status := ⟨iX6_status, vX6_status⟩
abbrev mX6_steers : MI := (yX6_steers, cX6_steers, 3, (some .int), 4, 88)
theorem nkX6_steers : okN mX6_steers 1 := ⟨oX6_steers, nX6, ⟨by decide +kernel, by decide +kernel, by decide +kernel⟩, by decide +kernel⟩
theorem vkX6_steers : okV mX6_steers := ⟨iX6_steers, vX6_steers⟩
abbrev mX6_stepsOf : MI := (yX6_stepsOf, cX6_stepsOf, 2, (some .int), 0, 0)
theorem nkX6_stepsOf : okN mX6_stepsOf 1 := ⟨oX6_stepsOf, nX6, ⟨by decide +kernel, by decide +kernel, by decide +kernel⟩, by decide +kernel⟩
theorem vkX6_stepsOf : okV mX6_stepsOf := ⟨iX6_stepsOf, vX6_stepsOf⟩
abbrev mX6_takesNumber : MI := (yX6_takesNumber, cX6_takesNumber, 4, (some .int), 3, 62)
theorem nkX6_takesNumber : okN mX6_takesNumber 2 := ⟨oX6_takesNumber, nX6, ⟨by decide +kernel, by decide +kernel, by decide +kernel⟩, by decide +kernel⟩
theorem vkX6_takesNumber : okV mX6_takesNumber := ⟨iX6_takesNumber, vX6_takesNumber⟩
abbrev mX6_tear : MI := (yX6_tear, cX6_tear, 2, (some .int), 0, 0)
theorem nkX6_tear : okN mX6_tear 0 := ⟨oX6_tear, nX6, ⟨by decide +kernel, by decide +kernel, by decide +kernel⟩, by decide +kernel⟩
theorem vkX6_tear : okV mX6_tear := ⟨iX6_tear, vX6_tear⟩
abbrev mX6_tells : MI := (yX6_tells, cX6_tells, 5, (some .int), 2, 43)
theorem nkX6_tells : okN mX6_tells 1 := ⟨oX6_tells, nX6, ⟨by decide +kernel, by decide +kernel, by decide +kernel⟩, by decide +kernel⟩
theorem vkX6_tells : okV mX6_tells := ⟨iX6_tells, vX6_tells⟩
abbrev mX6_text : MI := (yX6_text, cX6_text, 3, (some .int), 6, 132)
theorem nkX6_text : okN mX6_text 0 := ⟨oX6_text, nX6, ⟨by decide +kernel, by decide +kernel, by decide +kernel⟩, by decide +kernel⟩
theorem vkX6_text : okV mX6_text := ⟨iX6_text, vX6_text⟩
abbrev mX6_told : MI := (yX6_told, cX6_told, 4, (some .int), 4, 86)
theorem nkX6_told : okN mX6_told 0 := ⟨oX6_told, nX6, ⟨by decide +kernel, by decide +kernel, by decide +kernel⟩, by decide +kernel⟩
theorem vkX6_told : okV mX6_told := ⟨iX6_told, vX6_told⟩
abbrev mX6_toldAt : MI := (yX6_toldAt, cX6_toldAt, 3, (some .int), 0, 0)
theorem nkX6_toldAt : okN mX6_toldAt 2 := ⟨oX6_toldAt, nX6, ⟨by decide +kernel, by decide +kernel, by decide +kernel⟩, by decide +kernel⟩
theorem vkX6_toldAt : okV mX6_toldAt := ⟨iX6_toldAt, vX6_toldAt⟩
abbrev mX6_undo : MI := (yX6_undo, cX6_undo, 2, (some .int), 1, 21)
theorem nkX6_undo : okN mX6_undo 0 := ⟨oX6_undo, nX6, ⟨by decide +kernel, by decide +kernel, by decide +kernel⟩, by decide +kernel⟩
theorem vkX6_undo : okV mX6_undo := ⟨iX6_undo, vX6_undo⟩
abbrev mX6_uses : MI := (yX6_uses, cX6_uses, 5, (some .int), 3, 66)
theorem nkX6_uses : okN mX6_uses 1 := ⟨oX6_uses, nX6, ⟨by decide +kernel, by decide +kernel, by decide +kernel⟩, by decide +kernel⟩
theorem vkX6_uses : okV mX6_uses := ⟨iX6_uses, vX6_uses⟩
abbrev mX6_walk : MI := (yX6_walk, cX6_walk, 9, (some .int), 1, 22)
theorem nkX6_walk : okN mX6_walk 2 := ⟨oX6_walk, nX6, ⟨by decide +kernel, by decide +kernel, by decide +kernel⟩, by decide +kernel⟩
theorem vkX6_walk : okV mX6_walk := ⟨iX6_walk, vX6_walk⟩
abbrev mX6_wearOf : MI := (yX6_wearOf, cX6_wearOf, 4, (some .int), 1, 22)
theorem nkX6_wearOf : okN mX6_wearOf 1 := ⟨oX6_wearOf, nX6, ⟨by decide +kernel, by decide +kernel, by decide +kernel⟩, by decide +kernel⟩
theorem vkX6_wearOf : okV mX6_wearOf := ⟨iX6_wearOf, vX6_wearOf⟩
abbrev mX6_which : MI := (yX6_which, cX6_which, 5, (some .int), 4, 90)
theorem nkX6_which : okN mX6_which 1 := ⟨oX6_which, nX6, ⟨by decide +kernel, by decide +kernel, by decide +kernel⟩, by decide +kernel⟩
theorem vkX6_which : okV mX6_which := ⟨iX6_which, vX6_which⟩
abbrev mX6_wipe : MI := (yX6_wipe, cX6_wipe, 2, (some .int), 0, 0)
theorem nkX6_wipe : okN mX6_wipe 0 := ⟨oX6_wipe, nX6, ⟨by decide +kernel, by decide +kernel, by decide +kernel⟩, by decide +kernel⟩
theorem vkX6_wipe : okV mX6_wipe := ⟨iX6_wipe, vX6_wipe⟩
abbrev mX6_wordOf : MI := (yX6_wordOf, cX6_wordOf, 7, (some .int), 0, 0)
theorem nkX6_wordOf : okN mX6_wordOf 1 := ⟨oX6_wordOf, nX6, ⟨by decide +kernel, by decide +kernel, by decide +kernel⟩, by decide +kernel⟩
theorem vkX6_wordOf : okV mX6_wordOf := ⟨iX6_wordOf, vX6_wordOf⟩
abbrev mX6_worthOf : MI := (yX6_worthOf, cX6_worthOf, 4, (some .int), 1, 22)
theorem nkX6_worthOf : okN mX6_worthOf 1 := ⟨oX6_worthOf, nX6, ⟨by decide +kernel, by decide +kernel, by decide +kernel⟩, by decide +kernel⟩
theorem vkX6_worthOf : okV mX6_worthOf := ⟨iX6_worthOf, vX6_worthOf⟩
abbrev mX6_write : MI := (yX6_write, cX6_write, 5, (some .int), 3, 63)
theorem nkX6_write : okN mX6_write 3 := ⟨oX6_write, nX6, ⟨by decide +kernel, by decide +kernel, by decide +kernel⟩, by decide +kernel⟩
theorem vkX6_write : okV mX6_write := ⟨iX6_write, vX6_write⟩
abbrev mX6_wrongSheet : MI := (yX6_wrongSheet, cX6_wrongSheet, 2, (some .int), 2, 42)
theorem nkX6_wrongSheet : okN mX6_wrongSheet 1 := ⟨oX6_wrongSheet, nX6, ⟨by decide +kernel, by decide +kernel, by decide +kernel⟩, by decide +kernel⟩
theorem vkX6_wrongSheet : okV mX6_wrongSheet := ⟨iX6_wrongSheet, vX6_wrongSheet⟩
def tabS (i : Int32) : Int32 := tabF i.toNatClampNeg
theorem t_tab {E : EV} {M : MI} {pc q : Nat} {lv : List (Nat × Value)} {st : List Value} {S : ST} {Q : Option Value → ST → Prop} {x : Int32} (hd : decode M.2.1 pc = .ok (.iaload, 1)) (hq : pc + 1 = q) (hx : vp_in x 4) (k : SS E M q lv (.int (tabS x) :: st) S Q) : SS E M pc lv (.int x :: .ref (eM E) :: st) S Q := s_oldld hd hq List.mem_cons_self hx k
def strB (j : Nat) : Bool := decide (j < kT.length)
def strN (j : Nat) : Int32 := Int32.ofNat (kLen.getD j 0)
def strI (j : Nat) (i : Int32) : Bool := inB i (kLen.getD j 0)
def strC (j : Nat) (i : Int32) : Int32 := (((kByt.getD j []).getD i.toNatClampNeg 0 &&& 255).toUInt32 % 65536).toInt32
theorem rc_str {E : EV} {h : List va_E} {j : Nat} (hj : strB j = true) : Rc E h (eK E j) "java/lang/String" := Or.inr ⟨rfl, j, of_decide_eq_true hj, rfl⟩
section STRS
variable {E : EV} {M : MI} {pc q i j : Nat} {lv : List (Nat × Value)} {st : List Value} {S : ST} {Q : Option Value → ST → Prop}
theorem x_val (hj : strB j = true) (hd : decode M.2.1 pc = .ok (.getfield i, 3)) (hq : pc + 3 = q) (hlk : Cond.fieldLink M.1.cls i "java/lang/String" "value" "[B" ∈ TB) (k : SS E M q lv (.ref (eV E j) :: st) S Q) : SS E M pc lv (.ref (eK E j) :: st) S Q := by
  intro p e R s m args below meth c C H locs cells slots ls hz hP hS hl hcc hss
  subst hq
  exact vk_getf C.x C.b ((C.old.2.2.1.1.1 j (of_decide_eq_true hj)).2.2.1) hS C.o (C.ts _ hlk) (fun _ h9 => h9) hd (k p e R s m args below meth c C H locs cells slots ls hz hP hS hl hcc hss)
theorem x_cod (hj : strB j = true) (hd : decode M.2.1 pc = .ok (.getfield i, 3)) (hq : pc + 3 = q) (hlk : Cond.fieldLink M.1.cls i "java/lang/String" "coder" "B" ∈ TB) (k : SS E M q lv (.int 0 :: st) S Q) : SS E M pc lv (.ref (eK E j) :: st) S Q := by
  intro p e R s m args below meth c C H locs cells slots ls hz hP hS hl hcc hss
  subst hq
  exact vk_getf C.x C.b ((C.old.2.2.1.1.1 j (of_decide_eq_true hj)).2.1) hS C.o (C.ts _ hlk) (fun _ h9 => h9) hd (k p e R s m args below meth c C H locs cells slots ls hz hP hS hl hcc hss)
theorem x_com (hd : decode M.2.1 pc = .ok (.getstatic i, 3)) (hq : pc + 3 = q) (hlk : Cond.fieldLink M.1.cls i "java/lang/String" "COMPACT_STRINGS" "Z" ∈ TB) (k : SS E M q lv (.int 1 :: st) S Q) : SS E M pc lv st S Q := by
  intro p e R s m args below meth c C H locs cells slots ls hz hP hS hl hcc hss
  subst hq
  exact va_gets C.x C.b C.old.2.2.2.1 hS C.o (C.ts _ hlk) (fun _ h9 => h9) hd (k p e R s m args below meth c C H locs cells slots ls hz hP hS hl hcc hss)
theorem x_fmt (hd : decode M.2.1 pc = .ok (.getstatic i, 3)) (hq : pc + 3 = q) (hlk : Cond.fieldLink M.1.cls i "jdk/internal/util/Preconditions" "SIOOBE_FORMATTER" "Ljava/util/function/BiFunction;" ∈ TB) (k : ∀ v : Value, (v = .null ∨ ∃ t, v = .ref t) → SS E M q lv (v :: st) S Q) : SS E M pc lv st S Q := by
  intro p e R s m args below meth c C H locs cells slots ls hz hP hS hl hcc hss
  subst hq
  rcases C.old.2.2.2.2 with hZ | ⟨t, hZ⟩
  · exact va_gets C.x C.b hZ hS C.o (C.ts _ hlk) (fun _ h9 => h9) hd (k .null (Or.inl rfl) p e R s m args below meth c C H locs cells slots ls hz hP hS hl hcc hss)
  · exact va_gets C.x C.b hZ hS C.o (C.ts _ hlk) (fun _ h9 => h9) hd (k (.ref t) (Or.inr ⟨t, rfl⟩) p e R s m args below meth c C H locs cells slots ls hz hP hS hl hcc hss)
theorem x_len (hj : strB j = true) (hd : decode M.2.1 pc = .ok (.arraylength, 1)) (hq : pc + 1 = q) (k : SS E M q lv (.int (strN j) :: st) S Q) : SS E M pc lv (.ref (eV E j) :: st) S Q := by
  intro p e R s m args below meth c C H locs cells slots ls hz hP hS hl hcc hss
  subst hq
  exact va_tlen C.x C.b ((C.old.2.2.1.1.1 j (of_decide_eq_true hj)).2.2.2) hS rfl hd (k p e R s m args below meth c C H locs cells slots ls hz hP hS hl hcc hss)
theorem x_bal {x : Int32} (hj : strB j = true) (hx : strI j x = true) (hd : decode M.2.1 pc = .ok (.baload, 1)) (hq : pc + 1 = q) (k : SS E M q lv (.int ((kByt.getD j []).getD x.toNatClampNeg 0) :: st) S Q) : SS E M pc lv (.int x :: .ref (eV E j) :: st) S Q := by
  intro p e R s m args below meth c C H locs cells slots ls hz hP hS hl hcc hss
  subst hq
  exact va_tb C.x C.b ((C.old.2.2.1.1.1 j (of_decide_eq_true hj)).2.2.2) hS (inB_in hx) rfl hd (k p e R s m args below meth c C H locs cells slots ls hz hP hS hl hcc hss)
end STRS
theorem T_coder (E : EV) {j : Nat} {S : ST} (hj : strB j = true) : SD E mJ0_coder_7d493 0 (lv_args 0 [.ref (eK E j)]) [] S (some (.int 0)) S := by
  refine x_com (q := 3) dJ0_coder_7d493_0 rfl fJ0_38 ?_
  refine s_if_eq (q := 6) (tgt := 13) dJ0_coder_7d493_3 rfl rfl (fun hb => absurd hb (by decide)) (fun _ => ?_)
  refine s_aload_n (q := 7) dJ0_coder_7d493_6 rfl rfl 0 rfl ?_
  refine x_cod (q := 10) hj dJ0_coder_7d493_7 rfl fJ0_15 ?_
  refine s_goto (tgt := 14) dJ0_coder_7d493_10 rfl ?_
  exact t_zret dJ0_coder_7d493_14 rfl rfl rfl
theorem T_latin (E : EV) {j : Nat} {S : ST} (hj : strB j = true) : SD E mJ0_isLatin1_aae02 0 (lv_args 0 [.ref (eK E j)]) [] S (some (.int 1)) S := by
  refine x_com (q := 3) dJ0_isLatin1_aae02_0 rfl fJ0_38 ?_
  refine s_if_eq (q := 6) (tgt := 17) dJ0_isLatin1_aae02_3 rfl rfl (fun hb => absurd hb (by decide)) (fun _ => ?_)
  refine s_aload_n (q := 7) dJ0_isLatin1_aae02_6 rfl rfl 0 rfl ?_
  refine x_cod (q := 10) hj dJ0_isLatin1_aae02_7 rfl fJ0_15 ?_
  refine s_if_ne (q := 13) (tgt := 17) dJ0_isLatin1_aae02_10 rfl rfl (fun hb => absurd rfl hb) (fun _ => ?_)
  refine s_iconst (q := 14) (v := 1) dJ0_isLatin1_aae02_13 rfl rfl ?_
  refine s_goto (tgt := 18) dJ0_isLatin1_aae02_14 rfl ?_
  exact t_zret dJ0_isLatin1_aae02_18 rfl rfl rfl
theorem T_pre (E : EV) {x n : Int32} {v : Value} {S : ST} (h0 : ¬ x < 0) (h1 : x < n) : SD E mJ3_checkIndex_8e157 0 (lv_args 0 [.int x, .int n, v]) [] S (some (.int x)) S := by
  refine s_iload_n (q := 1) dJ3_checkIndex_8e157_0 rfl rfl 0 rfl ?_
  refine s_if_lt (q := 4) (tgt := 9) dJ3_checkIndex_8e157_1 rfl rfl (fun hb => absurd hb h0) (fun _ => ?_)
  refine s_iload_n (q := 5) dJ3_checkIndex_8e157_4 rfl rfl 0 rfl ?_
  refine s_iload_n (q := 6) dJ3_checkIndex_8e157_5 rfl rfl 1 rfl ?_
  refine s_icmp_lt (q := 9) (tgt := 16) dJ3_checkIndex_8e157_6 rfl rfl (fun _ => ?_) (fun hb => absurd h1 hb)
  refine s_iload_n (q := 17) dJ3_checkIndex_8e157_16 rfl rfl 0 rfl ?_
  exact t_iret dJ3_checkIndex_8e157_17 rfl rfl
theorem T_chk (E : EV) {x n : Int32} {S : ST} (h0 : ¬ x < 0) (h1 : x < n) : SD E mJ0_checkIndex_df160 0 (lv_args 0 [.int x, .int n]) [] S none S := by
  refine s_iload_n (q := 1) dJ0_checkIndex_df160_0 rfl rfl 0 rfl ?_
  refine s_iload_n (q := 2) dJ0_checkIndex_df160_1 rfl rfl 1 rfl ?_
  refine x_fmt (q := 5) dJ0_checkIndex_df160_2 rfl fJ0_1053 (fun v hv => ?_)
  refine t_callS (q := 8) (N := mJ3_checkIndex_8e157) [.int x, .int n, v] dJ0_checkIndex_df160_5 rfl nkJ3_checkIndex_8e157 sJ3_checkIndex_8e157 lJ0_1059 ⟨Nat.le_of_ble_eq_true rfl, Nat.le_of_ble_eq_true rfl⟩ rfl rfl (by rcases hv with rfl | ⟨t, rfl⟩ <;> exact Nat.le_of_ble_eq_true rfl) (Nat.le_of_ble_eq_true rfl) (T_pre E h0 h1) ?_
  refine s_pop (q := 9) dJ0_checkIndex_df160_8 rfl rfl ?_
  exact t_vret dJ0_checkIndex_df160_9 rfl rfl
theorem strI_lt {j : Nat} {x : Int32} (hj : strB j = true) (hx : strI j x = true) : ¬ x < 0 ∧ x < strN j := by
  have h1 := vp_in_iff.mp (inB_in hx)
  have hn : kLen.getD j 0 < 2 ^ 31 := by
    have hl : j < 17 := of_decide_eq_true hj
    have key : ∀ j, j < 17 → kLen.getD j 0 < 2 ^ 31 := by decide
    exact key j hl
  refine ⟨?_, ?_⟩
  · intro h
    have := Int32.lt_iff_toInt_lt.mp h
    rw [show (0 : Int32).toInt = 0 from rfl] at this
    omega
  · apply Int32.lt_iff_toInt_lt.mpr
    rw [show (strN j).toInt = (kLen.getD j 0 : Nat) from nI_toInt hn]
    exact h1.2
theorem T_latch (E : EV) {j : Nat} {x : Int32} {S : ST} (hj : strB j = true) (hx : strI j x = true) : SD E mJ1_charAt_3b067 0 (lv_args 0 [.ref (eV E j), .int x]) [] S (some (.int (strC j x))) S := by
  obtain ⟨h0, h1⟩ := strI_lt hj hx
  refine s_iload_n (q := 1) dJ1_charAt_3b067_0 rfl rfl 1 rfl ?_
  refine s_aload_n (q := 2) dJ1_charAt_3b067_1 rfl rfl 0 rfl ?_
  refine x_len (q := 3) hj dJ1_charAt_3b067_2 rfl ?_
  refine t_callS (q := 6) (N := mJ0_checkIndex_df160) [.int x, .int (strN j)] dJ1_charAt_3b067_3 rfl nkJ0_checkIndex_df160 sJ0_checkIndex_df160 lJ1_9 ⟨Nat.le_of_ble_eq_true rfl, Nat.le_of_ble_eq_true rfl⟩ rfl rfl (Nat.le_of_ble_eq_true rfl) (Nat.le_of_ble_eq_true rfl) (T_chk E h0 h1) ?_
  refine s_aload_n (q := 7) dJ1_charAt_3b067_6 rfl rfl 0 rfl ?_
  refine s_iload_n (q := 8) dJ1_charAt_3b067_7 rfl rfl 1 rfl ?_
  refine x_bal (q := 9) hj hx dJ1_charAt_3b067_8 rfl ?_
  refine s_sipush (q := 12) (v := 255) dJ1_charAt_3b067_9 rfl rfl ?_
  refine s_iand (q := 13) dJ1_charAt_3b067_12 rfl ?_
  refine s_i2c (q := 14) dJ1_charAt_3b067_13 rfl ?_
  exact t_zret dJ1_charAt_3b067_14 rfl (pk_nc _) rfl
theorem shr_0 (x : Int32) : x >>> ((0 : Int32) &&& 31) = x := by
  rw [show ((0 : Int32) &&& 31) = 0 from rfl]
  apply Int32.toBitVec_inj.mp
  simp
theorem T_strlen (E : EV) {j : Nat} {S : ST} (hj : strB j = true) : SD E mJ0_length_8abf5 0 (lv_args 0 [.ref (eK E j)]) [] S (some (.int (strN j))) S := by
  refine s_aload_n (q := 1) dJ0_length_8abf5_0 rfl rfl 0 rfl ?_
  refine x_val (q := 4) hj dJ0_length_8abf5_1 rfl fJ0_9 ?_
  refine x_len (q := 5) hj dJ0_length_8abf5_4 rfl ?_
  refine s_aload_n (q := 6) dJ0_length_8abf5_5 rfl rfl 0 rfl ?_
  refine t_callV (q := 9) (N := mJ0_coder_7d493) (a := eK E j) [] dJ0_length_8abf5_6 rfl nkJ0_coder_7d493 vkJ0_coder_7d493 lJ0_335 ⟨Nat.le_of_ble_eq_true rfl, Nat.le_of_ble_eq_true rfl⟩ (rc_str hj) rfl rfl (Nat.le_of_ble_eq_true rfl) (Nat.le_of_ble_eq_true rfl) (T_coder E hj) ?_
  refine s_ishr (q := 10) dJ0_length_8abf5_9 rfl ?_
  rw [shr_0]
  exact t_iret dJ0_length_8abf5_10 rfl rfl
theorem T_strchar (E : EV) {j : Nat} {i : Int32} {S : ST} (hj : strB j = true) (hi : strI j i = true) : SD E mJ0_charAt_5068e 0 (lv_args 0 [.ref (eK E j), .int i]) [] S (some (.int (strC j i))) S := by
  refine s_aload_n (q := 1) dJ0_charAt_5068e_0 rfl rfl 0 rfl ?_
  refine t_callV (q := 4) (N := mJ0_isLatin1_aae02) (a := eK E j) [] dJ0_charAt_5068e_1 rfl nkJ0_isLatin1_aae02 vkJ0_isLatin1_aae02 lJ0_492 ⟨Nat.le_of_ble_eq_true rfl, Nat.le_of_ble_eq_true rfl⟩ (rc_str hj) rfl rfl (Nat.le_of_ble_eq_true rfl) (Nat.le_of_ble_eq_true rfl) (T_latin E hj) ?_
  refine s_if_eq (q := 7) (tgt := 16) dJ0_charAt_5068e_4 rfl rfl (fun hb => absurd hb (by decide)) (fun _ => ?_)
  refine s_aload_n (q := 8) dJ0_charAt_5068e_7 rfl rfl 0 rfl ?_
  refine x_val (q := 11) hj dJ0_charAt_5068e_8 rfl fJ0_9 ?_
  refine s_iload_n (q := 12) dJ0_charAt_5068e_11 rfl rfl 1 rfl ?_
  refine t_callS (q := 15) (N := mJ1_charAt_3b067) [.ref (eV E j), .int i] dJ0_charAt_5068e_12 rfl nkJ1_charAt_3b067 sJ1_charAt_3b067 lJ0_495 ⟨Nat.le_of_ble_eq_true rfl, Nat.le_of_ble_eq_true rfl⟩ rfl rfl (Nat.le_of_ble_eq_true rfl) (Nat.le_of_ble_eq_true rfl) (T_latch E hj hi) ?_
  exact t_zret dJ0_charAt_5068e_15 rfl (pk_nc _) rfl
