/-! THE STEADY STATE: the shape of all cells is fixed; what they hold is a function of cell and place (and one long) -/
abbrev ST : Type := (Nat → Nat → Int32) × Int64
/-- a cell's shape: an object (class, fields: 0 an int, 1 the long, t + 2 the cell t), an array of numbers (0 int, 1 byte, 2 char; length), the row of sheets -/
abbrev Shp : Type := (Nat × List Nat) ⊕ (Nat × Nat) ⊕ List Nat
def shp : List Shp := [.inl (5, [3, 13, 23, 0, 33, 36, 37, 40, 43, 44]), .inl (1, [0, 4, 5, 6, 7, 8, 9, 10, 0, 0, 11, 12, 0]), .inr (.inl (0, 10)), .inr (.inl (0, 10)), .inr (.inl (0, 10)), .inr (.inl (0, 10)), .inr (.inl (0, 4)), .inr (.inl (0, 4)), .inr (.inl (0, 4)), .inr (.inl (0, 6)), .inr (.inl (0, 10)), .inl (1, [0, 14, 15, 16, 17, 18, 19, 20, 0, 0, 21, 22, 0]), .inr (.inl (0, 10)), .inr (.inl (0, 10)), .inr (.inl (0, 10)), .inr (.inl (0, 10)), .inr (.inl (0, 4)), .inr (.inl (0, 4)), .inr (.inl (0, 4)), .inr (.inl (0, 6)), .inr (.inl (0, 10)), .inl (1, [0, 24, 25, 26, 27, 28, 29, 30, 0, 0, 31, 32, 0]), .inr (.inl (0, 10)), .inr (.inl (0, 10)), .inr (.inl (0, 10)), .inr (.inl (0, 10)), .inr (.inl (0, 4)), .inr (.inl (0, 4)), .inr (.inl (0, 4)), .inr (.inl (0, 6)), .inr (.inl (0, 10)), .inl (3, [34]), .inl (2, [35, 0, 0, 0, 0, 0]), .inr (.inl (1, 120)), .inr (.inr [43, 45, 47, 49]), .inl (4, [38, 39, 0, 0]), .inr (.inl (0, 10)), .inr (.inl (0, 10)), .inl (4, [41, 42, 0, 0]), .inr (.inl (0, 10)), .inr (.inl (0, 10)), .inr (.inl (0, 10)), .inr (.inl (0, 7)), .inl (0, [0, 0, 46]), .inr (.inl (0, 40)), .inl (0, [0, 0, 48]), .inr (.inl (0, 40)), .inl (0, [0, 0, 50]), .inr (.inl (0, 40)), .inl (0, [0, 0, 52]), .inr (.inl (0, 40)), .inl (6, [54, 55, 56, 0, 57, 58, 59, 0, 0, 0, 0, 1, 60, 61, 62, 63, 64, 65, 66, 67]), .inr (.inl (0, 72)), .inr (.inl (0, 72)), .inr (.inl (0, 72)), .inr (.inl (0, 7)), .inr (.inl (0, 11)), .inr (.inl (0, 120)), .inr (.inl (2, 56)), .inr (.inl (2, 24)), .inr (.inl (2, 16)), .inr (.inl (2, 48)), .inr (.inl (0, 4)), .inr (.inl (0, 4)), .inr (.inl (0, 160)), .inr (.inl (0, 40))]
def fval (E : EV) (S : ST) (k f t : Nat) : Value := match t with
  | 0 => .int (S.1 k f)
  | 1 => .long S.2
  | t + 2 => .ref (eB E + t)
def eTy (E : EV) (t : Nat) : ClassId := match t with
  | 0 => eI E
  | 1 => eY E
  | _ => eC E
def cellOf (E : EV) (S : ST) (k : Nat) (x : Shp) : va_E := match x with
  | .inl o => .inr (o.1, o.2.zipIdx.map (fun q => fval E S k q.2 q.1))
  | .inr (.inl a) => .inl (eTy E a.1, a.2, .inl (S.1 k))
  | .inr (.inr l) => .inl (eH E, l.length, .inr (.inr (.inr (.inr (fun i => (l[i]?).map (fun t => eB E + t))))))
def hC (E : EV) (S : ST) : List va_E := shp.zipIdx.map (fun x => cellOf E S x.2 x.1)
theorem hC_at {E : EV} {S : ST} {k : Nat} {x : Shp} (hk : shp[k]? = some x) : (hC E S)[k]? = some (cellOf E S k x) := by
  simp [hC, List.getElem?_map, List.getElem?_zipIdx, hk]
/-- numbers written -/
def wr (S : ST) (k i : Nat) (v : Int32) : ST := (fun c => if c = k then upd (S.1 c) i v else S.1 c, S.2)
def wL (S : ST) (v : Int64) : ST := (S.1, v)
def cpS (S : ST) (k0 k1 sp dp n : Nat) : ST := (fun c => if c = k1 then va_cpy (S.1 k0) (S.1 c) sp dp n else S.1 c, S.2)
theorem hC_len (E : EV) (S : ST) : (hC E S).length = shp.length := by simp [hC]
theorem hC_set {E : EV} {S S' : ST} {k : Nat} {x : Shp} (hk : shp[k]? = some x) (h1 : ∀ c, c ≠ k → S'.1 c = S.1 c) (h2 : S'.2 = S.2) : (hC E S).set k (cellOf E S' k x) = hC E S' := by
  apply List.ext_getElem?
  intro i
  have hl : k < shp.length := (List.getElem?_eq_some_iff.mp hk).1
  by_cases hi : k = i
  · subst hi
    rw [List.getElem?_set_self (by rw [hC_len]; exact hl), hC_at hk]
  · rw [List.getElem?_set_ne hi]
    cases hx : shp[i]? with
    | none =>
      have := List.getElem?_eq_none_iff.mp hx
      rw [List.getElem?_eq_none (by rw [hC_len]; exact this), List.getElem?_eq_none (by rw [hC_len]; exact this)]
    | some x' =>
      rw [hC_at hx, hC_at hx]
      have e1 : S'.1 i = S.1 i := h1 i (Ne.symm hi)
      rcases x' with o | a | l
      · simp only [cellOf, fval, e1, h2]
      · simp only [cellOf, e1]
      · rfl
theorem wr_ne {S : ST} {k i c : Nat} {v : Int32} (h : c ≠ k) : (wr S k i v).1 c = S.1 c := by simp [wr, h]
theorem wr_eq {S : ST} {k i : Nat} {v : Int32} : (wr S k i v).1 k = upd (S.1 k) i v := by simp [wr]
abbrev QS (E : EV) (Q : Option Value → ST → Prop) : Option Value → List va_E → Prop := fun v h' => ∃ S', h' = hC E S' ∧ Q v S'
abbrev SS (E : EV) (M : MI) (pc : Nat) (lv : List (Nat × Value)) (st : List Value) (S : ST) (Q : Option Value → ST → Prop) : Prop := SA E M false false 0 0 pc lv st (hC E S) (QS E Q)
/-- deterministic -/
abbrev SD (E : EV) (M : MI) (pc : Nat) (lv : List (Nat × Value)) (st : List Value) (S : ST) (v : Option Value) (S' : ST) : Prop := SS E M pc lv st S (fun v2 S2 => v2 = v ∧ S2 = S')
section TS
variable {E : EV} {M N : MI} {pc q n i : Nat} {lv : List (Nat × Value)} {st stk : List Value} {S S1 : ST} {Q : Option Value → ST → Prop}
theorem t_sub {lv' : List (Nat × Value)} (ks : List Nat) (hl' : lv_pick lv ks = lv') (k : SS E M pc lv' st S Q) : SS E M pc lv st S Q := fun p e R s m args below meth c C H locs cells slots ls hz hP hS hl hcc hss => k p e R s m args below meth c C H locs cells slots ls hz hP hS (lv_sub hl ks hl') hcc hss
theorem fl_get {E : EV} {S : ST} {k f t : Nat} {fl : List Nat} (h : fl[f]? = some t) : (fl.zipIdx.map (fun q => fval E S k q.2 q.1))[f]? = some (fval E S k f t) := by
  simp [List.getElem?_map, List.getElem?_zipIdx, h]
theorem t_getI {k f ci : Nat} {fl : List Nat} {Cn : String} {T : u_T} {v : Int32} (hd : decode M.2.1 pc = .ok (.getfield i, 3)) (hq : pc + 3 = q) (hs : shp[k]? = some (.inl (ci, fl))) (hf : fl[f]? = some 0) (hc : vwCl[ci]? = some (Cn, T, n)) (hin : ∀ w ∈ u_ws Cn T n, w ∈ TB) (hj : f < n) (hlk : Cond.fieldLink M.1.cls i (T f).1 (T f).2.1 (T f).2.2.1 ∈ TB) (hv : S.1 k f = v) (kk : SS E M q lv (.int v :: st) S Q) : SS E M pc lv (.ref (eB E + k) :: st) S Q := by
  subst hv
  exact s_getf hd hq (hC_at hs) hc hin hj hlk (fl_get hf) kk
theorem t_getL {k f ci : Nat} {fl : List Nat} {Cn : String} {T : u_T} {v : Int64} (hd : decode M.2.1 pc = .ok (.getfield i, 3)) (hq : pc + 3 = q) (hs : shp[k]? = some (.inl (ci, fl))) (hf : fl[f]? = some 1) (hc : vwCl[ci]? = some (Cn, T, n)) (hin : ∀ w ∈ u_ws Cn T n, w ∈ TB) (hj : f < n) (hlk : Cond.fieldLink M.1.cls i (T f).1 (T f).2.1 (T f).2.2.1 ∈ TB) (hv : S.2 = v) (kk : SS E M q lv (.long v :: st) S Q) : SS E M pc lv (.ref (eB E + k) :: st) S Q := by
  subst hv
  exact s_getf hd hq (hC_at hs) hc hin hj hlk (fl_get hf) kk
theorem t_getR {k f ci t : Nat} {fl : List Nat} {Cn : String} {T : u_T} (hd : decode M.2.1 pc = .ok (.getfield i, 3)) (hq : pc + 3 = q) (hs : shp[k]? = some (.inl (ci, fl))) (hf : fl[f]? = some (t + 2)) (hc : vwCl[ci]? = some (Cn, T, n)) (hin : ∀ w ∈ u_ws Cn T n, w ∈ TB) (hj : f < n) (hlk : Cond.fieldLink M.1.cls i (T f).1 (T f).2.1 (T f).2.2.1 ∈ TB) (kk : SS E M q lv (.ref (eB E + t) :: st) S Q) : SS E M pc lv (.ref (eB E + k) :: st) S Q :=
  s_getf hd hq (hC_at hs) hc hin hj hlk (fl_get hf) kk
theorem fl_set {E : EV} {S : ST} {k f : Nat} {fl : List Nat} {v : Int32} (h : fl[f]? = some 0) : (fl.zipIdx.map (fun q => fval E S k q.2 q.1)).set f (.int v) = fl.zipIdx.map (fun q => fval E (wr S k f v) k q.2 q.1) := by
  apply List.ext_getElem?
  intro j
  have hl : f < fl.length := (List.getElem?_eq_some_iff.mp h).1
  by_cases hj : f = j
  · subst hj
    rw [List.getElem?_set_self (by simpa using hl), fl_get h]
    simp [fval, wr, upd]
  · rw [List.getElem?_set_ne hj]
    cases hx : fl[j]? with
    | none =>
      have := List.getElem?_eq_none_iff.mp hx
      rw [List.getElem?_eq_none (by simpa using this), List.getElem?_eq_none (by simpa using this)]
    | some t =>
      rw [fl_get hx, fl_get hx]
      match t with
      | 0 => simp [fval, wr, upd, Ne.symm hj]
      | 1 => rfl
      | t + 2 => rfl
theorem nat3 (t : Nat) : t = 0 ∨ t = 1 ∨ 2 ≤ t := by omega
theorem t_putI {k f ci : Nat} {fl : List Nat} {Cn : String} {T : u_T} {ty0 : Nat → FieldType} {v : Int32} (hd : decode M.2.1 pc = .ok (.putfield i, 3)) (hq : pc + 3 = q) (hs : shp[k]? = some (.inl (ci, fl))) (hf : fl[f]? = some 0) (hc : vwCl[ci]? = some (Cn, T, n)) (hin : ∀ w ∈ u_ws Cn T n, w ∈ TB) (hty : ∀ k, k < n → parseFieldDescriptor (T k).2.2.1 = some (ty0 k)) (hnm : ∀ a, a < n → ∀ b, b < n → a ≠ b → (T a).2.1 ≠ (T b).2.1) (hj : f < n) (hlk : Cond.fieldLink M.1.cls i (T f).1 (T f).2.1 (T f).2.2.1 ∈ TB) (hfin : (T f).2.2.2 = false) (hn : narrow (ty0 f) (.int v) = .int v) (hfit : fits (ty0 f) (.int v) = true) (kk : SS E M q lv st (wr S k f v) Q) : SS E M pc lv (.int v :: .ref (eB E + k) :: st) S Q := by
  refine s_putf hd hq (hC_at hs) hc hin hty hnm hj hlk hfin hn hfit (by simpa using (List.getElem?_eq_some_iff.mp hf).1) ?_
  have e : (hC E S).set k (.inr (ci, (fl.zipIdx.map (fun q => fval E S k q.2 q.1)).set f (.int v))) = hC E (wr S k f v) := by
    rw [← hC_set (S' := wr S k f v) hs (fun c hc => wr_ne hc) rfl, fl_set hf]
    rfl
  rw [e]
  exact kk
theorem t_iald {k : Nat} {x v : Int32} (hd : decode M.2.1 pc = .ok (.iaload, 1)) (hq : pc + 1 = q) (hs : shp[k]? = some (.inr (.inl (0, n)))) (hx : vp_in x n) (hv : S.1 k x.toNatClampNeg = v) (kk : SS E M q lv (.int v :: st) S Q) : SS E M pc lv (.int x :: .ref (eB E + k) :: st) S Q := by
  subst hv
  exact s_iald hd hq (hC_at hs) hx kk
theorem t_bald {k : Nat} {x v : Int32} (hd : decode M.2.1 pc = .ok (.baload, 1)) (hq : pc + 1 = q) (hs : shp[k]? = some (.inr (.inl (1, n)))) (hx : vp_in x n) (hv : S.1 k x.toNatClampNeg = v) (kk : SS E M q lv (.int v :: st) S Q) : SS E M pc lv (.int x :: .ref (eB E + k) :: st) S Q := by
  subst hv
  exact s_bald hd hq (hC_at hs) hx kk
theorem t_cald {k : Nat} {x v : Int32} (hd : decode M.2.1 pc = .ok (.caload, 1)) (hq : pc + 1 = q) (hs : shp[k]? = some (.inr (.inl (2, n)))) (hx : vp_in x n) (hv : S.1 k x.toNatClampNeg = v) (kk : SS E M q lv (.int v :: st) S Q) : SS E M pc lv (.int x :: .ref (eB E + k) :: st) S Q := by
  subst hv
  exact s_cald hd hq (hC_at hs) hx kk
theorem t_alen {k t : Nat} {v : Int32} (hd : decode M.2.1 pc = .ok (.arraylength, 1)) (hq : pc + 1 = q) (hs : shp[k]? = some (.inr (.inl (t, n)))) (ht : t ≤ 2) (hv : Int32.ofNat n = v) (kk : SS E M q lv (.int v :: st) S Q) : SS E M pc lv (.ref (eB E + k) :: st) S Q := by
  match t, ht with
  | 0, _ => exact s_alen (t0 := 0) hd hq (hC_at hs) rfl hv kk
  | 1, _ => exact s_alen (t0 := 1) hd hq (hC_at hs) rfl hv kk
  | 2, _ => exact s_alen (t0 := 2) hd hq (hC_at hs) rfl hv kk
theorem hC_arr {k t : Nat} {g : Nat → Int32} {S' : ST} (hs : shp[k]? = some (.inr (.inl (t, n)))) (hg : S'.1 k = g) (h1 : ∀ c, c ≠ k → S'.1 c = S.1 c) (h2 : S'.2 = S.2) : (hC E S).set k (.inl (eTy E t, n, .inl g)) = hC E S' := by
  rw [← hC_set hs h1 h2]
  simp only [cellOf, hg]
theorem t_iast {k : Nat} {x v : Int32} (hd : decode M.2.1 pc = .ok (.iastore, 1)) (hq : pc + 1 = q) (hs : shp[k]? = some (.inr (.inl (0, n)))) (hx : vp_in x n) (kk : SS E M q lv st (wr S k x.toNatClampNeg v) Q) : SS E M pc lv (.int v :: .int x :: .ref (eB E + k) :: st) S Q := by
  refine s_iast hd hq (hC_at hs) hx ?_
  have e := hC_arr (E := E) (S := S) (S' := wr S k x.toNatClampNeg v) hs wr_eq (fun c hc => wr_ne hc) rfl
  rw [show (eTy E 0) = eI E from rfl] at e
  rw [e]
  exact kk
theorem t_bast {k : Nat} {x v : Int32} (hd : decode M.2.1 pc = .ok (.bastore, 1)) (hq : pc + 1 = q) (hs : shp[k]? = some (.inr (.inl (1, n)))) (hx : vp_in x n) (kk : SS E M q lv st (wr S k x.toNatClampNeg (vp_nar .byte v)) Q) : SS E M pc lv (.int v :: .int x :: .ref (eB E + k) :: st) S Q := by
  refine s_bast hd hq (hC_at hs) hx ?_
  have e := hC_arr (E := E) (S := S) (S' := wr S k x.toNatClampNeg (vp_nar .byte v)) hs wr_eq (fun c hc => wr_ne hc) rfl
  rw [show (eTy E 1) = eY E from rfl] at e
  rw [e]
  exact kk
theorem t_copy {k0 k1 n0 n1 : Nat} {sp dp w : Int32} (hd : decode M.2.1 pc = .ok (.invokestatic i, 3)) (hq : pc + 3 = q) (hlk : Cond.methodLink M.1.cls i arraycopyName ∈ TB) (hnat : Cond.native arraycopyName ∈ TB) (hst : Cond.static arraycopyName ∈ TB) (hini : Cond.initialized "java/lang/System" ∈ TB) (h0 : shp[k0]? = some (.inr (.inl (0, n0)))) (h1 : shp[k1]? = some (.inr (.inl (0, n1)))) (hsp : ¬ sp < 0) (hdp : ¬ dp < 0) (hw : ¬ w < 0) (h4 : sp.toNatClampNeg + w.toNatClampNeg ≤ n0) (h5 : dp.toNatClampNeg + w.toNatClampNeg ≤ n1) (hfr : 1 ≤ M.2.2.2.2.1) (hlo : (st.map fun v => v.category).sum + (nativeFrameWords "java/lang/System" "arraycopy" 5 + 11) ≤ M.2.2.2.2.2)
    (kk : SS E M q lv st (cpS S k0 k1 sp.toNatClampNeg dp.toNatClampNeg w.toNatClampNeg) Q) : SS E M pc lv (.int w :: .int dp :: .ref (eB E + k1) :: .int sp :: .ref (eB E + k0) :: st) S Q := by
  refine s_copy hd hq hlk hnat hst hini (hC_at h0) (hC_at h1) hsp hdp hw h4 h5 hfr hlo ?_
  have e := hC_arr (E := E) (S := S) (S' := cpS S k0 k1 sp.toNatClampNeg dp.toNatClampNeg w.toNatClampNeg) (g := va_cpy (S.1 k0) (S.1 k1) sp.toNatClampNeg dp.toNatClampNeg w.toNatClampNeg) h1 (by simp [cpS]) (fun c hc => by simp [cpS, hc]) rfl
  rw [show (eTy E 0) = eI E from rfl] at e
  rw [e]
  exact kk
theorem t_iret {v : Int32} {S' : ST} (hd : decode M.2.1 pc = .ok (.ireturn, 1)) (hr : M.2.2.2.1 = some .int) (hS : S = S') : SD E M pc lv [.int v] S (some (.int v)) S' := s_iret hd hr (fun h => h) ⟨S, rfl, rfl, hS⟩
theorem t_zret {v : Int32} {ty : FieldType} {S' : ST} (hd : decode M.2.1 pc = .ok (.ireturn, 1)) (hr : M.2.2.2.1 = some ty) (hn : narrow ty (.int v) = .int v) (hS : S = S') : SD E M pc lv [.int v] S (some (.int v)) S' := s_zret hd hr hn (fun h => h) ⟨S, rfl, rfl, hS⟩
theorem t_lret {v : Int64} {S' : ST} (hd : decode M.2.1 pc = .ok (.lreturn, 1)) (hr : M.2.2.2.1 = some .long) (hS : S = S') : SD E M pc lv [.long v] S (some (.long v)) S' := s_lret hd hr (fun h => h) ⟨S, rfl, rfl, hS⟩
theorem t_vret {S' : ST} (hd : decode M.2.1 pc = .ok (.return_, 1)) (hr : M.2.2.2.1 = none) (hS : S = S') : SD E M pc lv [] S none S' := s_vret hd hr (fun h => h) ⟨S, rfl, rfl, hS⟩
theorem t_aret {v : Value} {rt : FieldType} {S' : ST} (hd : decode M.2.1 pc = .ok (.areturn, 1)) (hr : M.2.2.2.1 = some rt) (hrt : (∃ n, rt = .object n) ∨ ∃ t, rt = .array t) (hv : v = .null ∨ ∃ a, v = .ref a) (hS : S = S') : SD E M pc lv [v] S (some v) S' := s_aret hd hr hrt hv (fun h => h) ⟨S, rfl, rfl, hS⟩
theorem sd_go {N : MI} {rv : Option Value} {Q' : Option Value → List va_E → Prop} {lv0 : List (Nat × Value)} (hT : SD E N 0 lv0 [] S rv S1) (k : Q' rv (hC E S1)) : SA E N false false 0 0 0 lv0 [] (hC E S) Q' := hT.mono (fun v h' hx => by
  obtain ⟨S2, e1, e2, e3⟩ := hx
  rw [e1, e2, e3]
  exact k)
theorem t_callV {a : Nat} {rv : Option Value} (As : List Value) (hd : decode M.2.1 pc = .ok (.invokevirtual i, 3)) (hq : pc + 3 = q) (hN : okN N n) (hV : okV N) (hlk : Cond.methodLink M.1.cls i N.1 ∈ TB) (hR : okR M N) (hrc : Rc E (hC E S) a N.1.cls) (hn : As.length = n) (hst : stk = As.reverse ++ .ref a :: st) (hlg : (lg_sl (.ref a :: As)).length ≤ N.2.2.1) (h8 : (st.map fun v => v.category).sum ≤ 8)
    (hT : SD E N 0 (lv_args 0 (.ref a :: As)) [] S rv S1) (kk : SS E M q lv (rv.toList ++ st) S1 Q) : SS E M pc lv stk S Q :=
  s_callV (mc := 0) (ms := 0) (mc1 := 0) (ms1 := 0) As hd hq hN hV hlk hR hrc hn hst hlg h8 (sd_go hT kk)
theorem t_callS {rv : Option Value} (As : List Value) (hd : decode M.2.1 pc = .ok (.invokestatic i, 3)) (hq : pc + 3 = q) (hN : okN N n) (hV : Cond.static N.1 ∈ TB) (hlk : Cond.methodLink M.1.cls i N.1 ∈ TB) (hR : okR M N) (hn : As.length = n) (hst : stk = As.reverse ++ st) (hlg : (lg_sl As).length ≤ N.2.2.1) (h8 : (st.map fun v => v.category).sum ≤ 8)
    (hT : SD E N 0 (lv_args 0 As) [] S rv S1) (kk : SS E M q lv (rv.toList ++ st) S1 Q) : SS E M pc lv stk S Q :=
  s_callS (mc := 0) (ms := 0) (mc1 := 0) (ms1 := 0) As hd hq hN hV hlk hR hn hst hlg h8 (sd_go hT kk)
theorem t_callSN {rv : Option Value} {host : String} (As : List Value) (hd : decode M.2.1 pc = .ok (.invokestatic i, 3)) (hq : pc + 3 = q) (hN : okN N n) (hV : Cond.static N.1 ∈ TB) (hlk : Cond.methodLinkNest M.1.cls i N.1 host ∈ NB) (hR : okR M N) (hn : As.length = n) (hst : stk = As.reverse ++ st) (hlg : (lg_sl As).length ≤ N.2.2.1) (h8 : (st.map fun v => v.category).sum ≤ 8)
    (hT : SD E N 0 (lv_args 0 As) [] S rv S1) (kk : SS E M q lv (rv.toList ++ st) S1 Q) : SS E M pc lv stk S Q :=
  s_callSN (mc := 0) (ms := 0) (mc1 := 0) (ms1 := 0) As hd hq hN hV hlk hR hn hst hlg h8 (sd_go hT kk)
theorem rc_obj {k ci : Nat} {fl : List Nat} {Cn : String} {T : u_T} (hs : shp[k]? = some (.inl (ci, fl))) (hc : vwCl[ci]? = some (Cn, T, n)) : Rc E (hC E S) (eB E + k) Cn := Or.inl ⟨k, ci, _, T, n, rfl, hC_at hs, hc⟩
end TS
def inB (i : Int32) (n : Nat) : Bool := decide (¬ (i < 0 ∨ n ≤ i.toNatClampNeg))
theorem inB_in {i : Int32} {n : Nat} (h : inB i n = true) : vp_in i n := by
  unfold inB at h
  exact of_decide_eq_true (p := ¬ (i < 0 ∨ n ≤ i.toNatClampNeg)) h
theorem shp_long : ∀ (j : Nat) (o : Nat × List Nat), shp[j]? = some (.inl o) → j ≠ 51 → 1 ∉ o.2 := by
  intro j o hj hne
  have hl := (List.getElem?_eq_some_iff.mp hj).1
  have key : ∀ j, j < 66 → j ≠ 51 → (match shp[j]? with | some (Sum.inl o) => decide (1 ∉ o.2) | _ => true) = true := by decide +kernel
  have h1 := key j hl hne
  rw [hj] at h1
  exact of_decide_eq_true h1
theorem hC_long {E : EV} {S : ST} {v : Int64} : (hC E S).set 51 (cellOf E (wL S v) 51 (.inl (6, [54, 55, 56, 0, 57, 58, 59, 0, 0, 0, 0, 1, 60, 61, 62, 63, 64, 65, 66, 67]))) = hC E (wL S v) := by
  apply List.ext_getElem?
  intro i
  have hk : shp[51]? = some (.inl (6, [54, 55, 56, 0, 57, 58, 59, 0, 0, 0, 0, 1, 60, 61, 62, 63, 64, 65, 66, 67])) := rfl
  by_cases hi : 51 = i
  · subst hi
    rw [List.getElem?_set_self (by rw [hC_len]; decide), hC_at hk]
  · rw [List.getElem?_set_ne hi]
    cases hx : shp[i]? with
    | none =>
      have := List.getElem?_eq_none_iff.mp hx
      rw [List.getElem?_eq_none (by rw [hC_len]; exact this), List.getElem?_eq_none (by rw [hC_len]; exact this)]
    | some x' =>
      rw [hC_at hx, hC_at hx]
      rcases x' with o | a | l
      · have hno := shp_long i o hx (Ne.symm hi)
        have e : o.2.zipIdx.map (fun q => fval E S i q.2 q.1) = o.2.zipIdx.map (fun q => fval E (wL S v) i q.2 q.1) := by
          apply List.map_congr_left
          intro q hq
          have hm : q.1 ∈ o.2 := by
            obtain ⟨a, b⟩ := q
            exact List.fst_mem_of_mem_zipIdx hq
          match hq1 : q.1 with
          | 0 => rfl
          | 1 => rw [hq1] at hm; exact absurd hm hno
          | t + 2 => rfl
        simp only [cellOf, e]
      · rfl
      · rfl
section TL
variable {E : EV} {M : MI} {pc q i : Nat} {lv : List (Nat × Value)} {st : List Value} {S : ST} {Q : Option Value → ST → Prop}
theorem t_putL {v : Int64} (hin : ∀ w ∈ u_ws RX6 TX6 20, w ∈ TB) (hd : decode M.2.1 pc = .ok (.putfield i, 3)) (hq : pc + 3 = q) (hlk : Cond.fieldLink M.1.cls i (TX6 11).1 (TX6 11).2.1 (TX6 11).2.2.1 ∈ TB) (kk : SS E M q lv st (wL S v) Q) : SS E M pc lv (.long v :: .ref (eB E + 51) :: st) S Q := by
  refine s_putf (k0 := 51) (ci := 6) (ty0 := tyX6) hd hq (hC_at (x := .inl (6, [54, 55, 56, 0, 57, 58, 59, 0, 0, 0, 0, 1, 60, 61, 62, 63, 64, 65, 66, 67])) rfl) rfl hin tyX6_ok nmX6 (j := 11) (by decide) hlk rfl rfl rfl (Nat.le_of_ble_eq_true rfl) ?_
  have e : (hC E S).set 51 (.inr (6, (List.map (fun q => fval E S 51 q.2 q.1) (List.zipIdx [54, 55, 56, 0, 57, 58, 59, 0, 0, 0, 0, 1, 60, 61, 62, 63, 64, 65, 66, 67])).set 11 (.long v))) = hC E (wL S v) := by
    rw [← hC_long]
    rfl
  rw [e]
  exact kk
/-- the row of sheets -/
def shO (x : Int32) : Nat := 43 + 2 * x.toNatClampNeg
def isSh (k : Nat) : Bool := k == 43 || k == 45 || k == 47 || k == 49
theorem sh_obj {k : Nat} (h : isSh k = true) : shp[k]? = some (.inl (0, [0, 0, k + 3])) := by
  simp only [isSh, Bool.or_eq_true, beq_iff_eq] at h
  rcases h with ((rfl | rfl) | rfl) | rfl <;> rfl
theorem sh_num {k : Nat} (h : isSh k = true) : shp[k + 1]? = some (.inr (.inl (0, 40))) := by
  simp only [isSh, Bool.or_eq_true, beq_iff_eq] at h
  rcases h with ((rfl | rfl) | rfl) | rfl <;> rfl
theorem sh_of {x : Int32} (h : vp_in x 4) : isSh (shO x) = true := by
  have h1 : x.toNatClampNeg < 4 := Nat.not_le.mp fun q => h (Or.inr q)
  unfold shO
  generalize x.toNatClampNeg = j at h1
  match j, h1 with
  | 0, _ => rfl
  | 1, _ => rfl
  | 2, _ => rfl
  | 3, _ => rfl
theorem t_aald {x : Int32} (hd : decode M.2.1 pc = .ok (.aaload, 1)) (hq : pc + 1 = q) (hx : vp_in x 4) (kk : SS E M q lv (.ref (eB E + shO x) :: st) S Q) : SS E M pc lv (.int x :: .ref (eB E + 34) :: st) S Q := by
  refine s_aald hd hq (hC_at (k := 34) rfl) hx ?_
  have e : va_rf ((fun i => (([43, 45, 47, 49] : List Nat)[i]?).map (fun t => eB E + t)) x.toNatClampNeg) = .ref (eB E + shO x) := by
    have h1 : x.toNatClampNeg < 4 := Nat.not_le.mp fun q => hx (Or.inr q)
    unfold shO
    generalize x.toNatClampNeg = j at h1
    match j, h1 with
    | 0, _ => rfl
    | 1, _ => rfl
    | 2, _ => rfl
    | 3, _ => rfl
  rw [e]
  exact kk
end TL
/-- the length of an int array of the shape -/
def lenI (k : Nat) : Option Nat := match shp[k]? with
  | some (.inr (.inl (0, n))) => some n
  | _ => none
theorem lenI_sh {k n : Nat} (h : lenI k = some n) : shp[k]? = some (.inr (.inl (0, n))) := by
  unfold lenI at h
  split at h
  · cases h; assumption
  · cases h
