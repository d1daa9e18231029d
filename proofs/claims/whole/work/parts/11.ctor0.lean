/-! THE CONSTRUCTORS: the shape grows; refs may still be null -/
abbrev ShN : Type := (Nat × List Nat) ⊕ (Nat × Nat) ⊕ List (Option Nat)
def fvN (E : EV) (S : ST) (k f t : Nat) : Value := match t with
  | 0 => .int (S.1 k f)
  | 1 => .long S.2
  | 2 => .null
  | t + 3 => .ref (eB E + t)
def cellN (E : EV) (S : ST) (k : Nat) (x : ShN) : va_E := match x with
  | .inl o => .inr (o.1, o.2.zipIdx.map (fun q => fvN E S k q.2 q.1))
  | .inr (.inl a) => .inl (eTy E a.1, a.2, .inl (S.1 k))
  | .inr (.inr l) => .inl (eH E, l.length, .inr (.inr (.inr (.inr (fun i => (l.getD i none).map (fun t => eB E + t))))))
def hN (sh : List ShN) (E : EV) (S : ST) : List va_E := sh.zipIdx.map (fun x => cellN E S x.2 x.1)
section NN
variable {sh : List ShN} {E : EV} {S S' : ST} {k : Nat} {x : ShN}
theorem hN_len : (hN sh E S).length = sh.length := by simp [hN]
theorem hN_at (hk : sh[k]? = some x) : (hN sh E S)[k]? = some (cellN E S k x) := by
  simp [hN, List.getElem?_map, List.getElem?_zipIdx, hk]
theorem hN_push (x : ShN) : hN (sh ++ [x]) E S = hN sh E S ++ [cellN E S sh.length x] := by
  simp [hN, List.zipIdx_append]
theorem hN_set (hk : k < sh.length) (h1 : ∀ c, c ≠ k → S'.1 c = S.1 c) (h2 : S'.2 = S.2) : (hN sh E S).set k (cellN E S' k x) = hN (sh.set k x) E S' := by
  apply List.ext_getElem?
  intro i
  by_cases hi : k = i
  · subst hi
    rw [List.getElem?_set_self (by rw [hN_len]; exact hk), hN_at (List.getElem?_set_self hk)]
  · rw [List.getElem?_set_ne hi]
    cases hx : sh[i]? with
    | none =>
      have := List.getElem?_eq_none_iff.mp hx
      rw [List.getElem?_eq_none (by rw [hN_len]; exact this), List.getElem?_eq_none (by rw [hN_len, List.length_set]; exact this)]
    | some x' =>
      have hx2 : (sh.set k x)[i]? = some x' := by rw [List.getElem?_set_ne hi]; exact hx
      rw [hN_at hx, hN_at hx2]
      have e1 : S'.1 i = S.1 i := h1 i (Ne.symm hi)
      rcases x' with o | a | l
      · simp only [cellN, fvN, e1, h2]
      · simp only [cellN, e1]
      · rfl
theorem flN_get {f t : Nat} {fl : List Nat} (h : fl[f]? = some t) : (fl.zipIdx.map (fun q => fvN E S k q.2 q.1))[f]? = some (fvN E S k f t) := by
  simp [List.getElem?_map, List.getElem?_zipIdx, h]
theorem flN_setI {f : Nat} {fl : List Nat} {v : Int32} (h : fl[f]? = some 0) : (fl.zipIdx.map (fun q => fvN E S k q.2 q.1)).set f (.int v) = fl.zipIdx.map (fun q => fvN E (wr S k f v) k q.2 q.1) := by
  apply List.ext_getElem?
  intro j
  have hl : f < fl.length := (List.getElem?_eq_some_iff.mp h).1
  by_cases hj : f = j
  · subst hj
    rw [List.getElem?_set_self (by simpa using hl), flN_get h]
    simp [fvN, wr, upd]
  · rw [List.getElem?_set_ne hj]
    cases hx : fl[j]? with
    | none =>
      have := List.getElem?_eq_none_iff.mp hx
      rw [List.getElem?_eq_none (by simpa using this), List.getElem?_eq_none (by simpa using this)]
    | some t =>
      rw [flN_get hx, flN_get hx]
      match t with
      | 0 => simp [fvN, wr, upd, Ne.symm hj]
      | 1 => rfl
      | 2 => rfl
      | t + 3 => rfl
theorem flN_setR {f t : Nat} {fl : List Nat} (h : f < fl.length) : (fl.zipIdx.map (fun q => fvN E S k q.2 q.1)).set f (.ref (eB E + t)) = (fl.set f (t + 3)).zipIdx.map (fun q => fvN E S k q.2 q.1) := by
  apply List.ext_getElem?
  intro j
  by_cases hj : f = j
  · subst hj
    rw [List.getElem?_set_self (by simpa using h), flN_get (List.getElem?_set_self h)]
    rfl
  · rw [List.getElem?_set_ne hj]
    cases hx : fl[j]? with
    | none =>
      have := List.getElem?_eq_none_iff.mp hx
      rw [List.getElem?_eq_none (by simpa using this), List.getElem?_eq_none (by simpa using this)]
    | some t' =>
      rw [flN_get hx, flN_get (by rw [List.getElem?_set_ne hj]; exact hx)]
end NN
section NS
variable {E : EV} {M : MI} {z : Bool} {mc ms pc q n i : Nat} {lv : List (Nat × Value)} {st : List Value} {S : ST} {sh sh' : List ShN} {Q : Option Value → List va_E → Prop}
theorem n_new {ci L : Nat} {Cn : String} {T : u_T} {ty0 : Nat → FieldType} {fl : List Nat} (hd : decode M.2.1 pc = .ok (.new i, 3)) (hq : pc + 3 = q) (hc : vwCl[ci]? = some (Cn, T, n)) (hin : ∀ w ∈ u_ws Cn T n, w ∈ TB) (hty : ∀ k, k < n → parseFieldDescriptor (T k).2.2.1 = some (ty0 k)) (hlk : Cond.classLink M.1.cls i Cn ∈ TB) (hi : Cond.instantiable Cn n ∈ TB) (hini : Cond.initialized Cn ∈ TB) (hL : sh.length = L) (hfs : ∀ j, j < n → defaultValue (ty0 j) = vp_V (fl.zipIdx.map (fun q => fvN E S L q.2 q.1)) j) (hsh : sh ++ [.inl (ci, fl)] = sh')
    (k : SA E M true z mc ms q lv (.ref (eB E + L) :: st) (hN sh' E S) Q) : SA E M true z (mc + 1) (ms + n) pc lv st (hN sh E S) Q := by
  subst hL hsh
  refine s_new hd hq rfl hc hin hty hlk hi hini hfs ?_
  rw [hN_len]
  rw [hN_push] at k
  exact k
theorem n_newi {L : Nat} {x : Int32} (hd : decode M.2.1 pc = .ok (.newarray .int, 2)) (hq : pc + 2 = q) (hx : ¬ x < 0) (hn : x.toNatClampNeg = n) (hb : n * componentBytes .int ≤ 536870912) (hL : sh.length = L) (h0 : S.1 L = fun _ => 0) (hsh : sh ++ [.inr (.inl (0, n))] = sh')
    (k : SA E M true z mc ms q lv (.ref (eB E + L) :: st) (hN sh' E S) Q) : SA E M true z (mc + 1) (ms + n) pc lv (.int x :: st) (hN sh E S) Q := by
  subst hL hsh
  refine s_newi hd hq rfl a_int hx hn hb ?_
  rw [hN_len, ← h0]
  rw [hN_push] at k
  exact k
theorem n_newb {L : Nat} {x : Int32} (hd : decode M.2.1 pc = .ok (.newarray .byte, 2)) (hq : pc + 2 = q) (hx : ¬ x < 0) (hn : x.toNatClampNeg = n) (hb : n * componentBytes .byte ≤ 536870912) (hL : sh.length = L) (h0 : S.1 L = fun _ => 0) (hsh : sh ++ [.inr (.inl (1, n))] = sh')
    (k : SA E M true z mc ms q lv (.ref (eB E + L) :: st) (hN sh' E S) Q) : SA E M true z (mc + 1) (ms + n) pc lv (.int x :: st) (hN sh E S) Q := by
  subst hL hsh
  refine s_newb hd hq rfl a_byte hx hn hb ?_
  rw [hN_len, ← h0]
  rw [hN_push] at k
  exact k
theorem n_newc {L : Nat} {x : Int32} (hd : decode M.2.1 pc = .ok (.newarray .char, 2)) (hq : pc + 2 = q) (hx : ¬ x < 0) (hn : x.toNatClampNeg = n) (hb : n * componentBytes .char ≤ 536870912) (hL : sh.length = L) (h0 : S.1 L = fun _ => 0) (hsh : sh ++ [.inr (.inl (2, n))] = sh')
    (k : SA E M true z mc ms q lv (.ref (eB E + L) :: st) (hN sh' E S) Q) : SA E M true z (mc + 1) (ms + n) pc lv (.int x :: st) (hN sh E S) Q := by
  subst hL hsh
  refine s_newc hd hq rfl a_char hx hn hb ?_
  rw [hN_len, ← h0]
  rw [hN_push] at k
  exact k
theorem n_anew {L : Nat} {x : Int32} (hd : decode M.2.1 pc = .ok (.anewarray i, 3)) (hq : pc + 3 = q) (hlk : Cond.classLink M.1.cls i "StarCrew$Sheet" ∈ TB) (hx : ¬ x < 0) (hn : x.toNatClampNeg = n) (hb : n * 4 ≤ 536870912) (hL : sh.length = L) (hsh : sh ++ [.inr (.inr (List.replicate n none))] = sh')
    (k : SA E M true z mc ms q lv (.ref (eB E + L) :: st) (hN sh' E S) Q) : SA E M true z (mc + 1) (ms + n) pc lv (.int x :: st) (hN sh E S) Q := by
  subst hL hsh
  refine s_anew hd hq rfl hlk hx hn hb ?_
  rw [hN_len]
  rw [hN_push] at k
  have e : cellN E S sh.length (.inr (.inr (List.replicate n none))) = .inl (eH E, n, .inr (.inr (.inr (.inr (fun _ => none))))) := by
    have e2 : (fun i : Nat => ((List.replicate n (none : Option Nat)).getD i none).map (fun t => eB E + t)) = fun _ => none := by
      funext i
      have : (List.replicate n (none : Option Nat)).getD i none = none := by
        rw [List.getD_eq_getElem?_getD, List.getElem?_replicate]
        split <;> rfl
      rw [this]
      rfl
    simp only [cellN, List.length_replicate, e2]
  rw [e] at k
  exact k
theorem n_getR {k0 f ci t : Nat} {fl : List Nat} {Cn : String} {T : u_T} (hd : decode M.2.1 pc = .ok (.getfield i, 3)) (hq : pc + 3 = q) (hs : sh[k0]? = some (.inl (ci, fl))) (hf : fl[f]? = some (t + 3)) (hc : vwCl[ci]? = some (Cn, T, n)) (hin : ∀ w ∈ u_ws Cn T n, w ∈ TB) (hj : f < n) (hlk : Cond.fieldLink M.1.cls i (T f).1 (T f).2.1 (T f).2.2.1 ∈ TB) (kk : SA E M true z mc ms q lv (.ref (eB E + t) :: st) (hN sh E S) Q) : SA E M true z mc ms pc lv (.ref (eB E + k0) :: st) (hN sh E S) Q :=
  s_getf hd hq (hN_at hs) hc hin hj hlk (flN_get hf) kk
theorem n_putI {k0 f ci : Nat} {fl : List Nat} {Cn : String} {T : u_T} {ty0 : Nat → FieldType} {v : Int32} (hd : decode M.2.1 pc = .ok (.putfield i, 3)) (hq : pc + 3 = q) (hs : sh[k0]? = some (.inl (ci, fl))) (hf : fl[f]? = some 0) (hc : vwCl[ci]? = some (Cn, T, n)) (hin : ∀ w ∈ u_ws Cn T n, w ∈ TB) (hty : ∀ k, k < n → parseFieldDescriptor (T k).2.2.1 = some (ty0 k)) (hnm : ∀ a, a < n → ∀ b, b < n → a ≠ b → (T a).2.1 ≠ (T b).2.1) (hj : f < n) (hlk : Cond.fieldLink M.1.cls i (T f).1 (T f).2.1 (T f).2.2.1 ∈ TB) (hfin : (T f).2.2.2 = false) (hn : narrow (ty0 f) (.int v) = .int v) (hfit : fits (ty0 f) (.int v) = true) (kk : SA E M true z mc ms q lv st (hN sh E (wr S k0 f v)) Q) : SA E M true z mc ms pc lv (.int v :: .ref (eB E + k0) :: st) (hN sh E S) Q := by
  refine s_putf hd hq (hN_at hs) hc hin hty hnm hj hlk hfin hn hfit (by simpa using (List.getElem?_eq_some_iff.mp hf).1) ?_
  have hl := (List.getElem?_eq_some_iff.mp hs).1
  have e : (hN sh E S).set k0 (.inr (ci, (fl.zipIdx.map (fun q => fvN E S k0 q.2 q.1)).set f (.int v))) = hN sh E (wr S k0 f v) := by
    have e2 := hN_set (E := E) (S := S) (S' := wr S k0 f v) (x := .inl (ci, fl)) hl (fun c hc => wr_ne hc) rfl
    rw [show sh.set k0 (Sum.inl (ci, fl)) = sh from by
      apply List.ext_getElem?
      intro j
      by_cases hj : k0 = j
      · subst hj; rw [List.getElem?_set_self hl, hs]
      · rw [List.getElem?_set_ne hj]] at e2
    rw [← e2, flN_setI hf]
    rfl
  rw [e]
  exact kk
theorem n_putR {k0 f ci t : Nat} {fl : List Nat} {Cn : String} {T : u_T} {ty0 : Nat → FieldType} (hd : decode M.2.1 pc = .ok (.putfield i, 3)) (hq : pc + 3 = q) (hs : sh[k0]? = some (.inl (ci, fl))) (hc : vwCl[ci]? = some (Cn, T, n)) (hin : ∀ w ∈ u_ws Cn T n, w ∈ TB) (hty : ∀ k, k < n → parseFieldDescriptor (T k).2.2.1 = some (ty0 k)) (hnm : ∀ a, a < n → ∀ b, b < n → a ≠ b → (T a).2.1 ≠ (T b).2.1) (hj : f < n) (hlk : Cond.fieldLink M.1.cls i (T f).1 (T f).2.1 (T f).2.2.1 ∈ TB) (hfin : (T f).2.2.2 = true) (hini : M.1.name = "<init>") (hdecl : (T f).1 = M.1.cls) (hn : ∀ a, narrow (ty0 f) (.ref a) = .ref a) (hfit : ∀ a, fits (ty0 f) (.ref a) = true) (hlen : f < fl.length) (hsh : sh.set k0 (.inl (ci, fl.set f (t + 3))) = sh') (kk : SA E M true z mc ms q lv st (hN sh' E S) Q) : SA E M true z mc ms pc lv (.ref (eB E + t) :: .ref (eB E + k0) :: st) (hN sh E S) Q := by
  subst hsh
  refine s_putF hd hq (hN_at hs) hc hin hty hnm hj hlk hfin hini hdecl (hn _) (hfit _) (by simpa using hlen) ?_
  rw [flN_setR hlen]
  have e2 := hN_set (E := E) (S := S) (S' := S) (x := .inl (ci, fl.set f (t + 3))) (List.getElem?_eq_some_iff.mp hs).1 (fun c hc => rfl) rfl
  rw [← e2] at kk
  exact kk
theorem shN_same {k0 : Nat} {x : ShN} (hs : sh[k0]? = some x) : sh.set k0 x = sh := by
  have hl := (List.getElem?_eq_some_iff.mp hs).1
  apply List.ext_getElem?
  intro j
  by_cases hj : k0 = j
  · subst hj; rw [List.getElem?_set_self hl, hs]
  · rw [List.getElem?_set_ne hj]
theorem n_iast {k0 j : Nat} {x v : Int32} (hd : decode M.2.1 pc = .ok (.iastore, 1)) (hq : pc + 1 = q) (hs : sh[k0]? = some (.inr (.inl (0, n)))) (hx : vp_in x n) (hj : x.toNatClampNeg = j) (kk : SA E M true z mc ms q lv st (hN sh E (wr S k0 j v)) Q) : SA E M true z mc ms pc lv (.int v :: .int x :: .ref (eB E + k0) :: st) (hN sh E S) Q := by
  subst hj
  refine s_iast hd hq (hN_at hs) hx ?_
  have e := hN_set (E := E) (S := S) (S' := wr S k0 x.toNatClampNeg v) (x := .inr (.inl (0, n))) (List.getElem?_eq_some_iff.mp hs).1 (fun c hc => wr_ne hc) rfl
  rw [shN_same hs] at e
  simp only [cellN, wr_eq] at e
  rw [show (eTy E 0) = eI E from rfl] at e
  rw [e]
  exact kk
theorem n_cast {k0 j : Nat} {x v w : Int32} (hd : decode M.2.1 pc = .ok (.castore, 1)) (hq : pc + 1 = q) (hs : sh[k0]? = some (.inr (.inl (2, n)))) (hx : vp_in x n) (hj : x.toNatClampNeg = j) (hw : vp_nar .char v = w) (kk : SA E M true z mc ms q lv st (hN sh E (wr S k0 j w)) Q) : SA E M true z mc ms pc lv (.int v :: .int x :: .ref (eB E + k0) :: st) (hN sh E S) Q := by
  subst hj hw
  refine s_cast hd hq (hN_at hs) hx ?_
  have e := hN_set (E := E) (S := S) (S' := wr S k0 x.toNatClampNeg (vp_nar .char v)) (x := .inr (.inl (2, n))) (List.getElem?_eq_some_iff.mp hs).1 (fun c hc => wr_ne hc) rfl
  rw [shN_same hs] at e
  simp only [cellN, wr_eq] at e
  rw [show (eTy E 2) = eC E from rfl] at e
  rw [e]
  exact kk
theorem n_aast {k0 k1 j ci : Nat} {l : List (Option Nat)} {fl : List Nat} {r : vw_C} {x : Int32} (hd : decode M.2.1 pc = .ok (.aastore, 1)) (hq : pc + 1 = q) (hs : sh[k0]? = some (.inr (.inr l))) (hv : sh[k1]? = some (.inl (ci, fl))) (hc : vwCl[ci]? = some r) (hr : r.1 = "StarCrew$Sheet") (hx : vp_in x l.length) (hj : x.toNatClampNeg = j) (hsh : sh.set k0 (.inr (.inr (l.set j (some k1)))) = sh') (kk : SA E M true z mc ms q lv st (hN sh' E S) Q) : SA E M true z mc ms pc lv (.ref (eB E + k1) :: .int x :: .ref (eB E + k0) :: st) (hN sh E S) Q := by
  subst hj hsh
  have hlt : x.toNatClampNeg < l.length := Nat.not_le.mp fun q => hx (Or.inr q)
  refine s_aast hd hq (hN_at hs) (hN_at hv) hc hr hx ?_
  have e2 := hN_set (E := E) (S := S) (S' := S) (x := .inr (.inr (l.set x.toNatClampNeg (some k1)))) (List.getElem?_eq_some_iff.mp hs).1 (fun c hc => rfl) rfl
  rw [← e2] at kk
  have e3 : cellN E S k0 (.inr (.inr (l.set x.toNatClampNeg (some k1)))) = .inl (eH E, l.length, .inr (.inr (.inr (.inr (va_up (fun i => (l.getD i none).map (fun t => eB E + t)) x.toNatClampNeg (some (eB E + k1))))))) := by
    have e4 : (fun i : Nat => ((l.set x.toNatClampNeg (some k1)).getD i none).map (fun t => eB E + t)) = va_up (fun i => (l.getD i none).map (fun t => eB E + t)) x.toNatClampNeg (some (eB E + k1)) := by
      funext i
      by_cases hi : i = x.toNatClampNeg
      · subst hi
        simp [va_up, List.getD_eq_getElem?_getD, List.getElem?_set_self hlt]
      · simp [va_up, hi, List.getD_eq_getElem?_getD, List.getElem?_set_ne (Ne.symm hi)]
    simp only [cellN, List.length_set, e4]
  rw [e3] at kk
  exact kk
end NS
/-- Arrays.fill while a world grows -/
def fillS (S : ST) (k : Nat) (v : Int32) : Nat → ST
  | 0 => S
  | n + 1 => wr (fillS S k v n) k n v
theorem n_fill_loop (E : EV) {sh : List ShN} {S : ST} {k0 n : Nat} {v : Int32} {Q : Option Value → List va_E → Prop} (hs : sh[k0]? = some (.inr (.inl (0, n)))) (hn : n < 1000) (K : Q none (hN sh E (fillS S k0 v n))) : ∀ (d a : Nat), a + d = n → SA E mJ7_fill_53178 true true 0 0 5 [(0, .ref (eB E + k0)), (1, .int v), (2, .int (nI a)), (3, .int (nI n))] [] (hN sh E (fillS S k0 v a)) Q := by
  intro d
  induction d with
  | zero =>
    intro a ha
    have ha : a = n := by omega
    subst ha
    refine s_iload_n (q := 6) dJ7_fill_53178_5 rfl rfl 2 rfl ?_
    refine s_iload_n (q := 7) dJ7_fill_53178_6 rfl rfl 3 rfl ?_
    refine s_icmp_ge (q := 10) (tgt := 20) dJ7_fill_53178_7 rfl rfl (fun _ => ?_) (fun hb => absurd (nI_le (Nat.le_refl a) (by omega)) hb)
    exact s_vret dJ7_fill_53178_20 rfl (fun h => h) K
  | succ d ih =>
    intro a ha
    refine s_iload_n (q := 6) dJ7_fill_53178_5 rfl rfl 2 rfl ?_
    refine s_iload_n (q := 7) dJ7_fill_53178_6 rfl rfl 3 rfl ?_
    refine s_icmp_ge (q := 10) (tgt := 20) dJ7_fill_53178_7 rfl rfl (fun hb => absurd hb (nI_ge (show a < n by omega) (by omega))) (fun _ => ?_)
    refine s_aload_n (q := 11) dJ7_fill_53178_10 rfl rfl 0 rfl ?_
    refine s_iload_n (q := 12) dJ7_fill_53178_11 rfl rfl 2 rfl ?_
    refine s_iload_n (q := 13) dJ7_fill_53178_12 rfl rfl 1 rfl ?_
    refine n_iast (q := 14) (j := a) dJ7_fill_53178_13 rfl hs (nI_in (show a < n by omega) (by omega)) (nI_clamp (by omega)) ?_
    refine s_iinc (q := 17) (j := 2) (v := nI (a + 1)) (lv' := [(2, .int (nI (a + 1))), (0, .ref (eB E + k0)), (1, .int v), (3, .int (nI n))]) dJ7_fill_53178_14 rfl rfl (nI_succ a).symm (Nat.le_of_ble_eq_true rfl) rfl ?_
    refine s_goto (tgt := 5) dJ7_fill_53178_17 rfl ?_
    have K2 := ih (a + 1) (by omega)
    intro p e R s m args below meth c C H locs cells slots ls hz hP hS hl hcc hss
    exact K2 p e R s m args below meth c C H locs cells slots ls hz hP hS (lv_sub hl [1, 2, 0, 3] rfl) hcc hss
theorem n_fill (E : EV) {sh : List ShN} {S : ST} {k0 n : Nat} {v : Int32} {Q : Option Value → List va_E → Prop} (hs : sh[k0]? = some (.inr (.inl (0, n)))) (hn : n < 1000) (K : Q none (hN sh E (fillS S k0 v n))) : SA E mJ7_fill_53178 true true 0 0 0 (lv_args 0 [.ref (eB E + k0), .int v]) [] (hN sh E S) Q := by
  refine s_iconst (q := 1) (v := 0) dJ7_fill_53178_0 rfl rfl ?_
  refine s_istore_n (q := 2) (lv' := [(2, .int 0), (0, .ref (eB E + k0)), (1, .int v)]) dJ7_fill_53178_1 rfl rfl (Nat.le_of_ble_eq_true rfl) rfl ?_
  refine s_aload_n (q := 3) dJ7_fill_53178_2 rfl rfl 1 rfl ?_
  refine s_alen (t0 := 0) (q := 4) (v := nI n) dJ7_fill_53178_3 rfl (hN_at hs) rfl rfl ?_
  refine s_istore_n (q := 5) (lv' := [(3, .int (nI n)), (2, .int 0), (0, .ref (eB E + k0)), (1, .int v)]) dJ7_fill_53178_4 rfl rfl (Nat.le_of_ble_eq_true rfl) rfl ?_
  have K2 := n_fill_loop E hs hn K n 0 (by omega)
  intro p e R s m args below meth c C H locs cells slots ls hz hP hS hl hcc hss
  exact K2 p e R s m args below meth c C H locs cells slots ls hz hP hS (lv_sub hl [2, 3, 1, 0] rfl) hcc hss
