/-! MY LAYER OVER THE KIT: one world of cells at consecutive addresses from a base on; a judgement SA (a method's activation at a pc runs to its return) that packs all the machine's premises -/
/-- the words that every method may use -/
def TB : List Cond := lw_tbl.filter goodWord
theorem TB_in {w : Cond} (h : w ∈ lw_tbl) (hg : goodWord w = true) : w ∈ TB := List.mem_filter.mpr ⟨h, hg⟩
/-- launch, numbers of classes, array classes (int, byte, char, Sheet), base, old arrays, the table's place, the places of texts and of their bytes -/
abbrev EV : Type := Launch × va_G × (ClassId × ClassId × ClassId × ClassId) × Nat × List (Nat × Nat × (Nat → Int32)) × Nat × (Nat → Nat) × (Nat → Nat)
abbrev eL (E : EV) : Launch := E.1
abbrev eD (E : EV) : va_G := E.2.1
abbrev eI (E : EV) : ClassId := E.2.2.1.1
abbrev eY (E : EV) : ClassId := E.2.2.1.2.1
abbrev eC (E : EV) : ClassId := E.2.2.1.2.2.1
abbrev eH (E : EV) : ClassId := E.2.2.1.2.2.2
abbrev eB (E : EV) : Nat := E.2.2.2.1
abbrev eO (E : EV) : List (Nat × Nat × (Nat → Int32)) := E.2.2.2.2.1
abbrev eM (E : EV) : Nat := E.2.2.2.2.2.1
abbrev eK (E : EV) : Nat → Nat := E.2.2.2.2.2.2.1
abbrev eV (E : EV) : Nat → Nat := E.2.2.2.2.2.2.2
def eA (E : EV) : Nat → Prop := fun q => eB E ≤ q
def eT (E : EV) : List (ClassId × FieldType) := [(eI E, .int), (eY E, .byte), (eC E, .char), (eH E, .object "StarCrew$Sheet")]
/-- the world of a list of cells from a base on -/
def hw (b : Nat) (h : List va_E) : va_W := h.zipIdx.map (fun x => (b + x.2, x.1))
theorem hw_get (b : Nat) (h : List va_E) (k : Nat) : (hw b h)[k]? = (h[k]?).map (fun e => (b + k, e)) := by
  simp only [hw, List.getElem?_map, List.getElem?_zipIdx]
  cases h[k]? with
  | none => rfl
  | some e => simp
theorem hw_at {b : Nat} {h : List va_E} {k : Nat} {e : va_E} (hk : h[k]? = some e) : (hw b h)[k]? = some (b + k, e) := by rw [hw_get, hk]; rfl
theorem hw_set (b : Nat) (h : List va_E) (k : Nat) (e : va_E) : (hw b h).set k (b + k, e) = hw b (h.set k e) := by
  apply List.ext_getElem?
  intro i
  rw [hw_get]
  by_cases hi : k = i
  · subst hi
    by_cases hl : k < h.length
    · rw [List.getElem?_set_self (by simpa [hw] using hl), List.getElem?_set_self hl]; rfl
    · rw [List.getElem?_eq_none (by simp [hw]; omega), List.getElem?_eq_none (by simp; omega)]; rfl
  · rw [List.getElem?_set_ne hi, List.getElem?_set_ne hi, hw_get]
theorem hw_push (b : Nat) (h : List va_E) (e : va_E) : hw b h ++ [(b + h.length, e)] = hw b (h ++ [e]) := by
  simp [hw, List.zipIdx_append]
theorem hw_D (E : EV) (h : List va_E) : va_D (eA E) (hw (eB E) h) := by
  have key : ∀ (k : Nat) (q : Nat × va_E), (hw (eB E) h)[k]? = some q → q.1 = eB E + k := by
    intro k q hq
    rw [hw_get] at hq
    cases hk : h[k]? with
    | none => rw [hk] at hq; cases hq
    | some e => rw [hk] at hq; cases hq; rfl
  refine ⟨fun i j p q hi hj hpq => ?_, fun k q hk => ?_⟩
  · have h1 := key i p hi
    have h2 := key j q hj
    omega
  · show eB E ≤ q.1
    have h1 := key k q hk
    omega
/-- what is old and stays: the table of settings, arrays that are only read, the text constants -/
def tabF (j : Nat) : Int32 := ([9, 9, 99, 9999] : List Int32).getD j 0
def strOk (E : EV) (s : State) : Prop := vk_S kT.length kLen kByt (eK E) (eV E) (eA E) s s.heap ∧ ∀ (i : Nat) (q : Nat × String), kT[i]? = some q → vk_R kOwn q.1 q.2 (eK E i) s
def OldOk (E : EV) (s : State) : Prop := va_Z "StarCrew" "MOST_SETTING" "[I" (.ref (eM E)) (eA E) s s.heap ∧ (∀ q ∈ (eM E, 4, tabF) :: eO E, va_T .int q.1 q.2.1 (fun j => .int (q.2.2 j)) (eA E) s s.heap) ∧ strOk E s ∧ va_Z "java/lang/String" "COMPACT_STRINGS" "Z" (.int 1) (eA E) s s.heap ∧ va_Zq "jdk/internal/util/Preconditions" "SIOOBE_FORMATTER" "Ljava/util/function/BiFunction;" (eA E) s s.heap
theorem OldOk.at {E : EV} {s U : State} {H : Heap} {locs : List Loc} (h : OldOk E s) (hW : s.WarmedH U.vm) (hS : va_S (eA E) s.heap H locs) (hU : U.heap = H) : OldOk E U := by
  subst hU
  obtain ⟨h1, h2, ⟨h3, h4⟩, h5, h6⟩ := h
  exact ⟨(h1.kept hS.2.1).moved hW.alike, fun q hq => ((h2 q hq).kept hS.2.1).moved hW.alike, ⟨(h3.kept hS.2.1).moved hW.alike, fun i q hq => (h4 i q hq).warm hW⟩, (h5.kept hS.2.1).moved hW.alike, (h6.kept hS.2.1).moved hW.alike⟩
theorem OldOk.blind {E : EV} {U U1 : State} (h : OldOk E U) (hv : U1.vm = U.vm) (hh : U1.heap = U.heap) : OldOk E U1 := by
  have hA : U.vm.Alike U1.vm := by rw [hv]; exact Vm.Alike.refl _
  obtain ⟨h1, h2, ⟨h3, h4⟩, h5, h6⟩ := h
  unfold OldOk strOk
  rw [hh]
  exact ⟨h1.moved hA, fun q hq => (h2 q hq).moved hA, ⟨h3.moved hA, fun i q hq => (h4 i q hq).same hv⟩, h5.moved hA, h6.moved hA⟩
/-- a method: name, code, places of its locals, what it gives, frames and words that it needs below it -/
abbrev MI : Type := MethodName × ByteArray × Nat × Option FieldType × Nat × Nat
def wU (M : MI) : List Cond := .code M.1 M.2.1 M.2.2.1 M.2.2.2.1 :: TB
def rmOf (M : MI) (mc ms : Nat) : Room := { frames := M.2.2.2.2.1, cells := mc, slots := ms, locals := M.2.2.2.2.2 }
/-- all that holds of an activation of M -/
def CX (E : EV) (M : MI) (p : Program) (R : Room) (s : State) (m : MethodId) (args : Array Value) (meth : Method) (c : Code) : Prop :=
  p.tables.exec = Jvm.exec ∧ c.code = M.2.1 ∧ c.maxLocals = M.2.2.1 ∧ meth.sig.returnType = M.2.2.2.1 ∧ meth.locks = false ∧ s.vm.findClass M.1.cls = some m.cls ∧ (∀ w ∈ TB, w.before args s = true) ∧ (∀ w ∈ NB, va_Nw w s) ∧ va_K (eD E) vwCl (eT E) s ∧ OldOk E s ∧ va_AO "StarCrew$Sheet" s ∧ M.2.2.2.2.1 ≤ R.frames ∧ M.2.2.2.2.2 ≤ R.locals ∧ (M.1.name = "<init>" → meth.name = "<init>") ∧ eB E ≤ s.heap.size
section CXF
variable {E : EV} {M : MI} {p : Program} {R : Room} {s : State} {m : MethodId} {args : Array Value} {meth : Method} {c : Code}
theorem CX.x (C : CX E M p R s m args meth c) : p.tables.exec = Jvm.exec := C.1
theorem CX.b (C : CX E M p R s m args meth c) : c.code = M.2.1 := C.2.1
theorem CX.ml (C : CX E M p R s m args meth c) : c.maxLocals = M.2.2.1 := C.2.2.1
theorem CX.r (C : CX E M p R s m args meth c) : meth.sig.returnType = M.2.2.2.1 := C.2.2.2.1
theorem CX.lk (C : CX E M p R s m args meth c) : meth.locks = false := C.2.2.2.2.1
theorem CX.o (C : CX E M p R s m args meth c) : s.vm.findClass M.1.cls = some m.cls := C.2.2.2.2.2.1
theorem CX.ts (C : CX E M p R s m args meth c) : ∀ w ∈ TB, w.before args s = true := C.2.2.2.2.2.2.1
theorem CX.nb (C : CX E M p R s m args meth c) : ∀ w ∈ NB, va_Nw w s := C.2.2.2.2.2.2.2.1
theorem CX.K (C : CX E M p R s m args meth c) : va_K (eD E) vwCl (eT E) s := C.2.2.2.2.2.2.2.2.1
theorem CX.old (C : CX E M p R s m args meth c) : OldOk E s := C.2.2.2.2.2.2.2.2.2.1
theorem CX.ao (C : CX E M p R s m args meth c) : va_AO "StarCrew$Sheet" s := C.2.2.2.2.2.2.2.2.2.2.1
theorem CX.fr (C : CX E M p R s m args meth c) : M.2.2.2.2.1 ≤ R.frames := C.2.2.2.2.2.2.2.2.2.2.2.1
theorem CX.lo (C : CX E M p R s m args meth c) : M.2.2.2.2.2 ≤ R.locals := C.2.2.2.2.2.2.2.2.2.2.2.2.1
theorem CX.nm (C : CX E M p R s m args meth c) : M.1.name = "<init>" → meth.name = "<init>" := C.2.2.2.2.2.2.2.2.2.2.2.2.2.1
theorem CX.sz (C : CX E M p R s m args meth c) : eB E ≤ s.heap.size := C.2.2.2.2.2.2.2.2.2.2.2.2.2.2
end CXF
/-- what a method's end gives -/
def QC (E : EV) (z : Bool) (Q : Option Value → List va_E → Prop) : Array Value → State → Outcome → State → Prop := fun _ st o t => ∃ (v : Option Value) (h' : List va_E), o = .returned v ∧ Q v h' ∧ (z = true → t.heap.size = eB E + h'.length) ∧ va_P (eD E) vwCl (hw (eB E) h') t.heap ∧ va_F (eA E) st t
/-- from pc on, with locals lv, stack st, cells h, M runs to its return with Q, making at most mc cells of ms places; y and z: the heap's size is known at the start, at the end -/
def SA (E : EV) (M : MI) (y z : Bool) (mc ms pc : Nat) (lv : List (Nat × Value)) (st : List Value) (h : List va_E) (Q : Option Value → List va_E → Prop) : Prop :=
  ∀ (p : Program) (e : Env) (R : Room) (s : State) (m : MethodId) (args : Array Value) (below : List Frame) (meth : Method) (c : Code), CX E M p R s m args meth c →
  ∀ (H : Heap) (locs : List Loc) (cells slots : Nat) (ls : Array Slot), (y = true → H.size = eB E + h.length) → va_P (eD E) vwCl (hw (eB E) h) H → va_S (eA E) s.heap H locs → lv_has ls M.2.2.1 lv → cells + mc ≤ R.cells → slots + ms ≤ R.slots →
  W p (eL E) e R s m args below meth c H locs cells slots (MQ below (QC E z Q) args s (cells + mc) (slots + ms) (eA E)) (F0 m pc ls st)
theorem eA_new (E : EV) {s : State} (h : eB E ≤ s.heap.size) : ∀ q, s.heap.size ≤ q → eA E q := fun _ hq => Nat.le_trans h hq
/-- what a call wants of the callee's start -/
def PB (E : EV) (y : Bool) (h : List va_E) (U : State) : Prop := (y = true → U.heap.size = eB E + h.length) ∧ va_P (eD E) vwCl (hw (eB E) h) U.heap ∧ va_K (eD E) vwCl (eT E) U ∧ (∀ w ∈ NB, va_Nw w U) ∧ OldOk E U ∧ va_AO "StarCrew$Sheet" U ∧ eB E ≤ U.heap.size
theorem SA.met {E : EV} {M : MI} {y z : Bool} {mc ms : Nat} {av : List Value} {h : List va_E} {Q : Option Value → List va_E → Prop} (hc : SA E M y z mc ms 0 (lv_args 0 av) [] h Q) (hl : (lg_sl av).length ≤ M.2.2.1) (hy : plainName M.1.cls = true) :
    Met (eL E) M.1 (wU M) (rmOf M mc ms) (va_Pc av (PB E y h)) (QC E z Q) mc ms (eA E) := by
  refine Met.ofW (cc := M.2.1) (maxL := M.2.2.1) (ret := M.2.2.2.1) hy rfl ?_
  intro p e s m args below meth c s₁ B hml hv
  obtain ⟨rfl, hz, hP, hK, hN, hO, hAO, hs⟩ := hv
  have hts := atoms_spec (ws := wU M) B.pre
  have C : CX E M p (headSpec (wU M) (rmOf M mc ms)).room s m av.toArray meth c := ⟨B.exec, B.bytes, hml, B.returns, B.notSynchronized, findClass_of_methodNamed B.named, fun w hw => hts w (List.mem_cons_of_mem _ hw), hN, hK, hO, hAO, Nat.le_refl _, Nat.le_refl _, fun hn => ((name_of_methodNamed B.named B.method).1).trans hn, hs⟩
  rw [lg_entry_eq]
  have K := hc p e _ s m av.toArray below meth c C s.heap [] 0 0 _ hz hP va_S.rf (lv_entry av hl) (by rw [Nat.zero_add]; exact Nat.le_refl _) (by rw [Nat.zero_add]; exact Nat.le_refl _)
  rw [Nat.zero_add, Nat.zero_add] at K
  exact K
theorem PB_blind (E : EV) (y : Bool) (h : List va_E) (av : List Value) : FrameBlind (va_Pc av (PB E y h)) := by
  intro a U g mk q
  obtain ⟨q0, q1, q2, q3, q4, q5, q6, q7⟩ := q
  exact ⟨q0, q1, q2, va_K.moved (u := U) (U := U.calling g mk a) (Vm.Alike.refl U.vm) q3, NB_same (u := U) (U := U.calling g mk a) rfl q4, OldOk.blind (U := U) (U1 := U.calling g mk a) q5 rfl rfl, va_AO.moved (u := U) (U := U.calling g mk a) (Vm.Alike.refl U.vm) q6, q7⟩
theorem PB_at {E : EV} {y : Bool} {h : List va_E} {M : MI} {p : Program} {R : Room} {s : State} {m : MethodId} {args : Array Value} {meth : Method} {c : Code} {H : Heap} {locs : List Loc} (C : CX E M p R s m args meth c) (hz : y = true → H.size = eB E + h.length) (hP : va_P (eD E) vwCl (hw (eB E) h) H) (hS : va_S (eA E) s.heap H locs) : ∀ U : State, U.heap = H → s.WarmedH U.vm → PB E y h U := by
  intro U hU hW
  refine ⟨by rw [hU]; exact hz, by rw [hU]; exact hP, va_K.moved hW.alike C.K, NB_warm hW C.nb, C.old.at hW hS hU, C.ao.moved hW.alike, ?_⟩
  rw [hU]
  exact Nat.le_trans C.sz hS.1
theorem wU_good {M N : MI} (hN : Cond.code N.1 N.2.1 N.2.2.1 N.2.2.2.1 ∈ TB) : GoodIn (wU M) (wU N) := by
  intro w hw
  have ht : w ∈ TB := by
    rcases List.mem_cons.mp hw with e | hw
    · rw [e]; exact hN
    · exact hw
  exact ⟨List.mem_cons_of_mem _ ht, good_of_word (List.mem_filter.mp ht).2⟩
theorem TB_good {N : MI} (hN : Cond.code N.1 N.2.1 N.2.2.1 N.2.2.2.1 ∈ TB) : GoodIn TB (wU N) := by
  intro w hw
  have ht : w ∈ TB := by
    rcases List.mem_cons.mp hw with e | hw
    · rw [e]; exact hN
    · exact hw
  exact ⟨ht, good_of_word (List.mem_filter.mp ht).2⟩
section MV
variable {p : Program} {l : Launch} {e : Env} {R : Room} {s : State} {m : MethodId} {args : Array Value} {below : List Frame} {meth : Method} {c : Code} {H : Heap} {locs : List Loc} {cells slots mc ms : Nat} {Q : State → Prop}
/-- behind a call -/
theorem m_back {E : EV} {z : Bool} {K : Option Value → List va_E → Prop} {pc : Nat} {ls : Array Slot} {rest st0 : List Value} {a : Array Value} (hr : va_Run p l e R s m args below meth c H locs cells slots mc ms (F0 m pc ls st0) rest (QC E z K a) (eA E)) (hS : va_S (eA E) s.heap H locs)
    (kk : ∀ (v : Option Value) (h' : List va_E) (H1 : Heap) (locs1 : List Loc), K v h' → (z = true → H1.size = eB E + h'.length) → va_P (eD E) vwCl (hw (eB E) h') H1 → va_S (eA E) s.heap H1 locs1 → W p l e R s m args below meth c H1 locs1 (cells + mc) (slots + ms) Q (F0 m (pc + 3) ls (v.toList ++ rest))) : W p l e R s m args below meth c H locs cells slots Q (F0 m pc ls st0) := by
  intro T hT X
  obtain ⟨v, st₀, t, T', L, h0, X', hL, e1, e2, ⟨v', h', hv, hK, hz, hP, hF⟩, st⟩ := hr T hT X
  cases hv
  obtain ⟨hz1, hk⟩ := hF
  rw [h0] at hz1 hk
  obtain ⟨t2, a1, b1⟩ := kk v h' T'.heap (locs ++ L) hK (by rw [e1]; exact hz) (by rw [e1]; exact hP)
    ⟨Nat.le_trans hS.1 (by rw [e1]; exact hz1), fun q h1 h2 => by rw [e1, hk q (Nat.lt_of_lt_of_le h1 hS.1) h2]; exact hS.2.1 q h1 h2, fun q hq => by
      rcases List.mem_append.mp hq with h | h
      · exact hS.2.2 q h
      · exact hL q h⟩ T' rfl X'
  exact ⟨t2, st t2 a1, b1⟩
end MV
/-- the object that a call is sent to -/
def Rc (E : EV) (h : List va_E) (a : Nat) (C : String) : Prop := (∃ (k ci : Nat) (fs : List Value) (T : u_T) (n : Nat), a = eB E + k ∧ h[k]? = some (.inr (ci, fs)) ∧ vwCl[ci]? = some (C, T, n)) ∨ (C = "java/lang/String" ∧ ∃ i, i < kT.length ∧ a = eK E i)
theorem Rc.cell {E : EV} {h : List va_E} {a : Nat} {C : String} (hr : Rc E h a C) {M : MI} {p : Program} {R : Room} {s : State} {m : MethodId} {args : Array Value} {meth : Method} {c : Code} {H : Heap} {locs : List Loc} (X : CX E M p R s m args meth c) (hP : va_P (eD E) vwCl (hw (eB E) h) H) (hS : va_S (eA E) s.heap H locs) : ∃ cellB : Cell, H[a]? = some cellB ∧ cellB.vm.isStatics = false ∧ s.vm.findClass C = some cellB.cls := by
  rcases hr with ⟨k, ci, fs, T, n, rfl, hk, hc⟩ | ⟨rfl, i, hi, rfl⟩
  · exact va_recv (q := (C, T, n)) X.K hP (ci := ci) (q0 := k) hc (hw_at hk)
  · exact vk_recv X.old.2.2.1.1 hi hS
section SX
variable {E : EV} {M : MI} {y z : Bool} {mc ms pc q : Nat} {lv : List (Nat × Value)} {st : List Value} {h : List va_E} {Q : Option Value → List va_E → Prop}
theorem s_iconst {n : Int} {v : Int32} (hd : decode M.2.1 pc = .ok (.iconst n, 1)) (hq : pc + 1 = q) (hv : Int32.ofInt n = v) (k : SA E M y z mc ms q lv (.int v :: st) h Q) : SA E M y z mc ms pc lv (st) h Q := by
  intro p e R s m args below meth c C H locs cells slots ls hz hP hS hl hcc hss
  subst hq
  exact lv_iconst C.x C.b hd hv (k p e R s m args below meth c C H locs cells slots ls hz hP hS hl hcc hss)
theorem s_bipush {n : Int} {v : Int32} (hd : decode M.2.1 pc = .ok (.bipush n, 2)) (hq : pc + 2 = q) (hv : (Int8.ofInt n).toInt32 = v) (k : SA E M y z mc ms q lv (.int v :: st) h Q) : SA E M y z mc ms pc lv (st) h Q := by
  intro p e R s m args below meth c C H locs cells slots ls hz hP hS hl hcc hss
  subst hq
  exact lv_bipush C.x C.b hd hv (k p e R s m args below meth c C H locs cells slots ls hz hP hS hl hcc hss)
theorem s_sipush {n : Int} {v : Int32} (hd : decode M.2.1 pc = .ok (.sipush n, 3)) (hq : pc + 3 = q) (hv : (Int16.ofInt n).toInt32 = v) (k : SA E M y z mc ms q lv (.int v :: st) h Q) : SA E M y z mc ms pc lv (st) h Q := by
  intro p e R s m args below meth c C H locs cells slots ls hz hP hS hl hcc hss
  subst hq
  exact lv_sipush C.x C.b hd hv (k p e R s m args below meth c C H locs cells slots ls hz hP hS hl hcc hss)
theorem s_lconst {n : Fin 2} {v : Int64} (hd : decode M.2.1 pc = .ok (.lconst n, 1)) (hq : pc + 1 = q) (hv : Int64.ofNat (n : Nat) = v) (k : SA E M y z mc ms q lv (.long v :: st) h Q) : SA E M y z mc ms pc lv (st) h Q := by
  intro p e R s m args below meth c C H locs cells slots ls hz hP hS hl hcc hss
  subst hq
  exact lv_lconst C.x C.b hd hv (k p e R s m args below meth c C H locs cells slots ls hz hP hS hl hcc hss)
theorem s_ldc {i : Nat} {v : Int32} (hd : decode M.2.1 pc = .ok (.ldc i, 2)) (hq : pc + 2 = q) (hw : Cond.constant M.1.cls i v ∈ TB) (k : SA E M y z mc ms q lv (.int v :: st) h Q) : SA E M y z mc ms pc lv (st) h Q := by
  intro p e R s m args below meth c C H locs cells slots ls hz hP hS hl hcc hss
  subst hq
  exact lv_ldc C.x C.b C.o (C.ts _ hw) hd (k p e R s m args below meth c C H locs cells slots ls hz hP hS hl hcc hss)
theorem s_ldcw {i : Nat} {v : Int32} (hd : decode M.2.1 pc = .ok (.ldc_w i, 3)) (hq : pc + 3 = q) (hw : Cond.constant M.1.cls i v ∈ TB) (k : SA E M y z mc ms q lv (.int v :: st) h Q) : SA E M y z mc ms pc lv (st) h Q := by
  intro p e R s m args below meth c C H locs cells slots ls hz hP hS hl hcc hss
  subst hq
  exact lv_ldcw C.x C.b C.o (C.ts _ hw) hd (k p e R s m args below meth c C H locs cells slots ls hz hP hS hl hcc hss)
theorem s_ldc2 {i : Nat} {v : Int64} (hd : decode M.2.1 pc = .ok (.ldc2_w i, 3)) (hq : pc + 3 = q) (hw : Cond.constantLong M.1.cls i v ∈ TB) (k : SA E M y z mc ms q lv (.long v :: st) h Q) : SA E M y z mc ms pc lv (st) h Q := by
  intro p e R s m args below meth c C H locs cells slots ls hz hP hS hl hcc hss
  subst hq
  exact lv_ldc2 C.x C.b C.o (C.ts _ hw) hd (k p e R s m args below meth c C H locs cells slots ls hz hP hS hl hcc hss)
theorem s_ldcS {i j : Nat} {tx : String} (hd : decode M.2.1 pc = .ok (.ldc i, 2)) (hq : pc + 2 = q) (hw : kT[j]? = some (i, tx)) (ho : M.1.cls = kOwn) (k : SA E M y z mc ms q lv (.ref (eK E j) :: st) h Q) : SA E M y z mc ms pc lv (st) h Q := by
  intro p e R s m args below meth c C H locs cells slots ls hz hP hS hl hcc hss
  subst hq
  exact va_ldcS C.x C.b (own := kOwn) (by rw [← ho]; exact C.o) (C.old.2.2.1.2 j _ hw) hd (k p e R s m args below meth c C H locs cells slots ls hz hP hS hl hcc hss)
theorem s_null  (hd : decode M.2.1 pc = .ok (.aconst_null, 1)) (hq : pc + 1 = q)  (k : SA E M y z mc ms q lv (.null :: st) h Q) : SA E M y z mc ms pc lv (st) h Q := by
  intro p e R s m args below meth c C H locs cells slots ls hz hP hS hl hcc hss
  subst hq
  exact lv_null C.x C.b hd (k p e R s m args below meth c C H locs cells slots ls hz hP hS hl hcc hss)
theorem s_iload_n {i : Nat} {f : Fin 4} {x : Int32} (hd : decode M.2.1 pc = .ok (.iload_n f, 1)) (hq : pc + 1 = q) (hi : (f : Nat) = i) (j : Nat) (hj : lv[j]? = some (i, .int x)) (k : SA E M y z mc ms q lv (.int x :: st) h Q) : SA E M y z mc ms pc lv (st) h Q := by
  intro p e R s m args below meth c C H locs cells slots ls hz hP hS hl hcc hss
  subst hq
  exact lv_iload_n C.x C.b hd hi (lv_at hl j hj) (k p e R s m args below meth c C H locs cells slots ls hz hP hS hl hcc hss)
theorem s_iload {i : Nat} {x : Int32} (hd : decode M.2.1 pc = .ok (.iload i, 2)) (hq : pc + 2 = q) (j : Nat) (hj : lv[j]? = some (i, .int x)) (k : SA E M y z mc ms q lv (.int x :: st) h Q) : SA E M y z mc ms pc lv (st) h Q := by
  intro p e R s m args below meth c C H locs cells slots ls hz hP hS hl hcc hss
  subst hq
  exact lv_iload C.x C.b hd (lv_at hl j hj) (k p e R s m args below meth c C H locs cells slots ls hz hP hS hl hcc hss)
theorem s_lload_n {i : Nat} {f : Fin 4} {x : Int64} (hd : decode M.2.1 pc = .ok (.lload_n f, 1)) (hq : pc + 1 = q) (hi : (f : Nat) = i) (j : Nat) (hj : lv[j]? = some (i, .long x)) (k : SA E M y z mc ms q lv (.long x :: st) h Q) : SA E M y z mc ms pc lv (st) h Q := by
  intro p e R s m args below meth c C H locs cells slots ls hz hP hS hl hcc hss
  subst hq
  exact lv_lload_n C.x C.b hd hi (lv_at hl j hj) (k p e R s m args below meth c C H locs cells slots ls hz hP hS hl hcc hss)
theorem s_lload {i : Nat} {x : Int64} (hd : decode M.2.1 pc = .ok (.lload i, 2)) (hq : pc + 2 = q) (j : Nat) (hj : lv[j]? = some (i, .long x)) (k : SA E M y z mc ms q lv (.long x :: st) h Q) : SA E M y z mc ms pc lv (st) h Q := by
  intro p e R s m args below meth c C H locs cells slots ls hz hP hS hl hcc hss
  subst hq
  exact lv_lload C.x C.b hd (lv_at hl j hj) (k p e R s m args below meth c C H locs cells slots ls hz hP hS hl hcc hss)
theorem s_aload_n {i : Nat} {f : Fin 4} {x : Nat} (hd : decode M.2.1 pc = .ok (.aload_n f, 1)) (hq : pc + 1 = q) (hi : (f : Nat) = i) (j : Nat) (hj : lv[j]? = some (i, .ref x)) (k : SA E M y z mc ms q lv (.ref x :: st) h Q) : SA E M y z mc ms pc lv (st) h Q := by
  intro p e R s m args below meth c C H locs cells slots ls hz hP hS hl hcc hss
  subst hq
  exact lv_aload_n C.x C.b hd hi (lv_at hl j hj) (k p e R s m args below meth c C H locs cells slots ls hz hP hS hl hcc hss)
theorem s_aload {i : Nat} {x : Nat} (hd : decode M.2.1 pc = .ok (.aload i, 2)) (hq : pc + 2 = q) (j : Nat) (hj : lv[j]? = some (i, .ref x)) (k : SA E M y z mc ms q lv (.ref x :: st) h Q) : SA E M y z mc ms pc lv (st) h Q := by
  intro p e R s m args below meth c C H locs cells slots ls hz hP hS hl hcc hss
  subst hq
  exact lv_aload C.x C.b hd (lv_at hl j hj) (k p e R s m args below meth c C H locs cells slots ls hz hP hS hl hcc hss)
theorem s_aload_nN {i : Nat} {f : Fin 4} (hd : decode M.2.1 pc = .ok (.aload_n f, 1)) (hq : pc + 1 = q) (hi : (f : Nat) = i) (j : Nat) (hj : lv[j]? = some (i, .null)) (k : SA E M y z mc ms q lv (.null :: st) h Q) : SA E M y z mc ms pc lv (st) h Q := by
  intro p e R s m args below meth c C H locs cells slots ls hz hP hS hl hcc hss
  subst hq
  exact lv_aload_nN C.x C.b hd hi (lv_at hl j hj) (k p e R s m args below meth c C H locs cells slots ls hz hP hS hl hcc hss)
theorem s_aloadN {i : Nat} (hd : decode M.2.1 pc = .ok (.aload i, 2)) (hq : pc + 2 = q) (j : Nat) (hj : lv[j]? = some (i, .null)) (k : SA E M y z mc ms q lv (.null :: st) h Q) : SA E M y z mc ms pc lv (st) h Q := by
  intro p e R s m args below meth c C H locs cells slots ls hz hP hS hl hcc hss
  subst hq
  exact lv_aloadN C.x C.b hd (lv_at hl j hj) (k p e R s m args below meth c C H locs cells slots ls hz hP hS hl hcc hss)
theorem s_istore_n {i : Nat} {f : Fin 4} {x : Int32} {lv' : List (Nat × Value)} (hd : decode M.2.1 pc = .ok (.istore_n f, 1)) (hq : pc + 1 = q) (hi : (f : Nat) = i) (hn : i < M.2.2.1) (hl' : (i, Value.int x) :: lv.filter (fun q => !(q.1 == i) && !(q.1 + 1 == i && q.2.category == 2)) = lv') (k : SA E M y z mc ms q lv' st h Q) : SA E M y z mc ms pc lv (.int x :: st) h Q := by
  intro p e R s m args below meth c C H locs cells slots ls hz hP hS hl hcc hss
  subst hq
  exact lv_istore_n C.x C.b hd hi hl hn hl' (fun ls' hl2 => k p e R s m args below meth c C H locs cells slots ls' hz hP hS hl2 hcc hss)
theorem s_istore {i : Nat} {x : Int32} {lv' : List (Nat × Value)} (hd : decode M.2.1 pc = .ok (.istore i, 2)) (hq : pc + 2 = q) (hn : i < M.2.2.1) (hl' : (i, Value.int x) :: lv.filter (fun q => !(q.1 == i) && !(q.1 + 1 == i && q.2.category == 2)) = lv') (k : SA E M y z mc ms q lv' st h Q) : SA E M y z mc ms pc lv (.int x :: st) h Q := by
  intro p e R s m args below meth c C H locs cells slots ls hz hP hS hl hcc hss
  subst hq
  exact lv_istore C.x C.b hd hl hn hl' (fun ls' hl2 => k p e R s m args below meth c C H locs cells slots ls' hz hP hS hl2 hcc hss)
theorem s_lstore_n {i : Nat} {f : Fin 4} {x : Int64} {lv' : List (Nat × Value)} (hd : decode M.2.1 pc = .ok (.lstore_n f, 1)) (hq : pc + 1 = q) (hi : (f : Nat) = i) (hn : i + 1 < M.2.2.1) (hl' : (i, Value.long x) :: lv.filter (fun q => !(q.1 == i) && (!(q.1 == i + 1) && !(q.1 + 1 == i && q.2.category == 2))) = lv') (k : SA E M y z mc ms q lv' st h Q) : SA E M y z mc ms pc lv (.long x :: st) h Q := by
  intro p e R s m args below meth c C H locs cells slots ls hz hP hS hl hcc hss
  subst hq
  exact lv_lstore_n C.x C.b hd hi hl hn hl' (fun ls' hl2 => k p e R s m args below meth c C H locs cells slots ls' hz hP hS hl2 hcc hss)
theorem s_lstore {i : Nat} {x : Int64} {lv' : List (Nat × Value)} (hd : decode M.2.1 pc = .ok (.lstore i, 2)) (hq : pc + 2 = q) (hn : i + 1 < M.2.2.1) (hl' : (i, Value.long x) :: lv.filter (fun q => !(q.1 == i) && (!(q.1 == i + 1) && !(q.1 + 1 == i && q.2.category == 2))) = lv') (k : SA E M y z mc ms q lv' st h Q) : SA E M y z mc ms pc lv (.long x :: st) h Q := by
  intro p e R s m args below meth c C H locs cells slots ls hz hP hS hl hcc hss
  subst hq
  exact lv_lstore C.x C.b hd hl hn hl' (fun ls' hl2 => k p e R s m args below meth c C H locs cells slots ls' hz hP hS hl2 hcc hss)
theorem s_astore_n {i : Nat} {f : Fin 4} {x : Nat} {lv' : List (Nat × Value)} (hd : decode M.2.1 pc = .ok (.astore_n f, 1)) (hq : pc + 1 = q) (hi : (f : Nat) = i) (hn : i < M.2.2.1) (hl' : (i, Value.ref x) :: lv.filter (fun q => !(q.1 == i) && !(q.1 + 1 == i && q.2.category == 2)) = lv') (k : SA E M y z mc ms q lv' st h Q) : SA E M y z mc ms pc lv (.ref x :: st) h Q := by
  intro p e R s m args below meth c C H locs cells slots ls hz hP hS hl hcc hss
  subst hq
  exact lv_astore_n C.x C.b hd hi hl hn hl' (fun ls' hl2 => k p e R s m args below meth c C H locs cells slots ls' hz hP hS hl2 hcc hss)
theorem s_astore {i : Nat} {x : Nat} {lv' : List (Nat × Value)} (hd : decode M.2.1 pc = .ok (.astore i, 2)) (hq : pc + 2 = q) (hn : i < M.2.2.1) (hl' : (i, Value.ref x) :: lv.filter (fun q => !(q.1 == i) && !(q.1 + 1 == i && q.2.category == 2)) = lv') (k : SA E M y z mc ms q lv' st h Q) : SA E M y z mc ms pc lv (.ref x :: st) h Q := by
  intro p e R s m args below meth c C H locs cells slots ls hz hP hS hl hcc hss
  subst hq
  exact lv_astore C.x C.b hd hl hn hl' (fun ls' hl2 => k p e R s m args below meth c C H locs cells slots ls' hz hP hS hl2 hcc hss)
theorem s_astore_nN {i : Nat} {f : Fin 4} {lv' : List (Nat × Value)} (hd : decode M.2.1 pc = .ok (.astore_n f, 1)) (hq : pc + 1 = q) (hi : (f : Nat) = i) (hn : i < M.2.2.1) (hl' : (i, Value.null) :: lv.filter (fun q => !(q.1 == i) && !(q.1 + 1 == i && q.2.category == 2)) = lv') (k : SA E M y z mc ms q lv' st h Q) : SA E M y z mc ms pc lv (.null :: st) h Q := by
  intro p e R s m args below meth c C H locs cells slots ls hz hP hS hl hcc hss
  subst hq
  exact lv_astore_nN C.x C.b hd hi hl hn hl' (fun ls' hl2 => k p e R s m args below meth c C H locs cells slots ls' hz hP hS hl2 hcc hss)
theorem s_astoreN {i : Nat} {lv' : List (Nat × Value)} (hd : decode M.2.1 pc = .ok (.astore i, 2)) (hq : pc + 2 = q) (hn : i < M.2.2.1) (hl' : (i, Value.null) :: lv.filter (fun q => !(q.1 == i) && !(q.1 + 1 == i && q.2.category == 2)) = lv') (k : SA E M y z mc ms q lv' st h Q) : SA E M y z mc ms pc lv (.null :: st) h Q := by
  intro p e R s m args below meth c C H locs cells slots ls hz hP hS hl hcc hss
  subst hq
  exact lv_astoreN C.x C.b hd hl hn hl' (fun ls' hl2 => k p e R s m args below meth c C H locs cells slots ls' hz hP hS hl2 hcc hss)
theorem s_iinc {i j : Nat} {n : Int} {x v : Int32} {lv' : List (Nat × Value)} (hd : decode M.2.1 pc = .ok (.iinc i n, 3)) (hq : pc + 3 = q) (hj : lv[j]? = some (i, .int x)) (hv : x + Int32.ofInt n = v) (hn : i < M.2.2.1) (hl' : (i, Value.int v) :: lv.filter (fun q => !(q.1 == i) && !(q.1 + 1 == i && q.2.category == 2)) = lv') (k : SA E M y z mc ms q lv' st h Q) : SA E M y z mc ms pc lv st h Q := by
  intro p e R s m args below meth c C H locs cells slots ls hz hP hS hl hcc hss
  subst hq
  exact lv_iinc C.x C.b hd hl hj hv hn hl' (fun ls' hl2 => k p e R s m args below meth c C H locs cells slots ls' hz hP hS hl2 hcc hss)
theorem s_iadd {x w : Int32} (hd : decode M.2.1 pc = .ok (.iadd, 1)) (hq : pc + 1 = q)  (k : SA E M y z mc ms q lv (.int (x + w) :: st) h Q) : SA E M y z mc ms pc lv (.int w :: .int x :: st) h Q := by
  intro p e R s m args below meth c C H locs cells slots ls hz hP hS hl hcc hss
  subst hq
  exact lv_iadd C.x C.b hd (k p e R s m args below meth c C H locs cells slots ls hz hP hS hl hcc hss)
theorem s_isub {x w : Int32} (hd : decode M.2.1 pc = .ok (.isub, 1)) (hq : pc + 1 = q)  (k : SA E M y z mc ms q lv (.int (x - w) :: st) h Q) : SA E M y z mc ms pc lv (.int w :: .int x :: st) h Q := by
  intro p e R s m args below meth c C H locs cells slots ls hz hP hS hl hcc hss
  subst hq
  exact lv_isub C.x C.b hd (k p e R s m args below meth c C H locs cells slots ls hz hP hS hl hcc hss)
theorem s_imul {x w : Int32} (hd : decode M.2.1 pc = .ok (.imul, 1)) (hq : pc + 1 = q)  (k : SA E M y z mc ms q lv (.int (x * w) :: st) h Q) : SA E M y z mc ms pc lv (.int w :: .int x :: st) h Q := by
  intro p e R s m args below meth c C H locs cells slots ls hz hP hS hl hcc hss
  subst hq
  exact lv_imul C.x C.b hd (k p e R s m args below meth c C H locs cells slots ls hz hP hS hl hcc hss)
theorem s_iand {x w : Int32} (hd : decode M.2.1 pc = .ok (.iand, 1)) (hq : pc + 1 = q)  (k : SA E M y z mc ms q lv (.int (x &&& w) :: st) h Q) : SA E M y z mc ms pc lv (.int w :: .int x :: st) h Q := by
  intro p e R s m args below meth c C H locs cells slots ls hz hP hS hl hcc hss
  subst hq
  exact lv_iand C.x C.b hd (k p e R s m args below meth c C H locs cells slots ls hz hP hS hl hcc hss)
theorem s_ior {x w : Int32} (hd : decode M.2.1 pc = .ok (.ior, 1)) (hq : pc + 1 = q)  (k : SA E M y z mc ms q lv (.int (x ||| w) :: st) h Q) : SA E M y z mc ms pc lv (.int w :: .int x :: st) h Q := by
  intro p e R s m args below meth c C H locs cells slots ls hz hP hS hl hcc hss
  subst hq
  exact lv_ior C.x C.b hd (k p e R s m args below meth c C H locs cells slots ls hz hP hS hl hcc hss)
theorem s_ixor {x w : Int32} (hd : decode M.2.1 pc = .ok (.ixor, 1)) (hq : pc + 1 = q)  (k : SA E M y z mc ms q lv (.int (x ^^^ w) :: st) h Q) : SA E M y z mc ms pc lv (.int w :: .int x :: st) h Q := by
  intro p e R s m args below meth c C H locs cells slots ls hz hP hS hl hcc hss
  subst hq
  exact lv_ixor C.x C.b hd (k p e R s m args below meth c C H locs cells slots ls hz hP hS hl hcc hss)
theorem s_ishl {x w : Int32} (hd : decode M.2.1 pc = .ok (.ishl, 1)) (hq : pc + 1 = q)  (k : SA E M y z mc ms q lv (.int (x <<< (w &&& 31)) :: st) h Q) : SA E M y z mc ms pc lv (.int w :: .int x :: st) h Q := by
  intro p e R s m args below meth c C H locs cells slots ls hz hP hS hl hcc hss
  subst hq
  exact lv_ishl C.x C.b hd (k p e R s m args below meth c C H locs cells slots ls hz hP hS hl hcc hss)
theorem s_ishr {x w : Int32} (hd : decode M.2.1 pc = .ok (.ishr, 1)) (hq : pc + 1 = q)  (k : SA E M y z mc ms q lv (.int (x >>> (w &&& 31)) :: st) h Q) : SA E M y z mc ms pc lv (.int w :: .int x :: st) h Q := by
  intro p e R s m args below meth c C H locs cells slots ls hz hP hS hl hcc hss
  subst hq
  exact lv_ishr C.x C.b hd (k p e R s m args below meth c C H locs cells slots ls hz hP hS hl hcc hss)
theorem s_iushr {x w : Int32} (hd : decode M.2.1 pc = .ok (.iushr, 1)) (hq : pc + 1 = q)  (k : SA E M y z mc ms q lv (.int ((x.toUInt32 >>> (w.toUInt32 &&& Int32.toUInt32 31)).toInt32) :: st) h Q) : SA E M y z mc ms pc lv (.int w :: .int x :: st) h Q := by
  intro p e R s m args below meth c C H locs cells slots ls hz hP hS hl hcc hss
  subst hq
  exact lv_iushr C.x C.b hd rfl (k p e R s m args below meth c C H locs cells slots ls hz hP hS hl hcc hss)
theorem s_idiv {x w : Int32} (hd : decode M.2.1 pc = .ok (.idiv, 1)) (hq : pc + 1 = q) (hne : ¬ w = 0) (k : SA E M y z mc ms q lv (.int (x / w) :: st) h Q) : SA E M y z mc ms pc lv (.int w :: .int x :: st) h Q := by
  intro p e R s m args below meth c C H locs cells slots ls hz hP hS hl hcc hss
  subst hq
  exact lv_idiv C.x C.b hd hne (k p e R s m args below meth c C H locs cells slots ls hz hP hS hl hcc hss)
theorem s_irem {x w : Int32} (hd : decode M.2.1 pc = .ok (.irem, 1)) (hq : pc + 1 = q) (hne : ¬ w = 0) (k : SA E M y z mc ms q lv (.int (x - x / w * w) :: st) h Q) : SA E M y z mc ms pc lv (.int w :: .int x :: st) h Q := by
  intro p e R s m args below meth c C H locs cells slots ls hz hP hS hl hcc hss
  subst hq
  exact lv_irem C.x C.b hd hne (k p e R s m args below meth c C H locs cells slots ls hz hP hS hl hcc hss)
theorem s_ineg {x : Int32} (hd : decode M.2.1 pc = .ok (.ineg, 1)) (hq : pc + 1 = q)  (k : SA E M y z mc ms q lv (.int (-x) :: st) h Q) : SA E M y z mc ms pc lv (.int x :: st) h Q := by
  intro p e R s m args below meth c C H locs cells slots ls hz hP hS hl hcc hss
  subst hq
  exact lv_ineg C.x C.b hd (k p e R s m args below meth c C H locs cells slots ls hz hP hS hl hcc hss)
theorem s_ladd {x w : Int64} (hd : decode M.2.1 pc = .ok (.ladd, 1)) (hq : pc + 1 = q)  (k : SA E M y z mc ms q lv (.long (x + w) :: st) h Q) : SA E M y z mc ms pc lv (.long w :: .long x :: st) h Q := by
  intro p e R s m args below meth c C H locs cells slots ls hz hP hS hl hcc hss
  subst hq
  exact lv_ladd C.x C.b hd (k p e R s m args below meth c C H locs cells slots ls hz hP hS hl hcc hss)
theorem s_lsub {x w : Int64} (hd : decode M.2.1 pc = .ok (.lsub, 1)) (hq : pc + 1 = q)  (k : SA E M y z mc ms q lv (.long (x - w) :: st) h Q) : SA E M y z mc ms pc lv (.long w :: .long x :: st) h Q := by
  intro p e R s m args below meth c C H locs cells slots ls hz hP hS hl hcc hss
  subst hq
  exact lv_lsub C.x C.b hd (k p e R s m args below meth c C H locs cells slots ls hz hP hS hl hcc hss)
theorem s_lmul {x w : Int64} (hd : decode M.2.1 pc = .ok (.lmul, 1)) (hq : pc + 1 = q)  (k : SA E M y z mc ms q lv (.long (x * w) :: st) h Q) : SA E M y z mc ms pc lv (.long w :: .long x :: st) h Q := by
  intro p e R s m args below meth c C H locs cells slots ls hz hP hS hl hcc hss
  subst hq
  exact lv_lmul C.x C.b hd (k p e R s m args below meth c C H locs cells slots ls hz hP hS hl hcc hss)
theorem s_ldiv {x w : Int64} (hd : decode M.2.1 pc = .ok (.ldiv, 1)) (hq : pc + 1 = q) (hne : ¬ w = 0) (k : SA E M y z mc ms q lv (.long (x / w) :: st) h Q) : SA E M y z mc ms pc lv (.long w :: .long x :: st) h Q := by
  intro p e R s m args below meth c C H locs cells slots ls hz hP hS hl hcc hss
  subst hq
  exact lv_ldiv C.x C.b hd hne (k p e R s m args below meth c C H locs cells slots ls hz hP hS hl hcc hss)
theorem s_lrem {x w : Int64} (hd : decode M.2.1 pc = .ok (.lrem, 1)) (hq : pc + 1 = q) (hne : ¬ w = 0) (k : SA E M y z mc ms q lv (.long (x - x / w * w) :: st) h Q) : SA E M y z mc ms pc lv (.long w :: .long x :: st) h Q := by
  intro p e R s m args below meth c C H locs cells slots ls hz hP hS hl hcc hss
  subst hq
  exact lv_lrem C.x C.b hd hne (k p e R s m args below meth c C H locs cells slots ls hz hP hS hl hcc hss)
theorem s_lcmp {x w : Int64} (hd : decode M.2.1 pc = .ok (.lcmp, 1)) (hq : pc + 1 = q)  (k : SA E M y z mc ms q lv (.int (lg_cmp x w) :: st) h Q) : SA E M y z mc ms pc lv (.long w :: .long x :: st) h Q := by
  intro p e R s m args below meth c C H locs cells slots ls hz hP hS hl hcc hss
  subst hq
  exact W.lcmp C.x C.b hd (k p e R s m args below meth c C H locs cells slots ls hz hP hS hl hcc hss)
theorem s_i2l {x : Int32} (hd : decode M.2.1 pc = .ok (.i2l, 1)) (hq : pc + 1 = q)  (k : SA E M y z mc ms q lv (.long (x.toInt64) :: st) h Q) : SA E M y z mc ms pc lv (.int x :: st) h Q := by
  intro p e R s m args below meth c C H locs cells slots ls hz hP hS hl hcc hss
  subst hq
  exact lv_i2l C.x C.b hd rfl (k p e R s m args below meth c C H locs cells slots ls hz hP hS hl hcc hss)
theorem s_l2i {x : Int64} (hd : decode M.2.1 pc = .ok (.l2i, 1)) (hq : pc + 1 = q)  (k : SA E M y z mc ms q lv (.int (x.toInt32) :: st) h Q) : SA E M y z mc ms pc lv (.long x :: st) h Q := by
  intro p e R s m args below meth c C H locs cells slots ls hz hP hS hl hcc hss
  subst hq
  exact lv_l2i C.x C.b hd rfl (k p e R s m args below meth c C H locs cells slots ls hz hP hS hl hcc hss)
theorem s_i2b {x : Int32} (hd : decode M.2.1 pc = .ok (.i2b, 1)) (hq : pc + 1 = q)  (k : SA E M y z mc ms q lv (.int (x.toInt8.toInt32) :: st) h Q) : SA E M y z mc ms pc lv (.int x :: st) h Q := by
  intro p e R s m args below meth c C H locs cells slots ls hz hP hS hl hcc hss
  subst hq
  exact lv_i2b C.x C.b hd rfl (k p e R s m args below meth c C H locs cells slots ls hz hP hS hl hcc hss)
theorem s_i2s {x : Int32} (hd : decode M.2.1 pc = .ok (.i2s, 1)) (hq : pc + 1 = q)  (k : SA E M y z mc ms q lv (.int (x.toInt16.toInt32) :: st) h Q) : SA E M y z mc ms pc lv (.int x :: st) h Q := by
  intro p e R s m args below meth c C H locs cells slots ls hz hP hS hl hcc hss
  subst hq
  exact lv_i2s C.x C.b hd rfl (k p e R s m args below meth c C H locs cells slots ls hz hP hS hl hcc hss)
theorem s_i2c {x : Int32} (hd : decode M.2.1 pc = .ok (.i2c, 1)) (hq : pc + 1 = q)  (k : SA E M y z mc ms q lv (.int ((x.toUInt32 % 65536).toInt32) :: st) h Q) : SA E M y z mc ms pc lv (.int x :: st) h Q := by
  intro p e R s m args below meth c C H locs cells slots ls hz hP hS hl hcc hss
  subst hq
  exact lv_i2c C.x C.b hd rfl (k p e R s m args below meth c C H locs cells slots ls hz hP hS hl hcc hss)
theorem s_dup {v : Value} (hd : decode M.2.1 pc = .ok (.dup, 1)) (hq : pc + 1 = q) (hv : v.category = 1) (k : SA E M y z mc ms q lv (v :: v :: st) h Q) : SA E M y z mc ms pc lv (v :: st) h Q := by
  intro p e R s m args below meth c C H locs cells slots ls hz hP hS hl hcc hss
  subst hq
  exact lv_dup C.x C.b hd hv (k p e R s m args below meth c C H locs cells slots ls hz hP hS hl hcc hss)
theorem s_pop {v : Value} (hd : decode M.2.1 pc = .ok (.pop, 1)) (hq : pc + 1 = q) (hv : v.category = 1) (k : SA E M y z mc ms q lv (st) h Q) : SA E M y z mc ms pc lv (v :: st) h Q := by
  intro p e R s m args below meth c C H locs cells slots ls hz hP hS hl hcc hss
  subst hq
  exact lv_pop C.x C.b hd hv (k p e R s m args below meth c C H locs cells slots ls hz hP hS hl hcc hss)
theorem s_dup2 {v w : Value} (hd : decode M.2.1 pc = .ok (.dup2, 1)) (hq : pc + 1 = q) (hv : v.category = 1) (hw : w.category = 1) (k : SA E M y z mc ms q lv (v :: w :: v :: w :: st) h Q) : SA E M y z mc ms pc lv (v :: w :: st) h Q := by
  intro p e R s m args below meth c C H locs cells slots ls hz hP hS hl hcc hss
  subst hq
  exact lv_dup2_11 C.x C.b hd hv hw (k p e R s m args below meth c C H locs cells slots ls hz hP hS hl hcc hss)
theorem s_dup_x1 {v w : Value} (hd : decode M.2.1 pc = .ok (.dup_x1, 1)) (hq : pc + 1 = q) (hv : v.category = 1) (hw : w.category = 1) (k : SA E M y z mc ms q lv (v :: w :: v :: st) h Q) : SA E M y z mc ms pc lv (v :: w :: st) h Q := by
  intro p e R s m args below meth c C H locs cells slots ls hz hP hS hl hcc hss
  subst hq
  exact lv_dup_x1 C.x C.b hd hv hw (k p e R s m args below meth c C H locs cells slots ls hz hP hS hl hcc hss)
theorem s_icmp_eq {x w : Int32} {off : Int} {tgt : Nat} (hd : decode M.2.1 pc = .ok (.if_icmp .eq off, 3)) (ht : (pc : Int) + off = (tgt : Int)) (hq : pc + 3 = q) (kt : x = w → SA E M y z mc ms tgt lv st h Q) (kf : ¬ x = w → SA E M y z mc ms q lv st h Q) : SA E M y z mc ms pc lv (.int w :: .int x :: st) h Q := by
  intro p e R s m args below meth c C H locs cells slots ls hz hP hS hl hcc hss
  subst hq
  exact lv_icmp_eq C.x C.b hd ht (fun hp => kt hp p e R s m args below meth c C H locs cells slots ls hz hP hS hl hcc hss) (fun hp => kf hp p e R s m args below meth c C H locs cells slots ls hz hP hS hl hcc hss)
theorem s_if_eq {x : Int32} {off : Int} {tgt : Nat} (hd : decode M.2.1 pc = .ok (.ifCond .eq off, 3)) (ht : (pc : Int) + off = (tgt : Int)) (hq : pc + 3 = q) (kt : x = 0 → SA E M y z mc ms tgt lv st h Q) (kf : ¬ x = 0 → SA E M y z mc ms q lv st h Q) : SA E M y z mc ms pc lv (.int x :: st) h Q := by
  intro p e R s m args below meth c C H locs cells slots ls hz hP hS hl hcc hss
  subst hq
  exact lv_if_eq C.x C.b hd ht (fun hp => kt hp p e R s m args below meth c C H locs cells slots ls hz hP hS hl hcc hss) (fun hp => kf hp p e R s m args below meth c C H locs cells slots ls hz hP hS hl hcc hss)
theorem s_icmp_lt {x w : Int32} {off : Int} {tgt : Nat} (hd : decode M.2.1 pc = .ok (.if_icmp .lt off, 3)) (ht : (pc : Int) + off = (tgt : Int)) (hq : pc + 3 = q) (kt : x < w → SA E M y z mc ms tgt lv st h Q) (kf : ¬ x < w → SA E M y z mc ms q lv st h Q) : SA E M y z mc ms pc lv (.int w :: .int x :: st) h Q := by
  intro p e R s m args below meth c C H locs cells slots ls hz hP hS hl hcc hss
  subst hq
  exact lv_icmp_lt C.x C.b hd ht (fun hp => kt hp p e R s m args below meth c C H locs cells slots ls hz hP hS hl hcc hss) (fun hp => kf hp p e R s m args below meth c C H locs cells slots ls hz hP hS hl hcc hss)
theorem s_if_lt {x : Int32} {off : Int} {tgt : Nat} (hd : decode M.2.1 pc = .ok (.ifCond .lt off, 3)) (ht : (pc : Int) + off = (tgt : Int)) (hq : pc + 3 = q) (kt : x < 0 → SA E M y z mc ms tgt lv st h Q) (kf : ¬ x < 0 → SA E M y z mc ms q lv st h Q) : SA E M y z mc ms pc lv (.int x :: st) h Q := by
  intro p e R s m args below meth c C H locs cells slots ls hz hP hS hl hcc hss
  subst hq
  exact lv_if_lt C.x C.b hd ht (fun hp => kt hp p e R s m args below meth c C H locs cells slots ls hz hP hS hl hcc hss) (fun hp => kf hp p e R s m args below meth c C H locs cells slots ls hz hP hS hl hcc hss)
theorem s_icmp_ge {x w : Int32} {off : Int} {tgt : Nat} (hd : decode M.2.1 pc = .ok (.if_icmp .ge off, 3)) (ht : (pc : Int) + off = (tgt : Int)) (hq : pc + 3 = q) (kt : w ≤ x → SA E M y z mc ms tgt lv st h Q) (kf : ¬ w ≤ x → SA E M y z mc ms q lv st h Q) : SA E M y z mc ms pc lv (.int w :: .int x :: st) h Q := by
  intro p e R s m args below meth c C H locs cells slots ls hz hP hS hl hcc hss
  subst hq
  exact lv_icmp_ge C.x C.b hd ht (fun hp => kt hp p e R s m args below meth c C H locs cells slots ls hz hP hS hl hcc hss) (fun hp => kf hp p e R s m args below meth c C H locs cells slots ls hz hP hS hl hcc hss)
theorem s_if_ge {x : Int32} {off : Int} {tgt : Nat} (hd : decode M.2.1 pc = .ok (.ifCond .ge off, 3)) (ht : (pc : Int) + off = (tgt : Int)) (hq : pc + 3 = q) (kt : 0 ≤ x → SA E M y z mc ms tgt lv st h Q) (kf : ¬ 0 ≤ x → SA E M y z mc ms q lv st h Q) : SA E M y z mc ms pc lv (.int x :: st) h Q := by
  intro p e R s m args below meth c C H locs cells slots ls hz hP hS hl hcc hss
  subst hq
  exact lv_if_ge C.x C.b hd ht (fun hp => kt hp p e R s m args below meth c C H locs cells slots ls hz hP hS hl hcc hss) (fun hp => kf hp p e R s m args below meth c C H locs cells slots ls hz hP hS hl hcc hss)
theorem s_icmp_gt {x w : Int32} {off : Int} {tgt : Nat} (hd : decode M.2.1 pc = .ok (.if_icmp .gt off, 3)) (ht : (pc : Int) + off = (tgt : Int)) (hq : pc + 3 = q) (kt : w < x → SA E M y z mc ms tgt lv st h Q) (kf : ¬ w < x → SA E M y z mc ms q lv st h Q) : SA E M y z mc ms pc lv (.int w :: .int x :: st) h Q := by
  intro p e R s m args below meth c C H locs cells slots ls hz hP hS hl hcc hss
  subst hq
  exact lv_icmp_gt C.x C.b hd ht (fun hp => kt hp p e R s m args below meth c C H locs cells slots ls hz hP hS hl hcc hss) (fun hp => kf hp p e R s m args below meth c C H locs cells slots ls hz hP hS hl hcc hss)
theorem s_if_gt {x : Int32} {off : Int} {tgt : Nat} (hd : decode M.2.1 pc = .ok (.ifCond .gt off, 3)) (ht : (pc : Int) + off = (tgt : Int)) (hq : pc + 3 = q) (kt : 0 < x → SA E M y z mc ms tgt lv st h Q) (kf : ¬ 0 < x → SA E M y z mc ms q lv st h Q) : SA E M y z mc ms pc lv (.int x :: st) h Q := by
  intro p e R s m args below meth c C H locs cells slots ls hz hP hS hl hcc hss
  subst hq
  exact lv_if_gt C.x C.b hd ht (fun hp => kt hp p e R s m args below meth c C H locs cells slots ls hz hP hS hl hcc hss) (fun hp => kf hp p e R s m args below meth c C H locs cells slots ls hz hP hS hl hcc hss)
theorem s_icmp_le {x w : Int32} {off : Int} {tgt : Nat} (hd : decode M.2.1 pc = .ok (.if_icmp .le off, 3)) (ht : (pc : Int) + off = (tgt : Int)) (hq : pc + 3 = q) (kt : x ≤ w → SA E M y z mc ms tgt lv st h Q) (kf : ¬ x ≤ w → SA E M y z mc ms q lv st h Q) : SA E M y z mc ms pc lv (.int w :: .int x :: st) h Q := by
  intro p e R s m args below meth c C H locs cells slots ls hz hP hS hl hcc hss
  subst hq
  exact lv_icmp_le C.x C.b hd ht (fun hp => kt hp p e R s m args below meth c C H locs cells slots ls hz hP hS hl hcc hss) (fun hp => kf hp p e R s m args below meth c C H locs cells slots ls hz hP hS hl hcc hss)
theorem s_if_le {x : Int32} {off : Int} {tgt : Nat} (hd : decode M.2.1 pc = .ok (.ifCond .le off, 3)) (ht : (pc : Int) + off = (tgt : Int)) (hq : pc + 3 = q) (kt : x ≤ 0 → SA E M y z mc ms tgt lv st h Q) (kf : ¬ x ≤ 0 → SA E M y z mc ms q lv st h Q) : SA E M y z mc ms pc lv (.int x :: st) h Q := by
  intro p e R s m args below meth c C H locs cells slots ls hz hP hS hl hcc hss
  subst hq
  exact lv_if_le C.x C.b hd ht (fun hp => kt hp p e R s m args below meth c C H locs cells slots ls hz hP hS hl hcc hss) (fun hp => kf hp p e R s m args below meth c C H locs cells slots ls hz hP hS hl hcc hss)
theorem s_icmp_ne {x w : Int32} {off : Int} {tgt : Nat} (hd : decode M.2.1 pc = .ok (.if_icmp .ne off, 3)) (ht : (pc : Int) + off = (tgt : Int)) (hq : pc + 3 = q) (kt : ¬ x = w → SA E M y z mc ms tgt lv st h Q) (kf : x = w → SA E M y z mc ms q lv st h Q) : SA E M y z mc ms pc lv (.int w :: .int x :: st) h Q := by
  intro p e R s m args below meth c C H locs cells slots ls hz hP hS hl hcc hss
  subst hq
  exact lv_icmp_ne C.x C.b hd ht (fun hp => kt hp p e R s m args below meth c C H locs cells slots ls hz hP hS hl hcc hss) (fun hp => kf hp p e R s m args below meth c C H locs cells slots ls hz hP hS hl hcc hss)
theorem s_if_ne {x : Int32} {off : Int} {tgt : Nat} (hd : decode M.2.1 pc = .ok (.ifCond .ne off, 3)) (ht : (pc : Int) + off = (tgt : Int)) (hq : pc + 3 = q) (kt : ¬ x = 0 → SA E M y z mc ms tgt lv st h Q) (kf : x = 0 → SA E M y z mc ms q lv st h Q) : SA E M y z mc ms pc lv (.int x :: st) h Q := by
  intro p e R s m args below meth c C H locs cells slots ls hz hP hS hl hcc hss
  subst hq
  exact lv_if_ne C.x C.b hd ht (fun hp => kt hp p e R s m args below meth c C H locs cells slots ls hz hP hS hl hcc hss) (fun hp => kf hp p e R s m args below meth c C H locs cells slots ls hz hP hS hl hcc hss)
theorem s_goto {off : Int} {tgt : Nat} (hd : decode M.2.1 pc = .ok (.goto off, 3)) (ht : (pc : Int) + off = (tgt : Int)) (k : SA E M y z mc ms tgt lv (st) h Q) : SA E M y z mc ms pc lv (st) h Q := by
  intro p e R s m args below meth c C H locs cells slots ls hz hP hS hl hcc hss
  exact lv_goto C.x C.b hd ht (k p e R s m args below meth c C H locs cells slots ls hz hP hS hl hcc hss)
theorem s_ifnullN {off : Int} {tgt : Nat} (hd : decode M.2.1 pc = .ok (.ifnull off, 3)) (ht : (pc : Int) + off = (tgt : Int)) (k : SA E M y z mc ms tgt lv (st) h Q) : SA E M y z mc ms pc lv (.null :: st) h Q := by
  intro p e R s m args below meth c C H locs cells slots ls hz hP hS hl hcc hss
  exact lv_ifnullN C.x C.b hd ht (k p e R s m args below meth c C H locs cells slots ls hz hP hS hl hcc hss)
theorem s_ifnonnull {off : Int} {tgt x : Nat} (hd : decode M.2.1 pc = .ok (.ifnonnull off, 3)) (ht : (pc : Int) + off = (tgt : Int)) (k : SA E M y z mc ms tgt lv (st) h Q) : SA E M y z mc ms pc lv (.ref x :: st) h Q := by
  intro p e R s m args below meth c C H locs cells slots ls hz hP hS hl hcc hss
  exact lv_ifnonnull C.x C.b hd ht (k p e R s m args below meth c C H locs cells slots ls hz hP hS hl hcc hss)
theorem s_ifnull {off : Int} {tgt x : Nat} (hd : decode M.2.1 pc = .ok (.ifnull off, 3)) (ht : pc + 3 = tgt) (k : SA E M y z mc ms tgt lv (st) h Q) : SA E M y z mc ms pc lv (.ref x :: st) h Q := by
  intro p e R s m args below meth c C H locs cells slots ls hz hP hS hl hcc hss
  exact lv_ifnull C.x C.b hd (by subst ht; exact (k p e R s m args below meth c C H locs cells slots ls hz hP hS hl hcc hss))
theorem s_ifnonnullN {off : Int} {tgt : Nat} (hd : decode M.2.1 pc = .ok (.ifnonnull off, 3)) (ht : pc + 3 = tgt) (k : SA E M y z mc ms tgt lv (st) h Q) : SA E M y z mc ms pc lv (.null :: st) h Q := by
  intro p e R s m args below meth c C H locs cells slots ls hz hP hS hl hcc hss
  exact lv_ifnonnullN C.x C.b hd (by subst ht; exact (k p e R s m args below meth c C H locs cells slots ls hz hP hS hl hcc hss))
theorem s_tableOut {dflt lo hi : Int} {offs : Array Int} {len : Nat} {x : Int32} {tgt : Nat} (hd : decode M.2.1 pc = .ok (.tableswitch dflt lo hi offs, len)) (hx : x.toInt < lo ∨ hi < x.toInt) (ht : (pc : Int) + dflt = (tgt : Int)) (k : SA E M y z mc ms tgt lv (st) h Q) : SA E M y z mc ms pc lv (.int x :: st) h Q := by
  intro p e R s m args below meth c C H locs cells slots ls hz hP hS hl hcc hss
  exact lv_tableOut C.x C.b hd hx ht (k p e R s m args below meth c C H locs cells slots ls hz hP hS hl hcc hss)
theorem s_tableIn {dflt lo hi : Int} {offs : Array Int} {len : Nat} {x : Int32} {off : Int} {tgt : Nat} (hd : decode M.2.1 pc = .ok (.tableswitch dflt lo hi offs, len)) (h1 : ¬ x.toInt < lo) (h2 : ¬ hi < x.toInt) (ho : offs[(x.toInt - lo).toNat]? = some off) (ht : (pc : Int) + off = (tgt : Int)) (k : SA E M y z mc ms tgt lv (st) h Q) : SA E M y z mc ms pc lv (.int x :: st) h Q := by
  intro p e R s m args below meth c C H locs cells slots ls hz hP hS hl hcc hss
  exact lv_tableIn C.x C.b hd h1 h2 ho ht (k p e R s m args below meth c C H locs cells slots ls hz hP hS hl hcc hss)
theorem s_lookup {dflt : Int} {ps : Array (Int × Int)} {len : Nat} {x : Int32} {off : Int} {tgt : Nat} (hd : decode M.2.1 pc = .ok (.lookupswitch dflt ps, len)) (hp : (ps.toList.zip (ps.toList.drop 1)).all (fun (a, next) => a.1 < next.1) = true) (ho : Op.lookupswitch.offset ps.toList dflt x.toInt = off) (ht : (pc : Int) + off = (tgt : Int)) (k : SA E M y z mc ms tgt lv (st) h Q) : SA E M y z mc ms pc lv (.int x :: st) h Q := by
  intro p e R s m args below meth c C H locs cells slots ls hz hP hS hl hcc hss
  exact lv_lookup C.x C.b hd hp ho ht (k p e R s m args below meth c C H locs cells slots ls hz hP hS hl hcc hss)
theorem s_getf {k0 ci n i j : Nat} {Cn : String} {T : u_T} {fs : List Value} {v : Value} (hd : decode M.2.1 pc = .ok (.getfield i, 3)) (hq : pc + 3 = q) (hh : h[k0]? = some (.inr (ci, fs))) (hc : vwCl[ci]? = some (Cn, T, n)) (hin : ∀ w ∈ u_ws Cn T n, w ∈ TB) (hj : j < n) (hw : Cond.fieldLink M.1.cls i (T j).1 (T j).2.1 (T j).2.2.1 ∈ TB) (hv : fs[j]? = some v) (k : SA E M y z mc ms q lv (v :: st) h Q) : SA E M y z mc ms pc lv (.ref (eB E + k0) :: st) h Q := by
  intro p e R s m args below meth c C H locs cells slots ls hz hP hS hl hcc hss
  subst hq
  exact va_get (D := eD E) C.x C.b C.ts hin C.o C.K hP k0 (hw_at hh) hc j hj (C.ts _ hw) (fun _ h9 => h9) hv hd (k p e R s m args below meth c C H locs cells slots ls hz hP hS hl hcc hss)
theorem s_iald {k0 n : Nat} {f : Nat → Int32} {x : Int32} (hd : decode M.2.1 pc = .ok (.iaload, 1)) (hq : pc + 1 = q) (hh : h[k0]? = some (.inl (eI E, n, .inl f))) (hx : vp_in x n) (k : SA E M y z mc ms q lv (.int (f x.toNatClampNeg) :: st) h Q) : SA E M y z mc ms pc lv (.int x :: .ref (eB E + k0) :: st) h Q := by
  intro p e R s m args below meth c C H locs cells slots ls hz hP hS hl hcc hss
  subst hq
  exact va_iald C.x C.b C.K hP k0 0 (hw_at hh) rfl hx hd (k p e R s m args below meth c C H locs cells slots ls hz hP hS hl hcc hss)
theorem s_bald {k0 n : Nat} {f : Nat → Int32} {x : Int32} (hd : decode M.2.1 pc = .ok (.baload, 1)) (hq : pc + 1 = q) (hh : h[k0]? = some (.inl (eY E, n, .inl f))) (hx : vp_in x n) (k : SA E M y z mc ms q lv (.int (f x.toNatClampNeg) :: st) h Q) : SA E M y z mc ms pc lv (.int x :: .ref (eB E + k0) :: st) h Q := by
  intro p e R s m args below meth c C H locs cells slots ls hz hP hS hl hcc hss
  subst hq
  exact va_bald C.x C.b C.K hP k0 1 (hw_at hh) rfl hx hd (k p e R s m args below meth c C H locs cells slots ls hz hP hS hl hcc hss)
theorem s_cald {k0 n : Nat} {f : Nat → Int32} {x : Int32} (hd : decode M.2.1 pc = .ok (.caload, 1)) (hq : pc + 1 = q) (hh : h[k0]? = some (.inl (eC E, n, .inl f))) (hx : vp_in x n) (k : SA E M y z mc ms q lv (.int (f x.toNatClampNeg) :: st) h Q) : SA E M y z mc ms pc lv (.int x :: .ref (eB E + k0) :: st) h Q := by
  intro p e R s m args below meth c C H locs cells slots ls hz hP hS hl hcc hss
  subst hq
  exact va_cald C.x C.b C.K hP k0 2 (hw_at hh) rfl hx hd (k p e R s m args below meth c C H locs cells slots ls hz hP hS hl hcc hss)
theorem s_aald {k0 n : Nat} {f : Nat → Option Nat} {x : Int32} (hd : decode M.2.1 pc = .ok (.aaload, 1)) (hq : pc + 1 = q) (hh : h[k0]? = some (.inl (eH E, n, .inr (.inr (.inr (.inr f)))))) (hx : vp_in x n) (k : SA E M y z mc ms q lv (va_rf (f x.toNatClampNeg) :: st) h Q) : SA E M y z mc ms pc lv (.int x :: .ref (eB E + k0) :: st) h Q := by
  intro p e R s m args below meth c C H locs cells slots ls hz hP hS hl hcc hss
  subst hq
  exact va_aldq C.x C.b C.K hP k0 3 (hw_at hh) rfl hx hd (k p e R s m args below meth c C H locs cells slots ls hz hP hS hl hcc hss)
theorem s_alen {k0 t0 : Nat} {cA : ClassId} {ty : FieldType} {x : vp_A} {v : Int32} (hd : decode M.2.1 pc = .ok (.arraylength, 1)) (hq : pc + 1 = q) (hh : h[k0]? = some (.inl (cA, x))) (ht : (eT E)[t0]? = some (cA, ty)) (hv : Int32.ofNat x.1 = v) (k : SA E M y z mc ms q lv (.int v :: st) h Q) : SA E M y z mc ms pc lv (.ref (eB E + k0) :: st) h Q := by
  intro p e R s m args below meth c C H locs cells slots ls hz hP hS hl hcc hss
  subst hq
  exact va_alen C.x C.b C.K hP k0 t0 (hw_at hh) ht hv hd (k p e R s m args below meth c C H locs cells slots ls hz hP hS hl hcc hss)
theorem s_oldld {t n : Nat} {f : Nat → Int32} {x : Int32} (hd : decode M.2.1 pc = .ok (.iaload, 1)) (hq : pc + 1 = q) (hh : (t, n, f) ∈ (eM E, 4, tabF) :: eO E) (hx : vp_in x n) (k : SA E M y z mc ms q lv (.int (f x.toNatClampNeg) :: st) h Q) : SA E M y z mc ms pc lv (.int x :: .ref t :: st) h Q := by
  intro p e R s m args below meth c C H locs cells slots ls hz hP hS hl hcc hss
  subst hq
  exact va_ti C.x C.b (C.old.2.1 _ hh) hS hx rfl hd (k p e R s m args below meth c C H locs cells slots ls hz hP hS hl hcc hss)
theorem s_oldlen {t n : Nat} {f : Nat → Int32} {v : Int32} (hd : decode M.2.1 pc = .ok (.arraylength, 1)) (hq : pc + 1 = q) (hh : (t, n, f) ∈ (eM E, 4, tabF) :: eO E) (hv : Int32.ofNat n = v) (k : SA E M y z mc ms q lv (.int v :: st) h Q) : SA E M y z mc ms pc lv (.ref t :: st) h Q := by
  intro p e R s m args below meth c C H locs cells slots ls hz hP hS hl hcc hss
  subst hq
  exact va_tlen C.x C.b (C.old.2.1 _ hh) hS hv hd (k p e R s m args below meth c C H locs cells slots ls hz hP hS hl hcc hss)
theorem s_table {i : Nat} (hd : decode M.2.1 pc = .ok (.getstatic i, 3)) (hq : pc + 3 = q) (hw : Cond.fieldLink M.1.cls i "StarCrew" "MOST_SETTING" "[I" ∈ TB) (k : SA E M y z mc ms q lv (.ref (eM E) :: st) h Q) : SA E M y z mc ms pc lv (st) h Q := by
  intro p e R s m args below meth c C H locs cells slots ls hz hP hS hl hcc hss
  subst hq
  exact va_gets C.x C.b C.old.1 hS C.o (C.ts _ hw) (fun _ h9 => h9) hd (k p e R s m args below meth c C H locs cells slots ls hz hP hS hl hcc hss)
theorem s_tableN {i : Nat} {host : String} (hd : decode M.2.1 pc = .ok (.getstatic i, 3)) (hq : pc + 3 = q) (hw : Cond.fieldLinkNest M.1.cls i "StarCrew" "MOST_SETTING" "[I" host ∈ NB) (k : SA E M y z mc ms q lv (.ref (eM E) :: st) h Q) : SA E M y z mc ms pc lv (st) h Q := by
  intro p e R s m args below meth c C H locs cells slots ls hz hP hS hl hcc hss
  subst hq
  exact va_getsN C.x C.b C.old.1 hS C.o (va_Nw.use rfl (C.nb _ hw)) (fun _ h9 => h9) hd (k p e R s m args below meth c C H locs cells slots ls hz hP hS hl hcc hss)
theorem s_putf {k0 ci n i j : Nat} {Cn : String} {T : u_T} {ty0 : Nat → FieldType} {fs : List Value} {v : Value} (hd : decode M.2.1 pc = .ok (.putfield i, 3)) (hq : pc + 3 = q) (hh : h[k0]? = some (.inr (ci, fs))) (hc : vwCl[ci]? = some (Cn, T, n)) (hin : ∀ w ∈ u_ws Cn T n, w ∈ TB) (hty : ∀ k, k < n → parseFieldDescriptor (T k).2.2.1 = some (ty0 k)) (hnm : ∀ a, a < n → ∀ b, b < n → a ≠ b → (T a).2.1 ≠ (T b).2.1) (hj : j < n) (hlk : Cond.fieldLink M.1.cls i (T j).1 (T j).2.1 (T j).2.2.1 ∈ TB) (hfin : (T j).2.2.2 = false)  (hn : narrow (ty0 j) v = v) (hfit : fits (ty0 j) v = true) (hlen : j < fs.length) (k : SA E M y z mc ms q lv st (h.set k0 (.inr (ci, fs.set j v))) Q) : SA E M y z mc ms pc lv (v :: .ref (eB E + k0) :: st) h Q := by
  intro p e R s m args below meth c C H locs cells slots ls hz hP hS hl hcc hss
  subst hq
  have hD := hw_D E h
  have hap := va_apart (own := M.1.cls) C.ts hin ty0 hty hnm C.K hc
  obtain ⟨r, h1, cell, q1, q2, q3, q4⟩ := hP k0 _ (hw_at hh)
  have hr : r = (Cn, T, n) := Option.some.inj (h1.symm.trans hc)
  subst hr
  obtain ⟨hSl, hfc, kC, hkC, hkind⟩ := C.K.1 ci _ hc
  obtain ⟨cf, kf, fi, f, hi, hsl⟩ := hSl j hj
  have hlay := C.ts _ (hin _ (u_in_lay hj))
  unfold u_lay at hlay
  rw [if_neg (by rw [hfin]; decide)] at hlay
  have hst := (u_facts hfc hkC (u_lays C.ts hin hj) hi).1
  have h6 := u_store hfc hkC hkind hlay hi (hty j hj) hn hfit
  refine W.putK C.x C.b (f := f) ⟨C.o, C.ts _ hlk, ⟨_, _, _, hi⟩, hst⟩ (by rw [q2]; exact h6) q1 q3 (by rw [hsl]; exact k2_hasslot (q4 j hj)) rfl rfl hd fun H' e1 e2 e3 => ?_
  rw [hsl] at e1 ⊢
  have hP' : va_P (eD E) vwCl (hw (eB E) (h.set k0 (.inr (ci, fs.set j v)))) H' := by
    rw [← hw_set]
    exact hP.set hD (hw_at hh) ⟨_, hc, t_OB.to (V := updV (vp_V fs) j v) ⟨_, e1, q2, q3, t_set q4 hap hj v⟩ (fun j' _ => vp_updV_set hlen v j')⟩ e3
  exact k p e R s m args below meth c C H' _ cells slots ls (fun hy => by rw [e2, hz hy, List.length_set]) hP' (hS.put e2 e3 (hD.2 k0 _ (hw_at hh))) hl hcc hss
theorem s_putF {k0 ci n i j : Nat} {Cn : String} {T : u_T} {ty0 : Nat → FieldType} {fs : List Value} {v : Value} (hd : decode M.2.1 pc = .ok (.putfield i, 3)) (hq : pc + 3 = q) (hh : h[k0]? = some (.inr (ci, fs))) (hc : vwCl[ci]? = some (Cn, T, n)) (hin : ∀ w ∈ u_ws Cn T n, w ∈ TB) (hty : ∀ k, k < n → parseFieldDescriptor (T k).2.2.1 = some (ty0 k)) (hnm : ∀ a, a < n → ∀ b, b < n → a ≠ b → (T a).2.1 ≠ (T b).2.1) (hj : j < n) (hlk : Cond.fieldLink M.1.cls i (T j).1 (T j).2.1 (T j).2.2.1 ∈ TB) (hfin : (T j).2.2.2 = true) (hini : M.1.name = "<init>") (hdecl : (T j).1 = M.1.cls) (hn : narrow (ty0 j) v = v) (hfit : fits (ty0 j) v = true) (hlen : j < fs.length) (k : SA E M y z mc ms q lv st (h.set k0 (.inr (ci, fs.set j v))) Q) : SA E M y z mc ms pc lv (v :: .ref (eB E + k0) :: st) h Q := by
  intro p e R s m args below meth c C H locs cells slots ls hz hP hS hl hcc hss
  subst hq
  have hD := hw_D E h
  have hap := va_apart (own := M.1.cls) C.ts hin ty0 hty hnm C.K hc
  obtain ⟨r, h1, cell, q1, q2, q3, q4⟩ := hP k0 _ (hw_at hh)
  have hr : r = (Cn, T, n) := Option.some.inj (h1.symm.trans hc)
  subst hr
  obtain ⟨hSl, hfc, kC, hkC, hkind⟩ := C.K.1 ci _ hc
  obtain ⟨cf, kf, fi, f, hi, hsl⟩ := hSl j hj
  have hlay := C.ts _ (hin _ (u_in_lay hj))
  unfold u_lay at hlay
  rw [if_pos hfin] at hlay
  have hst := (u_facts hfc hkC (u_lays C.ts hin hj) hi).1
  have hcf : m.cls = cf := by
    obtain ⟨_, _, c', _, _, _, -, -, hf', -, -, -, hown2, -⟩ := Cond.laysFinal_spec hlay
    have e1 : c' = cf := by have := hi.symm.trans hf'; simp at this; exact this.1.symm
    rw [hdecl] at hown2
    rw [← e1]; exact Option.some.inj (C.o.symm.trans hown2)
  have h6 := u_fits hfc hkC hkind (Or.inr hlay) hi (hty j hj) hn hfit
  refine W.putFinK C.x C.b C.o (C.ts _ hlk) hi hst hcf (C.nm hini) (by rw [q2]; exact h6) q1 q3 (by rw [hsl]; exact k2_hasslot (q4 j hj)) rfl rfl hd fun H' e1 e2 e3 => ?_
  rw [hsl] at e1 ⊢
  have hP' : va_P (eD E) vwCl (hw (eB E) (h.set k0 (.inr (ci, fs.set j v)))) H' := by
    rw [← hw_set]
    exact hP.set hD (hw_at hh) ⟨_, hc, t_OB.to (V := updV (vp_V fs) j v) ⟨_, e1, q2, q3, t_set q4 hap hj v⟩ (fun j' _ => vp_updV_set hlen v j')⟩ e3
  exact k p e R s m args below meth c C H' _ cells slots ls (fun hy => by rw [e2, hz hy, List.length_set]) hP' (hS.put e2 e3 (hD.2 k0 _ (hw_at hh))) hl hcc hss
theorem s_iast {k0 n : Nat} {f : Nat → Int32} {x i : Int32} (hd : decode M.2.1 pc = .ok (.iastore, 1)) (hq : pc + 1 = q) (hh : h[k0]? = some (.inl (eI E, n, .inl f))) (hx : vp_in i n) (k : SA E M y z mc ms q lv st (h.set k0 (.inl (eI E, n, .inl (upd f i.toNatClampNeg (x))))) Q) : SA E M y z mc ms pc lv (.int x :: .int i :: .ref (eB E + k0) :: st) h Q := by
  intro p e R s m args below meth c C H locs cells slots ls hz hP hS hl hcc hss
  subst hq
  have hD := hw_D E h
  refine W.iast C.x C.b (hP k0 _ (hw_at hh)) ((C.K.2 0 _ rfl).1 n (fun j => .int (f j))) (fun q => by cases q) (by show ¬ (i < 0 ∨ (arrV _ _ _).slots.size ≤ _); rw [arrV_size]; exact hx) rfl rfl hd fun H1 e1 z1 oq => ?_
  have hP' : va_P (eD E) vwCl (hw (eB E) (h.set k0 (.inl (eI E, n, .inl (upd f i.toNatClampNeg (x)))))) H1 := by
    rw [← hw_set]
    refine hP.set hD (hw_at hh) ?_ oq
    show H1[_]? = some (vp_cell _ _)
    rw [e1, vp_cell_i, vp_cell_i, arrV_store]
    congr 2
    funext q
    by_cases hq : q = i.toNatClampNeg
    · subst hq
      simp [updV, upd]
    · simp [updV, upd, hq]
  exact k p e R s m args below meth c C H1 _ cells slots ls (fun hy => by rw [z1, hz hy, List.length_set]) hP' (hS.put z1 oq (hD.2 k0 _ (hw_at hh))) hl hcc hss
theorem s_bast {k0 n : Nat} {f : Nat → Int32} {x i : Int32} (hd : decode M.2.1 pc = .ok (.bastore, 1)) (hq : pc + 1 = q) (hh : h[k0]? = some (.inl (eY E, n, .inl f))) (hx : vp_in i n) (k : SA E M y z mc ms q lv st (h.set k0 (.inl (eY E, n, .inl (upd f i.toNatClampNeg (vp_nar .byte x))))) Q) : SA E M y z mc ms pc lv (.int x :: .int i :: .ref (eB E + k0) :: st) h Q := by
  intro p e R s m args below meth c C H locs cells slots ls hz hP hS hl hcc hss
  subst hq
  have hD := hw_D E h
  refine W.bast C.x C.b (hP k0 _ (hw_at hh)) ((C.K.2 1 _ rfl).1 n (fun j => .int (f j))) (fun q => by cases q) (by show ¬ (i < 0 ∨ (arrV _ _ _).slots.size ≤ _); rw [arrV_size]; exact hx) rfl rfl hd fun H1 e1 z1 oq => ?_
  have hP' : va_P (eD E) vwCl (hw (eB E) (h.set k0 (.inl (eY E, n, .inl (upd f i.toNatClampNeg (vp_nar .byte x)))))) H1 := by
    rw [← hw_set]
    refine hP.set hD (hw_at hh) ?_ oq
    show H1[_]? = some (vp_cell _ _)
    rw [e1, vp_cell_i, vp_cell_i, arrV_store]
    congr 2
    funext q
    by_cases hq : q = i.toNatClampNeg
    · subst hq
      simp [updV, upd, vp_nar]
      try rfl
    · simp [updV, upd, hq]
  exact k p e R s m args below meth c C H1 _ cells slots ls (fun hy => by rw [z1, hz hy, List.length_set]) hP' (hS.put z1 oq (hD.2 k0 _ (hw_at hh))) hl hcc hss
theorem s_cast {k0 n : Nat} {f : Nat → Int32} {x i : Int32} (hd : decode M.2.1 pc = .ok (.castore, 1)) (hq : pc + 1 = q) (hh : h[k0]? = some (.inl (eC E, n, .inl f))) (hx : vp_in i n) (k : SA E M y z mc ms q lv st (h.set k0 (.inl (eC E, n, .inl (upd f i.toNatClampNeg (vp_nar .char x))))) Q) : SA E M y z mc ms pc lv (.int x :: .int i :: .ref (eB E + k0) :: st) h Q := by
  intro p e R s m args below meth c C H locs cells slots ls hz hP hS hl hcc hss
  subst hq
  have hD := hw_D E h
  refine W.cast C.x C.b (hP k0 _ (hw_at hh)) ((C.K.2 2 _ rfl).1 n (fun j => .int (f j))) (fun q => by cases q) (by show ¬ (i < 0 ∨ (arrV _ _ _).slots.size ≤ _); rw [arrV_size]; exact hx) rfl rfl hd fun H1 e1 z1 oq => ?_
  have hP' : va_P (eD E) vwCl (hw (eB E) (h.set k0 (.inl (eC E, n, .inl (upd f i.toNatClampNeg (vp_nar .char x)))))) H1 := by
    rw [← hw_set]
    refine hP.set hD (hw_at hh) ?_ oq
    show H1[_]? = some (vp_cell _ _)
    rw [e1, vp_cell_i, vp_cell_i, arrV_store]
    congr 2
    funext q
    by_cases hq : q = i.toNatClampNeg
    · subst hq
      simp [updV, upd, vp_nar]
      try rfl
    · simp [updV, upd, hq]
  exact k p e R s m args below meth c C H1 _ cells slots ls (fun hy => by rw [z1, hz hy, List.length_set]) hP' (hS.put z1 oq (hD.2 k0 _ (hw_at hh))) hl hcc hss
theorem s_aast {k0 k1 n ci : Nat} {r : vw_C} {vs : List Value} {f : Nat → Option Nat} {i : Int32} (hd : decode M.2.1 pc = .ok (.aastore, 1)) (hq : pc + 1 = q) (hh : h[k0]? = some (.inl (eH E, n, .inr (.inr (.inr (.inr f)))))) (hv : h[k1]? = some (.inr (ci, vs))) (hc : vwCl[ci]? = some r) (hr : r.1 = "StarCrew$Sheet") (hx : vp_in i n) (k : SA E M y z mc ms q lv st (h.set k0 (.inl (eH E, n, .inr (.inr (.inr (.inr (va_up f i.toNatClampNeg (some (eB E + k1))))))))) Q) : SA E M y z mc ms pc lv (.ref (eB E + k1) :: .int i :: .ref (eB E + k0) :: st) h Q := by
  intro p e R s m args below meth c C H locs cells slots ls hz hP hS hl hcc hss
  subst hq
  have hD := hw_D E h
  have hlt : i.toNatClampNeg < n := Nat.not_le.mp fun q => hx (Or.inr q)
  have h0 : ¬ i < 0 := fun q => hx (Or.inl q)
  obtain ⟨r', hr', cellV, g1, g2, g3, -⟩ := hP k1 _ (hw_at hv)
  have hcls := (C.K.1 ci r hc).2
  obtain ⟨kA, comp, k1', k2', k3', -⟩ := (C.K.2 3 _ rfl).2
  rw [← hr] at k3'
  have hcomp : comp = (eD E).1 ci := Option.some.inj (k3'.symm.trans hcls.1)
  subst hcomp
  obtain ⟨kC, hkC, -⟩ := hcls.2
  refine W.aast C.x C.b (hP k0 _ (hw_at hh)) (fun q h => by cases h) (fun h => by cases h) k1' k2' rfl hkC ⟨h0, by show _ < (arrV _ _ _).slots.size; rw [arrV_size]; exact hlt⟩ g1 (fun q h => by rw [g3] at h; cases h) (by rw [g2]; exact hkC) (by rw [g2]; exact va_assign hcls) rfl rfl hd fun H1 e1 z1 oq => ?_
  have hP' : va_P (eD E) vwCl (hw (eB E) (h.set k0 (.inl (eH E, n, .inr (.inr (.inr (.inr (va_up f i.toNatClampNeg (some (eB E + k1)))))))))) H1 := by
    rw [← hw_set]
    refine hP.set hD (hw_at hh) ?_ oq
    show H1[_]? = some (vp_cell _ _)
    rw [e1, vp_cell_q, vp_cell_q, arrV_store]
    congr 2
    funext q
    by_cases hq : q = i.toNatClampNeg
    · subst hq
      simp [updV, va_up, va_rf]
    · simp [updV, va_up, hq]
  exact k p e R s m args below meth c C H1 _ cells slots ls (fun hy => by rw [z1, hz hy, List.length_set]) hP' (hS.put z1 oq (hD.2 k0 _ (hw_at hh))) hl hcc hss
theorem s_new {ci n i : Nat} {Cn : String} {T : u_T} {ty0 : Nat → FieldType} {fs : List Value} (hd : decode M.2.1 pc = .ok (.new i, 3)) (hq : pc + 3 = q) (hy : y = true) (hc : vwCl[ci]? = some (Cn, T, n)) (hin : ∀ w ∈ u_ws Cn T n, w ∈ TB) (hty : ∀ k, k < n → parseFieldDescriptor (T k).2.2.1 = some (ty0 k)) (hlk : Cond.classLink M.1.cls i Cn ∈ TB) (hi : Cond.instantiable Cn n ∈ TB) (hini : Cond.initialized Cn ∈ TB) (hfs : ∀ j, j < n → defaultValue (ty0 j) = vp_V fs j)
    (k : SA E M y z mc ms q lv (.ref (eB E + h.length) :: st) (h ++ [.inr (ci, fs)]) Q) : SA E M y z (mc + 1) (ms + n) pc lv st h Q := by
  intro p e R s m args below meth c C H locs cells slots ls hz hP hS hl hcc hss
  subst hq
  have hKn := C.K.1 ci _ hc
  refine W.newcK C.x C.b C.o (C.ts _ hlk) (C.ts _ hi) (C.ts _ hini) rfl hd (by omega) (by omega) hKn.2.1 rfl fun H1 kC hkC e1 z1 o1 => ?_
  have hk : ∀ (k : Nat) (x : Nat × va_E), (hw (eB E) h)[k]? = some x → H1[x.1]? = H[x.1]? := fun k x hx => o1 x.1 ((hP k x hx).lt)
  have hsz := hz hy
  have hP' : va_P (eD E) vwCl (hw (eB E) (h ++ [.inr (ci, fs)])) H1 := by
    rw [← hw_push]
    refine (hP.kept hk).app (fun k x hx => ?_)
    have hz : k < 1 := (List.getElem?_eq_some_iff.mp hx).1
    rw [show k = 0 by omega] at hx
    cases hx
    rw [hsz] at e1
    exact ⟨_, hc, (u_born ty0 C.ts hin hKn hkC e1 hty).to hfs⟩
  have hS' : va_S (eA E) s.heap H1 locs := ⟨Nat.le_trans hS.1 (by omega), fun x h1 h2 => (o1 x (Nat.lt_of_lt_of_le h1 hS.1)).trans (hS.2.1 x h1 h2), hS.2.2⟩
  have K := k p e R s m args below meth c C H1 locs (cells + 1) (slots + n) ls (fun _ => by rw [z1, hsz, List.length_append]; rfl) hP' hS' hl (by omega) (by omega)
  rw [show cells + 1 + mc = cells + (mc + 1) by omega, show slots + n + ms = slots + (ms + n) by omega, ← hsz] at K
  exact K
theorem s_newi {n : Nat} {x : Int32} (hd : decode M.2.1 pc = .ok (.newarray .int, 2)) (hq : pc + 2 = q) (hy : y = true) (hlk : Cond.arrayClass .int ∈ TB) (hx : ¬ x < 0) (hn : x.toNatClampNeg = n) (hb : n * componentBytes .int ≤ 536870912)
    (k : SA E M y z mc ms q lv (.ref (eB E + h.length) :: st) (h ++ [.inl (eI E, n, .inl (fun _ => 0))]) Q) : SA E M y z (mc + 1) (ms + n) pc lv (.int x :: st) h Q := by
  intro p e R s m args below meth c C H locs cells slots ls hz hP hS hl hcc hss
  subst hq
  refine va_newaK (atype := .int) C.x C.b (C.ts _ hlk) rfl hd rfl hx hn hb (by omega) (by omega) rfl fun H1 cA e1 z1 o1 hAr hNm => ?_
  have hcA : cA = eI E := Option.some.inj (hNm.symm.trans (C.K.2 0 _ rfl).2)
  subst hcA
  have hk : ∀ (k : Nat) (x : Nat × va_E), (hw (eB E) h)[k]? = some x → H1[x.1]? = H[x.1]? := fun k x hx => o1 x.1 ((hP k x hx).lt)
  have hsz := hz hy
  have hP' : va_P (eD E) vwCl (hw (eB E) (h ++ [.inl (eI E, n, .inl (fun _ => 0))])) H1 := by
    rw [← hw_push]
    refine (hP.kept hk).app (fun k x hx => ?_)
    have hz : k < 1 := (List.getElem?_eq_some_iff.mp hx).1
    rw [show k = 0 by omega] at hx
    cases hx
    rw [hsz] at e1
    show H1[_]? = some (vp_cell _ _)
    rw [vp_cell_i]
    exact e1
  have hS' : va_S (eA E) s.heap H1 locs := ⟨Nat.le_trans hS.1 (by omega), fun x h1 h2 => (o1 x (Nat.lt_of_lt_of_le h1 hS.1)).trans (hS.2.1 x h1 h2), hS.2.2⟩
  have K := k p e R s m args below meth c C H1 locs (cells + 1) (slots + n) ls (fun _ => by rw [z1, hsz, List.length_append]; rfl) hP' hS' hl (by omega) (by omega)
  rw [show cells + 1 + mc = cells + (mc + 1) by omega, show slots + n + ms = slots + (ms + n) by omega, ← hsz] at K
  exact K
theorem s_newb {n : Nat} {x : Int32} (hd : decode M.2.1 pc = .ok (.newarray .byte, 2)) (hq : pc + 2 = q) (hy : y = true) (hlk : Cond.arrayClass .byte ∈ TB) (hx : ¬ x < 0) (hn : x.toNatClampNeg = n) (hb : n * componentBytes .byte ≤ 536870912)
    (k : SA E M y z mc ms q lv (.ref (eB E + h.length) :: st) (h ++ [.inl (eY E, n, .inl (fun _ => 0))]) Q) : SA E M y z (mc + 1) (ms + n) pc lv (.int x :: st) h Q := by
  intro p e R s m args below meth c C H locs cells slots ls hz hP hS hl hcc hss
  subst hq
  refine va_newaK (atype := .byte) C.x C.b (C.ts _ hlk) rfl hd rfl hx hn hb (by omega) (by omega) rfl fun H1 cA e1 z1 o1 hAr hNm => ?_
  have hcA : cA = eY E := Option.some.inj (hNm.symm.trans (C.K.2 1 _ rfl).2)
  subst hcA
  have hk : ∀ (k : Nat) (x : Nat × va_E), (hw (eB E) h)[k]? = some x → H1[x.1]? = H[x.1]? := fun k x hx => o1 x.1 ((hP k x hx).lt)
  have hsz := hz hy
  have hP' : va_P (eD E) vwCl (hw (eB E) (h ++ [.inl (eY E, n, .inl (fun _ => 0))])) H1 := by
    rw [← hw_push]
    refine (hP.kept hk).app (fun k x hx => ?_)
    have hz : k < 1 := (List.getElem?_eq_some_iff.mp hx).1
    rw [show k = 0 by omega] at hx
    cases hx
    rw [hsz] at e1
    show H1[_]? = some (vp_cell _ _)
    rw [vp_cell_i]
    exact e1
  have hS' : va_S (eA E) s.heap H1 locs := ⟨Nat.le_trans hS.1 (by omega), fun x h1 h2 => (o1 x (Nat.lt_of_lt_of_le h1 hS.1)).trans (hS.2.1 x h1 h2), hS.2.2⟩
  have K := k p e R s m args below meth c C H1 locs (cells + 1) (slots + n) ls (fun _ => by rw [z1, hsz, List.length_append]; rfl) hP' hS' hl (by omega) (by omega)
  rw [show cells + 1 + mc = cells + (mc + 1) by omega, show slots + n + ms = slots + (ms + n) by omega, ← hsz] at K
  exact K
theorem s_newc {n : Nat} {x : Int32} (hd : decode M.2.1 pc = .ok (.newarray .char, 2)) (hq : pc + 2 = q) (hy : y = true) (hlk : Cond.arrayClass .char ∈ TB) (hx : ¬ x < 0) (hn : x.toNatClampNeg = n) (hb : n * componentBytes .char ≤ 536870912)
    (k : SA E M y z mc ms q lv (.ref (eB E + h.length) :: st) (h ++ [.inl (eC E, n, .inl (fun _ => 0))]) Q) : SA E M y z (mc + 1) (ms + n) pc lv (.int x :: st) h Q := by
  intro p e R s m args below meth c C H locs cells slots ls hz hP hS hl hcc hss
  subst hq
  refine va_newaK (atype := .char) C.x C.b (C.ts _ hlk) rfl hd rfl hx hn hb (by omega) (by omega) rfl fun H1 cA e1 z1 o1 hAr hNm => ?_
  have hcA : cA = eC E := Option.some.inj (hNm.symm.trans (C.K.2 2 _ rfl).2)
  subst hcA
  have hk : ∀ (k : Nat) (x : Nat × va_E), (hw (eB E) h)[k]? = some x → H1[x.1]? = H[x.1]? := fun k x hx => o1 x.1 ((hP k x hx).lt)
  have hsz := hz hy
  have hP' : va_P (eD E) vwCl (hw (eB E) (h ++ [.inl (eC E, n, .inl (fun _ => 0))])) H1 := by
    rw [← hw_push]
    refine (hP.kept hk).app (fun k x hx => ?_)
    have hz : k < 1 := (List.getElem?_eq_some_iff.mp hx).1
    rw [show k = 0 by omega] at hx
    cases hx
    rw [hsz] at e1
    show H1[_]? = some (vp_cell _ _)
    rw [vp_cell_i]
    exact e1
  have hS' : va_S (eA E) s.heap H1 locs := ⟨Nat.le_trans hS.1 (by omega), fun x h1 h2 => (o1 x (Nat.lt_of_lt_of_le h1 hS.1)).trans (hS.2.1 x h1 h2), hS.2.2⟩
  have K := k p e R s m args below meth c C H1 locs (cells + 1) (slots + n) ls (fun _ => by rw [z1, hsz, List.length_append]; rfl) hP' hS' hl (by omega) (by omega)
  rw [show cells + 1 + mc = cells + (mc + 1) by omega, show slots + n + ms = slots + (ms + n) by omega, ← hsz] at K
  exact K
theorem s_anew {i n : Nat} {x : Int32} (hd : decode M.2.1 pc = .ok (.anewarray i, 3)) (hq : pc + 3 = q) (hy : y = true) (hlk : Cond.classLink M.1.cls i "StarCrew$Sheet" ∈ TB) (hx : ¬ x < 0) (hn : x.toNatClampNeg = n) (hb : n * 4 ≤ 536870912)
    (k : SA E M y z mc ms q lv (.ref (eB E + h.length) :: st) (h ++ [.inl (eH E, n, .inr (.inr (.inr (.inr (fun _ => none)))))]) Q) : SA E M y z (mc + 1) (ms + n) pc lv (.int x :: st) h Q := by
  intro p e R s m args below meth c C H locs cells slots ls hz hP hS hl hcc hss
  subst hq
  subst hn
  refine W.anew C.x C.b C.o (C.ts _ hlk) (va_AO.use C.ao) rfl hd rfl hx hb (by omega) (by omega) fun cA kA comp f1 f2 f3 f4 => ?_
  have hcA : cA = eH E := by
    obtain ⟨_, _, _, _, _, k4⟩ := (C.K.2 3 _ rfl).2
    exact Option.some.inj (f1.symm.trans k4)
  subst hcA
  generalize hH1 : H.push ({ cls := eH E, slots := Array.replicate x.toNatClampNeg .null, vm := .none } : Cell) = H1
  have z1 : H1.size = H.size + 1 := by rw [← hH1, Array.size_push]
  have e1 : H1[H.size]? = some (arrV (eH E) x.toNatClampNeg (fun _ => .null)) := by rw [← hH1, Array.getElem?_push_size, ← arrV_new]
  have o1 : ∀ q : Nat, q < H.size → H1[q]? = H[q]? := fun q hq => by rw [← hH1, Array.getElem?_push, if_neg (Nat.ne_of_lt hq)]
  have hk : ∀ (k : Nat) (x : Nat × va_E), (hw (eB E) h)[k]? = some x → H1[x.1]? = H[x.1]? := fun k x hx => o1 x.1 ((hP k x hx).lt)
  have hsz := hz hy
  have hP' : va_P (eD E) vwCl (hw (eB E) (h ++ [.inl (eH E, x.toNatClampNeg, .inr (.inr (.inr (.inr (fun _ => none)))))])) H1 := by
    rw [← hw_push]
    refine (hP.kept hk).app (fun k x hx => ?_)
    have hz : k < 1 := (List.getElem?_eq_some_iff.mp hx).1
    rw [show k = 0 by omega] at hx
    cases hx
    rw [hsz] at e1
    show H1[_]? = some (vp_cell _ _)
    rw [vp_cell_q]
    exact e1
  have hS' : va_S (eA E) s.heap H1 locs := ⟨Nat.le_trans hS.1 (by omega), fun x h1 h2 => (o1 x (Nat.lt_of_lt_of_le h1 hS.1)).trans (hS.2.1 x h1 h2), hS.2.2⟩
  have K := k p e R s m args below meth c C H1 locs (cells + 1) (slots + x.toNatClampNeg) ls (fun _ => by rw [z1, hsz, List.length_append]; rfl) hP' hS' hl (by omega) (by omega)
  rw [show cells + 1 + mc = cells + (mc + 1) by omega, show slots + x.toNatClampNeg + ms = slots + (ms + x.toNatClampNeg) by omega, ← hsz] at K
  exact K
theorem s_iret {v : Int32} (hd : decode M.2.1 pc = .ok (.ireturn, 1)) (hr : M.2.2.2.1 = some .int) (hyz : z = true → y = true) (hQ : Q (some (.int v)) h) : SA E M y z mc ms pc lv ([.int v]) h Q := by
  intro p e R s m args below meth c C H locs cells slots ls hz hP hS hl hcc hss
  refine W.widen (k := cells + mc) (n := slots + ms) (Nat.le_add_right _ _) (Nat.le_add_right _ _) ?_
  exact W.iret C.x C.b (by rw [C.r, hr]) (fun t ht _ => ⟨some (.int v), h, rfl, hQ, fun hz2 => by rw [ht]; exact hz (hyz hz2), by rw [ht]; exact hP, hS.F ht⟩) hS.2.2 hd C.lk
theorem s_zret {v : Int32} {ty : FieldType} (hd : decode M.2.1 pc = .ok (.ireturn, 1)) (hr : M.2.2.2.1 = some ty) (hn : narrow ty (.int v) = .int v) (hyz : z = true → y = true) (hQ : Q (some (.int v)) h) : SA E M y z mc ms pc lv ([.int v]) h Q := by
  intro p e R s m args below meth c C H locs cells slots ls hz hP hS hl hcc hss
  refine W.widen (k := cells + mc) (n := slots + ms) (Nat.le_add_right _ _) (Nat.le_add_right _ _) ?_
  exact W.zret C.x C.b (by rw [C.r, hr]) hn (fun t ht _ => ⟨some (.int v), h, rfl, hQ, fun hz2 => by rw [ht]; exact hz (hyz hz2), by rw [ht]; exact hP, hS.F ht⟩) hS.2.2 hd C.lk
theorem s_lret {v : Int64} (hd : decode M.2.1 pc = .ok (.lreturn, 1)) (hr : M.2.2.2.1 = some .long) (hyz : z = true → y = true) (hQ : Q (some (.long v)) h) : SA E M y z mc ms pc lv ([.long v]) h Q := by
  intro p e R s m args below meth c C H locs cells slots ls hz hP hS hl hcc hss
  refine W.widen (k := cells + mc) (n := slots + ms) (Nat.le_add_right _ _) (Nat.le_add_right _ _) ?_
  exact W.lret C.x C.b (by rw [C.r, hr]) (fun t ht _ => ⟨some (.long v), h, rfl, hQ, fun hz2 => by rw [ht]; exact hz (hyz hz2), by rw [ht]; exact hP, hS.F ht⟩) hS.2.2 hd C.lk
theorem s_vret  (hd : decode M.2.1 pc = .ok (.return_, 1)) (hr : M.2.2.2.1 = none) (hyz : z = true → y = true) (hQ : Q (none) h) : SA E M y z mc ms pc lv ([]) h Q := by
  intro p e R s m args below meth c C H locs cells slots ls hz hP hS hl hcc hss
  refine W.widen (k := cells + mc) (n := slots + ms) (Nat.le_add_right _ _) (Nat.le_add_right _ _) ?_
  exact W.vret C.x C.b (by rw [C.r, hr]) (fun t ht _ => ⟨none, h, rfl, hQ, fun hz2 => by rw [ht]; exact hz (hyz hz2), by rw [ht]; exact hP, hS.F ht⟩) hS.2.2 hd C.lk
theorem s_aret {v : Value} {rt : FieldType} (hd : decode M.2.1 pc = .ok (.areturn, 1)) (hr : M.2.2.2.1 = some rt) (hrt : (∃ n, rt = .object n) ∨ ∃ t, rt = .array t) (hv : v = .null ∨ ∃ a, v = .ref a) (hyz : z = true → y = true) (hQ : Q (some v) h) : SA E M y z mc ms pc lv ([v]) h Q := by
  intro p e R s m args below meth c C H locs cells slots ls hz hP hS hl hcc hss
  refine W.widen (k := cells + mc) (n := slots + ms) (Nat.le_add_right _ _) (Nat.le_add_right _ _) ?_
  exact W.aret C.x C.b (by rw [C.r, hr]) hrt hv (fun t ht _ => ⟨some v, h, rfl, hQ, fun hz2 => by rw [ht]; exact hz (hyz hz2), by rw [ht]; exact hP, hS.F ht⟩) hS.2.2 hd C.lk
theorem s_objInit {i a : Nat} (hd : decode M.2.1 pc = .ok (.invokespecial i, 3)) (hq : pc + 3 = q) (hlk : Cond.methodLink M.1.cls i objectInit ∈ TB) (hin : Cond.instanceMethod objectInit ∈ TB) (hco : Cond.code objectInit ⟨#[0xb1]⟩ 1 none ∈ TB) (hfr : 1 ≤ M.2.2.2.2.1) (hlo : 12 + (st.map fun v => v.category).sum ≤ M.2.2.2.2.2) (k : SA E M y z mc ms q lv st h Q) : SA E M y z mc ms pc lv (.ref a :: st) h Q := by
  intro p e R s m args below meth c C H locs cells slots ls hz hP hS hl hcc hss
  subst hq
  have h1 := C.fr
  have h2 := C.lo
  exact W.objInit C.x C.b C.o (C.ts _ hlk) (C.ts _ hin) (C.ts _ hco) rfl (by rw [C.ml]; exact hl.1) rfl hd (by omega) (by show _ ≤ _; simp only [JFrame.monitorRoom]; omega) (k p e R s m args below meth c C H locs cells slots ls hz hP hS hl hcc hss)
end SX
/-- what a call takes of the callee alone -/
def okN (N : MI) (n : Nat) : Prop := Cond.code N.1 N.2.1 N.2.2.1 N.2.2.2.1 ∈ TB ∧ Cond.initialized N.1.cls ∈ TB ∧ (N.1.cls ≠ "java/lang/invoke/MethodHandle" ∧ N.1.cls ≠ "java/lang/invoke/VarHandle" ∧ (parseMethodDescriptor N.1.desc).map (fun d => d.parameters.length) = some n) ∧ plainName N.1.cls = true
def okV (N : MI) : Prop := Cond.instanceMethod N.1 ∈ TB ∧ Cond.selects N.1.cls N.1 N.1 ∈ TB
/-- the room of a call -/
def okR (M N : MI) : Prop := N.2.2.2.2.1 + 1 ≤ M.2.2.2.2.1 ∧ 8 + (N.2.2.1 + 11) + N.2.2.2.2.2 ≤ M.2.2.2.2.2
section SC
variable {E : EV} {M N : MI} {y z z1 : Bool} {mc ms mc1 ms1 pc q n i : Nat} {lv : List (Nat × Value)} {st stk : List Value} {h : List va_E} {Q : Option Value → List va_E → Prop}
theorem s_callV {a : Nat} (As : List Value) (hd : decode M.2.1 pc = .ok (.invokevirtual i, 3)) (hq : pc + 3 = q) (hN : okN N n) (hV : okV N) (hlk : Cond.methodLink M.1.cls i N.1 ∈ TB) (hR : okR M N) (hrc : Rc E h a N.1.cls) (hn : As.length = n) (hst : stk = As.reverse ++ .ref a :: st) (hlg : (lg_sl (.ref a :: As)).length ≤ N.2.2.1) (h8 : (st.map fun v => v.category).sum ≤ 8)
    (k : SA E N y z1 mc1 ms1 0 (lv_args 0 (.ref a :: As)) [] h (fun v h' => SA E M z1 z mc ms q lv (v.toList ++ st) h' Q)) : SA E M y z (mc1 + mc) (ms1 + ms) pc lv stk h Q := by
  intro p e R s m args below meth c C H locs cells slots ls hz hP hS hl hcc hss
  subst hq
  subst hst
  refine m_back (va_runV (nL := M.2.2.1) (Ts := TB) (own := M.1.cls) (As := As) (rest := st) ⟨C.x, C.b, C.ml, C.o, C.ts⟩ (k.met hlg hN.2.2.2) ⟨(callB_of (own := M.1.cls) (bytes := N.2.1) (maxL := N.2.2.1) (ret := N.2.2.2.1) (rm := rmOf N mc1 ms1) n C.ts (TB_good hN.1) rfl rfl rfl (C.ts _ hN.2.1) (C.ts _ hlk) hN.2.2.1 ⟨Nat.le_trans hR.1 C.fr, Nat.le_trans hR.2 C.lo⟩), C.ts _ hV.1, C.ts _ hV.2⟩ ⟨PB_blind E y h _, hrc.cell C hP hS, fun U hU hW => ⟨rfl, PB_at C hz hP hS U hU hW⟩⟩ rfl hn hl.1 rfl (lv_room h8) hd ⟨by omega, by omega⟩) hS (fun v h' H1 locs1 hK hz1 hP1 hS1 => ?_)
  have K := hK p e R s m args below meth c C H1 locs1 (cells + mc1) (slots + ms1) ls hz1 hP1 hS1 hl (by omega) (by omega)
  rw [show cells + mc1 + mc = cells + (mc1 + mc) by omega, show slots + ms1 + ms = slots + (ms1 + ms) by omega] at K
  exact K
theorem s_callS (As : List Value) (hd : decode M.2.1 pc = .ok (.invokestatic i, 3)) (hq : pc + 3 = q) (hN : okN N n) (hV : Cond.static N.1 ∈ TB) (hlk : Cond.methodLink M.1.cls i N.1 ∈ TB) (hR : okR M N) (hn : As.length = n) (hst : stk = As.reverse ++ st) (hlg : (lg_sl (As)).length ≤ N.2.2.1) (h8 : (st.map fun v => v.category).sum ≤ 8)
    (k : SA E N y z1 mc1 ms1 0 (lv_args 0 (As)) [] h (fun v h' => SA E M z1 z mc ms q lv (v.toList ++ st) h' Q)) : SA E M y z (mc1 + mc) (ms1 + ms) pc lv stk h Q := by
  intro p e R s m args below meth c C H locs cells slots ls hz hP hS hl hcc hss
  subst hq
  subst hst
  refine m_back (va_runS (nL := M.2.2.1) (Ts := TB) (own := M.1.cls) (As := As) (rest := st) ⟨C.x, C.b, C.ml, C.o, C.ts⟩ (k.met hlg hN.2.2.2) ⟨(callB_of (own := M.1.cls) (bytes := N.2.1) (maxL := N.2.2.1) (ret := N.2.2.2.1) (rm := rmOf N mc1 ms1) n C.ts (TB_good hN.1) rfl rfl rfl (C.ts _ hN.2.1) (C.ts _ hlk) hN.2.2.1 ⟨Nat.le_trans hR.1 C.fr, Nat.le_trans hR.2 C.lo⟩), C.ts _ hV⟩ ⟨PB_blind E y h _, fun U hU hW => ⟨rfl, PB_at C hz hP hS U hU hW⟩⟩ rfl hn hl.1 rfl (lv_room h8) hd ⟨by omega, by omega⟩) hS (fun v h' H1 locs1 hK hz1 hP1 hS1 => ?_)
  have K := hK p e R s m args below meth c C H1 locs1 (cells + mc1) (slots + ms1) ls hz1 hP1 hS1 hl (by omega) (by omega)
  rw [show cells + mc1 + mc = cells + (mc1 + mc) by omega, show slots + ms1 + ms = slots + (ms1 + ms) by omega] at K
  exact K
theorem s_callI {a : Nat} (As : List Value) (hd : decode M.2.1 pc = .ok (.invokespecial i, 3)) (hq : pc + 3 = q) (hN : okN N n) (hV : Cond.instanceMethod N.1 ∈ TB) (hnm : N.1.name = "<init>") (hrt : N.2.2.2.1 = none) (hlk : Cond.methodLink M.1.cls i N.1 ∈ TB) (hR : okR M N) (hn : As.length = n) (hst : stk = As.reverse ++ .ref a :: st) (hlg : (lg_sl (.ref a :: As)).length ≤ N.2.2.1) (h8 : (st.map fun v => v.category).sum ≤ 8)
    (k : SA E N y z1 mc1 ms1 0 (lv_args 0 (.ref a :: As)) [] h (fun v h' => SA E M z1 z mc ms q lv (v.toList ++ st) h' Q)) : SA E M y z (mc1 + mc) (ms1 + ms) pc lv stk h Q := by
  intro p e R s m args below meth c C H locs cells slots ls hz hP hS hl hcc hss
  subst hq
  subst hst
  refine m_back (va_runI (nL := M.2.2.1) (Ts := TB) (own := M.1.cls) (As := As) (rest := st) ⟨C.x, C.b, C.ml, C.o, C.ts⟩ (k.met hlg hN.2.2.2) ⟨by have K0 := (callB_of (own := M.1.cls) (bytes := N.2.1) (maxL := N.2.2.1) (ret := N.2.2.2.1) (rm := rmOf N mc1 ms1) n C.ts (TB_good hN.1) rfl rfl rfl (C.ts _ hN.2.1) (C.ts _ hlk) hN.2.2.1 ⟨Nat.le_trans hR.1 C.fr, Nat.le_trans hR.2 C.lo⟩); rw [hrt] at K0; exact K0, hnm, C.ts _ hV⟩ ⟨PB_blind E y h _, fun U hU hW => ⟨rfl, PB_at C hz hP hS U hU hW⟩⟩ rfl hn hl.1 rfl (lv_room h8) hd ⟨by omega, by omega⟩) hS (fun v h' H1 locs1 hK hz1 hP1 hS1 => ?_)
  have K := hK p e R s m args below meth c C H1 locs1 (cells + mc1) (slots + ms1) ls hz1 hP1 hS1 hl (by omega) (by omega)
  rw [show cells + mc1 + mc = cells + (mc1 + mc) by omega, show slots + ms1 + ms = slots + (ms1 + ms) by omega] at K
  exact K
theorem s_callSN (As : List Value) (hd : decode M.2.1 pc = .ok (.invokestatic i, 3)) (hq : pc + 3 = q) (hN : okN N n) {host : String} (hV : Cond.static N.1 ∈ TB) (hlk : Cond.methodLinkNest M.1.cls i N.1 host ∈ NB) (hR : okR M N) (hn : As.length = n) (hst : stk = As.reverse ++ st) (hlg : (lg_sl (As)).length ≤ N.2.2.1) (h8 : (st.map fun v => v.category).sum ≤ 8)
    (k : SA E N y z1 mc1 ms1 0 (lv_args 0 (As)) [] h (fun v h' => SA E M z1 z mc ms q lv (v.toList ++ st) h' Q)) : SA E M y z (mc1 + mc) (ms1 + ms) pc lv stk h Q := by
  intro p e R s m args below meth c C H locs cells slots ls hz hP hS hl hcc hss
  subst hq
  subst hst
  refine m_back (va_runSN (nL := M.2.2.1) (Ts := TB) (own := M.1.cls) (As := As) (rest := st) ⟨C.x, C.b, C.ml, C.o, C.ts⟩ (k.met hlg hN.2.2.2) ⟨(va_cnB (own := M.1.cls) (bytes := N.2.1) (maxL := N.2.2.1) (ret := N.2.2.2.1) (rm := rmOf N mc1 ms1) n C.ts (TB_good hN.1) rfl rfl rfl (C.nb _ hlk) (C.ts _ hN.2.1) hN.2.2.1 ⟨Nat.le_trans hR.1 C.fr, Nat.le_trans hR.2 C.lo⟩), C.ts _ hV, trivial⟩ ⟨PB_blind E y h _, fun U hU hW => ⟨rfl, PB_at C hz hP hS U hU hW⟩⟩ rfl hn hl.1 rfl (lv_room h8) hd ⟨by omega, by omega⟩) hS (fun v h' H1 locs1 hK hz1 hP1 hS1 => ?_)
  have K := hK p e R s m args below meth c C H1 locs1 (cells + mc1) (slots + ms1) ls hz1 hP1 hS1 hl (by omega) (by omega)
  rw [show cells + mc1 + mc = cells + (mc1 + mc) by omega, show slots + ms1 + ms = slots + (ms1 + ms) by omega] at K
  exact K
theorem s_callIN {a : Nat} (As : List Value) (hd : decode M.2.1 pc = .ok (.invokespecial i, 3)) (hq : pc + 3 = q) (hN : okN N n) {host : String} (hV : Cond.instanceMethod N.1 ∈ TB) (hnm : N.1.name = "<init>") (hrt : N.2.2.2.1 = none) (hlk : Cond.methodLinkNest M.1.cls i N.1 host ∈ NB) (hR : okR M N) (hn : As.length = n) (hst : stk = As.reverse ++ .ref a :: st) (hlg : (lg_sl (.ref a :: As)).length ≤ N.2.2.1) (h8 : (st.map fun v => v.category).sum ≤ 8)
    (k : SA E N y z1 mc1 ms1 0 (lv_args 0 (.ref a :: As)) [] h (fun v h' => SA E M z1 z mc ms q lv (v.toList ++ st) h' Q)) : SA E M y z (mc1 + mc) (ms1 + ms) pc lv stk h Q := by
  intro p e R s m args below meth c C H locs cells slots ls hz hP hS hl hcc hss
  subst hq
  subst hst
  refine m_back (va_runIN (nL := M.2.2.1) (Ts := TB) (own := M.1.cls) (As := As) (rest := st) ⟨C.x, C.b, C.ml, C.o, C.ts⟩ (k.met hlg hN.2.2.2) ⟨by have K0 := (va_cnB (own := M.1.cls) (bytes := N.2.1) (maxL := N.2.2.1) (ret := N.2.2.2.1) (rm := rmOf N mc1 ms1) n C.ts (TB_good hN.1) rfl rfl rfl (C.nb _ hlk) (C.ts _ hN.2.1) hN.2.2.1 ⟨Nat.le_trans hR.1 C.fr, Nat.le_trans hR.2 C.lo⟩); rw [hrt] at K0; exact K0, hnm, C.ts _ hV⟩ ⟨PB_blind E y h _, fun U hU hW => ⟨rfl, PB_at C hz hP hS U hU hW⟩⟩ rfl hn hl.1 rfl (lv_room h8) hd ⟨by omega, by omega⟩) hS (fun v h' H1 locs1 hK hz1 hP1 hS1 => ?_)
  have K := hK p e R s m args below meth c C H1 locs1 (cells + mc1) (slots + ms1) ls hz1 hP1 hS1 hl (by omega) (by omega)
  rw [show cells + mc1 + mc = cells + (mc1 + mc) by omega, show slots + ms1 + ms = slots + (ms1 + ms) by omega] at K
  exact K
theorem s_copy {k0 k1 n0 n1 : Nat} {f g : Nat → Int32} {sp dp w : Int32} (hd : decode M.2.1 pc = .ok (.invokestatic i, 3)) (hq : pc + 3 = q) (hlk : Cond.methodLink M.1.cls i arraycopyName ∈ TB) (hnat : Cond.native arraycopyName ∈ TB) (hst : Cond.static arraycopyName ∈ TB) (hini : Cond.initialized "java/lang/System" ∈ TB) (h0 : h[k0]? = some (.inl (eI E, n0, .inl f))) (h1 : h[k1]? = some (.inl (eI E, n1, .inl g))) (hsp : ¬ sp < 0) (hdp : ¬ dp < 0) (hw : ¬ w < 0) (h4 : sp.toNatClampNeg + w.toNatClampNeg ≤ n0) (h5 : dp.toNatClampNeg + w.toNatClampNeg ≤ n1) (hfr : 1 ≤ M.2.2.2.2.1) (hlo : (st.map fun v => v.category).sum + (nativeFrameWords "java/lang/System" "arraycopy" 5 + 11) ≤ M.2.2.2.2.2)
    (k : SA E M false z mc ms q lv st (h.set k1 (.inl (eI E, n1, .inl (va_cpy f g sp.toNatClampNeg dp.toNatClampNeg w.toNatClampNeg)))) Q) : SA E M false z mc ms pc lv (.int w :: .int dp :: .ref (eB E + k1) :: .int sp :: .ref (eB E + k0) :: st) h Q := by
  intro p e R s m args below meth c C H locs cells slots ls hz hP hS hl hcc hss
  subst hq
  refine va_copyi C.x C.b (by rw [C.ml]; exact hl.1.symm) C.o (C.ts _ hlk) (C.ts _ hnat) (C.ts _ hst) (C.ts _ hini) C.K hP (hw_D E h) hS k0 k1 0 0 (hw_at h0) (hw_at h1) rfl rfl rfl hsp hdp hw h4 h5 (fun _ _ => rfl) (Nat.le_trans hfr C.fr) (Nat.le_trans hlo C.lo) hd (fun H1 locs1 hP1 _ hS1 => ?_)
  rw [hw_set] at hP1
  exact k p e R s m args below meth c C H1 locs1 cells slots ls (fun hy => by cases hy) hP1 hS1 hl hcc hss
theorem SA.weak (k : SA E M false z mc ms pc lv st h Q) : SA E M true z mc ms pc lv st h Q := fun p e R s m args below meth c C H locs cells slots ls _ hP hS hl hcc hss => k p e R s m args below meth c C H locs cells slots ls (fun hy => by cases hy) hP hS hl hcc hss
theorem SA.more {mc' ms' : Nat} (h1 : mc ≤ mc') (h2 : ms ≤ ms') (k : SA E M y z mc ms pc lv st h Q) : SA E M y z mc' ms' pc lv st h Q := by
  intro p e R s m args below meth c C H locs cells slots ls hz hP hS hl hcc hss
  have K := k p e R s m args below meth c C H locs (cells + (mc' - mc)) (slots + (ms' - ms)) ls hz hP hS hl (by omega) (by omega)
  rw [show cells + (mc' - mc) + mc = cells + mc' by omega, show slots + (ms' - ms) + ms = slots + ms' by omega] at K
  exact W.widen (Nat.le_add_right _ _) (Nat.le_add_right _ _) K
theorem SA.mono {Q' : Option Value → List va_E → Prop} (hQ : ∀ v h', Q v h' → Q' v h') (k : SA E M y z mc ms pc lv st h Q) : SA E M y z mc ms pc lv st h Q' := by
  intro p e R s m args below meth c C H locs cells slots ls hz hP hS hl hcc hss
  intro T hT X
  obtain ⟨t, a, o, b1, b2, ⟨v, h', c1, c2, c3⟩, b4⟩ := k p e R s m args below meth c C H locs cells slots ls hz hP hS hl hcc hss T hT X
  exact ⟨t, a, o, b1, b2, ⟨v, h', c1, hQ v h' c2, c3⟩, b4⟩
end SC
