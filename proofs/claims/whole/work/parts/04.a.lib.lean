-- MEMORY: cells by address; nothing where nothing is
abbrev XE : Type := (FieldType × vp_A) ⊕ (Nat × List Value)
abbrev XM : Type := Nat → Option XE
def x_up (M : XM) (a : Nat) (e : XE) : XM := fun b => if b = a then some e else M b
def x_cv (aC : FieldType → ClassId) (e : XE) : va_E := match e with
  | .inl q => .inl (aC q.1, q.2)
  | .inr o => .inr o
def x_R (D : va_G) (aC : FieldType → ClassId) (bs sz : Nat) (M : XM) (H : Heap) : Prop :=
  H.size = sz ∧ bs ≤ sz ∧ ∀ (a : Nat) (e : XE), M a = some e → bs ≤ a ∧ va_at D vwCl (a, x_cv aC e) H
theorem x_R.get {D : va_G} {aC : FieldType → ClassId} {bs sz : Nat} {M : XM} {H : Heap} (h : x_R D aC bs sz M H) {a : Nat} {e : XE} (ha : M a = some e) : va_P D vwCl [(a, x_cv aC e)] H := by
  intro k q hk
  have hz : k < 1 := (List.getElem?_eq_some_iff.mp hk).1
  rw [show k = 0 by omega] at hk
  cases hk
  exact (h.2.2 a e ha).2
theorem x_R.put {D : va_G} {aC : FieldType → ClassId} {bs sz : Nat} {M : XM} {H H1 : Heap} (h : x_R D aC bs sz M H) {a : Nat} {e : XE} (hb : bs ≤ a) (he : va_at D vwCl (a, x_cv aC e) H1) (z : H1.size = H.size) (oq : ∀ q : Nat, q ≠ a → H1[q]? = H[q]?) : x_R D aC bs sz (x_up M a e) H1 := by
  refine ⟨z.trans h.1, h.2.1, fun b e' hb' => ?_⟩
  by_cases hq : b = a
  · subst hq
    simp only [x_up, if_true] at hb'
    cases hb'
    exact ⟨hb, he⟩
  · simp only [x_up, if_neg hq] at hb'
    exact ⟨(h.2.2 b e' hb').1, ((h.2.2 b e' hb').2).kept (oq b hq)⟩
theorem x_R.push {D : va_G} {aC : FieldType → ClassId} {bs sz : Nat} {M : XM} {H H1 : Heap} (h : x_R D aC bs sz M H) {e : XE} (he : va_at D vwCl (sz, x_cv aC e) H1) (z : H1.size = sz + 1) (oq : ∀ q : Nat, q < sz → H1[q]? = H[q]?) : x_R D aC bs (sz + 1) (x_up M sz e) H1 := by
  refine ⟨z, by have := h.2.1; omega, fun b e' hb' => ?_⟩
  by_cases hq : b = sz
  · subst hq
    simp only [x_up, if_true] at hb'
    cases hb'
    exact ⟨h.2.1, he⟩
  · simp only [x_up, if_neg hq] at hb'
    have h1 := h.2.2 b e' hb'
    have h2 : b < sz := by rw [← h.1]; exact h1.2.lt
    exact ⟨h1.1, h1.2.kept (oq b h2)⟩
-- the tables' words that every method carries
def x_tbl : List Cond := lw_tbl.filter goodWord
theorem x_mT {w : Cond} (i : Nat) (h : tables_1[i]? = some w) (g : goodWord w = true) : w ∈ x_tbl := List.mem_filter.mpr ⟨List.mem_append_right _ (List.mem_of_getElem? h), g⟩
theorem x_mS {w : Cond} (i : Nat) (h : (k2_sels lw_privs)[i]? = some w) (g : goodWord w = true) : w ∈ x_tbl := List.mem_filter.mpr ⟨List.mem_append_left _ (List.mem_of_getElem? h), g⟩
theorem x_goodIn {w : Cond} (h : w ∈ x_tbl) : GoodIn x_tbl (w :: x_tbl) := by
  intro v hv
  have hv' : v ∈ x_tbl := by
    rcases List.mem_cons.mp hv with rfl | h1
    · exact h
    · exact h1
  exact ⟨hv', good_of_word (List.mem_filter.mp hv').2⟩
def x_tys (aC : FieldType → ClassId) : List (ClassId × FieldType) := [(aC .int, .int), (aC .long, .long), (aC .byte, .byte), (aC .boolean, .boolean), (aC (.object RX3), .object RX3), (aC (.object RX6), .object RX6)]
def x_nest : List (Nat × MethodName) := [(13, yX4_init), (34, yX7_init), (41, yX1_init), (48, yX5_init), (66, yX6_init)]
def x_K (D : va_G) (aC : FieldType → ClassId) (U : State) : Prop := va_K D vwCl (x_tys aC) U ∧ va_AO RX3 U ∧ va_AO RX6 U ∧ ∀ q ∈ x_nest, va_Nw (.methodLinkNest RX8 q.1 q.2 "SwappedIntervals") U
theorem x_K.warm {D : va_G} {aC : FieldType → ClassId} {s U : State} (hW : s.WarmedH U.vm) (h : x_K D aC s) : x_K D aC U := ⟨va_K.moved hW.alike h.1, va_AO.moved hW.alike h.2.1, va_AO.moved hW.alike h.2.2.1, fun q hq => va_Nw.warmM hW (h.2.2.2 q hq)⟩
theorem x_K.same {D : va_G} {aC : FieldType → ClassId} {s U : State} (hv : s.vm = U.vm) (h : x_K D aC s) : x_K D aC U := ⟨va_K.moved (by rw [hv]; exact Vm.Alike.refl U.vm) h.1, va_AO.moved (by rw [hv]; exact Vm.Alike.refl U.vm) h.2.1, va_AO.moved (by rw [hv]; exact Vm.Alike.refl U.vm) h.2.2.1, fun q hq => va_Nw.same rfl hv (h.2.2.2 q hq)⟩
-- where a method stands
def x_C (D : va_G) (aC : FieldType → ClassId) (bs : Nat) (y : MethodName) (cc : ByteArray) (nL : Nat) (rt : Option FieldType) (p : Program) (s : State) (m : MethodId) (args : Array Value) (meth : Method) (c : Code) : Prop :=
  p.tables.exec = Jvm.exec ∧ c.code = cc ∧ meth.sig.returnType = rt ∧ c.maxLocals = nL ∧ s.vm.findClass y.cls = some m.cls ∧ (∀ w ∈ x_tbl, w.before args s = true) ∧ meth.locks = false ∧ (y.name = "<init>" → meth.name = "<init>") ∧ x_K D aC s ∧ bs ≤ s.heap.size
/-- from here (pc, locals, stack, memory, cells and slots made so far) the method comes to Z -/
def x_V (l : Launch) (D : va_G) (aC : FieldType → ClassId) (bs : Nat) (y : MethodName) (cc : ByteArray) (nL : Nat) (rt : Option FieldType) (rm : Room) (Z : List Frame → Array Value → State → State → Prop) (pc : Nat) (lv : List (Nat × Value)) (st : List Value) (sz : Nat) (M : XM) (kc ks : Nat) : Prop :=
  ∀ (p : Program) (e : Env) (s : State) (m : MethodId) (args : Array Value) (below : List Frame) (meth : Method) (c : Code) (H : Heap) (locs : List Loc) (ls : Array Slot),
    x_C D aC bs y cc nL rt p s m args meth c → lv_has ls nL lv → x_R D aC bs sz M H → va_S (fun q => bs ≤ q) s.heap H locs → W p l e rm s m args below meth c H locs kc ks (Z below args s) (F0 m pc ls st)
def x_Qc (D : va_G) (aC : FieldType → ClassId) (bs : Nat) (rv : Option Value) (sz : Nat) (M : XM) : Array Value → State → Outcome → State → Prop := fun _ st o t => o = .returned rv ∧ x_R D aC bs sz M t.heap ∧ va_F (fun q => bs ≤ q) st t
def x_Pc (D : va_G) (aC : FieldType → ClassId) (bs : Nat) (av : List Value) (sz : Nat) (M : XM) : Array Value → State → Prop := fun v U => v = av.toArray ∧ x_R D aC bs sz M U.heap ∧ x_K D aC U
/-- a method's contract: from these arguments and this memory it answers rv, and leaves that memory -/
def x_Cn (l : Launch) (D : va_G) (aC : FieldType → ClassId) (bs : Nat) (y : MethodName) (cc : ByteArray) (nL : Nat) (rt : Option FieldType) (rm : Room) (av : List Value) (sz : Nat) (M : XM) (rv : Option Value) (sz' : Nat) (M' : XM) : Prop :=
  Met l y (Cond.code y cc nL rt :: x_tbl) rm (x_Pc D aC bs av sz M) (x_Qc D aC bs rv sz' M') rm.cells rm.slots (fun q => bs ≤ q)
def x_Z (D : va_G) (aC : FieldType → ClassId) (bs : Nat) (rv : Option Value) (sz : Nat) (M : XM) (rm : Room) : List Frame → Array Value → State → State → Prop := fun below args s => MQ below (x_Qc D aC bs rv sz M) args s rm.cells rm.slots (fun q => bs ≤ q)
/-- what the tables say of a method -/
def x_Me (y : MethodName) (cc : ByteArray) (nL : Nat) (rt : Option FieldType) (n : Nat) : Prop := plainName y.cls = true ∧ Cond.code y cc nL rt ∈ x_tbl ∧ Cond.initialized y.cls ∈ x_tbl ∧ y.cls ≠ "java/lang/invoke/MethodHandle" ∧ y.cls ≠ "java/lang/invoke/VarHandle" ∧ (parseMethodDescriptor y.desc).map (fun d => d.parameters.length) = some n
theorem x_blind {D : va_G} {aC : FieldType → ClassId} {bs : Nat} {av : List Value} {sz : Nat} {M : XM} : FrameBlind (x_Pc D aC bs av sz M) := fun _ U g mk h => ⟨h.1, h.2.1, h.2.2.same rfl⟩
theorem x_enter {l : Launch} {D : va_G} {aC : FieldType → ClassId} {bs : Nat} {y : MethodName} {cc : ByteArray} {nL : Nat} {rt : Option FieldType} {n : Nat} {rm : Room} {av : List Value} {sz : Nat} {M : XM} {rv : Option Value} {sz' : Nat} {M' : XM} (hm : x_Me y cc nL rt n) (hlen : (lg_sl av).length ≤ nL)
    (K : x_V l D aC bs y cc nL rt rm (x_Z D aC bs rv sz' M' rm) 0 (lv_args 0 av) [] sz M 0 0) : x_Cn l D aC bs y cc nL rt rm av sz M rv sz' M' := by
  refine Met.ofW (cc := cc) (maxL := nL) (ret := rt) hm.1 rfl ?_
  intro p e s m args below meth c s₁ B hml hv
  obtain ⟨rfl, hR, hK⟩ := hv
  have hts := atoms_spec (ws := Cond.code y cc nL rt :: x_tbl) B.pre
  have hl := lv_entry av (n := nL) hlen
  rw [lg_entry_eq]
  exact K p e s m _ below meth c s.heap [] _ ⟨B.exec, B.bytes, B.returns, hml, findClass_of_methodNamed B.named, fun w hw => hts w (List.mem_cons_of_mem _ hw), B.notSynchronized, fun h => (name_of_methodNamed B.named B.method).1.trans h, hK, by rw [hR.1]; exact hR.2.1⟩ hl hR va_S.rf
section XRET
variable {l : Launch} {D : va_G} {aC : FieldType → ClassId} {bs : Nat} {y : MethodName} {cc : ByteArray} {nL : Nat} {rt : Option FieldType} {rm : Room} {pc : Nat} {lv : List (Nat × Value)} {sz : Nat} {M : XM} {kc ks : Nat}
theorem x_iret {v : Int32} (hd : decode cc pc = .ok (.ireturn, 1)) (hkc : kc ≤ rm.cells) (hks : ks ≤ rm.slots) : x_V l D aC bs y cc nL (some .int) rm (x_Z D aC bs (some (.int v)) sz M rm) pc lv [.int v] sz M kc ks := by
  intro p e s m args below meth c H locs ls C hl hR hS
  refine W.widen (k := rm.cells) (n := rm.slots) hkc hks ?_
  exact W.iret (v := v) C.1 C.2.1 C.2.2.1 (fun t ht hW => ⟨rfl, by rw [ht]; exact hR, hS.F ht⟩) hS.2.2 hd C.2.2.2.2.2.2.1
theorem x_zret {v : Int32} (hd : decode cc pc = .ok (.ireturn, 1)) (hv : v = 0 ∨ v = 1) (hkc : kc ≤ rm.cells) (hks : ks ≤ rm.slots) : x_V l D aC bs y cc nL (some .boolean) rm (x_Z D aC bs (some (.int v)) sz M rm) pc lv [.int v] sz M kc ks := by
  intro p e s m args below meth c H locs ls C hl hR hS
  refine W.widen (k := rm.cells) (n := rm.slots) hkc hks ?_
  exact W.zret (v := v) C.1 C.2.1 C.2.2.1 (by rcases hv with rfl | rfl <;> decide) (fun t ht hW => ⟨rfl, by rw [ht]; exact hR, hS.F ht⟩) hS.2.2 hd C.2.2.2.2.2.2.1
theorem x_vret (hd : decode cc pc = .ok (.return_, 1)) (hkc : kc ≤ rm.cells) (hks : ks ≤ rm.slots) : x_V l D aC bs y cc nL none rm (x_Z D aC bs none sz M rm) pc lv [] sz M kc ks := by
  intro p e s m args below meth c H locs ls C hl hR hS
  refine W.widen (k := rm.cells) (n := rm.slots) hkc hks ?_
  exact W.vret C.1 C.2.1 C.2.2.1 (fun t ht hW => ⟨rfl, by rw [ht]; exact hR, hS.F ht⟩) hS.2.2 hd C.2.2.2.2.2.2.1
theorem x_lret {v : Int64} (hd : decode cc pc = .ok (.lreturn, 1)) (hkc : kc ≤ rm.cells) (hks : ks ≤ rm.slots) : x_V l D aC bs y cc nL (some .long) rm (x_Z D aC bs (some (.long v)) sz M rm) pc lv [.long v] sz M kc ks := by
  intro p e s m args below meth c H locs ls C hl hR hS
  refine W.widen (k := rm.cells) (n := rm.slots) hkc hks ?_
  exact W.lret (v := v) C.1 C.2.1 C.2.2.1 (fun t ht hW => ⟨rfl, by rw [ht]; exact hR, hS.F ht⟩) hS.2.2 hd C.2.2.2.2.2.2.1
theorem x_aret {a : Nat} {ty : FieldType} (hd : decode cc pc = .ok (.areturn, 1)) (hkc : kc ≤ rm.cells) (hks : ks ≤ rm.slots) : x_V l D aC bs y cc nL (some (.array ty)) rm (x_Z D aC bs (some (.ref a)) sz M rm) pc lv [.ref a] sz M kc ks := by
  intro p e s m args below meth c H locs ls C hl hR hS
  refine W.widen (k := rm.cells) (n := rm.slots) hkc hks ?_
  exact W.aret (v := .ref a) C.1 C.2.1 C.2.2.1 (Or.inr ⟨_, rfl⟩) (Or.inr ⟨_, rfl⟩) (fun t ht hW => ⟨rfl, by rw [ht]; exact hR, hS.F ht⟩) hS.2.2 hd C.2.2.2.2.2.2.1
end XRET
