section XNEW
variable {l : Launch} {D : va_G} {aC : FieldType → ClassId} {bs : Nat} {y : MethodName} {cc : ByteArray} {nL : Nat} {rt : Option FieldType} {rm : Room} {Z : List Frame → Array Value → State → State → Prop} {pc : Nat} {lv : List (Nat × Value)} {st : List Value} {sz : Nat} {M M2 : XM} {kc ks : Nat}
theorem x_S.push {bs : Nat} {H0 H H1 : Heap} {locs : List Loc} {sz : Nat} (h : va_S (fun q => bs ≤ q) H0 H locs) (hz : H.size = sz) (z : H1.size = sz + 1) (oq : ∀ q : Nat, q < sz → H1[q]? = H[q]?) : va_S (fun q => bs ≤ q) H0 H1 locs := by
  have h0 := h.1
  exact ⟨by omega, fun x h1 h2 => (oq x (by omega)).trans (h.2.1 x h1 h2), h.2.2⟩
theorem x_new {ci N i : Nat} {C : String} {T : u_T} {ty : Nat → FieldType} (fs : List Value) (hC : x_Cl ci C T N ty) (hw : Cond.classLink y.cls i C ∈ x_tbl) (hi : Cond.instantiable C N ∈ x_tbl) (hin : Cond.initialized C ∈ x_tbl) (hfs : ∀ j, j < N → defaultValue (ty j) = vp_V fs j) (hc : kc + 1 ≤ rm.cells) (hs : ks + N ≤ rm.slots) (hd : decode cc pc = .ok (.new i, 3))
    (K : x_V l D aC bs y cc nL rt rm Z (pc + 3) lv (.ref sz :: st) (sz + 1) (x_up M sz (.inr (ci, fs))) (kc + 1) (ks + N)) : x_V l D aC bs y cc nL rt rm Z pc lv st sz M kc ks := by
  intro p e s m args below meth c H locs ls X hl hR hS
  have hts := X.2.2.2.2.2.1
  have hKn := X.2.2.2.2.2.2.2.2.1.1.1 ci _ hC.1
  refine W.newcK X.1 X.2.1 X.2.2.2.2.1 (hts _ hw) (hts _ hi) (hts _ hin) rfl hd hc hs hKn.2.1 hR.1 fun H1 kC hkC e1 z1 o1 => ?_
  exact K p e s m args below meth c H1 _ ls X hl (hR.push ⟨_, hC.1, (u_born ty hts hC.2.1 hKn hkC e1 hC.2.2.1).to hfs⟩ z1 o1) (x_S.push hS hR.1 z1 o1)
theorem x_newI {n : Int32} (N B : Nat) (hw : Cond.arrayClass .int ∈ x_tbl) (hn : ¬ n < 0) (hN : n.toNatClampNeg = N) (hB : N ≤ B) (hB2 : B ≤ 1000000) (hc : kc + 1 ≤ rm.cells) (hs : ks + B ≤ rm.slots) (hd : decode cc pc = .ok (.newarray .int, 2))
    (K : x_V l D aC bs y cc nL rt rm Z (pc + 2) lv (.ref sz :: st) (sz + 1) (x_up M sz (.inl (.int, N, .inl (fun _ => 0)))) (kc + 1) (ks + B)) : x_V l D aC bs y cc nL rt rm Z pc lv (.int n :: st) sz M kc ks := by
  intro p e s m args below meth c H locs ls X hl hR hS
  have hK := X.2.2.2.2.2.2.2.2.1.1
  refine va_newaK (atype := .int) X.1 X.2.1 (X.2.2.2.2.2.1 _ hw) rfl hd rfl hn hN (by show N * 4 ≤ 536870912; omega) hc (by omega) hR.1 fun H1 cA e1 z1 o1 hAr hNm => ?_
  have hcA : cA = aC .int := Option.some.inj (hNm.symm.trans (hK.2 0 _ rfl).2)
  subst hcA
  refine W.widen (k := kc + 1) (n := ks + B) (Nat.le_refl _) (by omega) ?_
  refine K p e s m args below meth c H1 _ ls X hl (hR.push ?_ z1 o1) (x_S.push hS hR.1 z1 o1)
  show H1[sz]? = some (vp_cell _ _)
  rw [e1]
  rfl
theorem x_newL {n : Int32} (N B : Nat) (hw : Cond.arrayClass .long ∈ x_tbl) (hn : ¬ n < 0) (hN : n.toNatClampNeg = N) (hB : N ≤ B) (hB2 : B ≤ 1000000) (hc : kc + 1 ≤ rm.cells) (hs : ks + B ≤ rm.slots) (hd : decode cc pc = .ok (.newarray .long, 2))
    (K : x_V l D aC bs y cc nL rt rm Z (pc + 2) lv (.ref sz :: st) (sz + 1) (x_up M sz (.inl (.long, N, .inr (.inl (fun _ => 0))))) (kc + 1) (ks + B)) : x_V l D aC bs y cc nL rt rm Z pc lv (.int n :: st) sz M kc ks := by
  intro p e s m args below meth c H locs ls X hl hR hS
  have hK := X.2.2.2.2.2.2.2.2.1.1
  refine va_newaK (atype := .long) X.1 X.2.1 (X.2.2.2.2.2.1 _ hw) rfl hd rfl hn hN (by show N * 8 ≤ 536870912; omega) hc (by omega) hR.1 fun H1 cA e1 z1 o1 hAr hNm => ?_
  have hcA : cA = aC .long := Option.some.inj (hNm.symm.trans (hK.2 1 _ rfl).2)
  subst hcA
  refine W.widen (k := kc + 1) (n := ks + B) (Nat.le_refl _) (by omega) ?_
  refine K p e s m args below meth c H1 _ ls X hl (hR.push ?_ z1 o1) (x_S.push hS hR.1 z1 o1)
  show H1[sz]? = some (vp_cell _ _)
  rw [e1]
  rfl
theorem x_newB {n : Int32} (N B : Nat) (hw : Cond.arrayClass .byte ∈ x_tbl) (hn : ¬ n < 0) (hN : n.toNatClampNeg = N) (hB : N ≤ B) (hB2 : B ≤ 1000000) (hc : kc + 1 ≤ rm.cells) (hs : ks + B ≤ rm.slots) (hd : decode cc pc = .ok (.newarray .byte, 2))
    (K : x_V l D aC bs y cc nL rt rm Z (pc + 2) lv (.ref sz :: st) (sz + 1) (x_up M sz (.inl (.byte, N, .inl (fun _ => 0)))) (kc + 1) (ks + B)) : x_V l D aC bs y cc nL rt rm Z pc lv (.int n :: st) sz M kc ks := by
  intro p e s m args below meth c H locs ls X hl hR hS
  have hK := X.2.2.2.2.2.2.2.2.1.1
  refine va_newaK (atype := .byte) X.1 X.2.1 (X.2.2.2.2.2.1 _ hw) rfl hd rfl hn hN (by show N * 1 ≤ 536870912; omega) hc (by omega) hR.1 fun H1 cA e1 z1 o1 hAr hNm => ?_
  have hcA : cA = aC .byte := Option.some.inj (hNm.symm.trans (hK.2 2 _ rfl).2)
  subst hcA
  refine W.widen (k := kc + 1) (n := ks + B) (Nat.le_refl _) (by omega) ?_
  refine K p e s m args below meth c H1 _ ls X hl (hR.push ?_ z1 o1) (x_S.push hS hR.1 z1 o1)
  show H1[sz]? = some (vp_cell _ _)
  rw [e1]
  rfl
theorem x_newZ {n : Int32} (N B : Nat) (hw : Cond.arrayClass .boolean ∈ x_tbl) (hn : ¬ n < 0) (hN : n.toNatClampNeg = N) (hB : N ≤ B) (hB2 : B ≤ 1000000) (hc : kc + 1 ≤ rm.cells) (hs : ks + B ≤ rm.slots) (hd : decode cc pc = .ok (.newarray .boolean, 2))
    (K : x_V l D aC bs y cc nL rt rm Z (pc + 2) lv (.ref sz :: st) (sz + 1) (x_up M sz (.inl (.boolean, N, .inl (fun _ => 0)))) (kc + 1) (ks + B)) : x_V l D aC bs y cc nL rt rm Z pc lv (.int n :: st) sz M kc ks := by
  intro p e s m args below meth c H locs ls X hl hR hS
  have hK := X.2.2.2.2.2.2.2.2.1.1
  refine va_newaK (atype := .boolean) X.1 X.2.1 (X.2.2.2.2.2.1 _ hw) rfl hd rfl hn hN (by show N * 1 ≤ 536870912; omega) hc (by omega) hR.1 fun H1 cA e1 z1 o1 hAr hNm => ?_
  have hcA : cA = aC .boolean := Option.some.inj (hNm.symm.trans (hK.2 3 _ rfl).2)
  subst hcA
  refine W.widen (k := kc + 1) (n := ks + B) (Nat.le_refl _) (by omega) ?_
  refine K p e s m args below meth c H1 _ ls X hl (hR.push ?_ z1 o1) (x_S.push hS hR.1 z1 o1)
  show H1[sz]? = some (vp_cell _ _)
  rw [e1]
  rfl
theorem x_newQ {n : Int32} {i t0 : Nat} {C : String} (N : Nat) (hao : ∀ U : State, x_K D aC U → va_AO C U) (ht : (x_tys aC)[t0]? = some (aC (.object C), .object C)) (hw : Cond.classLink y.cls i C ∈ x_tbl) (hn : ¬ n < 0) (hN : n.toNatClampNeg = N) (hB2 : N ≤ 1000000) (hc : kc + 1 ≤ rm.cells) (hs : ks + N ≤ rm.slots) (hd : decode cc pc = .ok (.anewarray i, 3))
    (K : x_V l D aC bs y cc nL rt rm Z (pc + 3) lv (.ref sz :: st) (sz + 1) (x_up M sz (.inl (.object C, N, .inr (.inr (.inr (.inr (fun _ => none))))))) (kc + 1) (ks + N)) : x_V l D aC bs y cc nL rt rm Z pc lv (.int n :: st) sz M kc ks := by
  intro p e s m args below meth c H locs ls X hl hR hS
  have hK := X.2.2.2.2.2.2.2.2.1
  subst hN
  refine W.anew X.1 X.2.1 X.2.2.2.2.1 (X.2.2.2.2.2.1 _ hw) (va_AO.use (hao s hK)) rfl hd rfl hn (by omega) hc hs fun cA kA comp f1 f2 f3 f4 => ?_
  obtain ⟨kA', comp', k1, k2, k3, k4⟩ := (hK.1.2 t0 _ ht).2
  have hcA : cA = aC (.object C) := Option.some.inj (f1.symm.trans k4)
  generalize hH1 : H.push ({ cls := cA, slots := Array.replicate n.toNatClampNeg .null, vm := .none } : Cell) = H1
  have z1 : H1.size = sz + 1 := by rw [← hH1, Array.size_push, hR.1]
  have e1 : H1[sz]? = some (arrV cA n.toNatClampNeg (fun _ => .null)) := by rw [← hH1, ← hR.1, Array.getElem?_push_size, ← arrV_new]
  have o1 : ∀ q : Nat, q < sz → H1[q]? = H[q]? := fun q hq => by rw [← hH1, Array.getElem?_push, if_neg (by rw [hR.1]; exact Nat.ne_of_lt hq)]
  rw [show H.size = sz from hR.1]
  refine K p e s m args below meth c H1 _ ls X hl (hR.push ?_ z1 o1) (x_S.push hS hR.1 z1 o1)
  show H1[sz]? = some (vp_cell _ _)
  rw [e1, hcA, vp_cell_q]
  rfl
-- the library's own
theorem x_objInit {a i : Nat} (hw : Cond.methodLink y.cls i Lib.objectInit ∈ x_tbl) (hin : Cond.instanceMethod Lib.objectInit ∈ x_tbl) (hco : Cond.code Lib.objectInit ⟨#[0xb1]⟩ 1 none ∈ x_tbl) (hfr : 1 ≤ rm.frames) (hlo : (st.map fun v => v.category).sum + 12 ≤ rm.locals) (hd : decode cc pc = .ok (.invokespecial i, 3))
    (K : x_V l D aC bs y cc nL rt rm Z (pc + 3) lv st sz M kc ks) : x_V l D aC bs y cc nL rt rm Z pc lv (.ref a :: st) sz M kc ks := by
  intro p e s m args below meth c H locs ls X hl hR hS
  have hts := X.2.2.2.2.2.1
  refine W.objInit X.1 X.2.1 X.2.2.2.2.1 (hts _ hw) (hts _ hin) (hts _ hco) rfl (by rw [X.2.2.2.1]; exact hl.1) rfl hd hfr (by show 2 * 0 + _ + 12 ≤ _; omega) ?_
  exact K p e s m args below meth c H locs ls X hl hR hS
theorem x_mmax {x v : Int32} {i : Nat} (hw : Cond.methodLink y.cls i Lib.Math.max.name ∈ x_tbl) (hstat : Cond.static Lib.Math.max.name ∈ x_tbl) (hini : Cond.initialized "java/lang/Math" ∈ x_tbl) (hco : Cond.code Lib.Math.max.name Lib.Math.max.code 2 (some .int) ∈ x_tbl) (hfr : 1 ≤ rm.frames) (hlo : (st.map fun v => v.category).sum + 13 ≤ rm.locals) (hkc : kc ≤ rm.cells) (hks : ks ≤ rm.slots) (hd : decode cc pc = .ok (.invokestatic i, 3))
    (K : x_V l D aC bs y cc nL rt rm Z (pc + 3) lv (.int (if x < v then v else x) :: st) sz M kc ks) : x_V l D aC bs y cc nL rt rm Z pc lv (.int v :: .int x :: st) sz M kc ks := by
  intro p e s m args below meth c H locs ls X hl hR hS
  have hts := X.2.2.2.2.2.1
  exact va_mmax X.1 X.2.1 (by rw [X.2.2.2.1]; exact hl.1.symm) X.2.2.2.2.1 (hts _ hw) (hts _ hstat) (hts _ hini) (hts _ hco) hfr hlo hkc hks hd (K p e s m args below meth c H locs ls X hl hR hS)
theorem x_mmin {x v : Int32} {i : Nat} (hw : Cond.methodLink y.cls i Lib.Math.min.name ∈ x_tbl) (hstat : Cond.static Lib.Math.min.name ∈ x_tbl) (hini : Cond.initialized "java/lang/Math" ∈ x_tbl) (hco : Cond.code Lib.Math.min.name Lib.Math.min.code 2 (some .int) ∈ x_tbl) (hfr : 1 ≤ rm.frames) (hlo : (st.map fun v => v.category).sum + 13 ≤ rm.locals) (hkc : kc ≤ rm.cells) (hks : ks ≤ rm.slots) (hd : decode cc pc = .ok (.invokestatic i, 3))
    (K : x_V l D aC bs y cc nL rt rm Z (pc + 3) lv (.int (if v < x then v else x) :: st) sz M kc ks) : x_V l D aC bs y cc nL rt rm Z pc lv (.int v :: .int x :: st) sz M kc ks := by
  intro p e s m args below meth c H locs ls X hl hR hS
  have hts := X.2.2.2.2.2.1
  exact va_mmin X.1 X.2.1 (by rw [X.2.2.2.1]; exact hl.1.symm) X.2.2.2.2.1 (hts _ hw) (hts _ hstat) (hts _ hini) (hts _ hco) hfr hlo hkc hks hd (K p e s m args below meth c H locs ls X hl hR hS)
theorem x_mabs {x : Int32} {i : Nat} (hw : Cond.methodLink y.cls i Lib.Math.abs.name ∈ x_tbl) (hstat : Cond.static Lib.Math.abs.name ∈ x_tbl) (hini : Cond.initialized "java/lang/Math" ∈ x_tbl) (hco : Cond.code Lib.Math.abs.name Lib.Math.abs.code 1 (some .int) ∈ x_tbl) (hfr : 1 ≤ rm.frames) (hlo : (st.map fun v => v.category).sum + 13 ≤ rm.locals) (hkc : kc ≤ rm.cells) (hks : ks ≤ rm.slots) (hd : decode cc pc = .ok (.invokestatic i, 3))
    (K : x_V l D aC bs y cc nL rt rm Z (pc + 3) lv (.int (if 0 ≤ x then x else 0 - x) :: st) sz M kc ks) : x_V l D aC bs y cc nL rt rm Z pc lv (.int x :: st) sz M kc ks := by
  intro p e s m args below meth c H locs ls X hl hR hS
  have hts := X.2.2.2.2.2.1
  exact va_mabs X.1 X.2.1 (by rw [X.2.2.2.1]; exact hl.1.symm) X.2.2.2.2.1 (hts _ hw) (hts _ hstat) (hts _ hini) (hts _ hco) hfr hlo hkc hks hd (K p e s m args below meth c H locs ls X hl hR hS)
theorem x_nn (z : Int32) (hz : ¬ z < 0) : z.toInt = (z.toNatClampNeg : Int) := by
  have hz0 : (0 : Int) ≤ z.toInt := by
    have := Int32.not_lt.mp hz
    simpa using Int32.le_iff_toInt_le.mp this
  show z.toInt = ((z.toInt.toNat : Nat) : Int)
  omega
theorem x_acI {a b i : Nat} {sp dp n : Int32} (hw : Cond.methodLink y.cls i arraycopyName ∈ x_tbl) (hnat : Cond.native arraycopyName ∈ x_tbl) (hstat : Cond.static arraycopyName ∈ x_tbl) (hini : Cond.initialized "java/lang/System" ∈ x_tbl) (hfr : 1 ≤ rm.frames) (hlo : (st.map fun v => v.category).sum + (nativeFrameWords "java/lang/System" "arraycopy" 5 + 11) ≤ rm.locals) (hd : decode cc pc = .ok (.invokestatic i, 3)) (hv : x_cpI M a sp b dp n = some M2)
    (K : x_V l D aC bs y cc nL rt rm Z (pc + 3) lv st sz M2 kc ks) : x_V l D aC bs y cc nL rt rm Z pc lv (.int n :: .int dp :: .ref b :: .int sp :: .ref a :: st) sz M kc ks := by
  intro p e s m args below meth c H locs ls X0 hl hR hS
  obtain ⟨n0, n1, f, g, hc0, hc1, ⟨h1, h2, h3, h4, h5⟩, rfl⟩ := x_cpI_sp hv
  have hts := X0.2.2.2.2.2.1
  have hK := X0.2.2.2.2.2.2.2.2.1.1
  intro T hT X
  have hc0 : H[a]? = some (vp_cell (aC .int) (n0, .inl f)) := (hR.2.2 a _ hc0).2
  have hbb : bs ≤ b := (hR.2.2 b _ hc1).1
  have hc1 : H[b]? = some (vp_cell (aC .int) (n1, .inl g)) := (hR.2.2 b _ hc1).2
  obtain ⟨-, k0, hk0, cm0, hkk0⟩ := (hK.2 0 _ rfl).1 n0 (fun j => .int (f j))
  obtain ⟨-, k1, hk1, cm1, hkk1⟩ := (hK.2 0 _ rfl).1 n1 (fun j => .int (g j))
  obtain ⟨vm', X', step⟩ := X.arraycopy X0.1 X0.2.2.2.2.1 (hts _ hw) (hts _ hnat) (hts _ hstat) (hts _ hini) (src := a) (dst := b) (cs := vp_cell (aC .int) (n0, .inl f)) (cd := vp_cell (aC .int) (n1, .inl g)) (srcPos := sp) (destPos := dp) (n := n) (by rw [hT]; exact hc0) (by rw [hT]; exact hc1)
    (fun _ h => by cases h) (fun _ h => by cases h) (fun h => by cases h) (fun h => by cases h) hk0 hk1 hkk0 hkk1 (by simp [refKind]) h1 h2 h3
    (by rw [x_nn sp h1, x_nn n h3]; show ¬ _ > ((arrV (aC .int) n0 (fun j => .int (f j))).slots.size : Int); rw [arrV_size]; omega)
    (by rw [x_nn dp h2, x_nn n h3]; show ¬ _ > ((arrV (aC .int) n1 (fun j => .int (g j))).slots.size : Int); rw [arrV_size]; omega)
    (fun vm₁ _ i hi => by
      have e : (vp_cell (aC .int) (n0, .inl f)).slots.getD (sp.toNatClampNeg + i) .null = .int (f (sp.toNatClampNeg + i)) := by
        show (arrV (aC .int) n0 (fun j => .int (f j))).slots.getD _ _ = _
        rw [Array.getD_eq_getD_getElem?, arrV_read _ _ (by omega)]
        rfl
      refine ⟨?_, ?_⟩
      · rw [e]
        rfl
      · rw [e]
        exact trivial)
    (g := F0 m pc ls (.int n :: .int dp :: .ref b :: .int sp :: .ref a :: st)) rfl (by rw [X0.2.2.2.1]; exact hl.1) (rest := st) rfl (by rw [X0.2.1]; exact hd) hfr (by show 2 * 0 + _ + _ ≤ _; omega)
  have e1 : copied (vp_cell (aC .int) (n0, .inl f)) (vp_cell (aC .int) (n1, .inl g)) sp dp n = vp_cell (aC .int) (n1, .inl (va_cpy f g sp.toNatClampNeg dp.toNatClampNeg n.toNatClampNeg)) := va_copied (fun z => .int z) (aC .int) (aC .int) f g h4
  rw [e1] at X' step
  have hlt : b < H.size := (Array.getElem?_eq_some_iff.mp hc1).1
  have hheap : ((T.setVm vm').setCell b (vp_cell (aC .int) (n1, .inl (va_cpy f g sp.toNatClampNeg dp.toNatClampNeg n.toNatClampNeg)))).heap = H.setIfInBounds b (vp_cell (aC .int) (n1, .inl (va_cpy f g sp.toNatClampNeg dp.toNatClampNeg n.toNatClampNeg))) := by rw [← hT]; rfl
  have oq : ∀ q : Nat, q ≠ b → (H.setIfInBounds b (vp_cell (aC .int) (n1, .inl (va_cpy f g sp.toNatClampNeg dp.toNatClampNeg n.toNatClampNeg))))[q]? = H[q]? := fun q hq => by simp [Array.getElem?_setIfInBounds, Ne.symm hq]
  obtain ⟨t, a1, b1⟩ := K p e s m args below meth c _ _ ls X0 hl (hR.put hbb (show (H.setIfInBounds b _)[b]? = some _ by simp [Array.getElem?_setIfInBounds, hlt]) (by simp) oq) ⟨by simp; exact hS.1, fun q g1 g2 => by
      rw [oq q (fun e => g2 (by rw [e]; exact hbb))]
      exact hS.2.1 q g1 g2, fun q hq => by
      rcases List.mem_append.mp hq with h | h
      · exact hS.2.2 q h
      · obtain ⟨z, -, hz⟩ := List.mem_map.mp h
        rw [← hz]
        exact hbb⟩ _ hheap X'
  exact ⟨t, step t a1, b1⟩
theorem x_acL {a b i : Nat} {sp dp n : Int32} (hw : Cond.methodLink y.cls i arraycopyName ∈ x_tbl) (hnat : Cond.native arraycopyName ∈ x_tbl) (hstat : Cond.static arraycopyName ∈ x_tbl) (hini : Cond.initialized "java/lang/System" ∈ x_tbl) (hfr : 1 ≤ rm.frames) (hlo : (st.map fun v => v.category).sum + (nativeFrameWords "java/lang/System" "arraycopy" 5 + 11) ≤ rm.locals) (hd : decode cc pc = .ok (.invokestatic i, 3)) (hv : x_cpL M a sp b dp n = some M2)
    (K : x_V l D aC bs y cc nL rt rm Z (pc + 3) lv st sz M2 kc ks) : x_V l D aC bs y cc nL rt rm Z pc lv (.int n :: .int dp :: .ref b :: .int sp :: .ref a :: st) sz M kc ks := by
  intro p e s m args below meth c H locs ls X0 hl hR hS
  obtain ⟨n0, n1, f, g, hc0, hc1, ⟨h1, h2, h3, h4, h5⟩, rfl⟩ := x_cpL_sp hv
  have hts := X0.2.2.2.2.2.1
  have hK := X0.2.2.2.2.2.2.2.2.1.1
  intro T hT X
  have hc0 : H[a]? = some (vp_cell (aC .long) (n0, .inr (.inl f))) := (hR.2.2 a _ hc0).2
  have hbb : bs ≤ b := (hR.2.2 b _ hc1).1
  have hc1 : H[b]? = some (vp_cell (aC .long) (n1, .inr (.inl g))) := (hR.2.2 b _ hc1).2
  obtain ⟨-, k0, hk0, cm0, hkk0⟩ := (hK.2 1 _ rfl).1 n0 (fun j => .long (f j))
  obtain ⟨-, k1, hk1, cm1, hkk1⟩ := (hK.2 1 _ rfl).1 n1 (fun j => .long (g j))
  obtain ⟨vm', X', step⟩ := X.arraycopy X0.1 X0.2.2.2.2.1 (hts _ hw) (hts _ hnat) (hts _ hstat) (hts _ hini) (src := a) (dst := b) (cs := vp_cell (aC .long) (n0, .inr (.inl f))) (cd := vp_cell (aC .long) (n1, .inr (.inl g))) (srcPos := sp) (destPos := dp) (n := n) (by rw [hT]; exact hc0) (by rw [hT]; exact hc1)
    (fun _ h => by cases h) (fun _ h => by cases h) (fun h => by cases h) (fun h => by cases h) hk0 hk1 hkk0 hkk1 (by simp [refKind]) h1 h2 h3
    (by rw [x_nn sp h1, x_nn n h3]; show ¬ _ > ((arrV (aC .long) n0 (fun j => .long (f j))).slots.size : Int); rw [arrV_size]; omega)
    (by rw [x_nn dp h2, x_nn n h3]; show ¬ _ > ((arrV (aC .long) n1 (fun j => .long (g j))).slots.size : Int); rw [arrV_size]; omega)
    (fun vm₁ _ i hi => by
      have e : (vp_cell (aC .long) (n0, .inr (.inl f))).slots.getD (sp.toNatClampNeg + i) .null = .long (f (sp.toNatClampNeg + i)) := by
        show (arrV (aC .long) n0 (fun j => .long (f j))).slots.getD _ _ = _
        rw [Array.getD_eq_getD_getElem?, arrV_read _ _ (by omega)]
        rfl
      refine ⟨?_, ?_⟩
      · rw [e]
        rfl
      · rw [e]
        exact trivial)
    (g := F0 m pc ls (.int n :: .int dp :: .ref b :: .int sp :: .ref a :: st)) rfl (by rw [X0.2.2.2.1]; exact hl.1) (rest := st) rfl (by rw [X0.2.1]; exact hd) hfr (by show 2 * 0 + _ + _ ≤ _; omega)
  have e1 : copied (vp_cell (aC .long) (n0, .inr (.inl f))) (vp_cell (aC .long) (n1, .inr (.inl g))) sp dp n = vp_cell (aC .long) (n1, .inr (.inl (va_cpy f g sp.toNatClampNeg dp.toNatClampNeg n.toNatClampNeg))) := va_copied (fun z => .long z) (aC .long) (aC .long) f g h4
  rw [e1] at X' step
  have hlt : b < H.size := (Array.getElem?_eq_some_iff.mp hc1).1
  have hheap : ((T.setVm vm').setCell b (vp_cell (aC .long) (n1, .inr (.inl (va_cpy f g sp.toNatClampNeg dp.toNatClampNeg n.toNatClampNeg))))).heap = H.setIfInBounds b (vp_cell (aC .long) (n1, .inr (.inl (va_cpy f g sp.toNatClampNeg dp.toNatClampNeg n.toNatClampNeg)))) := by rw [← hT]; rfl
  have oq : ∀ q : Nat, q ≠ b → (H.setIfInBounds b (vp_cell (aC .long) (n1, .inr (.inl (va_cpy f g sp.toNatClampNeg dp.toNatClampNeg n.toNatClampNeg)))))[q]? = H[q]? := fun q hq => by simp [Array.getElem?_setIfInBounds, Ne.symm hq]
  obtain ⟨t, a1, b1⟩ := K p e s m args below meth c _ _ ls X0 hl (hR.put hbb (show (H.setIfInBounds b _)[b]? = some _ by simp [Array.getElem?_setIfInBounds, hlt]) (by simp) oq) ⟨by simp; exact hS.1, fun q g1 g2 => by
      rw [oq q (fun e => g2 (by rw [e]; exact hbb))]
      exact hS.2.1 q g1 g2, fun q hq => by
      rcases List.mem_append.mp hq with h | h
      · exact hS.2.2 q h
      · obtain ⟨z, -, hz⟩ := List.mem_map.mp h
        rw [← hz]
        exact hbb⟩ _ hheap X'
  exact ⟨t, step t a1, b1⟩
end XNEW
