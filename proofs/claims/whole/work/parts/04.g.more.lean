def x_nl (n : Int32) (B : Nat) : Option Unit := if ¬ n < 0 ∧ n.toNatClampNeg ≤ B then some () else none
theorem x_nl_sp {n : Int32} {B : Nat} {u : Unit} (h : x_nl n B = some u) : ¬ n < 0 ∧ n.toNatClampNeg ≤ B := by
  unfold x_nl at h
  split at h
  · assumption
  · cases h
def x_sc (L : Nat) (xs : Nat → Int32) (i : Int32) : Option Int32 := if x_in i L = true then some (xs i.toNatClampNeg) else none
theorem x_sc_sp {L : Nat} {xs : Nat → Int32} {i v : Int32} (h : x_sc L xs i = some v) : vp_in i L ∧ v = xs i.toNatClampNeg := by
  unfold x_sc at h
  split at h
  · rename_i hi
    cases h
    exact ⟨x_in_vp hi, rfl⟩
  · cases h
theorem x_enter2 {l : Launch} {D : va_G} {aC : FieldType → ClassId} {bs : Nat} {y : MethodName} {cc : ByteArray} {nL : Nat} {rt : Option FieldType} {n : Nat} {rm : Room} {av : List Value} {sz : Nat} {M : XM} {rv : Option Value} {sz' : Nat} {M' : XM} (lv : List (Nat × Value)) (hm : x_Me y cc nL rt n) (hlen : (lg_sl av).length ≤ nL) (hlv : lv_args 0 av = lv)
    (K : x_V l D aC bs y cc nL rt rm (x_Z D aC bs rv sz' M' rm) 0 lv [] sz M 0 0) : x_Cn l D aC bs y cc nL rt rm av sz M rv sz' M' := x_enter hm hlen (by rw [hlv]; exact K)
section XCALL2
variable {l : Launch} {D : va_G} {aC : FieldType → ClassId} {bs : Nat} {y : MethodName} {cc : ByteArray} {nL : Nat} {rt : Option FieldType} {rm : Room} {Z : List Frame → Array Value → State → State → Prop} {pc : Nat} {lv : List (Nat × Value)} {st : List Value} {sz : Nat} {M : XM} {kc ks : Nat}
variable {y2 : MethodName} {cc2 : ByteArray} {nL2 : Nat} {rt2 : Option FieldType} {rm2 : Room} {i n b sz2 : Nat} {rv : Option Value} {M2 : XM}
theorem x_callVV  {ci N : Nat} {T : u_T} {ty : Nat → FieldType} {u : Unit} (As rest : List Value) (hC : x_Cl ci y2.cls T N ty) (hm : x_Me y2 cc2 nL2 rt2 n) (hw : Cond.methodLink y.cls i y2 ∈ x_tbl) (hin : Cond.instanceMethod y2 ∈ x_tbl) (hse : Cond.selects y2.cls y2 y2 ∈ x_tbl) (hfr : rm2.frames + 1 ≤ rm.frames) (hlo : 8 + (nL2 + 11) + rm2.locals ≤ rm.locals) (hn : As.length = n) (hW : (rest.map fun v => v.category).sum ≤ 8) (hkc : kc + rm2.cells ≤ rm.cells) (hks : ks + rm2.slots ≤ rm.slots)
    (hd : decode cc pc = .ok (.invokevirtual i, 3)) (hob : x_ob M b ci = some u) (hcn : x_Cn l D aC bs y2 cc2 nL2 rt2 rm2 (.ref b :: As) sz M none sz2 M2) (hst : st = As.reverse ++ .ref b :: rest)
    (K : x_V l D aC bs y cc nL rt rm Z (pc + 3) lv rest sz2 M2 (kc + rm2.cells) (ks + rm2.slots)) : x_V l D aC bs y cc nL rt rm Z pc lv st sz M kc ks := x_callV As rest hC hm hw hin hse hfr hlo hn hW hkc hks hd hob hcn hst K
theorem x_callVI {r : Int32} {ci N : Nat} {T : u_T} {ty : Nat → FieldType} {u : Unit} (As rest : List Value) (hC : x_Cl ci y2.cls T N ty) (hm : x_Me y2 cc2 nL2 rt2 n) (hw : Cond.methodLink y.cls i y2 ∈ x_tbl) (hin : Cond.instanceMethod y2 ∈ x_tbl) (hse : Cond.selects y2.cls y2 y2 ∈ x_tbl) (hfr : rm2.frames + 1 ≤ rm.frames) (hlo : 8 + (nL2 + 11) + rm2.locals ≤ rm.locals) (hn : As.length = n) (hW : (rest.map fun v => v.category).sum ≤ 8) (hkc : kc + rm2.cells ≤ rm.cells) (hks : ks + rm2.slots ≤ rm.slots)
    (hd : decode cc pc = .ok (.invokevirtual i, 3)) (hob : x_ob M b ci = some u) (hcn : x_Cn l D aC bs y2 cc2 nL2 rt2 rm2 (.ref b :: As) sz M (some (.int r)) sz2 M2) (hst : st = As.reverse ++ .ref b :: rest)
    (K : x_V l D aC bs y cc nL rt rm Z (pc + 3) lv (.int r :: rest) sz2 M2 (kc + rm2.cells) (ks + rm2.slots)) : x_V l D aC bs y cc nL rt rm Z pc lv st sz M kc ks := x_callV As rest hC hm hw hin hse hfr hlo hn hW hkc hks hd hob hcn hst K
theorem x_callVJ {r : Int64} {ci N : Nat} {T : u_T} {ty : Nat → FieldType} {u : Unit} (As rest : List Value) (hC : x_Cl ci y2.cls T N ty) (hm : x_Me y2 cc2 nL2 rt2 n) (hw : Cond.methodLink y.cls i y2 ∈ x_tbl) (hin : Cond.instanceMethod y2 ∈ x_tbl) (hse : Cond.selects y2.cls y2 y2 ∈ x_tbl) (hfr : rm2.frames + 1 ≤ rm.frames) (hlo : 8 + (nL2 + 11) + rm2.locals ≤ rm.locals) (hn : As.length = n) (hW : (rest.map fun v => v.category).sum ≤ 8) (hkc : kc + rm2.cells ≤ rm.cells) (hks : ks + rm2.slots ≤ rm.slots)
    (hd : decode cc pc = .ok (.invokevirtual i, 3)) (hob : x_ob M b ci = some u) (hcn : x_Cn l D aC bs y2 cc2 nL2 rt2 rm2 (.ref b :: As) sz M (some (.long r)) sz2 M2) (hst : st = As.reverse ++ .ref b :: rest)
    (K : x_V l D aC bs y cc nL rt rm Z (pc + 3) lv (.long r :: rest) sz2 M2 (kc + rm2.cells) (ks + rm2.slots)) : x_V l D aC bs y cc nL rt rm Z pc lv st sz M kc ks := x_callV As rest hC hm hw hin hse hfr hlo hn hW hkc hks hd hob hcn hst K
theorem x_callVA {r : Nat} {ci N : Nat} {T : u_T} {ty : Nat → FieldType} {u : Unit} (As rest : List Value) (hC : x_Cl ci y2.cls T N ty) (hm : x_Me y2 cc2 nL2 rt2 n) (hw : Cond.methodLink y.cls i y2 ∈ x_tbl) (hin : Cond.instanceMethod y2 ∈ x_tbl) (hse : Cond.selects y2.cls y2 y2 ∈ x_tbl) (hfr : rm2.frames + 1 ≤ rm.frames) (hlo : 8 + (nL2 + 11) + rm2.locals ≤ rm.locals) (hn : As.length = n) (hW : (rest.map fun v => v.category).sum ≤ 8) (hkc : kc + rm2.cells ≤ rm.cells) (hks : ks + rm2.slots ≤ rm.slots)
    (hd : decode cc pc = .ok (.invokevirtual i, 3)) (hob : x_ob M b ci = some u) (hcn : x_Cn l D aC bs y2 cc2 nL2 rt2 rm2 (.ref b :: As) sz M (some (.ref r)) sz2 M2) (hst : st = As.reverse ++ .ref b :: rest)
    (K : x_V l D aC bs y cc nL rt rm Z (pc + 3) lv (.ref r :: rest) sz2 M2 (kc + rm2.cells) (ks + rm2.slots)) : x_V l D aC bs y cc nL rt rm Z pc lv st sz M kc ks := x_callV As rest hC hm hw hin hse hfr hlo hn hW hkc hks hd hob hcn hst K
theorem x_callSV  (As rest : List Value) (hm : x_Me y2 cc2 nL2 rt2 n) (hw : Cond.methodLink y.cls i y2 ∈ x_tbl) (hstat : Cond.static y2 ∈ x_tbl) (hfr : rm2.frames + 1 ≤ rm.frames) (hlo : 8 + (nL2 + 11) + rm2.locals ≤ rm.locals) (hn : As.length = n) (hW : (rest.map fun v => v.category).sum ≤ 8) (hkc : kc + rm2.cells ≤ rm.cells) (hks : ks + rm2.slots ≤ rm.slots)
    (hd : decode cc pc = .ok (.invokestatic i, 3)) (hcn : x_Cn l D aC bs y2 cc2 nL2 rt2 rm2 As sz M none sz2 M2) (hst : st = As.reverse ++ rest)
    (K : x_V l D aC bs y cc nL rt rm Z (pc + 3) lv rest sz2 M2 (kc + rm2.cells) (ks + rm2.slots)) : x_V l D aC bs y cc nL rt rm Z pc lv st sz M kc ks := x_callS As rest hm hw hstat hfr hlo hn hW hkc hks hd hcn hst K
theorem x_callSI {r : Int32} (As rest : List Value) (hm : x_Me y2 cc2 nL2 rt2 n) (hw : Cond.methodLink y.cls i y2 ∈ x_tbl) (hstat : Cond.static y2 ∈ x_tbl) (hfr : rm2.frames + 1 ≤ rm.frames) (hlo : 8 + (nL2 + 11) + rm2.locals ≤ rm.locals) (hn : As.length = n) (hW : (rest.map fun v => v.category).sum ≤ 8) (hkc : kc + rm2.cells ≤ rm.cells) (hks : ks + rm2.slots ≤ rm.slots)
    (hd : decode cc pc = .ok (.invokestatic i, 3)) (hcn : x_Cn l D aC bs y2 cc2 nL2 rt2 rm2 As sz M (some (.int r)) sz2 M2) (hst : st = As.reverse ++ rest)
    (K : x_V l D aC bs y cc nL rt rm Z (pc + 3) lv (.int r :: rest) sz2 M2 (kc + rm2.cells) (ks + rm2.slots)) : x_V l D aC bs y cc nL rt rm Z pc lv st sz M kc ks := x_callS As rest hm hw hstat hfr hlo hn hW hkc hks hd hcn hst K
theorem x_callSJ {r : Int64} (As rest : List Value) (hm : x_Me y2 cc2 nL2 rt2 n) (hw : Cond.methodLink y.cls i y2 ∈ x_tbl) (hstat : Cond.static y2 ∈ x_tbl) (hfr : rm2.frames + 1 ≤ rm.frames) (hlo : 8 + (nL2 + 11) + rm2.locals ≤ rm.locals) (hn : As.length = n) (hW : (rest.map fun v => v.category).sum ≤ 8) (hkc : kc + rm2.cells ≤ rm.cells) (hks : ks + rm2.slots ≤ rm.slots)
    (hd : decode cc pc = .ok (.invokestatic i, 3)) (hcn : x_Cn l D aC bs y2 cc2 nL2 rt2 rm2 As sz M (some (.long r)) sz2 M2) (hst : st = As.reverse ++ rest)
    (K : x_V l D aC bs y cc nL rt rm Z (pc + 3) lv (.long r :: rest) sz2 M2 (kc + rm2.cells) (ks + rm2.slots)) : x_V l D aC bs y cc nL rt rm Z pc lv st sz M kc ks := x_callS As rest hm hw hstat hfr hlo hn hW hkc hks hd hcn hst K
theorem x_callSA {r : Nat} (As rest : List Value) (hm : x_Me y2 cc2 nL2 rt2 n) (hw : Cond.methodLink y.cls i y2 ∈ x_tbl) (hstat : Cond.static y2 ∈ x_tbl) (hfr : rm2.frames + 1 ≤ rm.frames) (hlo : 8 + (nL2 + 11) + rm2.locals ≤ rm.locals) (hn : As.length = n) (hW : (rest.map fun v => v.category).sum ≤ 8) (hkc : kc + rm2.cells ≤ rm.cells) (hks : ks + rm2.slots ≤ rm.slots)
    (hd : decode cc pc = .ok (.invokestatic i, 3)) (hcn : x_Cn l D aC bs y2 cc2 nL2 rt2 rm2 As sz M (some (.ref r)) sz2 M2) (hst : st = As.reverse ++ rest)
    (K : x_V l D aC bs y cc nL rt rm Z (pc + 3) lv (.ref r :: rest) sz2 M2 (kc + rm2.cells) (ks + rm2.slots)) : x_V l D aC bs y cc nL rt rm Z pc lv st sz M kc ks := x_callS As rest hm hw hstat hfr hlo hn hW hkc hks hd hcn hst K
theorem x_callIV  (As rest : List Value) (hm : x_Me y2 cc2 nL2 none n) (hw : Cond.methodLink y.cls i y2 ∈ x_tbl) (hin : Cond.instanceMethod y2 ∈ x_tbl) (hnm : y2.name = "<init>") (hfr : rm2.frames + 1 ≤ rm.frames) (hlo : 8 + (nL2 + 11) + rm2.locals ≤ rm.locals) (hn : As.length = n) (hW : (rest.map fun v => v.category).sum ≤ 8) (hkc : kc + rm2.cells ≤ rm.cells) (hks : ks + rm2.slots ≤ rm.slots)
    (hd : decode cc pc = .ok (.invokespecial i, 3)) (hcn : x_Cn l D aC bs y2 cc2 nL2 none rm2 (.ref b :: As) sz M none sz2 M2) (hst : st = As.reverse ++ .ref b :: rest)
    (K : x_V l D aC bs y cc nL rt rm Z (pc + 3) lv rest sz2 M2 (kc + rm2.cells) (ks + rm2.slots)) : x_V l D aC bs y cc nL rt rm Z pc lv st sz M kc ks := x_callI As rest hm hw hin hnm hfr hlo hn hW hkc hks hd hcn hst K
theorem x_callINV  (As rest : List Value) (hcl : y.cls = RX8) (hm : x_Me y2 cc2 nL2 none n) (hw : (i, y2) ∈ x_nest) (hin : Cond.instanceMethod y2 ∈ x_tbl) (hnm : y2.name = "<init>") (hfr : rm2.frames + 1 ≤ rm.frames) (hlo : 8 + (nL2 + 11) + rm2.locals ≤ rm.locals) (hn : As.length = n) (hW : (rest.map fun v => v.category).sum ≤ 8) (hkc : kc + rm2.cells ≤ rm.cells) (hks : ks + rm2.slots ≤ rm.slots)
    (hd : decode cc pc = .ok (.invokespecial i, 3)) (hcn : x_Cn l D aC bs y2 cc2 nL2 none rm2 (.ref b :: As) sz M none sz2 M2) (hst : st = As.reverse ++ .ref b :: rest)
    (K : x_V l D aC bs y cc nL rt rm Z (pc + 3) lv rest sz2 M2 (kc + rm2.cells) (ks + rm2.slots)) : x_V l D aC bs y cc nL rt rm Z pc lv st sz M kc ks := x_callIN As rest hcl hm hw hin hnm hfr hlo hn hW hkc hks hd hcn hst K
end XCALL2
section XTAB
variable {l : Launch} {D : va_G} {aC : FieldType → ClassId} {bs : Nat} {y : MethodName} {cc : ByteArray} {nL : Nat} {rt : Option FieldType} {rm : Room} {Z : List Frame → Array Value → State → State → Prop} {pc : Nat} {lv : List (Nat × Value)} {st : List Value} {sz : Nat} {M : XM} {kc ks : Nat}
theorem x_tabD {dflt lo hi : Int} {offs : Array Int} {len : Nat} {x : Int32} (tgt : Nat) (hd : decode cc pc = .ok (.tableswitch dflt lo hi offs, len)) (h : x.toInt < lo ∨ hi < x.toInt ∨ offs[(x.toInt - lo).toNat]? = some dflt) (ht : (pc : Int) + dflt = (tgt : Int)) (K : x_V l D aC bs y cc nL rt rm Z tgt lv st sz M kc ks) : x_V l D aC bs y cc nL rt rm Z pc lv (.int x :: st) sz M kc ks := by
  by_cases h1 : x.toInt < lo
  · exact x_tabOut tgt hd (Or.inl h1) ht K
  · by_cases h2 : hi < x.toInt
    · exact x_tabOut tgt hd (Or.inr h2) ht K
    · rcases h with h | h | h
      · exact absurd h h1
      · exact absurd h h2
      · exact x_tabIn x.toInt tgt hd rfl h1 h2 h ht K
end XTAB
-- the law's own: the script, its end
def x_Sc (b L : Nat) (xs : Nat → Int32) (bs : Nat) (s : State) : Prop := va_X b L xs s s.heap ∧ b < s.heap.size ∧ ¬ bs ≤ b
def x_ZL (b L : Nat) (xs : Nat → Int32) (bs : Nat) (Z : List Frame → Array Value → State → State → Prop) : List Frame → Array Value → State → State → Prop := fun below args s t => x_Sc b L xs bs s → s.heap.size ≤ bs → Z below args s t
section XLAW
variable {l : Launch} {D : va_G} {aC : FieldType → ClassId} {bs : Nat} {y : MethodName} {cc : ByteArray} {nL : Nat} {rt : Option FieldType} {rm : Room} {Z : List Frame → Array Value → State → State → Prop} {pc : Nat} {lv : List (Nat × Value)} {st : List Value} {sz : Nat} {M : XM} {kc ks : Nat} {b L : Nat} {xs : Nat → Int32}
theorem x_sld {i v : Int32} (hd : decode cc pc = .ok (.iaload, 1)) (hv : x_sc L xs i = some v) (K : x_V l D aC bs y cc nL rt rm (x_ZL b L xs bs Z) (pc + 1) lv (.int v :: st) sz M kc ks) : x_V l D aC bs y cc nL rt rm (x_ZL b L xs bs Z) pc lv (.int i :: .ref b :: st) sz M kc ks := by
  intro p e s m args below meth c H locs ls X hl hR hS
  obtain ⟨h1, rfl⟩ := x_sc_sp hv
  by_cases hf : x_Sc b L xs bs s
  · exact va_sld X.1 X.2.1 hf.1 hf.2.1 hf.2.2 hS h1 hd (K p e s m args below meth c H locs ls X hl hR hS)
  · exact fun T hT XX => ⟨_, Steps.refl _, fun h => absurd h hf⟩
theorem x_slen (hd : decode cc pc = .ok (.arraylength, 1)) (K : x_V l D aC bs y cc nL rt rm (x_ZL b L xs bs Z) (pc + 1) lv (.int (Int32.ofNat L) :: st) sz M kc ks) : x_V l D aC bs y cc nL rt rm (x_ZL b L xs bs Z) pc lv (.ref b :: st) sz M kc ks := by
  intro p e s m args below meth c H locs ls X hl hR hS
  by_cases hf : x_Sc b L xs bs s
  · exact va_slen X.1 X.2.1 hf.1 hf.2.1 hf.2.2 hS hd (K p e s m args below meth c H locs ls X hl hR hS)
  · exact fun T hT XX => ⟨_, Steps.refl _, fun h => absurd h hf⟩
end XLAW
