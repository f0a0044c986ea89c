theorem x_go {p : Program} {l : Launch} {e : Env} {R : Room} {s : State} {m : MethodId} {args : Array Value} {below : List Frame} {meth : Method} {c : Code} {H : Heap} {locs : List Loc} {cells slots mc ms pc : Nat} {ls : Array Slot} {st0 rest : List Value} {a : Array Value} {D : va_G} {aC : FieldType → ClassId} {bs : Nat} {rv : Option Value} {sz2 : Nat} {M2 : XM} {Q : State → Prop}
    (hr : va_Run p l e R s m args below meth c H locs cells slots mc ms (F0 m pc ls st0) rest (x_Qc D aC bs rv sz2 M2 a) (fun q => bs ≤ q)) (hS : va_S (fun q => bs ≤ q) s.heap H locs)
    (kk : ∀ (H1 : Heap) (locs1 : List Loc), x_R D aC bs sz2 M2 H1 → va_S (fun q => bs ≤ q) s.heap H1 locs1 → W p l e R s m args below meth c H1 locs1 (cells + mc) (slots + ms) Q (F0 m (pc + 3) ls (rv.toList ++ rest))) : W p l e R s m args below meth c H locs cells slots Q (F0 m pc ls st0) := by
  intro T hT X
  obtain ⟨v, st₀, t, T', L, h0, X', hL, e1, e2, ⟨hv, hR, hz, hk⟩, st⟩ := hr T hT X
  cases hv
  rw [h0] at hz hk
  obtain ⟨t2, a1, b1⟩ := kk T'.heap (locs ++ L) (by rw [e1]; exact hR)
    ⟨Nat.le_trans hS.1 (by rw [e1]; exact hz), fun q h1 h2 => by rw [e1, hk q (Nat.lt_of_lt_of_le h1 hS.1) h2]; exact hS.2.1 q h1 h2, fun q hq => by
      rcases List.mem_append.mp hq with h | h
      · exact hS.2.2 q h
      · exact hL q h⟩ T' rfl X'
  exact ⟨t2, st t2 a1, b1⟩
section XCALL
variable {l : Launch} {D : va_G} {aC : FieldType → ClassId} {bs : Nat} {y : MethodName} {cc : ByteArray} {nL : Nat} {rt : Option FieldType} {rm : Room} {Z : List Frame → Array Value → State → State → Prop} {pc : Nat} {lv : List (Nat × Value)} {st : List Value} {sz : Nat} {M : XM} {kc ks : Nat}
variable {y2 : MethodName} {cc2 : ByteArray} {nL2 : Nat} {rt2 : Option FieldType} {rm2 : Room} {i n b sz2 : Nat} {rv : Option Value} {M2 : XM}
theorem x_callV {ci N : Nat} {T : u_T} {ty : Nat → FieldType} {u : Unit} (As rest : List Value) (hC : x_Cl ci y2.cls T N ty) (hm : x_Me y2 cc2 nL2 rt2 n) (hw : Cond.methodLink y.cls i y2 ∈ x_tbl) (hin : Cond.instanceMethod y2 ∈ x_tbl) (hse : Cond.selects y2.cls y2 y2 ∈ x_tbl) (hfr : rm2.frames + 1 ≤ rm.frames) (hlo : 8 + (nL2 + 11) + rm2.locals ≤ rm.locals) (hn : As.length = n) (hW : (rest.map fun v => v.category).sum ≤ 8) (hkc : kc + rm2.cells ≤ rm.cells) (hks : ks + rm2.slots ≤ rm.slots)
    (hd : decode cc pc = .ok (.invokevirtual i, 3)) (hob : x_ob M b ci = some u) (hcn : x_Cn l D aC bs y2 cc2 nL2 rt2 rm2 (.ref b :: As) sz M rv sz2 M2) (hst : st = As.reverse ++ .ref b :: rest)
    (K : x_V l D aC bs y cc nL rt rm Z (pc + 3) lv (rv.toList ++ rest) sz2 M2 (kc + rm2.cells) (ks + rm2.slots)) : x_V l D aC bs y cc nL rt rm Z pc lv st sz M kc ks := by
  intro p e s m args below meth c H locs ls X hl hR hS
  have ht := X.2.2.2.2.2.1
  have hK := X.2.2.2.2.2.2.2.2.1
  obtain ⟨fs, hb1⟩ := x_ob_sp hob
  refine x_go (va_runV (As := As) (rest := rest) ⟨X.1, X.2.1, X.2.2.2.1, X.2.2.2.2.1, ht⟩ hcn ⟨callB_of n ht (x_goodIn hm.2.1) rfl rfl rfl (ht _ hm.2.2.1) (ht _ hw) hm.2.2.2 ⟨hfr, hlo⟩, ht _ hin, ht _ hse⟩ ⟨x_blind, va_recv hK.1 (hR.get hb1) hC.1 (q0 := 0) rfl, fun U hU hWm => ⟨rfl, by rw [hU]; exact hR, hK.warm hWm⟩⟩ rfl hn hl.1 hst (lv_room hW) hd ⟨hkc, hks⟩) hS (fun H1 locs1 hR1 hS1 => ?_)
  exact K p e s m args below meth c H1 locs1 ls X hl hR1 hS1
theorem x_callS (As rest : List Value) (hm : x_Me y2 cc2 nL2 rt2 n) (hw : Cond.methodLink y.cls i y2 ∈ x_tbl) (hstat : Cond.static y2 ∈ x_tbl) (hfr : rm2.frames + 1 ≤ rm.frames) (hlo : 8 + (nL2 + 11) + rm2.locals ≤ rm.locals) (hn : As.length = n) (hW : (rest.map fun v => v.category).sum ≤ 8) (hkc : kc + rm2.cells ≤ rm.cells) (hks : ks + rm2.slots ≤ rm.slots)
    (hd : decode cc pc = .ok (.invokestatic i, 3)) (hcn : x_Cn l D aC bs y2 cc2 nL2 rt2 rm2 As sz M rv sz2 M2) (hst : st = As.reverse ++ rest)
    (K : x_V l D aC bs y cc nL rt rm Z (pc + 3) lv (rv.toList ++ rest) sz2 M2 (kc + rm2.cells) (ks + rm2.slots)) : x_V l D aC bs y cc nL rt rm Z pc lv st sz M kc ks := by
  intro p e s m args below meth c H locs ls X hl hR hS
  have ht := X.2.2.2.2.2.1
  have hK := X.2.2.2.2.2.2.2.2.1
  refine x_go (va_runS (As := As) (rest := rest) ⟨X.1, X.2.1, X.2.2.2.1, X.2.2.2.2.1, ht⟩ hcn ⟨callB_of n ht (x_goodIn hm.2.1) rfl rfl rfl (ht _ hm.2.2.1) (ht _ hw) hm.2.2.2 ⟨hfr, hlo⟩, ht _ hstat⟩ ⟨x_blind, fun U hU hWm => ⟨rfl, by rw [hU]; exact hR, hK.warm hWm⟩⟩ rfl hn hl.1 hst (lv_room hW) hd ⟨hkc, hks⟩) hS (fun H1 locs1 hR1 hS1 => ?_)
  exact K p e s m args below meth c H1 locs1 ls X hl hR1 hS1
theorem x_callI (As rest : List Value) (hm : x_Me y2 cc2 nL2 none n) (hw : Cond.methodLink y.cls i y2 ∈ x_tbl) (hin : Cond.instanceMethod y2 ∈ x_tbl) (hnm : y2.name = "<init>") (hfr : rm2.frames + 1 ≤ rm.frames) (hlo : 8 + (nL2 + 11) + rm2.locals ≤ rm.locals) (hn : As.length = n) (hW : (rest.map fun v => v.category).sum ≤ 8) (hkc : kc + rm2.cells ≤ rm.cells) (hks : ks + rm2.slots ≤ rm.slots)
    (hd : decode cc pc = .ok (.invokespecial i, 3)) (hcn : x_Cn l D aC bs y2 cc2 nL2 none rm2 (.ref b :: As) sz M rv sz2 M2) (hst : st = As.reverse ++ .ref b :: rest)
    (K : x_V l D aC bs y cc nL rt rm Z (pc + 3) lv (rv.toList ++ rest) sz2 M2 (kc + rm2.cells) (ks + rm2.slots)) : x_V l D aC bs y cc nL rt rm Z pc lv st sz M kc ks := by
  intro p e s m args below meth c H locs ls X hl hR hS
  have ht := X.2.2.2.2.2.1
  have hK := X.2.2.2.2.2.2.2.2.1
  refine x_go (va_runI (As := As) (rest := rest) ⟨X.1, X.2.1, X.2.2.2.1, X.2.2.2.2.1, ht⟩ hcn ⟨callB_of n ht (x_goodIn hm.2.1) rfl rfl rfl (ht _ hm.2.2.1) (ht _ hw) hm.2.2.2 ⟨hfr, hlo⟩, hnm, ht _ hin⟩ ⟨x_blind, fun U hU hWm => ⟨rfl, by rw [hU]; exact hR, hK.warm hWm⟩⟩ rfl hn hl.1 hst (lv_room hW) hd ⟨hkc, hks⟩) hS (fun H1 locs1 hR1 hS1 => ?_)
  exact K p e s m args below meth c H1 locs1 ls X hl hR1 hS1
theorem x_callIN (As rest : List Value) (hcl : y.cls = RX8) (hm : x_Me y2 cc2 nL2 none n) (hw : (i, y2) ∈ x_nest) (hin : Cond.instanceMethod y2 ∈ x_tbl) (hnm : y2.name = "<init>") (hfr : rm2.frames + 1 ≤ rm.frames) (hlo : 8 + (nL2 + 11) + rm2.locals ≤ rm.locals) (hn : As.length = n) (hW : (rest.map fun v => v.category).sum ≤ 8) (hkc : kc + rm2.cells ≤ rm.cells) (hks : ks + rm2.slots ≤ rm.slots)
    (hd : decode cc pc = .ok (.invokespecial i, 3)) (hcn : x_Cn l D aC bs y2 cc2 nL2 none rm2 (.ref b :: As) sz M rv sz2 M2) (hst : st = As.reverse ++ .ref b :: rest)
    (K : x_V l D aC bs y cc nL rt rm Z (pc + 3) lv (rv.toList ++ rest) sz2 M2 (kc + rm2.cells) (ks + rm2.slots)) : x_V l D aC bs y cc nL rt rm Z pc lv st sz M kc ks := by
  intro p e s m args below meth c H locs ls X hl hR hS
  have ht := X.2.2.2.2.2.1
  have hK := X.2.2.2.2.2.2.2.2.1
  refine x_go (va_runIN (As := As) (rest := rest) (host := "SwappedIntervals") ⟨X.1, X.2.1, X.2.2.2.1, X.2.2.2.2.1, ht⟩ hcn ⟨va_cnB n ht (x_goodIn hm.2.1) rfl rfl rfl (by rw [hcl]; exact hK.2.2.2 _ hw) (ht _ hm.2.2.1) hm.2.2.2 ⟨hfr, hlo⟩, hnm, ht _ hin⟩ ⟨x_blind, fun U hU hWm => ⟨rfl, by rw [hU]; exact hR, hK.warm hWm⟩⟩ rfl hn hl.1 hst (lv_room hW) hd ⟨hkc, hks⟩) hS (fun H1 locs1 hR1 hS1 => ?_)
  exact K p e s m args below meth c H1 locs1 ls X hl hR1 hS1
end XCALL
