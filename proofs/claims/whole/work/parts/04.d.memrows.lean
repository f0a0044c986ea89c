section XMEM
variable {l : Launch} {D : va_G} {aC : FieldType → ClassId} {bs : Nat} {y : MethodName} {cc : ByteArray} {nL : Nat} {rt : Option FieldType} {rm : Room} {Z : List Frame → Array Value → State → State → Prop} {pc : Nat} {lv : List (Nat × Value)} {st : List Value} {sz : Nat} {M M2 : XM} {kc ks : Nat}
/-- what the tables say of a class of objects -/
def x_Cl (ci : Nat) (C : String) (T : u_T) (N : Nat) (ty : Nat → FieldType) : Prop := vwCl[ci]? = some (C, T, N) ∧ (∀ w ∈ u_ws C T N, w ∈ x_tbl) ∧ (∀ k, k < N → parseFieldDescriptor (T k).2.2.1 = some (ty k)) ∧ (∀ a, a < N → ∀ b, b < N → a ≠ b → (T a).2.1 ≠ (T b).2.1)
theorem x_getI {ci k i a N : Nat} {C : String} {T : u_T} {ty : Nat → FieldType} {v : Int32} (hC : x_Cl ci C T N ty) (hw : Cond.fieldLink y.cls i (T k).1 (T k).2.1 (T k).2.2.1 ∈ x_tbl) (hk : k < N) (hd : decode cc pc = .ok (.getfield i, 3)) (hv : x_gI M a ci k = some v)
    (K : x_V l D aC bs y cc nL rt rm Z (pc + 3) lv (.int v :: st) sz M kc ks) : x_V l D aC bs y cc nL rt rm Z pc lv (.ref a :: st) sz M kc ks := by
  intro p e s m args below meth c H locs ls X hl hR hS
  obtain ⟨fs, h1, h2⟩ := x_gI_sp hv
  exact va_get (D := D) (ci := ci) (v := .int v) (C := C) (T := T) (N := N) X.1 X.2.1 X.2.2.2.2.2.1 hC.2.1 X.2.2.2.2.1 X.2.2.2.2.2.2.2.2.1.1 (hR.get h1) 0 rfl hC.1 k hk (X.2.2.2.2.2.1 _ hw) (fun _ h9 => h9) h2 hd (K p e s m args below meth c H locs ls X hl hR hS)
theorem x_getR {ci k i a N b : Nat} {C : String} {T : u_T} {ty : Nat → FieldType} (hC : x_Cl ci C T N ty) (hw : Cond.fieldLink y.cls i (T k).1 (T k).2.1 (T k).2.2.1 ∈ x_tbl) (hk : k < N) (hd : decode cc pc = .ok (.getfield i, 3)) (hv : x_gR M a ci k = some b)
    (K : x_V l D aC bs y cc nL rt rm Z (pc + 3) lv (.ref b :: st) sz M kc ks) : x_V l D aC bs y cc nL rt rm Z pc lv (.ref a :: st) sz M kc ks := by
  intro p e s m args below meth c H locs ls X hl hR hS
  obtain ⟨fs, h1, h2⟩ := x_gR_sp hv
  exact va_get (D := D) (ci := ci) (v := .ref b) (C := C) (T := T) (N := N) X.1 X.2.1 X.2.2.2.2.2.1 hC.2.1 X.2.2.2.2.1 X.2.2.2.2.2.2.2.2.1.1 (hR.get h1) 0 rfl hC.1 k hk (X.2.2.2.2.2.1 _ hw) (fun _ h9 => h9) h2 hd (K p e s m args below meth c H locs ls X hl hR hS)
theorem x_putV {ci k i a N : Nat} {C : String} {T : u_T} {ty : Nat → FieldType} {v : Value} (hC : x_Cl ci C T N ty) (hw : Cond.fieldLink y.cls i (T k).1 (T k).2.1 (T k).2.2.1 ∈ x_tbl) (hk : k < N) (hf : (T k).2.2.2 = false) (hn : narrow (ty k) v = v) (hfit : fits (ty k) v = true) (hd : decode cc pc = .ok (.putfield i, 3)) (hv : x_put M a ci k v = some M2)
    (K : x_V l D aC bs y cc nL rt rm Z (pc + 3) lv st sz M2 kc ks) : x_V l D aC bs y cc nL rt rm Z pc lv (v :: .ref a :: st) sz M kc ks := by
  intro p e s m args below meth c H locs ls X hl hR hS
  obtain ⟨fs, g1, hlen, rfl⟩ := x_put_sp hv
  have hts := X.2.2.2.2.2.1
  have hK := X.2.2.2.2.2.2.2.2.1.1
  have hap := va_apart (own := y.cls) hts hC.2.1 ty hC.2.2.1 hC.2.2.2 hK hC.1
  obtain ⟨r, h1, cell, q1, q2, q3, q4⟩ := (hR.2.2 a _ g1).2
  have hr : r = (C, T, N) := Option.some.inj (h1.symm.trans hC.1)
  subst hr
  obtain ⟨hSl, hfc, kC, hkC, hkind⟩ := hK.1 ci _ hC.1
  obtain ⟨cf, kf, fi, f, hi, hsl⟩ := hSl k hk
  have hlay := hts _ (hC.2.1 _ (u_in_lay hk))
  unfold u_lay at hlay
  rw [if_neg (by rw [hf]; decide)] at hlay
  have hst := (u_facts hfc hkC (u_lays hts hC.2.1 hk) hi).1
  have h6 := u_store hfc hkC hkind hlay hi (hC.2.2.1 k hk) hn hfit
  refine W.putK X.1 X.2.1 (f := f) ⟨X.2.2.2.2.1, hts _ hw, ⟨_, _, _, hi⟩, hst⟩ (by rw [q2]; exact h6) q1 q3 (by rw [hsl]; exact k2_hasslot (q4 k hk)) rfl rfl hd fun H' e1 e2 e3 => ?_
  rw [hsl] at e1 ⊢
  exact K p e s m args below meth c H' _ ls X hl (hR.put (hR.2.2 a _ g1).1 ⟨_, hC.1, t_OB.to (V := updV (vp_V fs) k v) ⟨_, e1, q2, q3, t_set q4 hap hk v⟩ (fun j _ => vp_updV_set hlen v j)⟩ e2 e3) (hS.put e2 e3 (hR.2.2 a _ g1).1)
theorem x_putF {ci k i a N : Nat} {C : String} {T : u_T} {ty : Nat → FieldType} {v : Value} (hC : x_Cl ci C T N ty) (hw : Cond.fieldLink y.cls i (T k).1 (T k).2.1 (T k).2.2.1 ∈ x_tbl) (hk : k < N) (hf : (T k).2.2.2 = true) (hin : y.name = "<init>") (hdecl : (T k).1 = y.cls) (hn : narrow (ty k) v = v) (hfit : fits (ty k) v = true) (hd : decode cc pc = .ok (.putfield i, 3)) (hv : x_put M a ci k v = some M2)
    (K : x_V l D aC bs y cc nL rt rm Z (pc + 3) lv st sz M2 kc ks) : x_V l D aC bs y cc nL rt rm Z pc lv (v :: .ref a :: st) sz M kc ks := by
  intro p e s m args below meth c H locs ls X hl hR hS
  obtain ⟨fs, g1, hlen, rfl⟩ := x_put_sp hv
  have hts := X.2.2.2.2.2.1
  have hown := X.2.2.2.2.1
  have hK := X.2.2.2.2.2.2.2.2.1.1
  have hap := va_apart (own := y.cls) hts hC.2.1 ty hC.2.2.1 hC.2.2.2 hK hC.1
  obtain ⟨r, h1, cell, q1, q2, q3, q4⟩ := (hR.2.2 a _ g1).2
  have hr : r = (C, T, N) := Option.some.inj (h1.symm.trans hC.1)
  subst hr
  obtain ⟨hSl, hfc, kC, hkC, hkind⟩ := hK.1 ci _ hC.1
  obtain ⟨cf, kf, fi, f, hi, hsl⟩ := hSl k hk
  have hlay := hts _ (hC.2.1 _ (u_in_lay hk))
  unfold u_lay at hlay
  rw [if_pos hf] at hlay
  have hst := (u_facts hfc hkC (u_lays hts hC.2.1 hk) hi).1
  have hcf : m.cls = cf := by
    obtain ⟨_, _, c', _, _, _, -, -, hf', -, -, -, hown2, -⟩ := Cond.laysFinal_spec hlay
    have e1 : c' = cf := by have := hi.symm.trans hf'; simp at this; exact this.1.symm
    rw [hdecl] at hown2
    rw [← e1]; exact Option.some.inj (hown.symm.trans hown2)
  have h6 := u_fits hfc hkC hkind (Or.inr hlay) hi (hC.2.2.1 k hk) hn hfit
  refine W.putFinK X.1 X.2.1 hown (hts _ hw) hi hst hcf (X.2.2.2.2.2.2.2.1 hin) (by rw [q2]; exact h6) q1 q3 (by rw [hsl]; exact k2_hasslot (q4 k hk)) rfl rfl hd fun H' e1 e2 e3 => ?_
  rw [hsl] at e1 ⊢
  exact K p e s m args below meth c H' _ ls X hl (hR.put (hR.2.2 a _ g1).1 ⟨_, hC.1, t_OB.to (V := updV (vp_V fs) k v) ⟨_, e1, q2, q3, t_set q4 hap hk v⟩ (fun j _ => vp_updV_set hlen v j)⟩ e2 e3) (hS.put e2 e3 (hR.2.2 a _ g1).1)
-- arrays
theorem x_iald {a : Nat} {i v : Int32} (hd : decode cc pc = .ok (.iaload, 1)) (hv : x_a32 .int M a i = some v) (K : x_V l D aC bs y cc nL rt rm Z (pc + 1) lv (.int v :: st) sz M kc ks) : x_V l D aC bs y cc nL rt rm Z pc lv (.int i :: .ref a :: st) sz M kc ks := by
  intro p e s m args below meth c H locs ls X hl hR hS
  obtain ⟨n, f, h1, h2, rfl⟩ := x_a32_sp hv
  exact va_iald X.1 X.2.1 X.2.2.2.2.2.2.2.2.1.1 (hR.get h1) 0 0 (cA := aC .int) rfl rfl h2 hd (K p e s m args below meth c H locs ls X hl hR hS)
theorem x_bald {a : Nat} {i v : Int32} (hd : decode cc pc = .ok (.baload, 1)) (hv : x_a32 .byte M a i = some v) (K : x_V l D aC bs y cc nL rt rm Z (pc + 1) lv (.int v :: st) sz M kc ks) : x_V l D aC bs y cc nL rt rm Z pc lv (.int i :: .ref a :: st) sz M kc ks := by
  intro p e s m args below meth c H locs ls X hl hR hS
  obtain ⟨n, f, h1, h2, rfl⟩ := x_a32_sp hv
  exact va_bald X.1 X.2.1 X.2.2.2.2.2.2.2.2.1.1 (hR.get h1) 0 2 (cA := aC .byte) rfl rfl h2 hd (K p e s m args below meth c H locs ls X hl hR hS)
theorem x_zald {a : Nat} {i v : Int32} (hd : decode cc pc = .ok (.baload, 1)) (hv : x_a32 .boolean M a i = some v) (K : x_V l D aC bs y cc nL rt rm Z (pc + 1) lv (.int v :: st) sz M kc ks) : x_V l D aC bs y cc nL rt rm Z pc lv (.int i :: .ref a :: st) sz M kc ks := by
  intro p e s m args below meth c H locs ls X hl hR hS
  obtain ⟨n, f, h1, h2, rfl⟩ := x_a32_sp hv
  exact va_zald X.1 X.2.1 X.2.2.2.2.2.2.2.2.1.1 (hR.get h1) 0 3 (cA := aC .boolean) rfl rfl h2 hd (K p e s m args below meth c H locs ls X hl hR hS)
theorem x_lald {a : Nat} {i : Int32} {v : Int64} (hd : decode cc pc = .ok (.laload, 1)) (hv : x_a64 M a i = some v) (K : x_V l D aC bs y cc nL rt rm Z (pc + 1) lv (.long v :: st) sz M kc ks) : x_V l D aC bs y cc nL rt rm Z pc lv (.int i :: .ref a :: st) sz M kc ks := by
  intro p e s m args below meth c H locs ls X hl hR hS
  obtain ⟨n, f, h1, h2, rfl⟩ := x_a64_sp hv
  exact va_lald X.1 X.2.1 X.2.2.2.2.2.2.2.2.1.1 (hR.get h1) 0 1 (cA := aC .long) rfl rfl h2 hd (K p e s m args below meth c H locs ls X hl hR hS)
theorem x_aald {a b t0 : Nat} {i : Int32} {C : String} (ht : (x_tys aC)[t0]? = some (aC (.object C), .object C)) (hd : decode cc pc = .ok (.aaload, 1)) (hv : x_aQ (.object C) M a i = some b) (K : x_V l D aC bs y cc nL rt rm Z (pc + 1) lv (.ref b :: st) sz M kc ks) : x_V l D aC bs y cc nL rt rm Z pc lv (.int i :: .ref a :: st) sz M kc ks := by
  intro p e s m args below meth c H locs ls X hl hR hS
  obtain ⟨n, f, h1, h2, h3⟩ := x_aQ_sp hv
  refine va_aldq X.1 X.2.1 X.2.2.2.2.2.2.2.2.1.1 (hR.get h1) 0 t0 (cA := aC (.object C)) rfl ht h2 hd ?_
  rw [h3]
  exact K p e s m args below meth c H locs ls X hl hR hS
theorem x_alen {a t0 : Nat} {v : Int32} {ty : FieldType} (ht : (x_tys aC)[t0]? = some (aC ty, ty)) (hd : decode cc pc = .ok (.arraylength, 1)) (hv : x_len ty M a = some v) (K : x_V l D aC bs y cc nL rt rm Z (pc + 1) lv (.int v :: st) sz M kc ks) : x_V l D aC bs y cc nL rt rm Z pc lv (.ref a :: st) sz M kc ks := by
  intro p e s m args below meth c H locs ls X hl hR hS
  obtain ⟨q, h1, h2⟩ := x_len_sp hv
  exact va_alen X.1 X.2.1 X.2.2.2.2.2.2.2.2.1.1 (hR.get h1) 0 t0 (cA := aC ty) (x := q) rfl ht h2 hd (K p e s m args below meth c H locs ls X hl hR hS)
theorem x_iast {a : Nat} {i v : Int32} (hd : decode cc pc = .ok (.iastore, 1)) (hv : x_w32 .int M a i v = some M2) (K : x_V l D aC bs y cc nL rt rm Z (pc + 1) lv st sz M2 kc ks) : x_V l D aC bs y cc nL rt rm Z pc lv (.int v :: .int i :: .ref a :: st) sz M kc ks := by
  intro p e s m args below meth c H locs ls X hl hR hS
  obtain ⟨n, f, h1, h2, rfl⟩ := x_w32_sp hv
  have hK := X.2.2.2.2.2.2.2.2.1.1
  refine W.iast X.1 X.2.1 (hR.2.2 a _ h1).2 ((hK.2 0 _ rfl).1 n (fun j => .int (f j))) (fun q => by cases q) (by show ¬ (i < 0 ∨ (arrV _ _ _).slots.size ≤ _); rw [arrV_size]; exact h2) rfl rfl hd fun H1 e1 z oq => ?_
  refine K p e s m args below meth c H1 _ ls X hl (hR.put (hR.2.2 a _ h1).1 ?_ z oq) (hS.put z oq (hR.2.2 a _ h1).1)
  show H1[a]? = some (vp_cell _ _)
  rw [e1]
  rw [vp_cell_i, vp_cell_i, arrV_store]
  congr 2
  funext q
  by_cases hq : q = i.toNatClampNeg
  · subst hq
    simp [updV, upd]
  · simp [updV, upd, hq]
theorem x_bast {a : Nat} {i v : Int32} (hd : decode cc pc = .ok (.bastore, 1)) (hv : x_w32 .byte M a i (vp_nar .byte v) = some M2) (K : x_V l D aC bs y cc nL rt rm Z (pc + 1) lv st sz M2 kc ks) : x_V l D aC bs y cc nL rt rm Z pc lv (.int v :: .int i :: .ref a :: st) sz M kc ks := by
  intro p e s m args below meth c H locs ls X hl hR hS
  obtain ⟨n, f, h1, h2, rfl⟩ := x_w32_sp hv
  have hK := X.2.2.2.2.2.2.2.2.1.1
  refine W.bast X.1 X.2.1 (hR.2.2 a _ h1).2 ((hK.2 2 _ rfl).1 n (fun j => .int (f j))) (fun q => by cases q) (by show ¬ (i < 0 ∨ (arrV _ _ _).slots.size ≤ _); rw [arrV_size]; exact h2) rfl rfl hd fun H1 e1 z oq => ?_
  refine K p e s m args below meth c H1 _ ls X hl (hR.put (hR.2.2 a _ h1).1 ?_ z oq) (hS.put z oq (hR.2.2 a _ h1).1)
  show H1[a]? = some (vp_cell _ _)
  rw [e1]
  rw [vp_cell_i, vp_cell_i, arrV_store]
  congr 2
  funext q
  by_cases hq : q = i.toNatClampNeg
  · subst hq
    simp [updV, upd, vp_nar]
    try rfl
  · simp [updV, upd, hq]
theorem x_zast {a : Nat} {i v : Int32} (hd : decode cc pc = .ok (.bastore, 1)) (hv : x_w32 .boolean M a i (vp_nar .boolean v) = some M2) (K : x_V l D aC bs y cc nL rt rm Z (pc + 1) lv st sz M2 kc ks) : x_V l D aC bs y cc nL rt rm Z pc lv (.int v :: .int i :: .ref a :: st) sz M kc ks := by
  intro p e s m args below meth c H locs ls X hl hR hS
  obtain ⟨n, f, h1, h2, rfl⟩ := x_w32_sp hv
  have hK := X.2.2.2.2.2.2.2.2.1.1
  refine W.zast X.1 X.2.1 (hR.2.2 a _ h1).2 ((hK.2 3 _ rfl).1 n (fun j => .int (f j))) (fun q => by cases q) (by show ¬ (i < 0 ∨ (arrV _ _ _).slots.size ≤ _); rw [arrV_size]; exact h2) rfl rfl hd fun H1 e1 z oq => ?_
  refine K p e s m args below meth c H1 _ ls X hl (hR.put (hR.2.2 a _ h1).1 ?_ z oq) (hS.put z oq (hR.2.2 a _ h1).1)
  show H1[a]? = some (vp_cell _ _)
  rw [e1]
  rw [vp_cell_i, vp_cell_i, arrV_store]
  congr 2
  funext q
  by_cases hq : q = i.toNatClampNeg
  · subst hq
    simp [updV, upd, vp_nar]
    try rfl
  · simp [updV, upd, hq]
theorem x_last {a : Nat} {i : Int32} {v : Int64} (hd : decode cc pc = .ok (.lastore, 1)) (hv : x_w64 M a i v = some M2) (K : x_V l D aC bs y cc nL rt rm Z (pc + 1) lv st sz M2 kc ks) : x_V l D aC bs y cc nL rt rm Z pc lv (.long v :: .int i :: .ref a :: st) sz M kc ks := by
  intro p e s m args below meth c H locs ls X hl hR hS
  obtain ⟨n, f, h1, h2, rfl⟩ := x_w64_sp hv
  have hK := X.2.2.2.2.2.2.2.2.1.1
  refine W.last X.1 X.2.1 (hR.2.2 a _ h1).2 ((hK.2 1 _ rfl).1 n (fun j => .long (f j))) (fun q => by cases q) (by show ¬ (i < 0 ∨ (arrV _ _ _).slots.size ≤ _); rw [arrV_size]; exact h2) rfl rfl hd fun H1 e1 z oq => ?_
  refine K p e s m args below meth c H1 _ ls X hl (hR.put (hR.2.2 a _ h1).1 ?_ z oq) (hS.put z oq (hR.2.2 a _ h1).1)
  show H1[a]? = some (vp_cell _ _)
  rw [e1]
  rw [vp_cell_l, vp_cell_l, arrV_store]
  congr 2
  funext q
  by_cases hq : q = i.toNatClampNeg
  · subst hq
    simp [updV, vp_updL]
  · simp [updV, vp_updL, hq]
theorem x_aast {a b t0 ci N : Nat} {i : Int32} {C : String} {T : u_T} {ty : Nat → FieldType} {u : Unit} (hC : x_Cl ci C T N ty) (ht : (x_tys aC)[t0]? = some (aC (.object C), .object C)) (hd : decode cc pc = .ok (.aastore, 1)) (hb : x_ob M b ci = some u) (hv : x_wQ (.object C) M a i b = some M2) (K : x_V l D aC bs y cc nL rt rm Z (pc + 1) lv st sz M2 kc ks) : x_V l D aC bs y cc nL rt rm Z pc lv (.ref b :: .int i :: .ref a :: st) sz M kc ks := by
  intro p e s m args below meth c H locs ls X hl hR hS
  obtain ⟨n, f, h1, hin, rfl⟩ := x_wQ_sp hv
  obtain ⟨vs, hb1⟩ := x_ob_sp hb
  have hK := X.2.2.2.2.2.2.2.2.1.1
  have hlt : i.toNatClampNeg < n := Nat.not_le.mp fun q => hin (Or.inr q)
  have h0 : ¬ i < 0 := fun q => hin (Or.inl q)
  obtain ⟨r', hr', cellV, g1, g2, g3, -⟩ := (hR.2.2 b _ hb1).2
  have hcls := (hK.1 ci _ hC.1).2
  obtain ⟨kA, comp, k1, k2, k3, -⟩ := (hK.2 t0 _ ht).2
  have hcomp : comp = D.1 ci := Option.some.inj (k3.symm.trans hcls.1)
  subst hcomp
  obtain ⟨kC, hkC, -⟩ := hcls.2
  refine W.aast X.1 X.2.1 (hR.2.2 a _ h1).2 (fun q h => by cases h) (fun h => by cases h) k1 k2 rfl hkC ⟨h0, by show _ < (arrV _ _ _).slots.size; rw [arrV_size]; exact hlt⟩ g1 (fun q h => by rw [g3] at h; cases h) (by rw [g2]; exact hkC) (by rw [g2]; exact va_assign hcls) rfl rfl hd fun H1 e1 z oq => ?_
  refine K p e s m args below meth c H1 _ ls X hl (hR.put (hR.2.2 a _ h1).1 ?_ z oq) (hS.put z oq (hR.2.2 a _ h1).1)
  show H1[a]? = some (vp_cell _ _)
  rw [e1]
  rw [vp_cell_q, vp_cell_q, arrV_store]
  congr 2
  funext q
  by_cases hq : q = i.toNatClampNeg
  · subst hq
    simp [updV, va_up, va_rf]
  · simp [updV, va_up, hq]
end XMEM
