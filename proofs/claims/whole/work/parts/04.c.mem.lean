-- WHAT THE MEMORY HOLDS: reads and writes that may fail
def x_gI (M : XM) (a ci k : Nat) : Option Int32 := match M a with
  | some (.inr (c, fs)) => if c = ci then (match fs[k]? with | some (.int v) => some v | _ => none) else none
  | _ => none
def x_gR (M : XM) (a ci k : Nat) : Option Nat := match M a with
  | some (.inr (c, fs)) => if c = ci then (match fs[k]? with | some (.ref v) => some v | _ => none) else none
  | _ => none
def x_ob (M : XM) (a ci : Nat) : Option Unit := match M a with
  | some (.inr (c, _)) => if c = ci then some () else none
  | _ => none
def x_in (i : Int32) (n : Nat) : Bool := !(decide (i < 0)) && decide (i.toNatClampNeg < n)
def x_a32 (ty : FieldType) (M : XM) (a : Nat) (i : Int32) : Option Int32 := match M a with
  | some (.inl (t, n, .inl f)) => if t = ty then (if x_in i n = true then some (f i.toNatClampNeg) else none) else none
  | _ => none
def x_a64 (M : XM) (a : Nat) (i : Int32) : Option Int64 := match M a with
  | some (.inl (t, n, .inr (.inl f))) => if t = .long then (if x_in i n = true then some (f i.toNatClampNeg) else none) else none
  | _ => none
def x_aQ (ty : FieldType) (M : XM) (a : Nat) (i : Int32) : Option Nat := match M a with
  | some (.inl (t, n, .inr (.inr (.inr (.inr f))))) => if t = ty then (if x_in i n = true then f i.toNatClampNeg else none) else none
  | _ => none
def x_len (ty : FieldType) (M : XM) (a : Nat) : Option Int32 := match M a with
  | some (.inl (t, n, _)) => if t = ty then some (Int32.ofNat n) else none
  | _ => none
def x_w32 (ty : FieldType) (M : XM) (a : Nat) (i v : Int32) : Option XM := match M a with
  | some (.inl (t, n, .inl f)) => if t = ty then (if x_in i n = true then some (x_up M a (.inl (t, n, .inl (upd f i.toNatClampNeg v)))) else none) else none
  | _ => none
def x_w64 (M : XM) (a : Nat) (i : Int32) (v : Int64) : Option XM := match M a with
  | some (.inl (t, n, .inr (.inl f))) => if t = .long then (if x_in i n = true then some (x_up M a (.inl (t, n, .inr (.inl (vp_updL f i.toNatClampNeg v))))) else none) else none
  | _ => none
def x_wQ (ty : FieldType) (M : XM) (a : Nat) (i : Int32) (v : Nat) : Option XM := match M a with
  | some (.inl (t, n, .inr (.inr (.inr (.inr f))))) => if t = ty then (if x_in i n = true then some (x_up M a (.inl (t, n, .inr (.inr (.inr (.inr (va_up f i.toNatClampNeg (some v)))))))) else none) else none
  | _ => none
def x_put (M : XM) (a ci k : Nat) (v : Value) : Option XM := match M a with
  | some (.inr (c, fs)) => if c = ci then (if k < fs.length then some (x_up M a (.inr (c, fs.set k v))) else none) else none
  | _ => none
def x_01 (v : Int32) : Option Unit := if v = 0 ∨ v = 1 then some () else none
def x_n0 (v : Int32) : Option Unit := if v = 0 then none else some ()
def x_n0L (v : Int64) : Option Unit := if v = 0 then none else some ()
def x_le (a b : Nat) : Option Unit := if a ≤ b then some () else none
def x_cpI (M : XM) (a : Nat) (sp : Int32) (b : Nat) (dp n : Int32) : Option XM := match M a with
  | some (.inl (.int, n0, .inl f)) => (match M b with
    | some (.inl (.int, n1, .inl g)) => if ¬ sp < 0 ∧ ¬ dp < 0 ∧ ¬ n < 0 ∧ sp.toNatClampNeg + n.toNatClampNeg ≤ n0 ∧ dp.toNatClampNeg + n.toNatClampNeg ≤ n1 then some (x_up M b (.inl (.int, n1, .inl (va_cpy f g sp.toNatClampNeg dp.toNatClampNeg n.toNatClampNeg)))) else none
    | _ => none)
  | _ => none
def x_cpL (M : XM) (a : Nat) (sp : Int32) (b : Nat) (dp n : Int32) : Option XM := match M a with
  | some (.inl (.long, n0, .inr (.inl f))) => (match M b with
    | some (.inl (.long, n1, .inr (.inl g))) => if ¬ sp < 0 ∧ ¬ dp < 0 ∧ ¬ n < 0 ∧ sp.toNatClampNeg + n.toNatClampNeg ≤ n0 ∧ dp.toNatClampNeg + n.toNatClampNeg ≤ n1 then some (x_up M b (.inl (.long, n1, .inr (.inl (va_cpy f g sp.toNatClampNeg dp.toNatClampNeg n.toNatClampNeg))))) else none
    | _ => none)
  | _ => none
theorem x_in_vp {i : Int32} {n : Nat} (h : x_in i n = true) : vp_in i n := by
  simp only [x_in, Bool.and_eq_true, Bool.not_eq_true', decide_eq_false_iff_not, decide_eq_true_eq] at h
  rintro (h1 | h1)
  · exact h.1 h1
  · omega
theorem x_gI_sp {M : XM} {a ci k : Nat} {v : Int32} (h : x_gI M a ci k = some v) : ∃ fs : List Value, M a = some (.inr (ci, fs)) ∧ fs[k]? = some (.int v) := by
  unfold x_gI at h
  split at h
  · rename_i c fs hM
    split at h
    · rename_i hc
      subst hc
      split at h
      · rename_i w hw
        cases h
        exact ⟨fs, hM, hw⟩
      · cases h
    · cases h
  · cases h
theorem x_gR_sp {M : XM} {a ci k v : Nat} (h : x_gR M a ci k = some v) : ∃ fs : List Value, M a = some (.inr (ci, fs)) ∧ fs[k]? = some (.ref v) := by
  unfold x_gR at h
  split at h
  · rename_i c fs hM
    split at h
    · rename_i hc
      subst hc
      split at h
      · rename_i w hw
        cases h
        exact ⟨fs, hM, hw⟩
      · cases h
    · cases h
  · cases h
theorem x_ob_sp {M : XM} {a ci : Nat} {u : Unit} (h : x_ob M a ci = some u) : ∃ fs : List Value, M a = some (.inr (ci, fs)) := by
  unfold x_ob at h
  split at h
  · rename_i c fs hM
    split at h
    · rename_i hc
      subst hc
      exact ⟨fs, hM⟩
    · cases h
  · cases h
theorem x_put_sp {M M' : XM} {a ci k : Nat} {v : Value} (h : x_put M a ci k v = some M') : ∃ fs : List Value, M a = some (.inr (ci, fs)) ∧ k < fs.length ∧ M' = x_up M a (.inr (ci, fs.set k v)) := by
  unfold x_put at h
  split at h
  · rename_i c fs hM
    split at h
    · rename_i hc
      subst hc
      split at h
      · rename_i hk
        cases h
        exact ⟨fs, hM, hk, rfl⟩
      · cases h
    · cases h
  · cases h
theorem x_a32_sp {ty : FieldType} {M : XM} {a : Nat} {i v : Int32} (h : x_a32 ty M a i = some v) : ∃ (n : Nat) (f : Nat → Int32), M a = some (.inl (ty, n, .inl f)) ∧ vp_in i n ∧ v = f i.toNatClampNeg := by
  unfold x_a32 at h
  split at h
  · rename_i t n f hM
    split at h
    · rename_i hc
      subst hc
      split at h
      · rename_i hi
        cases h
        exact ⟨n, f, hM, x_in_vp hi, rfl⟩
      · cases h
    · cases h
  · cases h
theorem x_a64_sp {M : XM} {a : Nat} {i : Int32} {v : Int64} (h : x_a64 M a i = some v) : ∃ (n : Nat) (f : Nat → Int64), M a = some (.inl (.long, n, .inr (.inl f))) ∧ vp_in i n ∧ v = f i.toNatClampNeg := by
  unfold x_a64 at h
  split at h
  · rename_i t n f hM
    split at h
    · rename_i hc
      subst hc
      split at h
      · rename_i hi
        cases h
        exact ⟨n, f, hM, x_in_vp hi, rfl⟩
      · cases h
    · cases h
  · cases h
theorem x_aQ_sp {ty : FieldType} {M : XM} {a : Nat} {i : Int32} {v : Nat} (h : x_aQ ty M a i = some v) : ∃ (n : Nat) (f : Nat → Option Nat), M a = some (.inl (ty, n, .inr (.inr (.inr (.inr f))))) ∧ vp_in i n ∧ f i.toNatClampNeg = some v := by
  unfold x_aQ at h
  split at h
  · rename_i t n f hM
    split at h
    · rename_i hc
      subst hc
      split at h
      · rename_i hi
        exact ⟨n, f, hM, x_in_vp hi, h⟩
      · cases h
    · cases h
  · cases h
theorem x_len_sp {ty : FieldType} {M : XM} {a : Nat} {v : Int32} (h : x_len ty M a = some v) : ∃ q : vp_A, M a = some (.inl (ty, q)) ∧ Int32.ofNat q.1 = v := by
  unfold x_len at h
  split at h
  · rename_i t n q hM
    split at h
    · rename_i hc
      subst hc
      cases h
      exact ⟨(n, q), hM, rfl⟩
    · cases h
  · cases h
theorem x_w32_sp {ty : FieldType} {M M' : XM} {a : Nat} {i v : Int32} (h : x_w32 ty M a i v = some M') : ∃ (n : Nat) (f : Nat → Int32), M a = some (.inl (ty, n, .inl f)) ∧ vp_in i n ∧ M' = x_up M a (.inl (ty, n, .inl (upd f i.toNatClampNeg v))) := by
  unfold x_w32 at h
  split at h
  · rename_i t n f hM
    split at h
    · rename_i hc
      subst hc
      split at h
      · rename_i hi
        cases h
        exact ⟨n, f, hM, x_in_vp hi, rfl⟩
      · cases h
    · cases h
  · cases h
theorem x_w64_sp {M M' : XM} {a : Nat} {i : Int32} {v : Int64} (h : x_w64 M a i v = some M') : ∃ (n : Nat) (f : Nat → Int64), M a = some (.inl (.long, n, .inr (.inl f))) ∧ vp_in i n ∧ M' = x_up M a (.inl (.long, n, .inr (.inl (vp_updL f i.toNatClampNeg v)))) := by
  unfold x_w64 at h
  split at h
  · rename_i t n f hM
    split at h
    · rename_i hc
      subst hc
      split at h
      · rename_i hi
        cases h
        exact ⟨n, f, hM, x_in_vp hi, rfl⟩
      · cases h
    · cases h
  · cases h
theorem x_wQ_sp {ty : FieldType} {M M' : XM} {a : Nat} {i : Int32} {v : Nat} (h : x_wQ ty M a i v = some M') : ∃ (n : Nat) (f : Nat → Option Nat), M a = some (.inl (ty, n, .inr (.inr (.inr (.inr f))))) ∧ vp_in i n ∧ M' = x_up M a (.inl (ty, n, .inr (.inr (.inr (.inr (va_up f i.toNatClampNeg (some v))))))) := by
  unfold x_wQ at h
  split at h
  · rename_i t n f hM
    split at h
    · rename_i hc
      subst hc
      split at h
      · rename_i hi
        cases h
        exact ⟨n, f, hM, x_in_vp hi, rfl⟩
      · cases h
    · cases h
  · cases h
theorem x_cpI_sp {M M' : XM} {a b : Nat} {sp dp n : Int32} (h : x_cpI M a sp b dp n = some M') : ∃ (n0 n1 : Nat) (f g : Nat → Int32), M a = some (.inl (.int, n0, .inl f)) ∧ M b = some (.inl (.int, n1, .inl g)) ∧ (¬ sp < 0 ∧ ¬ dp < 0 ∧ ¬ n < 0 ∧ sp.toNatClampNeg + n.toNatClampNeg ≤ n0 ∧ dp.toNatClampNeg + n.toNatClampNeg ≤ n1) ∧ M' = x_up M b (.inl (.int, n1, .inl (va_cpy f g sp.toNatClampNeg dp.toNatClampNeg n.toNatClampNeg))) := by
  unfold x_cpI at h
  split at h
  · rename_i n0 f hM
    split at h
    · rename_i n1 g hM1
      split at h
      · rename_i hc
        cases h
        exact ⟨n0, n1, f, g, hM, hM1, hc, rfl⟩
      · cases h
    · cases h
  · cases h
theorem x_cpL_sp {M M' : XM} {a b : Nat} {sp dp n : Int32} (h : x_cpL M a sp b dp n = some M') : ∃ (n0 n1 : Nat) (f g : Nat → Int64), M a = some (.inl (.long, n0, .inr (.inl f))) ∧ M b = some (.inl (.long, n1, .inr (.inl g))) ∧ (¬ sp < 0 ∧ ¬ dp < 0 ∧ ¬ n < 0 ∧ sp.toNatClampNeg + n.toNatClampNeg ≤ n0 ∧ dp.toNatClampNeg + n.toNatClampNeg ≤ n1) ∧ M' = x_up M b (.inl (.long, n1, .inr (.inl (va_cpy f g sp.toNatClampNeg dp.toNatClampNeg n.toNatClampNeg)))) := by
  unfold x_cpL at h
  split at h
  · rename_i n0 f hM
    split at h
    · rename_i n1 g hM1
      split at h
      · rename_i hc
        cases h
        exact ⟨n0, n1, f, g, hM, hM1, hc, rfl⟩
      · cases h
    · cases h
  · cases h
theorem x_01_sp {v : Int32} {u : Unit} (h : x_01 v = some u) : v = 0 ∨ v = 1 := by
  unfold x_01 at h
  split at h
  · assumption
  · cases h
theorem x_n0_sp {v : Int32} {u : Unit} (h : x_n0 v = some u) : ¬ v = 0 := by
  unfold x_n0 at h
  split at h
  · cases h
  · assumption
theorem x_n0L_sp {v : Int64} {u : Unit} (h : x_n0L v = some u) : ¬ v = 0 := by
  unfold x_n0L at h
  split at h
  · cases h
  · assumption
theorem x_le_sp {a b : Nat} {u : Unit} (h : x_le a b = some u) : a ≤ b := by
  unfold x_le at h
  split at h
  · assumption
  · cases h
-- a loop, by fuel
def x_it {α β : Type} (b : (α → Option β) → α → Option β) : Nat → α → Option β
  | 0 => fun _ => none
  | n + 1 => b (x_it b n)
theorem x_loop {α β : Type} {b : (α → Option β) → α → Option β} {P : α → β → Prop} (hb : ∀ k : α → Option β, (∀ a r, k a = some r → P a r) → ∀ a r, b k a = some r → P a r) : ∀ (n : Nat) (a : α) (r : β), x_it b n a = some r → P a r
  | 0, _, _, h => by cases h
  | n + 1, a, r, h => hb (x_it b n) (x_loop hb n) a r h
theorem x_bd {α β : Type} {x : Option α} {f : α → Option β} {r : β} (h : x.bind f = some r) : ∃ a, x = some a ∧ f a = some r := Option.bind_eq_some_iff.mp h
