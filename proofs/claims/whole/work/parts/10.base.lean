-- A COMPUTATION THAT MAY FAIL comes to an answer with P
def Ok {α : Type} (x : Option α) (P : α → Prop) : Prop := ∃ r, x = some r ∧ P r
theorem ok_v {α : Type} {v : α} {P : α → Prop} (h : P v) : Ok (some v) P := ⟨v, rfl, h⟩
theorem ok_b {α β : Type} {x : Option α} {f : α → Option β} {P : β → Prop} {v : α} (h : x = some v) (h2 : Ok (f v) P) : Ok (x.bind f) P := by rw [h]; exact h2
theorem ok_m {α β : Type} {x : Option α} {f : α → Option β} {P : α → Prop} {Q : β → Prop} (h : Ok x P) (h2 : ∀ v, P v → Ok (f v) Q) : Ok (x.bind f) Q := by
  obtain ⟨v, h1, h3⟩ := h
  rw [h1]; exact h2 v h3
theorem ok_t {α : Type} {c : Prop} [Decidable c] {a b : Option α} {P : α → Prop} (h : c) (h2 : Ok a P) : Ok (if c then a else b) P := by rw [if_pos h]; exact h2
theorem ok_f {α : Type} {c : Prop} [Decidable c] {a b : Option α} {P : α → Prop} (h : ¬ c) (h2 : Ok b P) : Ok (if c then a else b) P := by rw [if_neg h]; exact h2
theorem ok_w {α : Type} {x : Option α} {P Q : α → Prop} (h : Ok x P) (h2 : ∀ v, P v → Q v) : Ok x Q := by
  obtain ⟨v, h1, h3⟩ := h
  exact ⟨v, h1, h2 v h3⟩
theorem ok_e {α : Type} {x : Option α} {v : α} (h : Ok x (fun r => r = v)) : x = some v := by
  obtain ⟨r, h1, rfl⟩ := h
  exact h1
theorem ok_q {α : Type} {x : Option α} {v : α} (h : x = some v) : Ok x (fun r => r = v) := ⟨v, h, rfl⟩
theorem ok_loop {α β : Type} {b : (α → Option β) → α → Option β} {Q : β → Prop} (I : Nat → α → Prop) (j : Nat)
    (hs : ∀ (k : α → Option β) (i : Nat) (a : α), i < j → I i a → (∀ a', I (i + 1) a' → Ok (k a') Q) → Ok (b k a) Q) (he : ∀ (k : α → Option β) (a : α), I j a → Ok (b k a) Q) : ∀ (d i F : Nat) (a : α), i + d = j → d < F → I i a → Ok (x_it b F a) Q := by
  intro d
  induction d with
  | zero =>
    intro i F a h1 h2 h3
    obtain ⟨G, rfl⟩ : ∃ G, F = G + 1 := ⟨F - 1, by omega⟩
    have : i = j := by omega
    subst this
    exact he _ a h3
  | succ d ih =>
    intro i F a h1 h2 h3
    obtain ⟨G, rfl⟩ : ∃ G, F = G + 1 := ⟨F - 1, by omega⟩
    exact hs (x_it b G) i a (by omega) h3 (fun a' h' => ih (i + 1) G a' (by omega) (by omega) h')
-- NUMBERS
theorem nIc {n : Nat} (h : n < 2147483648) : (nI n).toNatClampNeg = n := nI_clamp (by omega)
theorem nI_inj {a b : Nat} (ha : a < 2147483648) (hb : b < 2147483648) (h : nI a = nI b) : a = b := (nI_eq (by omega) (by omega)).mp h
theorem x_in_nI {i n : Nat} (h : i < n) (hn : n < 2147483648) : x_in (nI i) n = true := by
  have h1 := nI_pos (n := i) (by omega)
  simp only [x_in, nIc (show i < 2147483648 by omega), Bool.and_eq_true, Bool.not_eq_true', decide_eq_false_iff_not, decide_eq_true_eq]
  exact ⟨h1, h⟩
-- FRAMES
def Fr (M M' : XM) (lo hi : Nat) : Prop := ∀ q, (q < lo ∨ hi ≤ q) → M' q = M q
theorem Fr.rf {M : XM} {lo hi : Nat} : Fr M M lo hi := fun _ _ => rfl
theorem Fr.tr {M M1 M2 : XM} {lo hi : Nat} (h1 : Fr M M1 lo hi) (h2 : Fr M1 M2 lo hi) : Fr M M2 lo hi := fun q h => (h2 q h).trans (h1 q h)
theorem Fr.mono {M M' : XM} {lo hi : Nat} (h : Fr M M' lo hi) (lo' hi' : Nat) (h1 : lo' ≤ lo) (h2 : hi ≤ hi') : Fr M M' lo' hi' := fun q hq => h q (by omega)
theorem Fr.up {M : XM} {a lo hi : Nat} {e : XE} (h1 : lo ≤ a) (h2 : a < hi) : Fr M (x_up M a e) lo hi := fun q h => by
  simp only [x_up]; rw [if_neg (by omega)]
theorem up_s {M : XM} {a : Nat} {e : XE} : x_up M a e a = some e := by simp [x_up]
theorem up_n {M : XM} {a b : Nat} {e : XE} (h : b ≠ a) : x_up M a e b = M b := by simp [x_up, h]
-- OBJECTS
theorem gI_of {M : XM} {a ci k : Nat} {fs : List Value} {v : Int32} (h : M a = some (.inr (ci, fs))) (hv : fs[k]? = some (.int v)) : x_gI M a ci k = some v := by
  simp only [x_gI, h, if_true, hv]
theorem gR_of {M : XM} {a ci k : Nat} {fs : List Value} {v : Nat} (h : M a = some (.inr (ci, fs))) (hv : fs[k]? = some (.ref v)) : x_gR M a ci k = some v := by
  simp only [x_gR, h, if_true, hv]
theorem ob_of {M : XM} {a ci : Nat} {fs : List Value} (h : M a = some (.inr (ci, fs))) : x_ob M a ci = some () := by
  simp only [x_ob, h, if_true]
theorem put_of {M : XM} {a ci k : Nat} {fs : List Value} {v : Value} (h : M a = some (.inr (ci, fs))) (hk : k < fs.length) : x_put M a ci k v = some (x_up M a (.inr (ci, fs.set k v))) := by
  simp only [x_put, h, if_true, if_pos hk]
-- ROWS OF INTS
def JA (M : XM) (a len : Nat) (t : Nat → Int32) : Prop := ∃ f : Nat → Int32, M a = some (.inl (.int, len, .inl f)) ∧ ∀ k, k < len → f k = t k
abbrev IA (M : XM) (a len : Nat) (t : Nat → Nat) : Prop := JA M a len (fun k => nI (t k))
def upJ (t : Nat → Int32) (i : Nat) (v : Int32) : Nat → Int32 := fun k => if k = i then v else t k
def upN (t : Nat → Nat) (i v : Nat) : Nat → Nat := fun k => if k = i then v else t k
theorem JA.cg {M : XM} {a len : Nat} {t t' : Nat → Int32} (h : JA M a len t) (h2 : ∀ k, k < len → t k = t' k) : JA M a len t' := by
  obtain ⟨f, h1, h3⟩ := h
  exact ⟨f, h1, fun k hk => (h3 k hk).trans (h2 k hk)⟩
theorem JA.fr {M M' : XM} {a len : Nat} {t : Nat → Int32} (h : JA M a len t) (h2 : M' a = M a) : JA M' a len t := by
  obtain ⟨f, h1, h3⟩ := h
  exact ⟨f, h2.trans h1, h3⟩
theorem JA.rd {M : XM} {a len : Nat} {t : Nat → Int32} (h : JA M a len t) {i : Int32} (j : Nat) (hi : i = nI j) (hj : j < len) (hl : len < 2147483648) : x_a32 .int M a i = some (t j) := by
  obtain ⟨f, h1, h3⟩ := h
  subst hi
  simp only [x_a32, h1, if_true, x_in_nI hj hl, nIc (show j < 2147483648 by omega), h3 j hj]
theorem JA.wr {M : XM} {a len : Nat} {t : Nat → Int32} (h : JA M a len t) {i : Int32} (j : Nat) (v : Int32) (hi : i = nI j) (hj : j < len) (hl : len < 2147483648) : Ok (x_w32 .int M a i v) (fun M' => JA M' a len (upJ t j v) ∧ ∀ q, q ≠ a → M' q = M q) := by
  obtain ⟨f, h1, h3⟩ := h
  subst hi
  refine ⟨x_up M a (.inl (.int, len, .inl (upd f j v))), ?_, ⟨upd f j v, up_s, fun k hk => ?_⟩, fun q hq => up_n hq⟩
  · simp only [x_w32, h1, if_true, x_in_nI hj hl, nIc (show j < 2147483648 by omega)]
  · simp only [upd, upJ]
    by_cases e : k = j
    · simp [e]
    · simp [e, h3 k hk]
theorem IA.wr {M : XM} {a len : Nat} {t : Nat → Nat} (h : IA M a len t) {i v : Int32} (j w : Nat) (hi : i = nI j) (hv : v = nI w) (hj : j < len) (hl : len < 2147483648) : Ok (x_w32 .int M a i v) (fun M' => IA M' a len (upN t j w) ∧ ∀ q, q ≠ a → M' q = M q) := by
  subst hv
  refine ok_w (JA.wr h j (nI w) hi hj hl) (fun M' h' => ⟨h'.1.cg (fun k _ => ?_), h'.2⟩)
  simp only [upJ, upN]
  by_cases e : k = j <;> simp [e]
theorem upN_s {t : Nat → Nat} {i v : Nat} : upN t i v i = v := by simp [upN]
theorem upN_n {t : Nat → Nat} {i v k : Nat} (h : k ≠ i) : upN t i v k = t k := by simp [upN, h]
-- SMALL FACTS OF Int32
theorem e1 (i : Nat) : nI i + 1 = nI (i + 1) := nI_1 i
theorem e_pred {i : Nat} (h : 0 < i) : nI i - 1 = nI (i - 1) := by
  obtain ⟨k, rfl⟩ : ∃ k, i = k + 1 := ⟨i - 1, by omega⟩
  exact nI_pred k
theorem e_m1 {i : Nat} (h : 0 < i) : nI i + (-1) = nI (i - 1) := by
  obtain ⟨k, rfl⟩ : ∃ k, i = k + 1 := ⟨i - 1, by omega⟩
  exact pk_m1 k
theorem lit (n : Nat) : (OfNat.ofNat n : Int32) = nI n := rfl
theorem bs {α β : Type} {x : Option α} {f : α → Option β} {r : Option β} {v : α} (h : x = some v) (h2 : f v = r) : x.bind f = r := by rw [h]; exact h2
theorem ct {α : Type} {c : Prop} [Decidable c] {a b r : α} (h : c) (h2 : a = r) : (if c then a else b) = r := by rw [if_pos h]; exact h2
theorem cf {α : Type} {c : Prop} [Decidable c] {a b r : α} (h : ¬ c) (h2 : b = r) : (if c then a else b) = r := by rw [if_neg h]; exact h2
