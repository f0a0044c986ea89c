-- CODES
def en (p : Nat → Nat) : Nat → Nat
  | 0 => 0
  | i + 1 => en p i * 10 + p i + 1
theorem cdN_en (t b : Nat → Nat) (n : Nat) : ∀ i, cdN t b n i = en (fun j => pl t (b j) n) i
  | 0 => rfl
  | i + 1 => by simp only [cdN, en, cdN_en t b n i]
theorem en_cg {p p' : Nat → Nat} : ∀ {i : Nat}, (∀ j, j < i → p j = p' j) → en p i = en p' i
  | 0, _ => rfl
  | i + 1, h => by simp only [en]; rw [en_cg (fun j hj => h j (by omega)), h i (by omega)]
theorem en_lt {p : Nat → Nat} : ∀ {i : Nat}, (∀ j, j < i → p j < 9) → en p i < 10 ^ i
  | 0, _ => by simp [en]
  | i + 1, h => by
    have h1 := en_lt (i := i) (fun j hj => h j (by omega))
    have h2 := h i (by omega)
    simp only [en, Nat.pow_succ]
    omega
theorem en_b {p : Nat → Nat} {n i : Nat} (h : PM n p) (hn : n ≤ 5) (hi : i ≤ n) : en p i < 100000 := by
  have h1 := en_lt (p := p) (i := i) (fun j hj => by have := h.1 j (by omega); omega)
  have h2 : 10 ^ i ≤ 10 ^ 5 := Nat.pow_le_pow_right (by decide) (by omega)
  omega
/-- C is the code of p -/
def okD (n C : Nat) : Prop := (∀ j, j < n → 1 ≤ C / 10 ^ j % 10 ∧ C / 10 ^ j % 10 ≤ n) ∧ C / 10 ^ n = 0 ∧ ∀ i j, i < j → j < n → C / 10 ^ i % 10 ≠ C / 10 ^ j % 10
theorem okD_en {n : Nat} {p : Nat → Nat} (h2 : 2 ≤ n) (h5 : n ≤ 5) (h : PM n p) : okD n (en p n) ∧ ∀ j, j < n → en p n / 10 ^ j % 10 = p (n - 1 - j) + 1 := by
  have hb : ∀ j, j < n → p j < 5 := fun j hj => by have := h.1 j hj; omega
  have key : ∀ j, j < n → en p n / 10 ^ j % 10 = p (n - 1 - j) + 1 := by
    intro j hj
    rcases (show n = 2 ∨ n = 3 ∨ n = 4 ∨ n = 5 by omega) with rfl | rfl | rfl | rfl
    · have b0 := hb 0 (by omega); have b1 := hb 1 (by omega)
      rcases (show j = 0 ∨ j = 1 by omega) with rfl | rfl <;> simp only [en] <;> simp <;> omega
    · have b0 := hb 0 (by omega); have b1 := hb 1 (by omega); have b2 := hb 2 (by omega)
      rcases (show j = 0 ∨ j = 1 ∨ j = 2 by omega) with rfl | rfl | rfl <;> simp only [en] <;> simp <;> omega
    · have b0 := hb 0 (by omega); have b1 := hb 1 (by omega); have b2 := hb 2 (by omega); have b3 := hb 3 (by omega)
      rcases (show j = 0 ∨ j = 1 ∨ j = 2 ∨ j = 3 by omega) with rfl | rfl | rfl | rfl <;> simp only [en] <;> simp <;> omega
    · have b0 := hb 0 (by omega); have b1 := hb 1 (by omega); have b2 := hb 2 (by omega); have b3 := hb 3 (by omega); have b4 := hb 4 (by omega)
      rcases (show j = 0 ∨ j = 1 ∨ j = 2 ∨ j = 3 ∨ j = 4 by omega) with rfl | rfl | rfl | rfl | rfl <;> simp only [en] <;> simp <;> omega
  refine ⟨⟨fun j hj => ?_, ?_, fun i j hij hj => ?_⟩, key⟩
  · rw [key j hj]
    have := h.1 (n - 1 - j) (by omega)
    omega
  · exact Nat.div_eq_of_lt (en_lt (fun j hj => by have := hb j hj; omega))
  · rw [key i (by omega), key j hj]
    have := h.2 (n - 1 - j) (n - 1 - i) (by omega) (by omega)
    omega
theorem okD_ex {n C : Nat} (h2 : 2 ≤ n) (h5 : n ≤ 5) (h : okD n C) : ∃ p, PM n p ∧ C = en p n ∧ ∀ j, j < n → C / 10 ^ j % 10 = p (n - 1 - j) + 1 := by
  obtain ⟨h1, h3, h4⟩ := h
  refine ⟨fun k => C / 10 ^ (n - 1 - k) % 10 - 1, ⟨fun k hk => ?_, fun i j hij hj e => ?_⟩, ?_, fun j hj => ?_⟩
  · have := h1 (n - 1 - k) (by omega)
    dsimp only
    omega
  · dsimp only at e
    have a1 := h1 (n - 1 - i) (by omega)
    have a2 := h1 (n - 1 - j) (by omega)
    exact h4 (n - 1 - j) (n - 1 - i) (by omega) (by omega) (by omega)
  · rcases (show n = 2 ∨ n = 3 ∨ n = 4 ∨ n = 5 by omega) with rfl | rfl | rfl | rfl
    · have b0 := h1 0 (by omega); have b1 := h1 1 (by omega)
      simp only [en]; simp at *; omega
    · have b0 := h1 0 (by omega); have b1 := h1 1 (by omega); have b2 := h1 2 (by omega)
      simp only [en]; simp at *; omega
    · have b0 := h1 0 (by omega); have b1 := h1 1 (by omega); have b2 := h1 2 (by omega); have b3 := h1 3 (by omega)
      simp only [en]; simp at *; omega
    · have b0 := h1 0 (by omega); have b1 := h1 1 (by omega); have b2 := h1 2 (by omega); have b3 := h1 3 (by omega); have b4 := h1 4 (by omega)
      simp only [en]; simp at *; omega
  · dsimp only
    rw [show n - 1 - (n - 1 - j) = j by omega]
    have := h1 j hj
    omega
/-- masks -/
def msk (g : Nat → Nat) : Nat → Nat
  | 0 => 0
  | i + 1 => msk g i ||| 2 ^ (g i)
theorem msk_lt {g : Nat → Nat} : ∀ {i : Nat}, (∀ j, j < i → g j ≤ 5) → msk g i < 64
  | 0, _ => by simp [msk]
  | i + 1, h => by
    have h1 := msk_lt (i := i) (fun j hj => h j (by omega))
    have h2 : 2 ^ (g i) < 2 ^ 6 := Nat.pow_lt_pow_right (by decide) (by have := h i (by omega); omega)
    exact Nat.or_lt_two_pow (n := 6) h1 h2
theorem n2 : ∀ a, a < 2 → ∀ b, b < 2 → (((0 ||| 2 ^ a) ||| 2 ^ b = 3) ↔ a ≠ b) := by decide +kernel
theorem n3 : ∀ a, a < 3 → ∀ b, b < 3 → ∀ c, c < 3 → ((((0 ||| 2 ^ a) ||| 2 ^ b) ||| 2 ^ c = 7) ↔ (a ≠ b ∧ a ≠ c ∧ b ≠ c)) := by decide +kernel
theorem ra {n : Nat} {f : Nat → Bool} (h : (List.range n).all f = true) {a : Nat} (ha : a < n) : f a = true := List.all_eq_true.mp h a (List.mem_range.mpr ha)
theorem n4b : ((List.range 4).all fun a => (List.range 4).all fun b => (List.range 4).all fun c => (List.range 4).all fun d => decide (((((0 ||| 2 ^ a) ||| 2 ^ b) ||| 2 ^ c) ||| 2 ^ d = 15) ↔ (a ≠ b ∧ a ≠ c ∧ b ≠ c ∧ a ≠ d ∧ b ≠ d ∧ c ≠ d))) = true := by decide +kernel
theorem n4 {a b c d : Nat} (ha : a < 4) (hb : b < 4) (hc : c < 4) (hd : d < 4) : (((((0 ||| 2 ^ a) ||| 2 ^ b) ||| 2 ^ c) ||| 2 ^ d = 15) ↔ (a ≠ b ∧ a ≠ c ∧ b ≠ c ∧ a ≠ d ∧ b ≠ d ∧ c ≠ d)) := of_decide_eq_true (ra (ra (ra (ra n4b ha) hb) hc) hd)
theorem n5b : ((List.range 5).all fun a => (List.range 5).all fun b => (List.range 5).all fun c => (List.range 5).all fun d => (List.range 5).all fun e => decide ((((((0 ||| 2 ^ a) ||| 2 ^ b) ||| 2 ^ c) ||| 2 ^ d) ||| 2 ^ e = 31) ↔ (a ≠ b ∧ a ≠ c ∧ b ≠ c ∧ a ≠ d ∧ b ≠ d ∧ c ≠ d ∧ a ≠ e ∧ b ≠ e ∧ c ≠ e ∧ d ≠ e))) = true := by decide +kernel
theorem n5 {a b c d e : Nat} (ha : a < 5) (hb : b < 5) (hc : c < 5) (hd : d < 5) (he : e < 5) : ((((((0 ||| 2 ^ a) ||| 2 ^ b) ||| 2 ^ c) ||| 2 ^ d) ||| 2 ^ e = 31) ↔ (a ≠ b ∧ a ≠ c ∧ b ≠ c ∧ a ≠ d ∧ b ≠ d ∧ c ≠ d ∧ a ≠ e ∧ b ≠ e ∧ c ≠ e ∧ d ≠ e)) := of_decide_eq_true (ra (ra (ra (ra (ra n5b ha) hb) hc) hd) he)
theorem dis2 {g : Nat → Nat} : (∀ i j, i < j → j < 2 → g i ≠ g j) ↔ g 0 ≠ g 1 := by
  refine ⟨fun h => h 0 1 (by omega) (by omega), fun h i j hij hj => ?_⟩
  rcases (show i = 0 ∧ j = 1 by omega) with ⟨rfl, rfl⟩; exact h
theorem dis3 {g : Nat → Nat} : (∀ i j, i < j → j < 3 → g i ≠ g j) ↔ (g 0 ≠ g 1 ∧ g 0 ≠ g 2 ∧ g 1 ≠ g 2) := by
  refine ⟨fun h => ⟨h 0 1 (by omega) (by omega), h 0 2 (by omega) (by omega), h 1 2 (by omega) (by omega)⟩, fun h i j hij hj => ?_⟩
  rcases (show (i = 0 ∧ j = 1) ∨ (i = 0 ∧ j = 2) ∨ (i = 1 ∧ j = 2) by omega) with ⟨rfl, rfl⟩ | ⟨rfl, rfl⟩ | ⟨rfl, rfl⟩
  · exact h.1
  · exact h.2.1
  · exact h.2.2
theorem dis4 {g : Nat → Nat} : (∀ i j, i < j → j < 4 → g i ≠ g j) ↔ (g 0 ≠ g 1 ∧ g 0 ≠ g 2 ∧ g 1 ≠ g 2 ∧ g 0 ≠ g 3 ∧ g 1 ≠ g 3 ∧ g 2 ≠ g 3) := by
  refine ⟨fun h => ⟨h 0 1 (by omega) (by omega), h 0 2 (by omega) (by omega), h 1 2 (by omega) (by omega), h 0 3 (by omega) (by omega), h 1 3 (by omega) (by omega), h 2 3 (by omega) (by omega)⟩, fun h i j hij hj => ?_⟩
  rcases (show (i = 0 ∧ j = 1) ∨ (i = 0 ∧ j = 2) ∨ (i = 1 ∧ j = 2) ∨ (i = 0 ∧ j = 3) ∨ (i = 1 ∧ j = 3) ∨ (i = 2 ∧ j = 3) by omega) with ⟨rfl, rfl⟩ | ⟨rfl, rfl⟩ | ⟨rfl, rfl⟩ | ⟨rfl, rfl⟩ | ⟨rfl, rfl⟩ | ⟨rfl, rfl⟩ <;> simp_all
theorem dis5 {g : Nat → Nat} : (∀ i j, i < j → j < 5 → g i ≠ g j) ↔ (g 0 ≠ g 1 ∧ g 0 ≠ g 2 ∧ g 1 ≠ g 2 ∧ g 0 ≠ g 3 ∧ g 1 ≠ g 3 ∧ g 2 ≠ g 3 ∧ g 0 ≠ g 4 ∧ g 1 ≠ g 4 ∧ g 2 ≠ g 4 ∧ g 3 ≠ g 4) := by
  refine ⟨fun h => ⟨h 0 1 (by omega) (by omega), h 0 2 (by omega) (by omega), h 1 2 (by omega) (by omega), h 0 3 (by omega) (by omega), h 1 3 (by omega) (by omega), h 2 3 (by omega) (by omega), h 0 4 (by omega) (by omega), h 1 4 (by omega) (by omega), h 2 4 (by omega) (by omega), h 3 4 (by omega) (by omega)⟩, fun h i j hij hj => ?_⟩
  rcases (show (i = 0 ∧ j = 1) ∨ (i = 0 ∧ j = 2) ∨ (i = 1 ∧ j = 2) ∨ (i = 0 ∧ j = 3) ∨ (i = 1 ∧ j = 3) ∨ (i = 2 ∧ j = 3) ∨ (i = 0 ∧ j = 4) ∨ (i = 1 ∧ j = 4) ∨ (i = 2 ∧ j = 4) ∨ (i = 3 ∧ j = 4) by omega) with ⟨rfl, rfl⟩ | ⟨rfl, rfl⟩ | ⟨rfl, rfl⟩ | ⟨rfl, rfl⟩ | ⟨rfl, rfl⟩ | ⟨rfl, rfl⟩ | ⟨rfl, rfl⟩ | ⟨rfl, rfl⟩ | ⟨rfl, rfl⟩ | ⟨rfl, rfl⟩ <;> simp_all
theorem msk_full0 {n : Nat} {g : Nat → Nat} (h2 : 2 ≤ n) (h5 : n ≤ 5) (hg : ∀ j, j < n → g j < n) : msk g n = 2 ^ n - 1 ↔ ∀ i j, i < j → j < n → g i ≠ g j := by
  rcases (show n = 2 ∨ n = 3 ∨ n = 4 ∨ n = 5 by omega) with rfl | rfl | rfl | rfl
  · rw [dis2]; exact n2 _ (hg 0 (by omega)) _ (hg 1 (by omega))
  · rw [dis3]; exact n3 _ (hg 0 (by omega)) _ (hg 1 (by omega)) _ (hg 2 (by omega))
  · rw [dis4]; exact n4 (hg 0 (by omega)) (hg 1 (by omega)) (hg 2 (by omega)) (hg 3 (by omega))
  · rw [dis5]; exact n5 (hg 0 (by omega)) (hg 1 (by omega)) (hg 2 (by omega)) (hg 3 (by omega)) (hg 4 (by omega))
theorem or2 (a b : Nat) : 2 * a ||| 2 * b = 2 * (a ||| b) := by
  have h : (a ||| b) <<< 1 = a <<< 1 ||| b <<< 1 := Nat.shiftLeft_or_distrib
  simp only [Nat.shiftLeft_eq, Nat.pow_one] at h
  rw [Nat.mul_comm 2 a, Nat.mul_comm 2 b, Nat.mul_comm 2 (a ||| b), h]
theorem msk_dbl {g : Nat → Nat} : ∀ {i : Nat}, (∀ j, j < i → 1 ≤ g j) → msk g i = 2 * msk (fun j => g j - 1) i
  | 0, _ => rfl
  | i + 1, h => by
    have h1 := h i (by omega)
    simp only [msk]
    rw [msk_dbl (fun j hj => h j (by omega)), ← or2, ← Nat.pow_succ']
    congr 2
    omega
theorem msk_full {n : Nat} {g : Nat → Nat} (h2 : 2 ≤ n) (h5 : n ≤ 5) (hg : ∀ j, j < n → 1 ≤ g j ∧ g j ≤ n) : msk g n = 2 ^ (n + 1) - 2 ↔ ∀ i j, i < j → j < n → g i ≠ g j := by
  have h1 := msk_full0 (g := fun j => g j - 1) h2 h5 (fun j hj => by have := hg j hj; omega)
  rw [msk_dbl (fun j hj => (hg j hj).1), Nat.pow_succ]
  have h3 : (2 * msk (fun j => g j - 1) n = 2 ^ n * 2 - 2) ↔ (msk (fun j => g j - 1) n = 2 ^ n - 1) := by
    have : 1 ≤ 2 ^ n := Nat.one_le_two_pow
    omega
  rw [h3, h1]
  constructor
  · intro h i j hij hj e
    exact h i j hij hj (by rw [e])
  · intro h i j hij hj e
    have a1 := hg i (by omega)
    have a2 := hg j hj
    exact h i j hij hj (by omega)
theorem shl1 {x : Nat} (h : x ≤ 6) : (1 : Int32) <<< (nI x &&& 31) = nI (2 ^ x) := by
  rcases (show x = 0 ∨ x = 1 ∨ x = 2 ∨ x = 3 ∨ x = 4 ∨ x = 5 ∨ x = 6 by omega) with rfl | rfl | rfl | rfl | rfl | rfl | rfl <;> decide
theorem tdiv10 (z : Int) : (0 ≤ z → z.tdiv 10 = z / 10) ∧ (z ≤ 0 → z.tdiv 10 = -((-z) / 10)) := by
  refine ⟨fun h => Int.tdiv_eq_ediv_of_nonneg h, fun h => ?_⟩
  have e : z.tdiv 10 = -((-z).tdiv 10) := by rw [Int.neg_tdiv, Int.neg_neg]
  rw [e, Int.tdiv_eq_ediv_of_nonneg (by omega)]
theorem rem10_neg {c : Int32} (h : c ≤ 0) : c - c / 10 * 10 < 1 := by
  have hr := fb_rng c
  have hz : c.toInt ≤ 0 := by simpa using Int32.le_iff_toInt_le.mp h
  have ht := (tdiv10 c.toInt).2 hz
  have h1 : (c / 10).toInt = -((-c.toInt) / 10) := by
    rw [Int32.toInt_div, show ((10 : Int32).toInt) = 10 from rfl, ht]
    refine fb_bmod ?_ ?_ <;> omega
  have h2 : (c / 10 * 10).toInt = -((-c.toInt) / 10) * 10 := by
    rw [fb_mulI]
    · rw [h1]; rfl
    · rw [h1, show ((10 : Int32).toInt) = 10 from rfl]; omega
    · rw [h1, show ((10 : Int32).toInt) = 10 from rfl]; omega
  rw [Int32.lt_iff_toInt_lt, fb_subI, h2, show ((1 : Int32).toInt) = 1 from rfl]
  · omega
  · rw [h2]; omega
  · rw [h2]; omega
theorem rem10_N {C : Nat} (h : C < 2147483648) : nI C - nI C / 10 * 10 = nI (C % 10) := pk_rem (d := 10) (by omega) (by decide) (by decide)
theorem div10_N {C : Nat} (h : C < 2147483648) : nI C / 10 = nI (C / 10) := pk_div (d := 10) (by omega) (by decide) (by decide)
theorem pos_N {c : Int32} (h : ¬ c ≤ 0) : ∃ C : Nat, 0 < C ∧ C < 2147483648 ∧ c = nI C := by
  obtain ⟨C, h1, h2⟩ := nI_of (x := c) (fun q => h (Int32.le_of_lt q))
  refine ⟨C, ?_, by omega, h2⟩
  rcases Nat.eq_zero_or_pos C with q | q
  · subst q; exact absurd (by rw [h2]; decide) h
  · exact q
theorem full32 {n : Nat} (h2 : 2 ≤ n) (h5 : n ≤ 5) : ((1 : Int32) <<< ((nI n + 1) &&& 31)) - 2 = nI (2 ^ (n + 1) - 2) := by
  rcases (show n = 2 ∨ n = 3 ∨ n = 4 ∨ n = 5 by omega) with rfl | rfl | rfl | rfl <;> decide
theorem isCode_pos {F n C : Nat} {M : XM} (h2 : 2 ≤ n) (h5 : n ≤ 5) (hC : C < 2147483648) (hF : 10 ≤ F) : Ok (f_X3_isCode F (nI C) (nI n) M) (fun r => (r = 1 ∧ okD n C) ∨ (r = 0 ∧ ¬ okD n C)) := by
  unfold f_X3_isCode
  refine ok_loop (I := fun i q => q = (nI (C / 10 ^ i), nI (msk (fun j => C / 10 ^ j % 10) i), nI i) ∧ ∀ j, j < i → 1 ≤ C / 10 ^ j % 10 ∧ C / 10 ^ j % 10 ≤ n) n ?_ ?_ n 0 F _ (by omega) (by omega) ⟨?_, fun j hj => absurd hj (Nat.not_lt_zero j)⟩
  · rintro k i q hi ⟨rfl, hg⟩ hk
    have hCi : C / 10 ^ i < 2147483648 := Nat.lt_of_le_of_lt (Nat.div_le_self _ _) hC
    unfold b_X3_isCode_7
    dsimp only
    refine ok_f (nI_ge hi (by omega)) ?_
    rw [rem10_N hCi, div10_N hCi]
    by_cases c1 : C / 10 ^ i % 10 < 1
    · refine ok_t (nI_lt (b := 1) c1 (by omega)) ?_
      exact ok_v (Or.inr ⟨rfl, fun h => by have := h.1 i hi; omega⟩)
    · refine ok_f (nI_nlt (b := 1) (by omega) (by omega)) ?_
      by_cases c2 : C / 10 ^ i % 10 ≤ n
      · refine ok_t (nI_le c2 (by omega)) ?_
        refine hk _ ⟨?_, fun j hj => ?_⟩
        · rw [shl1 (by omega), fa_or, e1, Nat.div_div_eq_div_mul, ← Nat.pow_succ]; rfl
        · rcases Nat.lt_or_ge j i with q | q
          · exact hg j q
          · rw [show j = i by omega]; omega
      · refine ok_f (nI_ge (by omega) (by omega)) ?_
        exact ok_v (Or.inr ⟨rfl, fun h => by have := h.1 i hi; omega⟩)
  · rintro k q ⟨rfl, hg⟩
    have hCi : C / 10 ^ n < 2147483648 := Nat.lt_of_le_of_lt (Nat.div_le_self _ _) hC
    have hm : msk (fun j => C / 10 ^ j % 10) n < 64 := msk_lt (fun j hj => by have := hg j hj; omega)
    unfold b_X3_isCode_7
    dsimp only
    refine ok_t (nI_le (Nat.le_refl n) (by omega)) ?_
    by_cases c1 : C / 10 ^ n = 0
    · refine ok_t (by rw [c1]; rfl) ?_
      rw [full32 h2 h5]
      have hp : 2 ^ (n + 1) - 2 < 2147483648 := by
        have : 2 ^ (n + 1) ≤ 2 ^ 6 := Nat.pow_le_pow_right (by decide) (by omega)
        omega
      by_cases c2 : msk (fun j => C / 10 ^ j % 10) n = 2 ^ (n + 1) - 2
      · refine ok_t (by rw [c2]) ?_
        exact ok_v (Or.inl ⟨rfl, hg, c1, (msk_full h2 h5 hg).mp c2⟩)
      · refine ok_f (fun e => c2 (nI_inj (by omega) hp e)) ?_
        exact ok_v (Or.inr ⟨rfl, fun h => c2 ((msk_full h2 h5 hg).mpr h.2.2)⟩)
    · refine ok_f (fun e => c1 (nI_inj (b := 0) hCi (by decide) e)) ?_
      exact ok_v (Or.inr ⟨rfl, fun h => c1 h.2.1⟩)
  · simp [msk]; rfl
theorem isCode_neg {F n : Nat} {M : XM} {c : Int32} (h2 : 2 ≤ n) (h5 : n ≤ 5) (hc : c ≤ 0) (hF : 10 ≤ F) : f_X3_isCode F c (nI n) M = some 0 := by
  obtain ⟨G, rfl⟩ : ∃ G, F = G + 1 := ⟨F - 1, by omega⟩
  unfold f_X3_isCode
  show b_X3_isCode_7 _ _ _ _ _ = _
  unfold b_X3_isCode_7
  exact cf (nI_ge (a := 0) (by omega) (by omega)) (ct (rem10_neg hc) rfl)
/-- a code of n letters -/
def isC (n : Nat) (c : Int32) : Prop := ∃ p, PM n p ∧ c = nI (en p n)
theorem isC_pos {n C : Nat} (h2 : 2 ≤ n) (h5 : n ≤ 5) (hC : C < 2147483648) : isC n (nI C) ↔ okD n C := by
  constructor
  · rintro ⟨p, hp, e⟩
    have := nI_inj hC (by have := en_b hp h5 (Nat.le_refl n); omega) e
    rw [this]; exact (okD_en h2 h5 hp).1
  · intro h
    obtain ⟨p, hp, e, -⟩ := okD_ex h2 h5 h
    exact ⟨p, hp, by rw [e]⟩
theorem isC_neg {n : Nat} {c : Int32} (h2 : 2 ≤ n) (h5 : n ≤ 5) (hc : c ≤ 0) : ¬ isC n c := by
  rintro ⟨p, hp, e⟩
  have h1 := en_b hp h5 (Nat.le_refl n)
  have h3 : 0 < en p n := by
    obtain ⟨m, rfl⟩ : ∃ m, n = m + 1 := ⟨n - 1, by omega⟩
    simp only [en]; omega
  rw [e] at hc
  exact nI_nle h3 (by omega) hc
theorem isCode_ok {F n : Nat} {M : XM} (c : Int32) (h2 : 2 ≤ n) (h5 : n ≤ 5) (hF : 10 ≤ F) : (isC n c ∧ f_X3_isCode F c (nI n) M = some 1) ∨ (¬ isC n c ∧ f_X3_isCode F c (nI n) M = some 0) := by
  by_cases hc : c ≤ 0
  · exact Or.inr ⟨isC_neg h2 h5 hc, isCode_neg h2 h5 hc hF⟩
  · obtain ⟨C, h0, hC, rfl⟩ := pos_N hc
    obtain ⟨r, h1, h3⟩ := isCode_pos (F := F) (M := M) h2 h5 hC hF
    rcases h3 with ⟨rfl, h3⟩ | ⟨rfl, h3⟩
    · exact Or.inl ⟨(isC_pos h2 h5 hC).mpr h3, h1⟩
    · exact Or.inr ⟨fun h => h3 ((isC_pos h2 h5 hC).mp h), h1⟩
theorem en_rem {p : Nat → Nat} {i : Nat} (h : p i < 9) : en p (i + 1) % 10 = p i + 1 := by simp only [en]; omega
theorem en_div {p : Nat → Nat} {i : Nat} (h : p i < 9) : en p (i + 1) / 10 = en p i := by simp only [en]; omega
theorem layCode_ok {M : XM} {F r n : Nat} {t b l p : Nat → Nat} (h : RW M r n t b l) (h2 : 2 ≤ n) (h5 : n ≤ 5) (hp : PM n p) (hF : 10 ≤ F) :
    Ok (f_X3_layCode F r (nI (en p n)) M) (fun M' => RW M' r n (ovF n (fun k => k) t) (ovF n p b) l ∧ ∀ q, q ≠ r + 1 → q ≠ r + 2 → M' q = M q) := by
  unfold f_X3_layCode
  refine ok_b (gI_of h.1 rfl) ?_
  refine ok_loop (I := fun d q => q.1 = nI (en p (n - d)) ∧ q.2.1 = nI (n - d) - 1 ∧ RW q.2.2 r n (fun k => if n - d ≤ k ∧ k < n then k else t k) (fun k => if n - d ≤ k ∧ k < n then p k else b k) l ∧ ∀ z, z ≠ r + 1 → z ≠ r + 2 → q.2.2 z = M z) n ?_ ?_ n 0 F _ (by omega) (by omega) ⟨rfl, rfl, h.cg (fun k hk => ?_) (fun k hk => ?_) (fun k hk => rfl), fun _ _ _ => rfl⟩
  · rintro k d ⟨q1, q2, q3⟩ hd ⟨rfl, h1, g, fr⟩ hk
    dsimp only at h1 g fr
    have hm : n - d = (n - d - 1) + 1 := by omega
    rw [e_pred (by omega)] at h1
    subst h1
    have pb := hp.1 (n - d - 1) (by omega)
    have eb := en_b hp h5 (show n - d ≤ n by omega)
    unfold b_X3_layCode_9
    dsimp only
    refine ok_f (nI_pos (by omega)) ?_
    refine ok_b (gR_of g.1 rfl) ?_
    refine ok_m (g.2.1.wr (n - d - 1) (n - d - 1) rfl rfl (by omega) (by decide)) (fun M1 hM1 => ?_)
    have o1 : M1 r = _ := (hM1.2 r (by omega)).trans g.1
    have b1 : IA M1 (r + 2) 5 _ := g.2.2.1.fr (hM1.2 _ (by omega))
    refine ok_b (gR_of o1 rfl) ?_
    have ev : nI (en p (n - d)) - nI (en p (n - d)) / 10 * 10 - 1 = nI (p (n - d - 1)) := by
      rw [rem10_N (by omega), hm, en_rem (by omega)]
      exact nI_pred _
    refine ok_m (b1.wr (n - d - 1) (p (n - d - 1)) rfl ev (by omega) (by decide)) (fun M2 hM2 => ?_)
    refine hk _ ⟨?_, ?_, ⟨(hM2.2 r (by omega)).trans o1, (hM1.1.cg (fun k hk => ?_)).fr (hM2.2 _ (by omega)), hM2.1.cg (fun k hk => ?_), (g.2.2.2.fr (hM1.2 _ (by omega))).fr (hM2.2 _ (by omega))⟩, fun z hz hz2 => (hM2.2 z hz2).trans ((hM1.2 z hz).trans (fr z hz hz2))⟩
    · show nI (en p (n - d)) / 10 = nI (en p (n - (d + 1)))
      rw [div10_N (by omega), hm, en_div (by omega)]
      congr 2
    · show nI (n - d - 1) + (-1) = nI (n - (d + 1)) - 1
      rw [show n - (d + 1) = n - d - 1 by omega]
      rcases Nat.eq_zero_or_pos (n - d - 1) with q | q
      · rw [q]; decide
      · rw [e_m1 q, e_pred q]
    · simp only [upN]
      by_cases c1 : k = n - d - 1
      · rw [if_pos c1, if_pos (show n - (d + 1) ≤ k ∧ k < n by omega), c1]
      · rw [if_neg c1]
        by_cases c2 : n - d ≤ k ∧ k < n
        · rw [if_pos c2, if_pos (show n - (d + 1) ≤ k ∧ k < n by omega)]
        · rw [if_neg c2, if_neg (show ¬ (n - (d + 1) ≤ k ∧ k < n) by omega)]
    · simp only [upN]
      by_cases c1 : k = n - d - 1
      · rw [if_pos c1, if_pos (show n - (d + 1) ≤ k ∧ k < n by omega), c1]
      · rw [if_neg c1]
        by_cases c2 : n - d ≤ k ∧ k < n
        · rw [if_pos c2, if_pos (show n - (d + 1) ≤ k ∧ k < n by omega)]
        · rw [if_neg c2, if_neg (show ¬ (n - (d + 1) ≤ k ∧ k < n) by omega)]
  · rintro k ⟨q1, q2, q3⟩ ⟨rfl, h1, g, fr⟩
    dsimp only at h1 g fr
    rw [show n - n = 0 by omega] at h1 g
    subst h1
    unfold b_X3_layCode_9
    dsimp only
    refine ok_t (by decide) ?_
    refine ok_v ⟨g.cg (fun k hk => ?_) (fun k hk => ?_) (fun k hk => rfl), fr⟩ <;>
    · simp only [ovF]
      by_cases c : k < n
      · rw [if_pos c, if_pos (show 0 ≤ k ∧ k < n by omega)]
      · rw [if_neg c, if_neg (show ¬ (0 ≤ k ∧ k < n) by omega)]
  · rw [if_neg (show ¬ (n - 0 ≤ k ∧ k < n) by omega)]
  · rw [if_neg (show ¬ (n - 0 ≤ k ∧ k < n) by omega)]
