-- ROWS OF LETTERS
def PM (n : Nat) (t : Nat → Nat) : Prop := (∀ k, k < n → t k < n) ∧ ∀ i j, i < j → j < n → t i ≠ t j
theorem PM.ex {n : Nat} {t : Nat → Nat} (h : PM n t) {x : Nat} (hx : x < n) : ∃ p, p < n ∧ t p = x := fb_onto h.1 h.2 hx
theorem PM.uq {n : Nat} {t : Nat → Nat} (h : PM n t) {i j : Nat} (hi : i < n) (hj : j < n) (e : t i = t j) : i = j := by
  rcases Nat.lt_trichotomy i j with q | q | q
  · exact absurd e (h.2 i j q hj)
  · exact q
  · exact absurd e.symm (h.2 j i q hi)
/-- the place of x in the first n of t -/
def pl (t : Nat → Nat) (x : Nat) : Nat → Nat
  | 0 => 0
  | n + 1 => if t n = x then n else pl t x n
theorem pl_sp {t : Nat → Nat} {x : Nat} : ∀ {n : Nat}, (∃ p, p < n ∧ t p = x) → pl t x n < n ∧ t (pl t x n) = x
  | 0, h => by obtain ⟨p, hp, -⟩ := h; omega
  | n + 1, h => by
    by_cases e : t n = x
    · simp only [pl, if_pos e]; exact ⟨Nat.lt_succ_self n, e⟩
    · simp only [pl, if_neg e]
      obtain ⟨p, hp, hx⟩ := h
      have hpn : p < n := by
        rcases Nat.lt_or_ge p n with q | q
        · exact q
        · exact absurd (by rw [← hx]; congr 1; omega) e
      have := pl_sp (n := n) ⟨p, hpn, hx⟩
      exact ⟨by omega, this.2⟩
theorem PM.pls {n : Nat} {t : Nat → Nat} (h : PM n t) {x : Nat} (hx : x < n) : pl t x n < n ∧ t (pl t x n) = x := pl_sp (h.ex hx)
theorem PM.ple {n : Nat} {t : Nat → Nat} (h : PM n t) {p x : Nat} (hp : p < n) (e : t p = x) : pl t x n = p := by
  have h1 := h.pls (x := x) (by rw [← e]; exact h.1 p hp)
  exact h.uq h1.1 hp (h1.2.trans e.symm)
def RW (M : XM) (r n : Nat) (t b l : Nat → Nat) : Prop := M r = some (.inr (3, [.int (nI n), .ref (r + 1), .ref (r + 2), .ref (r + 3)])) ∧ IA M (r + 1) 5 t ∧ IA M (r + 2) 5 b ∧ IA M (r + 3) 5 l
def OR (n : Nat) (t b l : Nat → Nat) : Prop := 2 ≤ n ∧ n ≤ 5 ∧ PM n t ∧ PM n b ∧ ∀ k, k < n → 1 ≤ l k ∧ l k ≤ 99
theorem RW.fr {M M' : XM} {r n : Nat} {t b l : Nat → Nat} (h : RW M r n t b l) (h2 : ∀ q, r ≤ q → q < r + 4 → M' q = M q) : RW M' r n t b l :=
  ⟨(h2 r (by omega) (by omega)).trans h.1, h.2.1.fr (h2 _ (by omega) (by omega)), h.2.2.1.fr (h2 _ (by omega) (by omega)), h.2.2.2.fr (h2 _ (by omega) (by omega))⟩
theorem RW.cg {M : XM} {r n : Nat} {t b l t' b' l' : Nat → Nat} (h : RW M r n t b l) (h1 : ∀ k, k < 5 → t k = t' k) (h2 : ∀ k, k < 5 → b k = b' k) (h3 : ∀ k, k < 5 → l k = l' k) : RW M r n t' b' l' :=
  ⟨h.1, h.2.1.cg (fun k hk => by rw [h1 k hk]), h.2.2.1.cg (fun k hk => by rw [h2 k hk]), h.2.2.2.cg (fun k hk => by rw [h3 k hk])⟩
section ROWS
variable {M : XM} {F r n : Nat} {t b l : Nat → Nat}
theorem hasLetter_in (h : RW M r n t b l) {x : Nat} (hx : x < n) (hn : n ≤ 5) : f_X3_hasLetter r (nI x) M = some 1 := by
  unfold f_X3_hasLetter
  rw [if_neg (nI_pos (by omega)), gI_of h.1 rfl, Option.bind_some, if_neg (nI_ge hx (by omega))]
theorem hasLetter_out (h : RW M r n t b l) {a : Int32} (ha : a < 0 ∨ nI n ≤ a) : f_X3_hasLetter r a M = some 0 := by
  unfold f_X3_hasLetter
  by_cases c : a < 0
  · rw [if_pos c]
  · rw [if_neg c, gI_of h.1 rfl, Option.bind_some, if_pos (ha.resolve_left c)]
theorem points_ok (h : RW M r n t b l) (hn : n ≤ 5) (hF : 10 ≤ F) : f_X3_points F r M = some (nI (fb_sm l n)) := by
  unfold f_X3_points
  refine ok_e (ok_loop (I := fun i q => q = (nI (fb_sm l i), nI i)) n ?_ ?_ n 0 F _ (by omega) (by omega) rfl)
  · intro k i a hi ha hk
    subst ha
    unfold b_X3_points_4
    refine ok_b (gI_of h.1 rfl) ?_
    refine ok_f (nI_ge hi (by omega)) ?_
    refine ok_b (gR_of h.1 rfl) ?_
    refine ok_b (h.2.2.2.rd i rfl (by omega) (by decide)) ?_
    exact hk _ (by rw [fb_sm_succ, ← nI_add, ← e1])
  · intro k a ha
    subst ha
    unfold b_X3_points_4
    refine ok_b (gI_of h.1 rfl) ?_
    refine ok_t (nI_le (Nat.le_refl n) (by omega)) ?_
    exact ok_v rfl
theorem hasPoint_in (h : RW M r n t b l) (hn : n ≤ 5) (hF : 10 ≤ F) {p : Nat} (hp : p < fb_sm l n) (hs : fb_sm l n < 1000) : f_X3_hasPoint F r (nI p) M = some 1 := by
  unfold f_X3_hasPoint
  rw [if_neg (nI_pos (by omega)), ob_of h.1, Option.bind_some, points_ok h hn hF, Option.bind_some, if_neg (nI_ge hp (by omega))]
theorem hasPoint_out (h : RW M r n t b l) (hn : n ≤ 5) (hF : 10 ≤ F) {a : Int32} (ha : a < 0 ∨ nI (fb_sm l n) ≤ a) : f_X3_hasPoint F r a M = some 0 := by
  unfold f_X3_hasPoint
  by_cases c : a < 0
  · rw [if_pos c]
  · rw [if_neg c, ob_of h.1, Option.bind_some, points_ok h hn hF, Option.bind_some, if_pos (ha.resolve_left c)]
theorem placeIn_ok {a : Nat} {u : Nat → Nat} (h : RW M r n t b l) (ha : IA M a 5 u) (hn : n ≤ 5) (hu : ∀ k, k < n → u k < 1000) {p : Nat} (hp : p < n) (hq : ∀ k, k < p → u k ≠ u p) (hF : 10 ≤ F) : f_X3_placeIn F r a (nI (u p)) M = some (nI p) := by
  unfold f_X3_placeIn
  refine ok_e (ok_loop (I := fun i q => q = nI i) p ?_ ?_ p 0 F _ (by omega) (by omega) rfl)
  · intro k i a hi ha2 hk
    subst ha2
    unfold b_X3_placeIn_2
    refine ok_b (gI_of h.1 rfl) ?_
    refine ok_f (nI_ge (by omega) (by omega)) ?_
    refine ok_b (ha.rd i rfl (by omega) (by decide)) ?_
    refine ok_f (fun e => hq i hi (nI_inj (by have := hu i (by omega); omega) (by have := hu p hp; omega) e)) ?_
    exact hk _ (e1 i)
  · intro k a ha2
    subst ha2
    unfold b_X3_placeIn_2
    refine ok_b (gI_of h.1 rfl) ?_
    refine ok_f (nI_ge (by omega) (by omega)) ?_
    refine ok_b (ha.rd p rfl (by omega) (by decide)) ?_
    refine ok_t rfl ?_
    exact ok_v rfl
theorem placeIn_pl {a : Nat} {u : Nat → Nat} (h : RW M r n t b l) (ha : IA M a 5 u) (hn : n ≤ 5) (hu : PM n u) {x : Nat} (hx : x < n) (hF : 10 ≤ F) : f_X3_placeIn F r a (nI x) M = some (nI (pl u x n)) := by
  have h1 := hu.pls hx
  have h2 := placeIn_ok (p := pl u x n) h ha hn (fun k hk => by have := hu.1 k hk; omega) h1.1 (fun k hk e => by have := hu.uq (by omega) h1.1 e; omega) hF
  rw [h1.2] at h2
  exact h2
theorem letterBehind_in {a : Nat} {u : Nat → Nat} (h : RW M r n t b l) (ha : IA M a 5 u) (hn : n ≤ 5) (hu : PM n u) {p : Nat} (hp : p + 1 < n) (hF : 10 ≤ F) : f_X3_letterBehind F r a (nI (u p)) M = some (nI (u (p + 1))) := by
  unfold f_X3_letterBehind
  rw [ob_of h.1, Option.bind_some, placeIn_pl h ha hn hu (hu.1 p (by omega)) hF, Option.bind_some, hu.ple (show p < n by omega) rfl, if_neg (nI_pos (by omega)), gI_of h.1 rfl, Option.bind_some, e_pred (by omega), if_neg (nI_ge (by omega) (by omega)), ha.rd (p + 1) (e1 p) (by omega) (by decide), Option.bind_some]
theorem letterBehind_out {a : Nat} {u : Nat → Nat} (h : RW M r n t b l) (ha : IA M a 5 u) (hn : n ≤ 5) (h0 : 0 < n) (hu : PM n u) (hF : 10 ≤ F) : f_X3_letterBehind F r a (nI (u (n - 1))) M = some (-1) := by
  unfold f_X3_letterBehind
  rw [ob_of h.1, Option.bind_some, placeIn_pl h ha hn hu (hu.1 (n - 1) (by omega)) hF, Option.bind_some, hu.ple (show n - 1 < n by omega) rfl, if_neg (nI_pos (by omega)), gI_of h.1 rfl, Option.bind_some, e_pred h0, if_pos (nI_le (Nat.le_refl _) (by omega))]
def cdN (t b : Nat → Nat) (n : Nat) : Nat → Nat
  | 0 => 0
  | i + 1 => cdN t b n i * 10 + pl t (b i) n + 1
theorem codeNow_ok (h : RW M r n t b l) (hn : n ≤ 5) (ht : PM n t) (hb : PM n b) (hF : 10 ≤ F) : f_X3_codeNow F r M = some (nI (cdN t b n n)) := by
  unfold f_X3_codeNow
  refine ok_e (ok_loop (I := fun i q => q = (nI (cdN t b n i), nI i)) n ?_ ?_ n 0 F _ (by omega) (by omega) rfl)
  · intro k i a hi ha hk
    subst ha
    unfold b_X3_codeNow_4
    refine ok_b (gI_of h.1 rfl) ?_
    refine ok_f (nI_ge hi (by omega)) ?_
    refine ok_b (gR_of h.1 rfl) ?_
    refine ok_b (gR_of h.1 rfl) ?_
    refine ok_b (h.2.2.1.rd i rfl (by omega) (by decide)) ?_
    refine ok_b (ob_of h.1) ?_
    refine ok_b (placeIn_pl h h.2.1 hn ht (hb.1 i hi) hF) ?_
    refine hk _ ?_
    show (nI (cdN t b n i) * nI 10 + nI (pl t (b i) n) + 1, nI i + 1) = _
    rw [pk_mul, nI_add, e1, e1]
    rfl
  · intro k a ha
    subst ha
    unfold b_X3_codeNow_4
    refine ok_b (gI_of h.1 rfl) ?_
    refine ok_t (nI_le (Nat.le_refl n) (by omega)) ?_
    exact ok_v rfl
/-- whether the rows are whole, by masks -/
def mkI (t : Nat → Nat) : Nat → Int32
  | 0 => 0
  | i + 1 => mkI t i ||| ((1 : Int32) <<< (nI (t i) &&& 31))
def whI (t b : Nat → Nat) (n : Nat) : Int32 := if ∃ i, i < n - 1 ∧ mkI t (i + 1) = mkI b (i + 1) then 0 else 1
theorem isWhole_ok (h : RW M r n t b l) (hn : n ≤ 5) (h0 : 0 < n) (hF : 10 ≤ F) : f_X3_isWhole F r M = some (whI t b n) := by
  unfold f_X3_isWhole
  refine ok_e (ok_loop (I := fun i q => q = (mkI t i, mkI b i, nI i) ∧ ∀ j, j < i → mkI t (j + 1) ≠ mkI b (j + 1)) (n - 1) ?_ ?_ (n - 1) 0 F _ (by omega) (by omega) ⟨rfl, fun j hj => absurd hj (Nat.not_lt_zero j)⟩)
  · intro k i a hi ha hk
    obtain ⟨rfl, ha⟩ := ha
    unfold b_X3_isWhole_6
    refine ok_b (gI_of h.1 rfl) ?_
    refine ok_f (by rw [e_pred h0]; exact nI_ge hi (by omega)) ?_
    refine ok_b (gR_of h.1 rfl) ?_
    refine ok_b (h.2.1.rd i rfl (by omega) (by decide)) ?_
    refine ok_b (gR_of h.1 rfl) ?_
    refine ok_b (h.2.2.1.rd i rfl (by omega) (by decide)) ?_
    by_cases c : mkI t (i + 1) = mkI b (i + 1)
    · refine ok_t c ?_
      refine ok_v ?_
      rw [whI, if_pos ⟨i, hi, c⟩]
    · refine ok_f c ?_
      refine hk _ ⟨by rw [← e1]; rfl, fun j hj => ?_⟩
      rcases Nat.lt_or_ge j i with q | q
      · exact ha j q
      · rw [show j = i by omega]; exact c
  · intro k a ha
    obtain ⟨rfl, ha⟩ := ha
    unfold b_X3_isWhole_6
    refine ok_b (gI_of h.1 rfl) ?_
    refine ok_t (by rw [e_pred h0]; exact nI_le (Nat.le_refl _) (by omega)) ?_
    refine ok_v ?_
    rw [whI, if_neg]
    rintro ⟨i, hi, c⟩
    exact ha i hi c
end ROWS
