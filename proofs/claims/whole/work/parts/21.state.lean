-- ROWS OF LONGS, OF BYTES
def LA (M : XM) (a len : Nat) (t : Nat → Int64) : Prop := ∃ f : Nat → Int64, M a = some (.inl (.long, len, .inr (.inl f))) ∧ ∀ k, k < len → f k = t k
theorem LA.cg {M : XM} {a len : Nat} {t t' : Nat → Int64} (h : LA M a len t) (h2 : ∀ k, k < len → t k = t' k) : LA M a len t' := by
  obtain ⟨f, h1, h3⟩ := h
  exact ⟨f, h1, fun k hk => (h3 k hk).trans (h2 k hk)⟩
theorem LA.fr {M M' : XM} {a len : Nat} {t : Nat → Int64} (h : LA M a len t) (h2 : M' a = M a) : LA M' a len t := by
  obtain ⟨f, h1, h3⟩ := h
  exact ⟨f, h2.trans h1, h3⟩
theorem LA.rd {M : XM} {a len : Nat} {t : Nat → Int64} (h : LA M a len t) {i : Int32} (j : Nat) (hi : i = nI j) (hj : j < len) (hl : len < 2147483648) : x_a64 M a i = some (t j) := by
  obtain ⟨f, h1, h3⟩ := h
  subst hi
  simp only [x_a64, h1, if_true, x_in_nI hj hl, nIc (show j < 2147483648 by omega), h3 j hj]
def upL (t : Nat → Int64) (i : Nat) (v : Int64) : Nat → Int64 := fun k => if k = i then v else t k
theorem LA.wr {M : XM} {a len : Nat} {t : Nat → Int64} (h : LA M a len t) {i : Int32} (j : Nat) (v : Int64) (hi : i = nI j) (hj : j < len) (hl : len < 2147483648) : Ok (x_w64 M a i v) (fun M' => LA M' a len (upL t j v) ∧ ∀ q, q ≠ a → M' q = M q) := by
  obtain ⟨f, h1, h3⟩ := h
  subst hi
  refine ⟨x_up M a (.inl (.long, len, .inr (.inl (vp_updL f j v)))), ?_, ⟨vp_updL f j v, up_s, fun k hk => ?_⟩, fun q hq => up_n hq⟩
  · simp only [x_w64, h1, if_true, x_in_nI hj hl, nIc (show j < 2147483648 by omega)]
  · simp only [upL]
    by_cases e : k = j
    · subst e; rw [pk_uLs, if_pos rfl]
    · rw [pk_uLn e, if_neg e]; exact h3 k hk
def BA (M : XM) (a len : Nat) (t : Nat → Int32) : Prop := ∃ f : Nat → Int32, M a = some (.inl (.byte, len, .inl f)) ∧ ∀ k, k < len → f k = t k
theorem BA.cg {M : XM} {a len : Nat} {t t' : Nat → Int32} (h : BA M a len t) (h2 : ∀ k, k < len → t k = t' k) : BA M a len t' := by
  obtain ⟨f, h1, h3⟩ := h
  exact ⟨f, h1, fun k hk => (h3 k hk).trans (h2 k hk)⟩
theorem BA.fr {M M' : XM} {a len : Nat} {t : Nat → Int32} (h : BA M a len t) (h2 : M' a = M a) : BA M' a len t := by
  obtain ⟨f, h1, h3⟩ := h
  exact ⟨f, h2.trans h1, h3⟩
theorem BA.rd {M : XM} {a len : Nat} {t : Nat → Int32} (h : BA M a len t) {i : Int32} (j : Nat) (hi : i = nI j) (hj : j < len) (hl : len < 2147483648) : x_a32 .byte M a i = some (t j) := by
  obtain ⟨f, h1, h3⟩ := h
  subst hi
  simp only [x_a32, h1, if_true, x_in_nI hj hl, nIc (show j < 2147483648 by omega), h3 j hj]
theorem BA.wr {M : XM} {a len : Nat} {t : Nat → Int32} (h : BA M a len t) {i : Int32} (j : Nat) (v : Int32) (hi : i = nI j) (hj : j < len) (hl : len < 2147483648) : Ok (x_w32 .byte M a i v) (fun M' => BA M' a len (upJ t j v) ∧ ∀ q, q ≠ a → M' q = M q) := by
  obtain ⟨f, h1, h3⟩ := h
  subst hi
  refine ⟨x_up M a (.inl (.byte, len, .inl (upd f j v))), ?_, ⟨upd f j v, up_s, fun k hk => ?_⟩, fun q hq => up_n hq⟩
  · simp only [x_w32, h1, if_true, x_in_nI hj hl, nIc (show j < 2147483648 by omega)]
  · simp only [upd, upJ]
    by_cases e : k = j
    · simp [e]
    · simp [e, h3 k hk]
-- WHAT IS SO, WHATEVER WAS CALLED
def EV (a n : Nat) : Prop := (a = 0 ∧ n = 0) ∨ (a = 1 ∧ n < 5) ∨ (a = 2 ∧ n < 2)
def OKW (w : Nat → Nat) : Prop := ORw w ∧ w 1 < 100000 ∧ w 17 ≤ 4 ∧ w 26 ≤ 8 ∧ w 43 ≤ 8 ∧ (∀ i, i < w 17 → w (18 + 2 * i) < 500 ∧ w (19 + 2 * i) < 500) ∧ (∀ i, i < w 26 → EV (w (27 + 2 * i)) (w (28 + 2 * i))) ∧ (∀ i, i < w 43 → w (44 + 2 * i) < 5 ∧ w (45 + 2 * i) ≤ 99)
theorem OKW.cg {w w' : Nat → Nat} (h : OKW w) (ho : ORw w') (h1 : w' 1 < 100000) (h2 : ∀ k, 17 ≤ k → k < 60 → w' k = w k) : OKW w' := by
  obtain ⟨-, -, a2, a3, a4, a5, a6, a7⟩ := h
  have e17 := h2 17 (by omega) (by omega); have e26 := h2 26 (by omega) (by omega); have e43 := h2 43 (by omega) (by omega)
  refine ⟨ho, h1, by omega, by omega, by omega, fun i hi => ?_, fun i hi => ?_, fun i hi => ?_⟩
  · rw [h2 _ (by omega) (by omega), h2 _ (by omega) (by omega)]; exact a5 i (by omega)
  · rw [h2 _ (by omega) (by omega), h2 _ (by omega) (by omega)]; exact a6 i (by omega)
  · rw [h2 _ (by omega) (by omega), h2 _ (by omega) (by omega)]; exact a7 i (by omega)
theorem OKW.toW {w t b l : Nat → Nat} (h : OKW w) (ho : OR (w 0) t b l) : OKW (wR w t b l) :=
  h.cg ho.toW (by rw [wR_o (by omega)]; exact h.2.1) (fun k h1 _ => wR_o (by omega))
def KD (n dm : Nat) (dd : Nat → Nat) : Prop := dm ≤ 12 ∧ ∀ j, j < dm → OR n (fun k => dd (15 * j + k)) (fun k => dd (15 * j + 5 + k)) (fun k => dd (15 * j + 10 + k))
theorem KD.z {n : Nat} {dd : Nat → Nat} : KD n 0 dd := ⟨by omega, fun j hj => absurd hj (Nat.not_lt_zero j)⟩
theorem kp_n {dm : Nat} {dd t b l : Nat → Nat} {k : Nat} (hk : k < 5) : kpD dm dd t b l (15 * (kpM dm - 1) + k) = t k ∧ kpD dm dd t b l (15 * (kpM dm - 1) + 5 + k) = b k ∧ kpD dm dd t b l (15 * (kpM dm - 1) + 10 + k) = l k := by
  have hkc := kpM_c dm
  simp only [kpD]
  rcases hkc with ⟨c, e⟩ | ⟨c, e⟩
  · rw [e]
    simp only [if_pos c]
    rw [if_neg (by omega), if_neg (by omega), if_neg (by omega)]
    unfold blk
    rw [if_pos (by omega), if_neg (by omega), if_pos (by omega), if_neg (by omega), if_neg (by omega), show 15 * (12 - 1) + k - 165 = k by omega, show 15 * (12 - 1) + 5 + k - 165 - 5 = k by omega, show 15 * (12 - 1) + 10 + k - 165 - 10 = k by omega]
    exact ⟨rfl, rfl, rfl⟩
  · rw [e]
    simp only [if_neg c]
    rw [if_pos (by omega), if_pos (by omega), if_pos (by omega)]
    unfold blk
    rw [if_pos (by omega), if_neg (by omega), if_pos (by omega), if_neg (by omega), if_neg (by omega), show 15 * (dm + 1 - 1) + k - 15 * dm = k by omega, show 15 * (dm + 1 - 1) + 5 + k - 15 * dm - 5 = k by omega, show 15 * (dm + 1 - 1) + 10 + k - 15 * dm - 10 = k by omega]
    exact ⟨rfl, rfl, rfl⟩
theorem kp_o {dm : Nat} {dd t b l : Nat → Nat} {j c : Nat} (hc : c < 15) (hj : j + 1 < kpM dm) : kpD dm dd t b l (15 * j + c) = dd (15 * (if dm = 12 then j + 1 else j) + c) := by
  have hkc := kpM_c dm
  simp only [kpD]
  rcases hkc with ⟨e1, e⟩ | ⟨e1, e⟩
  · simp only [if_pos e1]
    rw [if_pos (by omega), show 15 * j + c + 15 = 15 * (j + 1) + c by omega]
  · simp only [if_neg e1]
    rw [if_neg (by omega)]
theorem KD.keep {n dm : Nat} {dd t b l : Nat → Nat} (h : KD n dm dd) (ho : OR n t b l) : KD n (kpM dm) (kpD dm dd t b l) := by
  have hkc := kpM_c dm
  have h1 := h.1
  have h5 := ho.2.1
  refine ⟨by omega, fun j hj => ?_⟩
  by_cases c : j = kpM dm - 1
  · subst c
    exact ho.cg (fun k hk => (kp_n (by omega)).1.symm) (fun k hk => (kp_n (by omega)).2.1.symm) (fun k hk => (kp_n (by omega)).2.2.symm)
  · have hd := h.2 (if dm = 12 then j + 1 else j) (by split <;> omega)
    refine hd.cg (fun k hk => ?_) (fun k hk => ?_) (fun k hk => ?_)
    · exact (kp_o (by omega) (by omega)).symm
    · rw [Nat.add_assoc, Nat.add_assoc]; exact (kp_o (by omega) (by omega)).symm
    · rw [Nat.add_assoc, Nat.add_assoc]; exact (kp_o (by omega) (by omega)).symm
def KT (so : Nat → Int32) (si : Nat → Nat) : Prop := ∀ i, i < 6 → si i ≤ 60 ∧ ((so i = -1 ∧ si i = 0) ∨ ∃ k, k < 5 ∧ so i = nI k)
def KS (w : Nat → Nat) (hi : Bool) (wi : Nat → Nat) (dm : Nat) (dd : Nat → Nat) (tl : Nat) (tx : Nat → Nat) (so : Nat → Int32) (si : Nat → Nat) (_it : Nat → Int64) : Prop := OKW w ∧ (hi = true → OKW wi) ∧ KD (w 0) dm dd ∧ (tl ≤ 100 ∧ ∀ k, k < tl → tx k < 128) ∧ KT so si
-- THE OBJECT
def TX (M : XM) (a tl : Nat) (tx : Nat → Nat) : Prop := (∃ p m : Int32, M a = some (.inr (7, [.ref (a + 1), .int p, .int (nI tl), .int m, .ref (a + 2), .ref (a + 3), .ref (a + 4)]))) ∧ (∃ t, BA M (a + 1) 100 t ∧ ∀ k, k < tl → t k = nI (tx k)) ∧ (∃ t, JA M (a + 2) 12 t) ∧ (∃ t, JA M (a + 3) 12 t) ∧ ∃ t, JA M (a + 4) 12 t
theorem TX.fr {M M' : XM} {a tl : Nat} {tx : Nat → Nat} (h : TX M a tl tx) (h2 : ∀ q, a ≤ q → q < a + 5 → M' q = M q) : TX M' a tl tx := by
  obtain ⟨⟨p, m, h0⟩, ⟨t, h1, h1'⟩, ⟨t2, h3⟩, ⟨t3, h4⟩, t4, h5⟩ := h
  exact ⟨⟨p, m, (h2 a (by omega) (by omega)).trans h0⟩, ⟨t, h1.fr (h2 _ (by omega) (by omega)), h1'⟩, ⟨t2, h3.fr (h2 _ (by omega) (by omega))⟩, ⟨t3, h4.fr (h2 _ (by omega) (by omega))⟩, t4, h5.fr (h2 _ (by omega) (by omega))⟩
def SC (M : XM) (x : Nat) : Prop := (∃ m g z, LN M (x + 84) m g z) ∧ (∃ cs ds c, SH M (x + 87) cs ds c) ∧ ∃ n t b l, RW M (x + 94) n t b l
theorem SC.fr {M M' : XM} {x : Nat} (h : SC M x) (h2 : ∀ q, x + 84 ≤ q → q < x + 98 → M' q = M q) : SC M' x := by
  obtain ⟨⟨m, g, z, h0⟩, ⟨cs, ds, c, h1⟩, n, t, b, l, h3⟩ := h
  exact ⟨⟨m, g, z, h0.fr (fun q a1 a2 => h2 q (by omega) (by omega))⟩, ⟨cs, ds, c, h1.fr (fun q a1 a2 => h2 q (by omega) (by omega))⟩, n, t, b, l, h3.fr (fun q a1 a2 => h2 q (by omega) (by omega))⟩
def TP (M : XM) (x : Nat) (so : Nat → Int32) (si : Nat → Nat) (it : Nat → Int64) : Prop := RQ M (x + 98) RX6 6 (fun i => x + 99 + 2 * i) ∧ ∀ i, i < 6 → M (x + 99 + 2 * i) = some (.inr (6, [.int (so i), .int (nI (si i)), .ref (x + 99 + 2 * i + 1)])) ∧ LA M (x + 99 + 2 * i + 1) 60 (fun k => it (60 * i + k))
theorem TP.fr {M M' : XM} {x : Nat} {so : Nat → Int32} {si : Nat → Nat} {it : Nat → Int64} (h : TP M x so si it) (h2 : ∀ q, x + 98 ≤ q → q < x + 111 → M' q = M q) : TP M' x so si it :=
  ⟨h.1.fr (h2 _ (by omega) (by omega)), fun i hi => ⟨(h2 _ (by omega) (by omega)).trans (h.2 i hi).1, (h.2 i hi).2.fr (h2 _ (by omega) (by omega))⟩⟩
def CO (M : XM) (x : Nat) (hi : Bool) : Prop := M x = some (.inr (8, [.ref (x + 1), .ref (x + 15), .int (bz hi), .ref (x + 29), .ref (x + 79), .ref (x + 84), .ref (x + 87), .ref (x + 94), .ref (x + 98)]))
def CI (M : XM) (x : Nat) (w : Nat → Nat) (hi : Bool) (wi : Nat → Nat) (dm : Nat) (dd : Nat → Nat) (tl : Nat) (tx : Nat → Nat) (so : Nat → Int32) (si : Nat → Nat) (it : Nat → Int64) : Prop :=
  CO M x hi ∧ SU M (x + 1) w ∧ SU M (x + 15) wi ∧ DD M (x + 29) (w 0) dm dd ∧ TX M (x + 79) tl tx ∧ SC M x ∧ TP M x so si it ∧ KS w hi wi dm dd tl tx so si it
theorem CI.fr {M M' : XM} {x : Nat} {w wi dd tx si : Nat → Nat} {hi : Bool} {dm tl : Nat} {so : Nat → Int32} {it : Nat → Int64} (h : CI M x w hi wi dm dd tl tx so si it) (h2 : ∀ q, x ≤ q → q < x + 111 → M' q = M q) : CI M' x w hi wi dm dd tl tx so si it := by
  obtain ⟨h0, h1, h3, h4, h5, h6, h7, h8⟩ := h
  exact ⟨(h2 x (by omega) (by omega)).trans h0, h1.fr (fun q a1 a2 => h2 q (by omega) (by omega)), h3.fr (fun q a1 a2 => h2 q (by omega) (by omega)), h4.fr (fun q a1 a2 => h2 q (by omega) (by omega)), h5.fr (fun q a1 a2 => h2 q (by omega) (by omega)), h6.fr (fun q a1 a2 => h2 q (by omega) (by omega)), h7.fr (fun q a1 a2 => h2 q (by omega) (by omega)), h8⟩
/-- other rows, other deeds -/
theorem CI.rows {M M' : XM} {x dm' : Nat} {t b l dd' : Nat → Nat} {w wi dd tx si : Nat → Nat} {hi : Bool} {dm tl : Nat} {so : Nat → Int32} {it : Nat → Int64} (h : CI M x w hi wi dm dd tl tx so si it) (hR : RW M' (x + 1 + 1) (w 0) t b l) (hD : DD M' (x + 29) (w 0) dm' dd') (fr : ∀ q, (q < x + 2 ∨ x + 6 ≤ q) → (q < x + 29 ∨ x + 79 ≤ q) → M' q = M q) (hO : OR (w 0) t b l) (hK : KD (w 0) dm' dd') : CI M' x (wR w t b l) hi wi dm' dd' tl tx so si it := by
  obtain ⟨h0, h1, h3, h4, h5, h6, h7, h8⟩ := h
  have e0 : wR w t b l 0 = w 0 := wR_o (by omega)
  refine ⟨(fr x (by omega) (by omega)).trans h0, ?_, h3.fr (fun q a1 a2 => fr q (by omega) (by omega)), by rw [e0]; exact hD, h5.fr (fun q a1 a2 => fr q (by omega) (by omega)), h6.fr (fun q a1 a2 => fr q (by omega) (by omega)), h7.fr (fun q a1 a2 => fr q (by omega) (by omega)), h8.1.toW hO, h8.2.1, by rw [e0]; exact hK, h8.2.2.2⟩
  obtain ⟨g0, g1, g3, g4, g5⟩ := h1
  refine ⟨?_, hR.toW, ?_, ?_, ?_⟩
  · rw [wR_o (k := 1) (by omega)]; exact (fr _ (by omega) (by omega)).trans g0
  · rw [wR_o (k := 17) (by omega)]; exact (g3.fr (fun q a1 a2 => fr q (by omega) (by omega))).cg (fun i hi => ⟨(wR_o (by omega)).symm, (wR_o (by omega)).symm⟩)
  · rw [wR_o (k := 26) (by omega)]; exact (g4.fr (fun q a1 a2 => fr q (by omega) (by omega))).cg (fun i hi => ⟨(wR_o (by omega)).symm, (wR_o (by omega)).symm⟩)
  · rw [wR_o (k := 43) (by omega)]; exact (g5.fr (fun q a1 a2 => fr q (by omega) (by omega))).cg (fun i hi => ⟨(wR_o (by omega)).symm, (wR_o (by omega)).symm⟩)
