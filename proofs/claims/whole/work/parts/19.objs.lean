section SH2
variable {M : XM} {F a : Nat} {cs ds : Nat → Nat} {c : Nat}
theorem stepsTo_ok {v : Nat} (h : SH M a cs ds c) (hc : c ≤ 120) (hcs : ∀ i, i < c → cs i < 100000) (hv : v < 100000) (hF : 1000 ≤ F) : f_X5_stepsTo F a (nI v) M = some (if fx cs v c < c then nI (ds (fx cs v c)) else -5) := by
  unfold f_X5_stepsTo
  refine bs (ob_of h.1) (bs (indexOf_ok h hc hcs hv hF) ?_)
  by_cases e : fx cs v c < c
  · rw [if_pos e, if_pos e]
    exact cf (nI_m1 (by omega)) (bs (gR_of h.1 rfl) (bs (h.2.2.2.rd _ rfl (show fx cs v c < 120 by omega) (by decide)) rfl))
  · rw [if_neg e, if_neg e]
    exact ct rfl rfl
def rk (cs : Nat → Nat) (c v : Nat) : Nat := fb_ct (fun j => decide (cs j < v)) c
theorem rankOf_ok {v : Nat} (h : SH M a cs ds c) (hc : c ≤ 120) (hcs : ∀ i, i < c → cs i < 100000) (hv : v < 100000) (hF : 1000 ≤ F) : f_X5_rankOf F a (nI v) M = some (nI (rk cs c v)) := by
  unfold f_X5_rankOf
  refine ok_e (ok_loop (I := fun i q => q = (nI (fb_ct (fun j => decide (cs j < v)) i), nI i)) c ?_ ?_ c 0 F _ (by omega) (by omega) rfl)
  · rintro k i q hi rfl hk
    have hb := hcs i hi
    unfold b_X5_rankOf_4
    refine ok_b (gI_of h.1 rfl) ?_
    refine ok_f (nI_ge hi (by omega)) ?_
    refine ok_b (gR_of h.1 rfl) ?_
    refine ok_b (h.2.2.1.rd i rfl (by omega) (by decide)) ?_
    by_cases e : v ≤ cs i
    · refine ok_t (nI_le e (by omega)) ?_
      exact hk _ (by rw [e1, fb_ct_succ, if_neg (by simp; omega)]; rfl)
    · refine ok_f (nI_ge (by omega) (by omega)) ?_
      exact hk _ (by rw [e1, e1, fb_ct_succ, if_pos (by simp; omega)])
  · rintro k q rfl
    unfold b_X5_rankOf_4
    refine ok_b (gI_of h.1 rfl) ?_
    exact ok_t (nI_le (Nat.le_refl _) (by omega)) (ok_v rfl)
def cr (cs : Nat → Nat) (c : Nat) (i : Int32) : Nat := fa_first (fun k => decide (nI (rk cs c (cs k)) = i)) c
def crI (cs : Nat → Nat) (c : Nat) (i : Int32) : Int32 := if cr cs c i < c then nI (cs (cr cs c i)) else -5
theorem codeOfRank_ok {i : Int32} (h : SH M a cs ds c) (hc : c ≤ 120) (hcs : ∀ i, i < c → cs i < 100000) (hF : 1000 ≤ F) : f_X5_codeOfRank F a i M = some (crI cs c i) := by
  have hle : cr cs c i ≤ c := fa_first_le _ c
  unfold f_X5_codeOfRank
  refine ok_e (ok_loop (I := fun k q => q = nI k) (cr cs c i) ?_ ?_ (cr cs c i) 0 F _ (by omega) (by omega) rfl)
  · rintro k j q hj rfl hk
    unfold b_X5_codeOfRank_2
    refine ok_b (gI_of h.1 rfl) ?_
    refine ok_f (nI_ge (by omega) (by omega)) ?_
    refine ok_b (gR_of h.1 rfl) ?_
    refine ok_b (h.2.2.1.rd j rfl (by omega) (by decide)) ?_
    refine ok_b (ob_of h.1) ?_
    refine ok_b (rankOf_ok h hc hcs (hcs j (by omega)) hF) ?_
    refine ok_f (of_decide_eq_false (fa_first_no (fun k => decide (nI (rk cs c (cs k)) = i)) c j hj)) ?_
    exact hk _ (e1 j)
  · rintro k q rfl
    unfold b_X5_codeOfRank_2 crI
    refine ok_b (gI_of h.1 rfl) ?_
    by_cases e : cr cs c i < c
    · rw [if_pos e]
      refine ok_f (nI_ge e (by omega)) ?_
      refine ok_b (gR_of h.1 rfl) ?_
      refine ok_b (h.2.2.1.rd _ rfl (show cr cs c i < 120 by omega) (by decide)) ?_
      refine ok_b (ob_of h.1) ?_
      refine ok_b (rankOf_ok h hc hcs (hcs _ e) hF) ?_
      refine ok_t (of_decide_eq_true (fa_first_yes (fun k => decide (nI (rk cs c (cs k)) = i)) c e)) ?_
      refine ok_b (gR_of h.1 rfl) ?_
      refine ok_b (h.2.2.1.rd _ rfl (show cr cs c i < 120 by omega) (by decide)) ?_
      exact ok_v rfl
    · rw [if_neg e]
      exact ok_t (nI_le (by omega) (by omega)) (ok_v rfl)
theorem rk_cg {cs cs' : Nat → Nat} {c v : Nat} (h : ∀ i, i < c → cs i = cs' i) : rk cs c v = rk cs' c v := fb_ct_cong (fun k hk => by rw [h k hk])
theorem crI_cg {cs cs' : Nat → Nat} {c : Nat} {i : Int32} (h : ∀ i, i < c → cs i = cs' i) : crI cs c i = crI cs' c i := by
  have e : cr cs c i = cr cs' c i := fa_cg (fun k hk => by rw [rk_cg h, h k hk])
  unfold crI
  rw [e]
  by_cases q : cr cs' c i < c
  · rw [if_pos q, if_pos q, h _ q]
  · rw [if_neg q, if_neg q]
end SH2
-- NOTES: rows of two numbers
def NT (M : XM) (a cap sz : Nat) (f g : Nat → Nat) : Prop := M a = some (.inr (2, [.ref (a + 1), .ref (a + 2), .int (nI sz)])) ∧ sz ≤ cap ∧ ∃ f' g', IA M (a + 1) cap f' ∧ IA M (a + 2) cap g' ∧ ∀ i, i < sz → f' i = f i ∧ g' i = g i
theorem NT.fr {M M' : XM} {a cap sz : Nat} {f g : Nat → Nat} (h : NT M a cap sz f g) (h2 : ∀ q, a ≤ q → q < a + 3 → M' q = M q) : NT M' a cap sz f g := by
  obtain ⟨h0, h1, f', g', h3, h4, h5⟩ := h
  exact ⟨(h2 a (by omega) (by omega)).trans h0, h1, f', g', h3.fr (h2 _ (by omega) (by omega)), h4.fr (h2 _ (by omega) (by omega)), h5⟩
theorem NT.cg {M : XM} {a cap sz : Nat} {f g f2 g2 : Nat → Nat} (h : NT M a cap sz f g) (h2 : ∀ i, i < sz → f i = f2 i ∧ g i = g2 i) : NT M a cap sz f2 g2 := by
  obtain ⟨h0, h1, f', g', h3, h4, h5⟩ := h
  exact ⟨h0, h1, f', g', h3, h4, fun i hi => ⟨(h5 i hi).1.trans (h2 i hi).1, (h5 i hi).2.trans (h2 i hi).2⟩⟩
section NOTES
variable {M : XM} {F a cap sz : Nat} {f g : Nat → Nat}
theorem nclear_ok (h : NT M a cap sz f g) : Ok (f_X2_clear a M) (fun r => r.1 = 0 ∧ NT r.2 a cap 0 f g ∧ Fr M r.2 a (a + 3)) := by
  obtain ⟨h0, h1, f', g', h3, h4, h5⟩ := h
  unfold f_X2_clear
  refine ok_b (put_of h0 (by simp)) ?_
  refine ok_b (gI_of (up_s) rfl) ?_
  exact ok_v ⟨rfl, ⟨up_s, by omega, f', g', h3.fr (up_n (by omega)), h4.fr (up_n (by omega)), fun i hi => absurd hi (Nat.not_lt_zero i)⟩, Fr.up (by omega) (by omega)⟩
theorem ia_len {t : Nat → Nat} {b len : Nat} (h : IA M b len t) : x_len .int M b = some (nI len) := by
  obtain ⟨f, h1, -⟩ := h
  simp only [x_len, h1, if_true]
  rfl
theorem nadd_in (h : NT M a cap sz f g) (hc : sz < cap) (h100 : cap ≤ 100) {u v : Nat} : Ok (f_X2_add a (nI u) (nI v) M) (fun r => r.1 = nI (sz + 1) ∧ NT r.2 a cap (sz + 1) (upN f sz u) (upN g sz v) ∧ Fr M r.2 a (a + 3)) := by
  obtain ⟨h0, h1, f', g', h3, h4, h5⟩ := h
  unfold f_X2_add
  refine ok_b (gI_of h0 rfl) ?_
  refine ok_b (gR_of h0 rfl) ?_
  refine ok_b (ia_len h3) ?_
  refine ok_t (nI_lt hc (by omega)) ?_
  refine ok_b (gR_of h0 rfl) ?_
  refine ok_b (gI_of h0 rfl) ?_
  refine ok_m (h3.wr sz u rfl rfl hc (by omega)) (fun M1 hM1 => ?_)
  have o1 : M1 a = _ := (hM1.2 a (by omega)).trans h0
  refine ok_b (gR_of o1 rfl) ?_
  refine ok_b (gI_of o1 rfl) ?_
  refine ok_m (IA.wr (h4.fr (hM1.2 _ (by omega))) sz v rfl rfl hc (by omega)) (fun M2 hM2 => ?_)
  have o2 : M2 a = _ := (hM2.2 a (by omega)).trans o1
  refine ok_b (gI_of o2 rfl) ?_
  refine ok_b (put_of o2 (by simp)) ?_
  refine ok_b (gI_of up_s rfl) ?_
  have fr2 : Fr M M2 a (a + 3) := fun q hq => (hM2.2 q (by omega)).trans (hM1.2 q (by omega))
  refine ok_v ⟨e1 sz, ⟨?_, by omega, upN f' sz u, upN g' sz v, (hM1.1.fr (hM2.2 _ (by omega))).fr (up_n (by omega)), hM2.1.fr (up_n (by omega)), fun i hi => ?_⟩, fr2.tr (Fr.up (by omega) (by omega))⟩
  · show x_up _ _ _ _ = _
    rw [up_s, e1]; rfl
  · simp only [upN]
    by_cases c : i = sz
    · simp [c]
    · simp only [if_neg c]; exact h5 i (by omega)
theorem nadd_out (h : NT M a cap sz f g) (hc : sz = cap) (h100 : cap ≤ 100) {u v : Int32} : f_X2_add a u v M = some (-4, M) := by
  obtain ⟨h0, h1, f', g', h3, h4, h5⟩ := h
  unfold f_X2_add
  exact bs (gI_of h0 rfl) (bs (gR_of h0 rfl) (bs (ia_len h3) (cf (nI_nlt (by omega) (by omega)) rfl)))
theorem ncopy_ok {a2 sz2 : Nat} {f2 g2 : Nat → Nat} (h : NT M a cap sz f g) (h2 : NT M a2 cap sz2 f2 g2) (hd : a + 3 ≤ a2 ∨ a2 + 3 ≤ a) (h100 : cap ≤ 100) (hF : 1000 ≤ F) : Ok (f_X2_copyFrom F a a2 M) (fun M' => NT M' a cap sz2 f2 g2 ∧ Fr M M' a (a + 3)) := by
  unfold f_X2_copyFrom
  refine ok_b (ob_of h.1) ?_
  refine ok_m (nclear_ok h) (fun r0 hr0 => ?_)
  refine ok_loop (I := fun i q => q.1 = nI i ∧ (∃ f' g', NT q.2 a cap i f' g' ∧ ∀ j, j < i → f' j = f2 j ∧ g' j = g2 j) ∧ Fr M q.2 a (a + 3)) sz2 ?_ ?_ sz2 0 F _ (by omega) (by have := h2.2.1; omega) ⟨rfl, ⟨f, g, hr0.2.1, fun j hj => absurd hj (Nat.not_lt_zero j)⟩, hr0.2.2⟩
  · rintro k i ⟨q1, q2⟩ hi ⟨rfl, ⟨f', g', hN, he⟩, fr⟩ hk
    dsimp only at hN fr
    have s2 : NT q2 a2 cap sz2 f2 g2 := h2.fr (fun q a1 a2 => fr q (by omega))
    obtain ⟨z0, z1, f'', g'', z3, z4, z5⟩ := s2
    unfold b_X2_copyFrom_7
    refine ok_b (gI_of z0 rfl) ?_
    refine ok_f (nI_ge hi (by omega)) ?_
    refine ok_b (gR_of z0 rfl) ?_
    refine ok_b (z3.rd i rfl (by omega) (by omega)) ?_
    refine ok_b (gR_of z0 rfl) ?_
    refine ok_b (z4.rd i rfl (by omega) (by omega)) ?_
    refine ok_b (ob_of hN.1) ?_
    refine ok_m (nadd_in hN (by omega) h100) (fun r hr => ?_)
    refine hk _ ⟨e1 i, ⟨_, _, hr.2.1, fun j hj => ?_⟩, fr.tr hr.2.2⟩
    simp only [upN]
    by_cases c : j = i
    · simp only [if_pos c, c]; exact z5 i hi
    · simp only [if_neg c]; exact he j (by omega)
  · rintro k ⟨q1, q2⟩ ⟨rfl, ⟨f', g', hN, he⟩, fr⟩
    dsimp only at hN fr
    have s2 : NT q2 a2 cap sz2 f2 g2 := h2.fr (fun q a1 a2 => fr q (by omega))
    have := s2.2.1
    unfold b_X2_copyFrom_7
    refine ok_b (gI_of s2.1 rfl) ?_
    refine ok_t (nI_le (Nat.le_refl _) (by omega)) ?_
    exact ok_v ⟨hN.cg he, fr⟩
end NOTES
-- SETUPS: by the sixty numbers that the reference keeps them in
def rT (w : Nat → Nat) : Nat → Nat := fun k => w (2 + k)
def rB (w : Nat → Nat) : Nat → Nat := fun k => w (7 + k)
def rL (w : Nat → Nat) : Nat → Nat := fun k => w (12 + k)
def RWw (M : XM) (r : Nat) (w : Nat → Nat) : Prop := RW M r (w 0) (rT w) (rB w) (rL w)
def ORw (w : Nat → Nat) : Prop := OR (w 0) (rT w) (rB w) (rL w)
def SU (M : XM) (s : Nat) (w : Nat → Nat) : Prop := M s = some (.inr (4, [.ref (s + 1), .int (nI (w 1)), .ref (s + 5), .ref (s + 8), .ref (s + 11)])) ∧ RWw M (s + 1) w ∧ NT M (s + 5) 4 (w 17) (fun i => w (18 + 2 * i)) (fun i => w (19 + 2 * i)) ∧ NT M (s + 8) 8 (w 26) (fun i => w (27 + 2 * i)) (fun i => w (28 + 2 * i)) ∧ NT M (s + 11) 8 (w 43) (fun i => w (44 + 2 * i)) (fun i => w (45 + 2 * i))
theorem SU.fr {M M' : XM} {s : Nat} {w : Nat → Nat} (h : SU M s w) (h2 : ∀ q, s ≤ q → q < s + 14 → M' q = M q) : SU M' s w :=
  ⟨(h2 s (by omega) (by omega)).trans h.1, h.2.1.fr (fun q a1 a2 => h2 q (by omega) (by omega)), h.2.2.1.fr (fun q a1 a2 => h2 q (by omega) (by omega)), h.2.2.2.1.fr (fun q a1 a2 => h2 q (by omega) (by omega)), h.2.2.2.2.fr (fun q a1 a2 => h2 q (by omega) (by omega))⟩
theorem SU.cg {M : XM} {s : Nat} {w w' : Nat → Nat} (h : SU M s w) (h2 : ∀ k, k < 60 → w k = w' k) : SU M s w' := by
  obtain ⟨h0, h1, h3, h4, h5⟩ := h
  have c0 := h2 0 (by omega); have c1 := h2 1 (by omega); have c17 := h2 17 (by omega); have c26 := h2 26 (by omega); have c43 := h2 43 (by omega)
  refine ⟨by rw [← c1]; exact h0, ?_, ?_, ?_, ?_⟩
  · unfold RWw; rw [← c0]; exact h1.cg (fun k hk => h2 _ (by omega)) (fun k hk => h2 _ (by omega)) (fun k hk => h2 _ (by omega))
  · rw [← c17]; have := h3.2.1; exact h3.cg (fun i hi => ⟨h2 _ (by omega), h2 _ (by omega)⟩)
  · rw [← c26]; have := h4.2.1; exact h4.cg (fun i hi => ⟨h2 _ (by omega), h2 _ (by omega)⟩)
  · rw [← c43]; have := h5.2.1; exact h5.cg (fun i hi => ⟨h2 _ (by omega), h2 _ (by omega)⟩)
theorem SU.rows {M M' : XM} {s : Nat} {w w' : Nat → Nat} (h : SU M s w) (hR : RWw M' (s + 1) w') (fr : Fr M M' (s + 1) (s + 5)) (h2 : ∀ k, (k = 1 ∨ 17 ≤ k) → k < 60 → w k = w' k) : SU M' s w' := by
  obtain ⟨h0, h1, h3, h4, h5⟩ := h
  have c1 := h2 1 (by omega) (by omega); have c17 := h2 17 (by omega) (by omega); have c26 := h2 26 (by omega) (by omega); have c43 := h2 43 (by omega) (by omega)
  refine ⟨by rw [← c1]; exact (fr s (by omega)).trans h0, hR, ?_, ?_, ?_⟩
  · rw [← c17]; have := h3.2.1; exact (h3.cg (fun i hi => ⟨h2 _ (by omega) (by omega), h2 _ (by omega) (by omega)⟩)).fr (fun q a1 a2 => fr q (by omega))
  · rw [← c26]; have := h4.2.1; exact (h4.cg (fun i hi => ⟨h2 _ (by omega) (by omega), h2 _ (by omega) (by omega)⟩)).fr (fun q a1 a2 => fr q (by omega))
  · rw [← c43]; have := h5.2.1; exact (h5.cg (fun i hi => ⟨h2 _ (by omega) (by omega), h2 _ (by omega) (by omega)⟩)).fr (fun q a1 a2 => fr q (by omega))
/-- other rows in the sixty -/
def wR (w t b l : Nat → Nat) : Nat → Nat := fun k => if k < 2 then w k else if k < 7 then t (k - 2) else if k < 12 then b (k - 7) else if k < 17 then l (k - 12) else w k
theorem wR_T {w t b l : Nat → Nat} {k : Nat} (h : k < 5) : rT (wR w t b l) k = t k := by
  simp only [rT, wR]; rw [if_neg (by omega), if_pos (by omega)]; congr 1; omega
theorem wR_B {w t b l : Nat → Nat} {k : Nat} (h : k < 5) : rB (wR w t b l) k = b k := by
  simp only [rB, wR]; rw [if_neg (by omega), if_neg (by omega), if_pos (by omega)]; congr 1; omega
theorem wR_L {w t b l : Nat → Nat} {k : Nat} (h : k < 5) : rL (wR w t b l) k = l k := by
  simp only [rL, wR]; rw [if_neg (by omega), if_neg (by omega), if_neg (by omega), if_pos (by omega)]; congr 1; omega
theorem wR_o {w t b l : Nat → Nat} {k : Nat} (h : k < 2 ∨ 17 ≤ k) : wR w t b l k = w k := by
  simp only [wR]
  by_cases c : k < 2
  · rw [if_pos c]
  · rw [if_neg c, if_neg (by omega), if_neg (by omega), if_neg (by omega)]
theorem RW.toW {M : XM} {r : Nat} {w t b l : Nat → Nat} (h : RW M r (w 0) t b l) : RWw M r (wR w t b l) := by
  unfold RWw
  rw [wR_o (by omega)]
  exact h.cg (fun k hk => (wR_T hk).symm) (fun k hk => (wR_B hk).symm) (fun k hk => (wR_L hk).symm)
theorem OR.cg {n : Nat} {t b l t' b' l' : Nat → Nat} (h : OR n t b l) (h1 : ∀ k, k < n → t k = t' k) (h2 : ∀ k, k < n → b k = b' k) (h3 : ∀ k, k < n → l k = l' k) : OR n t' b' l' := ⟨h.1, h.2.1, PM_cg h.2.2.1 h1, PM_cg h.2.2.2.1 h2, fun k hk => by rw [← h3 k hk]; exact h.2.2.2.2 k hk⟩
theorem OR.toW {w t b l : Nat → Nat} (h : OR (w 0) t b l) : ORw (wR w t b l) := by
  unfold ORw
  rw [wR_o (by omega)]
  have := h.2.1
  exact h.cg (fun k hk => (wR_T (by omega)).symm) (fun k hk => (wR_B (by omega)).symm) (fun k hk => (wR_L (by omega)).symm)
theorem SU.toW {M M' : XM} {s : Nat} {w t b l : Nat → Nat} (h : SU M s w) (hR : RW M' (s + 1) (w 0) t b l) (fr : Fr M M' (s + 1) (s + 5)) : SU M' s (wR w t b l) := h.rows hR.toW fr (fun k hk _ => (wR_o (by omega)).symm)
