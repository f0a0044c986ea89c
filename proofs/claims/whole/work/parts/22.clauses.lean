-- WHAT THE EIGHT DEEDS OF A TEXT DO
theorem rngN {a : Int32} (lo hi : Nat) (hl : lo < 2147483648) (hh : hi < 2147483648) (h1 : ¬ a < nI lo) (h2 : a ≤ nI hi) : ∃ m, lo ≤ m ∧ m ≤ hi ∧ a = nI m := by
  have h0 : ¬ a < 0 := fun q => h1 (by
    rw [fa_lt, nI_toInt (by omega)]
    have := (fa_lt a 0).mp q
    rw [show ((0 : Int32).toInt) = 0 from rfl] at this
    omega)
  obtain ⟨m, hm, rfl⟩ := nI_of h0
  refine ⟨m, ?_, ?_, rfl⟩
  · rcases Nat.lt_or_ge m lo with q | q
    · exact absurd (nI_lt q (by omega)) h1
    · exact q
  · exact (nI_leI (by omega) (by omega)).mp h2
theorem CI.set {M M' : XM} {x dm' : Nat} {w' dd' : Nat → Nat} {w wi dd tx si : Nat → Nat} {hi : Bool} {dm tl : Nat} {so : Nat → Int32} {it : Nat → Int64} (h : CI M x w hi wi dm dd tl tx so si it) (hS : SU M' (x + 1) w') (hD : DD M' (x + 29) (w' 0) dm' dd') (fr : ∀ q, (q < x + 1 ∨ x + 15 ≤ q) → (q < x + 29 ∨ x + 79 ≤ q) → M' q = M q) (hW : OKW w') (hK : KD (w' 0) dm' dd') : CI M' x w' hi wi dm' dd' tl tx so si it := by
  obtain ⟨h0, h1, h3, h4, h5, h6, h7, h8⟩ := h
  exact ⟨(fr x (by omega) (by omega)).trans h0, hS, h3.fr (fun q a1 a2 => fr q (by omega) (by omega)), hD, h5.fr (fun q a1 a2 => fr q (by omega) (by omega)), h6.fr (fun q a1 a2 => fr q (by omega) (by omega)), h7.fr (fun q a1 a2 => fr q (by omega) (by omega)), hW, h8.2.1, hK, h8.2.2.2⟩
abbrev T3 : Type := (Nat → Nat) × Nat × (Nat → Nat)
def isL (n : Nat) (a : Int32) : Prop := ∃ j, j < n ∧ a = nI j
theorem isL_no {n : Nat} {a : Int32} (hn : n ≤ 5) (h : ¬ isL n a) : a < 0 ∨ nI n ≤ a := by
  rcases pk_ix a (n := n) (by omega) with q | q | q
  · exact Or.inl q
  · exact Or.inr q
  · exact absurd q h
theorem isL_i {n : Nat} {a : Int32} (hn : n ≤ 5) (h : a < 0 ∨ nI n ≤ a) : ¬ isL n a := by
  rintro ⟨j, hj, rfl⟩
  rcases h with q | q
  · exact nI_pos (by omega) q
  · exact nI_ge hj (by omega) q
def rows3 (w t b l : Nat → Nat) (dm : Nat) (dd : Nat → Nat) : T3 := (wR w t b l, kpM dm, kpD dm dd (rT w) (rB w) (rL w))
noncomputable def sLet (a : Int32) (w : Nat → Nat) (dm : Nat) (dd : Nat → Nat) : Int32 × T3 := if a < 2 then (-2, w, dm, dd) else if a ≤ 5 then (nI (w 0), wB w a.toNatClampNeg, 0, dd) else (-2, w, dm, dd)
noncomputable def sBot (a : Int32) (w : Nat → Nat) (dm : Nat) (dd : Nat → Nat) : Int32 × T3 := @ite _ (isC (w 0) a) (Classical.propDecidable _) (1, wR w (ovF (w 0) (fun k => k) (rT w)) (ovF (w 0) (dg (w 0) a.toNatClampNeg) (rB w)) (rL w), 0, dd) (-2, w, dm, dd)
noncomputable def sLen (a v : Int32) (w : Nat → Nat) (dm : Nat) (dd : Nat → Nat) : Int32 × T3 := @ite _ (isL (w 0) a) (Classical.propDecidable _) (if v < 1 then (-2, w, dm, dd) else if 99 < v then (-2, w, dm, dd) else (nI (rL w a.toNatClampNeg), rows3 w (rT w) (rB w) (upN (rL w) a.toNatClampNeg v.toNatClampNeg) dm dd)) (-1, w, dm, dd)
noncomputable def sSwp (a v : Int32) (w : Nat → Nat) (dm : Nat) (dd : Nat → Nat) : Int32 × T3 := @ite _ (isL (w 0) a ∧ isL (w 0) v ∧ a ≠ v) (Classical.propDecidable _) (1, rows3 w (rT w) (swF (rB w) (w 0) a.toNatClampNeg v.toNatClampNeg) (rL w) dm dd) (-1, w, dm, dd)
def kdN (w : Nat → Nat) : Nat := if rL w (rT w (w 0 - 1)) ≤ rL w (rB w (w 0 - 1)) then 1 else 0
def kdW (w : Nat → Nat) : Int32 := kdI (rL w (rT w (w 0 - 1))) (rL w (rB w (w 0 - 1)))
def stW (w : Nat → Nat) (dm : Nat) (dd : Nat → Nat) : T3 := rows3 w (stT (kdN w) (rT w) (rB w) (w 0)) (stB (kdN w) (rT w) (rB w) (w 0)) (stL (kdN w) (rT w) (rB w) (rL w) (w 0)) dm dd
def sStp (w : Nat → Nat) (dm : Nat) (dd : Nat → Nat) : Int32 × T3 := if kdW w = -1 then (-3, w, dm, dd) else (kdW w, stW w dm dd)
def bcW (k : Nat) (w : Nat → Nat) : Nat → Nat := bcL k (rT w) (rB w) (rL w) (w 0)
noncomputable def sBck (a : Int32) (w : Nat → Nat) (dm : Nat) (dd : Nat → Nat) : Int32 × T3 := @ite _ (isL 2 a) (Classical.propDecidable _) (if 0 ≤ rfI a.toNatClampNeg (rT w) (rB w) (rL w) (w 0) then (nI (fb_sm (bcW a.toNatClampNeg w) (w 0)), rows3 w (bcT a.toNatClampNeg (rT w) (rB w) (w 0)) (bcB a.toNatClampNeg (rT w) (rB w) (w 0)) (bcW a.toNatClampNeg w) dm dd) else (rfI a.toNatClampNeg (rT w) (rB w) (rL w) (w 0), w, dm, dd)) (-1, w, dm, dd)
def sTak (w : Nat → Nat) (dm : Nat) (dd : Nat → Nat) : Int32 × T3 := if dm = 0 then (-3, w, dm, dd) else (nI (dm - 1), wR w (fun k => dd (15 * (dm - 1) + k)) (fun k => dd (15 * (dm - 1) + 5 + k)) (fun k => dd (15 * (dm - 1) + 10 + k)), dm - 1, dd)
def cdW (w : Nat → Nat) : Nat := cdN (rT w) (rB w) (w 0) (w 0)
def sKep (w : Nat → Nat) (dm : Nat) (dd : Nat → Nat) : Int32 × T3 := (nI (cdW w), upN w 1 (cdW w), dm, dd)
theorem cdW_lt {w : Nat → Nat} (h : ORw w) : cdW w < 100000 := by
  obtain ⟨h2, h5, ht, hb, hl⟩ := h
  unfold cdW
  rw [cdN_en]
  refine en_b (n := w 0) ⟨fun k hk => (ht.pls (hb.1 k hk)).1, fun i j hij hj e => ?_⟩ h5 (Nat.le_refl _)
  have a1 := (ht.pls (hb.1 i (by omega))).2
  have a2 := (ht.pls (hb.1 j hj)).2
  dsimp only at e
  rw [e, a2] at a1
  exact hb.2 i j hij hj a1.symm
section DEEDS8
variable {M : XM} {F x : Nat} {w wi dd tx si : Nat → Nat} {hi : Bool} {dm tl : Nat} {so : Nat → Int32} {it : Nat → Int64}
theorem c_letters (h : CI M x w hi wi dm dd tl tx so si it) (a : Int32) (hF : 1000 ≤ F) : Ok (f_X8_letters F x a M) (fun r => r.1 = (sLet a w dm dd).1 ∧ CI r.2 x (sLet a w dm dd).2.1 hi wi (sLet a w dm dd).2.2.1 (sLet a w dm dd).2.2.2 tl tx so si it ∧ Fr M r.2 (x + 1) (x + 79)) := by
  unfold f_X8_letters sLet
  by_cases c1 : a < 2
  · simp only [if_pos c1]; exact ok_v ⟨rfl, h, Fr.rf⟩
  · simp only [if_neg c1]
    by_cases c2 : a ≤ 5
    · simp only [if_pos c2]
      obtain ⟨m, h2, h5, rfl⟩ := rngN (a := a) 2 5 (by decide) (by decide) c1 c2
      rw [nIc (by omega)]
      obtain ⟨h0, h1, h3, h4, h5', h6, h7, h8⟩ := id h
      have c0 := h0; have c1 := h1.1; have c2 := h1.2.1.1
      unfold CO at c0
      repeat (first | refine ok_b (gR_of (by assumption) (by rfl)) ?_ | refine ok_b (gI_of (by assumption) (by rfl)) ?_ | refine ok_b (ob_of (by assumption)) ?_)
      refine ok_m (sbegin_ok h1 h2 h5 (by omega)) (fun M1 hM1 => ?_)
      have f1 := hM1.2
      have d0 : M1 x = _ := (f1 x (by omega)).trans c0
      have hD1 : DD M1 (x + 29) (w 0) dm dd := h4.fr (fun q a1 a2 => f1 q (by omega))
      have c3 : ∃ fs, M1 (x + 29) = some (.inr (0, fs)) := by
        obtain ⟨e, he, hd, z, -⟩ := hD1
        exact ⟨_, z⟩
      obtain ⟨fs, c3⟩ := c3
      repeat (first | refine ok_b (gR_of (by assumption) (by rfl)) ?_ | refine ok_b (gI_of (by assumption) (by rfl)) ?_ | refine ok_b (ob_of (by assumption)) ?_)
      refine ok_m (forget_ok hD1 m) (fun M2 hM2 => ?_)
      have f2 := hM2.2
      refine ok_v ⟨rfl, ?_, fun q hq => (f2 q (by omega)).trans (f1 q (by omega))⟩
      refine h.set (hM1.1.fr (fun q a1 a2 => f2 q (by omega))) hM2.1 (fun q q1 q2 => (f2 q (by omega)).trans (f1 q (by omega))) ?_ KD.z
      refine h8.1.cg (wB_OR h2 h5) ?_ (fun k k1 _ => wB_o k1)
      show en (revF m) m < 100000
      exact en_b (rev_PM m) h5 (Nat.le_refl m)
    · simp only [if_neg c2]; exact ok_v ⟨rfl, h, Fr.rf⟩
theorem DD.cell {a n : Nat} (h : DD M a n dm dd) : ∃ e, M a = some (.inr (0, [.ref (a + 1), .int (nI e), .int (nI dm)])) := by
  obtain ⟨e, he, hd, z, -⟩ := h
  exact ⟨_, z⟩
/-- deeds are kept, ahead of one -/
theorem c_rem (h : CI M x w hi wi dm dd tl tx so si it) (hF : 1000 ≤ F) : Ok (f_X0_remember F (x + 29) (x + 1 + 1) M) (fun M1 => DD M1 (x + 29) (w 0) (kpM dm) (kpD dm dd (rT w) (rB w) (rL w)) ∧ Fr M M1 (x + 29) (x + 79) ∧ CO M1 x hi ∧ SU M1 (x + 1) w) := by
  obtain ⟨h0, h1, h3, h4, h5', h6, h7, h8⟩ := h
  refine ok_w (remember_ok h4 h1.2.1 (by omega) (by omega)) (fun M1 hM1 => ?_)
  have f1 := hM1.2
  exact ⟨hM1.1, f1, (f1 x (by omega)).trans h0, h1.fr (fun q a1 a2 => f1 q (by omega))⟩
theorem c_bottom (h : CI M x w hi wi dm dd tl tx so si it) (a : Int32) (hF : 1000 ≤ F) : Ok (f_X8_bottom F x a M) (fun r => r.1 = (sBot a w dm dd).1 ∧ CI r.2 x (sBot a w dm dd).2.1 hi wi (sBot a w dm dd).2.2.1 (sBot a w dm dd).2.2.2 tl tx so si it ∧ Fr M r.2 (x + 1) (x + 79)) := by
  unfold f_X8_bottom sBot
  obtain ⟨h0, h1, h3, h4, h5', h6, h7, h8⟩ := id h
  have c0 := h0; have c1 := h1.1; have c2 := h1.2.1.1
  unfold CO at c0
  have ho := h8.1.1
  have h2 := ho.1
  have h5 := ho.2.1
  repeat (first | refine ok_b (gR_of (by assumption) (by rfl)) ?_ | refine ok_b (gI_of (by assumption) (by rfl)) ?_ | refine ok_b (ob_of (by assumption)) ?_)
  rcases isCode_ok (F := F) (M := M) a h2 h5 (by omega) with ⟨hc, e⟩ | ⟨hc, e⟩
  · refine ok_b e ?_
    refine ok_f (by decide) ?_
    simp only [if_pos hc]
    have hv : vC (w 0) a.toNatClampNeg ∧ a = nI a.toNatClampNeg := by
      obtain ⟨p, hp, rfl⟩ := hc
      have := en_b hp h5 (Nat.le_refl _)
      rw [nIc (by omega)]
      exact ⟨⟨p, hp, rfl⟩, rfl⟩
    obtain ⟨hp, he⟩ := vC_dg h2 h5 hv.1
    repeat (first | refine ok_b (gR_of (by assumption) (by rfl)) ?_ | refine ok_b (gI_of (by assumption) (by rfl)) ?_ | refine ok_b (ob_of (by assumption)) ?_)
    have hl := layCode_ok (F := F) h1.2.1 h2 h5 hp (by omega)
    rw [← he, ← hv.2] at hl
    refine ok_m hl (fun M1 hM1 => ?_)
    have f1 := hM1.2
    have d0 : M1 x = _ := (f1 x (by omega) (by omega)).trans c0
    have hD1 : DD M1 (x + 29) (w 0) dm dd := h4.fr (fun q a1 a2 => f1 q (by omega) (by omega))
    obtain ⟨e3, c3⟩ := hD1.cell
    repeat (first | refine ok_b (gR_of (by assumption) (by rfl)) ?_ | refine ok_b (gI_of (by assumption) (by rfl)) ?_ | refine ok_b (ob_of (by assumption)) ?_)
    refine ok_m (forget_ok hD1 (w 0)) (fun M2 hM2 => ?_)
    have f2 := hM2.2
    refine ok_v ⟨rfl, ?_, fun q hq => (f2 q (by omega)).trans (f1 q (by omega) (by omega))⟩
    refine h.rows (RW.fr hM1.1 (fun q a1 a2 => f2 q (by omega))) hM2.1 (fun q q1 q2 => (f2 q (by omega)).trans (f1 q (by omega) (by omega))) ?_ KD.z
    exact ⟨h2, h5, PM_cg (id_PM _) (fun k hk => by simp [ovF, hk]), PM_cg hp (fun k hk => by simp [ovF, hk]), ho.2.2.2.2⟩
  · refine ok_b e ?_
    refine ok_t rfl ?_
    simp only [if_neg hc]
    exact ok_v ⟨rfl, h, Fr.rf⟩
theorem c_length (h : CI M x w hi wi dm dd tl tx so si it) (a v : Int32) (hF : 1000 ≤ F) : Ok (f_X8_length F x a v M) (fun r => r.1 = (sLen a v w dm dd).1 ∧ CI r.2 x (sLen a v w dm dd).2.1 hi wi (sLen a v w dm dd).2.2.1 (sLen a v w dm dd).2.2.2 tl tx so si it ∧ Fr M r.2 (x + 1) (x + 79)) := by
  unfold f_X8_length sLen
  obtain ⟨h0, h1, h3, h4, h5', h6, h7, h8⟩ := id h
  have c0 := h0; have c1 := h1.1; have c2 := h1.2.1.1
  unfold CO at c0
  have ho := h8.1.1
  have h2 := ho.1
  have h5 := ho.2.1
  repeat (first | refine ok_b (gR_of (by assumption) (by rfl)) ?_ | refine ok_b (gI_of (by assumption) (by rfl)) ?_ | refine ok_b (ob_of (by assumption)) ?_)
  by_cases hc : isL (w 0) a
  · simp only [if_pos hc]
    obtain ⟨j, hj, rfl⟩ := hc
    refine ok_b (hasLetter_in h1.2.1 hj h5) ?_
    refine ok_f (by decide) ?_
    unfold f_X8_isLength
    by_cases q1 : v < 1
    · simp only [if_pos q1]
      exact ok_b rfl (ok_t rfl (ok_v ⟨rfl, h, Fr.rf⟩))
    · simp only [if_neg q1]
      by_cases q2 : 99 < v
      · simp only [if_pos q2]
        exact ok_b rfl (ok_t rfl (ok_v ⟨rfl, h, Fr.rf⟩))
      · simp only [if_neg q2]
        obtain ⟨m, hm1, hm2, rfl⟩ := rngN (a := v) 1 99 (by decide) (by decide) q1 (fa_of_nlt q2)
        refine ok_b rfl (ok_f (by decide) ?_)
        obtain ⟨e3, c3⟩ := h4.cell
        repeat (first | refine ok_b (gR_of (by assumption) (by rfl)) ?_ | refine ok_b (gI_of (by assumption) (by rfl)) ?_ | refine ok_b (ob_of (by assumption)) ?_)
        refine ok_m (c_rem h hF) (fun M1 hM1 => ?_)
        obtain ⟨g1, f1, d0, g2⟩ := hM1
        have d1 := g2.1; have d2 := g2.2.1.1
        unfold CO at d0
        repeat (first | refine ok_b (gR_of (by assumption) (by rfl)) ?_ | refine ok_b (gI_of (by assumption) (by rfl)) ?_ | refine ok_b (ob_of (by assumption)) ?_)
        rw [nIc (by omega), nIc (by omega)]
        refine ok_b (g2.2.1.2.2.2.rd j rfl (by omega) (by decide)) ?_
        repeat (first | refine ok_b (gR_of (by assumption) (by rfl)) ?_ | refine ok_b (gI_of (by assumption) (by rfl)) ?_ | refine ok_b (ob_of (by assumption)) ?_)
        refine ok_m (g2.2.1.2.2.2.wr j m rfl rfl (by omega) (by decide)) (fun M2 hM2 => ?_)
        have f2 := hM2.2
        refine ok_v ⟨rfl, ?_, fun q hq => (f2 q (by omega)).trans (f1 q (by omega))⟩
        refine h.rows ⟨(f2 _ (by omega)).trans d2, g2.2.1.2.1.fr (f2 _ (by omega)), g2.2.1.2.2.1.fr (f2 _ (by omega)), hM2.1⟩ (g1.fr (fun q a1 a2 => f2 q (by omega))) (fun q q1 q2 => (f2 q (by omega)).trans (f1 q (by omega))) ?_ (h8.2.2.1.keep ho)
        refine ⟨h2, h5, ho.2.2.1, ho.2.2.2.1, fun k hk => ?_⟩
        simp only [upN]
        by_cases q : k = j
        · rw [if_pos q]; omega
        · rw [if_neg q]; exact ho.2.2.2.2 k hk
  · simp only [if_neg hc]
    refine ok_b (hasLetter_out h1.2.1 (isL_no h5 hc)) ?_
    exact ok_t rfl (ok_v ⟨rfl, h, Fr.rf⟩)
theorem c_swap (h : CI M x w hi wi dm dd tl tx so si it) (a v : Int32) (hF : 1000 ≤ F) : Ok (f_X8_swap F x a v M) (fun r => r.1 = (sSwp a v w dm dd).1 ∧ CI r.2 x (sSwp a v w dm dd).2.1 hi wi (sSwp a v w dm dd).2.2.1 (sSwp a v w dm dd).2.2.2 tl tx so si it ∧ Fr M r.2 (x + 1) (x + 79)) := by
  unfold f_X8_swap
  obtain ⟨h0, h1, h3, h4, h5', h6, h7, h8⟩ := id h
  have c0 := h0; have c1 := h1.1; have c2 := h1.2.1.1
  unfold CO at c0
  have ho := h8.1.1
  have h2 := ho.1
  have h5 := ho.2.1
  repeat (first | refine ok_b (gR_of (by assumption) (by rfl)) ?_ | refine ok_b (gI_of (by assumption) (by rfl)) ?_ | refine ok_b (ob_of (by assumption)) ?_)
  by_cases hc : isL (w 0) a
  · obtain ⟨j, hj, rfl⟩ := id hc
    refine ok_b (hasLetter_in h1.2.1 hj h5) ?_
    refine ok_f (by decide) ?_
    repeat (first | refine ok_b (gR_of (by assumption) (by rfl)) ?_ | refine ok_b (gI_of (by assumption) (by rfl)) ?_ | refine ok_b (ob_of (by assumption)) ?_)
    by_cases hv : isL (w 0) v
    · obtain ⟨m, hm, rfl⟩ := id hv
      refine ok_b (hasLetter_in h1.2.1 hm h5) ?_
      refine ok_f (by decide) ?_
      by_cases q : nI j = nI m
      · rw [show sSwp (nI j) (nI m) w dm dd = (-1, w, dm, dd) from if_neg (fun z => z.2.2 q)]
        exact ok_t q (ok_v ⟨rfl, h, Fr.rf⟩)
      · have es : sSwp (nI j) (nI m) w dm dd = (1, rows3 w (rT w) (swF (rB w) (w 0) j m) (rL w) dm dd) := by
          have := nIc (n := j) (by omega); have := nIc (n := m) (by omega)
          unfold sSwp; rw [if_pos ⟨hc, hv, q⟩, nIc (by omega), nIc (by omega)]
        rw [es]
        refine ok_f q ?_
        have hjm : j ≠ m := fun e => q (by rw [e])
        obtain ⟨e3, c3⟩ := h4.cell
        repeat (first | refine ok_b (gR_of (by assumption) (by rfl)) ?_ | refine ok_b (gI_of (by assumption) (by rfl)) ?_ | refine ok_b (ob_of (by assumption)) ?_)
        refine ok_m (c_rem h hF) (fun M1 hM1 => ?_)
        obtain ⟨g1, f1, d0, g2⟩ := hM1
        have d1 := g2.1; have d2 := g2.2.1.1
        unfold CO at d0
        repeat (first | refine ok_b (gR_of (by assumption) (by rfl)) ?_ | refine ok_b (gI_of (by assumption) (by rfl)) ?_ | refine ok_b (ob_of (by assumption)) ?_)
        refine ok_m (swap_ok g2.2.1 h5 ho.2.2.2.1 hj hm (by omega)) (fun M2 hM2 => ?_)
        have f2 := hM2.2
        refine ok_v ⟨rfl, ?_, fun q hq => (f2 q (by omega)).trans (f1 q (by omega))⟩
        exact h.rows hM2.1 (g1.fr (fun q a1 a2 => f2 q (by omega))) (fun q q1 q2 => (f2 q (by omega)).trans (f1 q (by omega))) ⟨h2, h5, ho.2.2.1, swF_PM ho.2.2.2.1 hj hm hjm, ho.2.2.2.2⟩ (h8.2.2.1.keep ho)
    · rw [show sSwp (nI j) v w dm dd = (-1, w, dm, dd) from if_neg (fun z => hv z.2.1)]
      refine ok_b (hasLetter_out h1.2.1 (isL_no h5 hv)) ?_
      exact ok_t rfl (ok_v ⟨rfl, h, Fr.rf⟩)
  · rw [show sSwp a v w dm dd = (-1, w, dm, dd) from if_neg (fun z => hc z.1)]
    refine ok_b (hasLetter_out h1.2.1 (isL_no h5 hc)) ?_
    exact ok_t rfl (ok_v ⟨rfl, h, Fr.rf⟩)
theorem kd_c (ho : ORw w) : (kdW w = -1 ∧ rL w (rT w (w 0 - 1)) = rL w (rB w (w 0 - 1))) ∨ (kdW w = nI (kdN w) ∧ kdN w < 2 ∧ rL w (mF (kdN w) (rT w) (rB w) (w 0 - 1)) < rL w (sF (kdN w) (rT w) (rB w) (w 0 - 1))) := by
  unfold kdW kdI kdN
  by_cases c1 : rL w (rT w (w 0 - 1)) = rL w (rB w (w 0 - 1))
  · left; rw [if_pos c1]; exact ⟨rfl, c1⟩
  · right
    rw [if_neg c1]
    by_cases c2 : rL w (rT w (w 0 - 1)) ≤ rL w (rB w (w 0 - 1))
    · rw [if_pos c2, if_pos c2]
      refine ⟨rfl, by decide, ?_⟩
      simp only [mF, sF]
      simp only [Nat.one_ne_zero, if_false]
      omega
    · rw [if_neg c2, if_neg c2]
      refine ⟨rfl, by decide, ?_⟩
      simp only [mF, sF, if_true]
      omega
theorem c_step (h : CI M x w hi wi dm dd tl tx so si it) (hF : 1000 ≤ F) : Ok (f_X8_step F x M) (fun r => r.1 = (sStp w dm dd).1 ∧ CI r.2 x (sStp w dm dd).2.1 hi wi (sStp w dm dd).2.2.1 (sStp w dm dd).2.2.2 tl tx so si it ∧ Fr M r.2 (x + 1) (x + 79)) := by
  unfold f_X8_step
  obtain ⟨h0, h1, h3, h4, h5', h6, h7, h8⟩ := id h
  have c0 := h0; have c1 := h1.1; have c2 := h1.2.1.1
  unfold CO at c0
  have ho := h8.1.1
  repeat (first | refine ok_b (gR_of (by assumption) (by rfl)) ?_ | refine ok_b (gI_of (by assumption) (by rfl)) ?_ | refine ok_b (ob_of (by assumption)) ?_)
  refine ok_b (kindOfStep_ok h1.2.1 ho) ?_
  rcases kd_c ho with ⟨e, -⟩ | ⟨e, hk, hlt⟩
  · rw [show sStp w dm dd = (-3, w, dm, dd) from if_pos e]
    exact ok_t e (ok_v ⟨rfl, h, Fr.rf⟩)
  · have hne : kdW w ≠ -1 := by rw [e]; exact nI_m1 (by omega)
    rw [show sStp w dm dd = (kdW w, stW w dm dd) from if_neg hne]
    refine ok_f hne ?_
    obtain ⟨e3, c3⟩ := h4.cell
    repeat (first | refine ok_b (gR_of (by assumption) (by rfl)) ?_ | refine ok_b (gI_of (by assumption) (by rfl)) ?_ | refine ok_b (ob_of (by assumption)) ?_)
    refine ok_m (c_rem h hF) (fun M1 hM1 => ?_)
    obtain ⟨g1, f1, d0, g2⟩ := hM1
    have d1 := g2.1; have d2 := g2.2.1.1
    unfold CO at d0
    repeat (first | refine ok_b (gR_of (by assumption) (by rfl)) ?_ | refine ok_b (gI_of (by assumption) (by rfl)) ?_ | refine ok_b (ob_of (by assumption)) ?_)
    show Ok (Option.bind (f_X3_goStep F (x + 1 + 1) (kdW w) M1) (fun p => some (kdW w, p))) _
    rw [e]
    refine ok_m (goStep_ok g2.2.1 ho hk hlt (by omega)) (fun M2 hM2 => ?_)
    have f2 := hM2.2
    refine ok_v ⟨rfl, ?_, fun q hq => (f2 q (by omega) (by omega) (by omega)).trans (f1 q (by omega))⟩
    exact h.rows hM2.1 (g1.fr (fun q a1 a2 => f2 q (by omega) (by omega) (by omega))) (fun q q1 q2 => (f2 q (by omega) (by omega) (by omega)).trans (f1 q (by omega))) (step_OR ho hk hlt) (h8.2.2.1.keep ho)
theorem isKind_in {k : Nat} (hk : k < 2) : f_X8_isKind (nI k) M = some 1 := by
  rcases k01 hk with rfl | rfl <;> rfl
theorem isKind_out {a : Int32} (hk : ¬ isL 2 a) : f_X8_isKind a M = some 0 := by
  unfold f_X8_isKind
  exact cf (fun e => hk ⟨0, by omega, e⟩) (cf (fun e => hk ⟨1, by omega, e⟩) rfl)
theorem rf_c (k : Nat) (t b l : Nat → Nat) (n : Nat) : (rfI k t b l n = 0 ∧ bkP k t b n + 1 < n ∧ l (bkX k t b n) + l (bkY k t b n) ≤ 99) ∨ (¬ 0 ≤ rfI k t b l n ∧ rfI k t b l n ≠ 0) := by
  unfold rfI
  by_cases c : bkP k t b n + 1 < n
  · rw [if_pos c]
    by_cases c2 : l (bkX k t b n) + l (bkY k t b n) ≤ 99
    · rw [if_pos c2]; exact Or.inl ⟨rfl, c, c2⟩
    · rw [if_neg c2]; exact Or.inr (by decide)
  · rw [if_neg c]; exact Or.inr (by decide)
theorem c_back (h : CI M x w hi wi dm dd tl tx so si it) (a : Int32) (hF : 1000 ≤ F) : Ok (f_X8_back F x a M) (fun r => r.1 = (sBck a w dm dd).1 ∧ CI r.2 x (sBck a w dm dd).2.1 hi wi (sBck a w dm dd).2.2.1 (sBck a w dm dd).2.2.2 tl tx so si it ∧ Fr M r.2 (x + 1) (x + 79)) := by
  unfold f_X8_back
  by_cases hc : isL 2 a
  · obtain ⟨k, hk, rfl⟩ := id hc
    refine ok_b (isKind_in hk) (ok_f (by decide) ?_)
    obtain ⟨h0, h1, h3, h4, h5', h6, h7, h8⟩ := id h
    have c0 := h0; have c1 := h1.1; have c2 := h1.2.1.1
    unfold CO at c0
    have ho := h8.1.1
    repeat (first | refine ok_b (gR_of (by assumption) (by rfl)) ?_ | refine ok_b (gI_of (by assumption) (by rfl)) ?_ | refine ok_b (ob_of (by assumption)) ?_)
    refine ok_b (refusal_ok h1.2.1 ho hk (by omega)) ?_
    have es : sBck (nI k) w dm dd = if 0 ≤ rfI k (rT w) (rB w) (rL w) (w 0) then (nI (fb_sm (bcW k w) (w 0)), rows3 w (bcT k (rT w) (rB w) (w 0)) (bcB k (rT w) (rB w) (w 0)) (bcW k w) dm dd) else (rfI k (rT w) (rB w) (rL w) (w 0), w, dm, dd) := by
      unfold sBck; rw [if_pos hc, nIc (by omega)]
    rcases rf_c k (rT w) (rB w) (rL w) (w 0) with ⟨e, hp, h99⟩ | ⟨e, -⟩
    · have e0 : 0 ≤ rfI k (rT w) (rB w) (rL w) (w 0) := by rw [e]; decide
      rw [es.trans (if_pos e0)]
      refine ok_t e0 ?_
      obtain ⟨e3, c3⟩ := h4.cell
      repeat (first | refine ok_b (gR_of (by assumption) (by rfl)) ?_ | refine ok_b (gI_of (by assumption) (by rfl)) ?_ | refine ok_b (ob_of (by assumption)) ?_)
      refine ok_m (c_rem h hF) (fun M1 hM1 => ?_)
      obtain ⟨g1, f1, d0, g2⟩ := hM1
      have d1 := g2.1; have d2 := g2.2.1.1
      unfold CO at d0
      repeat (first | refine ok_b (gR_of (by assumption) (by rfl)) ?_ | refine ok_b (gI_of (by assumption) (by rfl)) ?_ | refine ok_b (ob_of (by assumption)) ?_)
      refine ok_m (goStepBack_ok g2.2.1 ho hk hp (by omega)) (fun M2 hM2 => ?_)
      have f2 := hM2.2
      have k0 : M2 x = _ := (f2 x (by omega) (by omega) (by omega)).trans d0
      have k1 : M2 (x + 1) = _ := (f2 (x + 1) (by omega) (by omega) (by omega)).trans d1
      have k2 := hM2.1.1
      repeat (first | refine ok_b (gR_of (by assumption) (by rfl)) ?_ | refine ok_b (gI_of (by assumption) (by rfl)) ?_ | refine ok_b (ob_of (by assumption)) ?_)
      refine ok_b (points_ok hM2.1 ho.2.1 (by omega)) ?_
      refine ok_v ⟨rfl, ?_, fun q hq => (f2 q (by omega) (by omega) (by omega)).trans (f1 q (by omega))⟩
      exact h.rows hM2.1 (g1.fr (fun q a1 a2 => f2 q (by omega) (by omega) (by omega))) (fun q q1 q2 => (f2 q (by omega) (by omega) (by omega)).trans (f1 q (by omega))) (back_OR ho hk hp h99) (h8.2.2.1.keep ho)
    · rw [es.trans (if_neg e)]
      exact ok_f e (ok_v ⟨rfl, h, Fr.rf⟩)
  · rw [show sBck a w dm dd = (-1, w, dm, dd) from if_neg hc]
    exact ok_b (isKind_out hc) (ok_t rfl (ok_v ⟨rfl, h, Fr.rf⟩))
theorem KD.pred {n : Nat} (h : KD n dm dd) (h0 : 0 < dm) : KD n (dm - 1) dd := ⟨by have := h.1; omega, fun j hj => h.2 j (by omega)⟩
theorem c_takeBack (h : CI M x w hi wi dm dd tl tx so si it) (hF : 1000 ≤ F) : Ok (f_X8_takeBack F x M) (fun r => r.1 = (sTak w dm dd).1 ∧ CI r.2 x (sTak w dm dd).2.1 hi wi (sTak w dm dd).2.2.1 (sTak w dm dd).2.2.2 tl tx so si it ∧ Fr M r.2 (x + 1) (x + 79)) := by
  unfold f_X8_takeBack
  obtain ⟨h0, h1, h3, h4, h5', h6, h7, h8⟩ := id h
  have c0 := h0; have c1 := h1.1; have c2 := h1.2.1.1
  unfold CO at c0
  obtain ⟨e3, c3⟩ := h4.cell
  have hd := h8.2.2.1.1
  repeat (first | refine ok_b (gR_of (by assumption) (by rfl)) ?_ | refine ok_b (gI_of (by assumption) (by rfl)) ?_ | refine ok_b (ob_of (by assumption)) ?_)
  by_cases q : dm = 0
  · rw [show sTak w dm dd = (-3, w, dm, dd) from if_pos q]
    exact ok_t (by rw [q]; rfl) (ok_v ⟨rfl, h, Fr.rf⟩)
  · rw [show sTak w dm dd = _ from if_neg q]
    refine ok_f (nI_ne0 (by omega) (by omega)) ?_
    repeat (first | refine ok_b (gR_of (by assumption) (by rfl)) ?_ | refine ok_b (gI_of (by assumption) (by rfl)) ?_ | refine ok_b (ob_of (by assumption)) ?_)
    refine ok_m (restore_ok h4 (by omega) h1.2.1 (by omega) (by omega)) (fun M1 hM1 => ?_)
    obtain ⟨g1, g2, f1⟩ := hM1
    have d0 : M1 x = _ := (f1 x (by omega) (by omega)).trans c0
    obtain ⟨e4, d3⟩ := g1.cell
    repeat (first | refine ok_b (gR_of (by assumption) (by rfl)) ?_ | refine ok_b (gI_of (by assumption) (by rfl)) ?_ | refine ok_b (ob_of (by assumption)) ?_)
    refine ok_v ⟨rfl, ?_, fun q hq => f1 q (by omega) (by omega)⟩
    exact h.rows g2 g1 (fun q q1 q2 => f1 q (by omega) (by omega)) (h8.2.2.1.2 _ (by omega)) (h8.2.2.1.pred (by omega))
theorem c_keep (h : CI M x w hi wi dm dd tl tx so si it) (hF : 1000 ≤ F) : Ok (f_X8_keep F x M) (fun r => r.1 = (sKep w dm dd).1 ∧ CI r.2 x (sKep w dm dd).2.1 hi wi (sKep w dm dd).2.2.1 (sKep w dm dd).2.2.2 tl tx so si it ∧ Fr M r.2 (x + 1) (x + 79)) := by
  unfold f_X8_keep sKep
  obtain ⟨h0, h1, h3, h4, h5', h6, h7, h8⟩ := id h
  have c0 := h0; have c1 := h1.1; have c2 := h1.2.1.1
  unfold CO at c0
  have ho := h8.1.1
  repeat (first | refine ok_b (gR_of (by assumption) (by rfl)) ?_ | refine ok_b (gI_of (by assumption) (by rfl)) ?_ | refine ok_b (ob_of (by assumption)) ?_)
  refine ok_b (codeNow_ok h1.2.1 ho.2.1 ho.2.2.1 ho.2.2.2.1 (by omega)) ?_
  refine ok_b (put_of c1 (by simp)) ?_
  generalize hm : x_up M (x + 1) _ = M1
  have f1 : ∀ q, q ≠ x + 1 → M1 q = M q := fun q hq => by subst hm; exact up_n hq
  have d0 : M1 x = _ := (f1 x (by omega)).trans c0
  have d1 : M1 (x + 1) = some (.inr (4, [.ref (x + 1 + 1), .int (nI (cdW w)), .ref (x + 1 + 5), .ref (x + 1 + 8), .ref (x + 1 + 11)])) := by subst hm; rw [up_s]; rfl
  repeat (first | refine ok_b (gR_of (by assumption) (by rfl)) ?_ | refine ok_b (gI_of (by assumption) (by rfl)) ?_ | refine ok_b (ob_of (by assumption)) ?_)
  refine ok_v ⟨rfl, ?_, fun q hq => f1 q (by omega)⟩
  have hw : ∀ k, k ≠ 1 → upN w 1 (cdW w) k = w k := fun k hk => upN_n hk
  refine h.set ⟨d1, ?_, ?_, ?_, ?_⟩ ?_ (fun q q1 q2 => f1 q (by omega)) ?_ ?_
  · exact (h1.2.1.fr (fun q a1 a2 => f1 q (by omega))).cg (fun k hk => (hw _ (by omega)).symm) (fun k hk => (hw _ (by omega)).symm) (fun k hk => (hw _ (by omega)).symm)
  · exact (h1.2.2.1.fr (fun q a1 a2 => f1 q (by omega))).cg (fun i hi => ⟨(hw _ (by omega)).symm, (hw _ (by omega)).symm⟩)
  · exact (h1.2.2.2.1.fr (fun q a1 a2 => f1 q (by omega))).cg (fun i hi => ⟨(hw _ (by omega)).symm, (hw _ (by omega)).symm⟩)
  · exact (h1.2.2.2.2.fr (fun q a1 a2 => f1 q (by omega))).cg (fun i hi => ⟨(hw _ (by omega)).symm, (hw _ (by omega)).symm⟩)
  · exact h4.fr (fun q a1 a2 => f1 q (by omega))
  · refine h8.1.cg ?_ ?_ (fun k k1 _ => hw k (by omega))
    · exact OR.cg ho (fun k hk => (hw _ (by omega)).symm) (fun k hk => (hw _ (by omega)).symm) (fun k hk => (hw _ (by omega)).symm)
    · show upN w 1 (cdW w) 1 < 100000
      rw [upN_s]; exact cdW_lt ho
  · exact h8.2.2.1
end DEEDS8
