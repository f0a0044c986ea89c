-- WHAT IS TOLD
def ptW (w : Nat → Nat) : Nat := fb_sm (rL w) (w 0)
def gW (w : Nat → Nat) : Nat → Nat := gt (w 0) (rT w) (rB w) (rL w)
def whW (w : Nat → Nat) : Int32 := whI (rT w) (rB w) (w 0)
theorem bfW_ex (w : Nat → Nat) : ∃ s, s = bf (w 0) (cdW w) 120 := ⟨_, rfl⟩
noncomputable def bfW (w : Nat → Nat) : BS := Classical.choose (bfW_ex w)
theorem bfW_def (w : Nat → Nat) : bfW w = bf (w 0) (cdW w) 120 := Classical.choose_spec (bfW_ex w)
def crW (w : Nat → Nat) : Nat := crN (w 0) (rT w) (rB w)
def stR (w : Nat → Nat) : Nat → Nat := wR w (stT (kdN w) (rT w) (rB w) (w 0)) (stB (kdN w) (rT w) (rB w) (w 0)) (stL (kdN w) (rT w) (rB w) (rL w) (w 0))
def ndW (w : Nat → Nat) : Nat → Nat → Nat
  | 0 => w
  | k + 1 => stR (ndW w k)
theorem enW_ex (w : Nat → Nat) : ∃ s, s = fa_first (fun k => decide (kdW (ndW w k) = -1)) 9999 := ⟨_, rfl⟩
noncomputable def enW (w : Nat → Nat) : Nat := Classical.choose (enW_ex w)
theorem enW_def (w : Nat → Nat) : enW w = fa_first (fun k => decide (kdW (ndW w k) = -1)) 9999 := Classical.choose_spec (enW_ex w)
theorem enW_le (w : Nat → Nat) : enW w ≤ 9999 := by rw [enW_def]; exact fa_first_le _ _
theorem enW_no {w : Nat → Nat} {i : Nat} (h : i < enW w) : kdW (ndW w i) ≠ -1 := by
  rw [enW_def] at h
  have := fa_first_no (fun k => decide (kdW (ndW w k) = -1)) 9999 i h
  simpa only [decide_eq_false_iff_not] using this
theorem enW_yes {w : Nat → Nat} (h : enW w < 9999) : kdW (ndW w (enW w)) = -1 := by
  rw [enW_def] at h ⊢
  have := fa_first_yes (fun k => decide (kdW (ndW w k) = -1)) 9999 h
  simpa only [decide_eq_true_eq] using this
def perG (g : Nat → Nat) (m p : Nat) : Nat := fa_first (fun c => decide (itr g (c + 1) p = p)) m + 1
noncomputable def aStp (w : Nat → Nat) : Int32 := if fx (bfW w).1 (w 1) (bfW w).2.2 < (bfW w).2.2 then nI ((bfW w).2.1 (fx (bfW w).1 (w 1) (bfW w).2.2)) else -5
noncomputable def tldN (w : Nat → Nat) : Nat → Int32
  | 0 => nI (w 0)
  | 1 => nI (ptW w)
  | 2 => nI (cdW w)
  | 3 => nI (w 1)
  | 4 => if whW w = 0 then 0 else 1
  | 5 => nI (bfW w).2.2
  | 6 => aStp w
  | 7 => nI (crW w)
  | 8 => if whW w = 0 then -5 else (nI (w 0) + 1 - nI (crW w)) / 2
  | 9 => nI (rs (gW w) (ptW w) (ptW w)).2
  | _ => nI (enW w)
noncomputable def aTld (a : Int32) (w : Nat → Nat) : Int32 := @ite _ (isL 11 a) (Classical.propDecidable _) (tldN w a.toNatClampNeg) (-1)
theorem perG_eq {g : Nat → Nat} {m p c : Nat} (h1 : 1 ≤ c) (h2 : c ≤ m) (h3 : itr g c p = p) (h4 : ∀ k, 1 ≤ k → k < c → itr g k p ≠ p) : perG g m p = c := by
  unfold perG
  have hle := fa_first_le (fun c => decide (itr g (c + 1) p = p)) m
  have a1 : fa_first (fun c => decide (itr g (c + 1) p = p)) m ≤ c - 1 := by
    rcases Nat.lt_or_ge (c - 1) (fa_first (fun c => decide (itr g (c + 1) p = p)) m) with q | q
    · have := fa_first_no (fun c => decide (itr g (c + 1) p = p)) m (c - 1) q
      simp only [decide_eq_false_iff_not] at this
      rw [show c - 1 + 1 = c by omega] at this
      exact absurd h3 this
    · exact q
  rcases Nat.lt_or_ge (fa_first (fun c => decide (itr g (c + 1) p = p)) m) (c - 1) with q | q
  · have := fa_first_yes (fun c => decide (itr g (c + 1) p = p)) m (by omega)
    simp only [decide_eq_true_eq] at this
    exact absurd this (h4 _ (by omega) (by omega))
  · omega
theorem cdW_vC {w : Nat → Nat} (h : ORw w) : vC (w 0) (cdW w) := by
  obtain ⟨h2, h5, ht, hb, hl⟩ := h
  refine ⟨fun j => pl (rT w) (rB w j) (w 0), ⟨fun k hk => (ht.pls (hb.1 k hk)).1, fun i j hij hj e => ?_⟩, cdN_en _ _ _ _⟩
  have a1 := (ht.pls (hb.1 i (by omega))).2
  have a2 := (ht.pls (hb.1 j hj)).2
  dsimp only at e
  rw [e, a2] at a1
  exact hb.2 i j hij hj a1.symm
theorem stR_OR {w : Nat → Nat} (h : ORw w) (hn : kdW w ≠ -1) : ORw (stR w) ∧ stR w 0 = w 0 := by
  rcases kd_c h with ⟨e, -⟩ | ⟨e, hk, hlt⟩
  · exact absurd e hn
  · exact ⟨(step_OR h hk hlt).toW, wR_o (by omega)⟩
section ASK2
variable {M : XM} {F x : Nat} {w wi dd tx si : Nat → Nat} {hi : Bool} {dm tl : Nat} {so : Nat → Int32} {it : Nat → Int64}
theorem CI.sc {M' : XM} (h : CI M x w hi wi dm dd tl tx so si it) (hC : SC M' x) (fr : Fr M M' (x + 84) (x + 98)) : CI M' x w hi wi dm dd tl tx so si it := by
  obtain ⟨h0, h1, h3, h4, h5, h6, h7, h8⟩ := h
  exact ⟨(fr x (by omega)).trans h0, h1.fr (fun q a1 a2 => fr q (by omega)), h3.fr (fun q a1 a2 => fr q (by omega)), h4.fr (fun q a1 a2 => fr q (by omega)), h5.fr (fun q a1 a2 => fr q (by omega)), hC, h7.fr (fun q a1 a2 => fr q (by omega)), h8⟩
theorem CI.line {M' : XM} (h : CI M x w hi wi dm dd tl tx so si it) {m : Nat} {g : Nat → Nat} {z : Nat → Int32} (hL : LN M' (x + 84) m g z) (fr : Fr M M' (x + 84) (x + 87)) : CI M' x w hi wi dm dd tl tx so si it := by
  obtain ⟨s1, ⟨cs, ds, c, s2⟩, n, t, b, l, s3⟩ := h.2.2.2.2.2.1
  exact h.sc ⟨⟨m, g, z, hL⟩, ⟨cs, ds, c, s2.fr (fun q a1 a2 => fr q (by omega))⟩, n, t, b, l, s3.fr (fun q a1 a2 => fr q (by omega))⟩ (fr.mono _ _ (by omega) (by omega))
theorem CI.shapes {M' : XM} (h : CI M x w hi wi dm dd tl tx so si it) {c : Nat} {cs ds : Nat → Nat} (hH : SH M' (x + 87) cs ds c) (fr : Fr M M' (x + 87) (x + 94)) : CI M' x w hi wi dm dd tl tx so si it := by
  obtain ⟨⟨m, g, z, s1⟩, s2, n, t, b, l, s3⟩ := h.2.2.2.2.2.1
  exact h.sc ⟨⟨m, g, z, s1.fr (fun q a1 a2 => fr q (by omega))⟩, ⟨cs, ds, c, hH⟩, n, t, b, l, s3.fr (fun q a1 a2 => fr q (by omega))⟩ (fr.mono _ _ (by omega) (by omega))
theorem CI.trial {M' : XM} (h : CI M x w hi wi dm dd tl tx so si it) {n : Nat} {t b l : Nat → Nat} (hR : RW M' (x + 94) n t b l) (fr : Fr M M' (x + 94) (x + 98)) : CI M' x w hi wi dm dd tl tx so si it := by
  obtain ⟨⟨m, g, z, s1⟩, ⟨cs, ds, c, s2⟩, s3⟩ := h.2.2.2.2.2.1
  exact h.sc ⟨⟨m, g, z, s1.fr (fun q a1 a2 => fr q (by omega))⟩, ⟨cs, ds, c, s2.fr (fun q a1 a2 => fr q (by omega))⟩, n, t, b, l, hR⟩ (fr.mono _ _ (by omega) (by omega))
theorem c_lay (h : CI M x w hi wi dm dd tl tx so si it) (hF : 1000 ≤ F) : Ok (f_X1_lay F (x + 84) (x + 1 + 1) M) (fun M' => (∃ g z, LN M' (x + 84) (ptW w) g z ∧ ∀ p, p < ptW w → g p = gW w p) ∧ Fr M M' (x + 84) (x + 87) ∧ CI M' x w hi wi dm dd tl tx so si it) := by
  obtain ⟨⟨m, g, z, s1⟩, -⟩ := h.2.2.2.2.2.1
  refine ok_w (lay_ok h.2.1.2.1 h.2.2.2.2.2.2.2.1.1 s1 (by omega) hF) (fun M' hM => ?_)
  obtain ⟨⟨g', h1, h2⟩, fr⟩ := hM
  exact ⟨⟨g', z, h1, h2⟩, fr, h.line h1 fr⟩
theorem gW_lt (ho : ORw w) : ∀ p, p < ptW w → gW w p < ptW w := fun p hp => gt_lt ho hp
theorem gW_in (ho : ORw w) : ∀ p q, p < ptW w → q < ptW w → gW w p = gW w q → p = q := fun p q hp hq e => gt_inj ho hp hq e
theorem c_rounds (h : CI M x w hi wi dm dd tl tx so si it) (hF : 1000 ≤ F) : Ok (f_X8_rounds F x M) (fun r => r.1 = nI (rs (gW w) (ptW w) (ptW w)).2 ∧ CI r.2 x w hi wi dm dd tl tx so si it ∧ Fr M r.2 x (x + 111)) := by
  obtain ⟨h0, h1, h3, h4, h5, h6, h7, h8⟩ := id h
  have c0 := h0; have c1 := h1.1; have c2 := h1.2.1.1
  unfold CO at c0
  obtain ⟨⟨m, g, z, s1⟩, -⟩ := h6
  have c3 := s1.1
  unfold f_X8_rounds
  iterate 4 (first | refine ok_b (gR_of (by assumption) (by rfl)) ?_ | refine ok_b (gI_of (by assumption) (by rfl)) ?_ | refine ok_b (ob_of (by assumption)) ?_)
  refine ok_m (c_lay h hF) (fun M1 hM1 => ?_)
  obtain ⟨⟨g1, z1, hL, hg⟩, f1, hC1⟩ := hM1
  have d0 := hC1.1; have d3 := hL.1
  unfold CO at d0
  iterate 2 (first | refine ok_b (gR_of (by assumption) (by rfl)) ?_ | refine ok_b (gI_of (by assumption) (by rfl)) ?_ | refine ok_b (ob_of (by assumption)) ?_)
  have hgl : ∀ p, p < ptW w → g1 p < ptW w := fun p hp => by rw [hg p hp]; exact gW_lt h8.1.1 p hp
  refine ok_m (lrounds_ok hL (tot_le h8.1.1).1 hgl hF) (fun r hr => ?_)
  obtain ⟨v, ⟨z', hL'⟩, f2⟩ := hr
  refine ok_v ⟨?_, hC1.line hL' f2, (f1.tr f2).mono _ _ (by omega) (by omega)⟩
  rw [v, rs_cg hgl hg (Nat.le_refl _)]
theorem c_expl (h : CI M x w hi wi dm dd tl tx so si it) (hF : 1000 ≤ F) : Ok (f_X8_exploreClass F x M) (fun r => r.1 = nI (bfW w).2.2 ∧ (∃ cs ds, SH r.2 (x + 87) cs ds (bfW w).2.2 ∧ ∀ i, i < (bfW w).2.2 → cs i = (bfW w).1 i ∧ ds i = (bfW w).2.1 i) ∧ Fr M r.2 (x + 87) (x + 94) ∧ CI r.2 x w hi wi dm dd tl tx so si it) := by
  obtain ⟨h0, h1, h3, h4, h5, h6, h7, h8⟩ := id h
  have c0 := h0; have c1 := h1.1; have c2 := h1.2.1.1
  unfold CO at c0
  obtain ⟨-, ⟨cs, ds, c, s2⟩, -⟩ := h6
  have c3 := s2.1
  have ho := h8.1.1
  unfold f_X8_exploreClass
  iterate 4 (first | refine ok_b (gR_of (by assumption) (by rfl)) ?_ | refine ok_b (gI_of (by assumption) (by rfl)) ?_ | refine ok_b (ob_of (by assumption)) ?_)
  refine ok_b (codeNow_ok h1.2.1 ho.2.1 ho.2.2.1 ho.2.2.2.1 (by omega)) ?_
  iterate 4 (first | refine ok_b (gR_of (by assumption) (by rfl)) ?_ | refine ok_b (gI_of (by assumption) (by rfl)) ?_ | refine ok_b (ob_of (by assumption)) ?_)
  refine ok_m (explore_ok s2 ho.1 ho.2.1 (cdW_vC ho) hF) (fun M1 hM1 => ?_)
  rw [← show bfW w = bf (w 0) (cdN (rT w) (rB w) (w 0) (w 0)) 120 from bfW_def w] at hM1
  obtain ⟨⟨cs', ds', hH, he⟩, f1⟩ := hM1
  have hC := h.shapes hH f1
  have d0 := hC.1; have d3 := hH.1
  unfold CO at d0
  refine ok_b (gR_of d0 rfl) ?_
  refine ok_b (gI_of d3 rfl) ?_
  exact ok_v ⟨rfl, ⟨cs', ds', hH, he⟩, f1, hC⟩
theorem bfW_ok (ho : ORw w) : okB (w 0) (bfW w) ∧ (bfW w).2.2 ≤ 120 := by
  have := (bf_ok ho.1 ho.2.1 (cdW_vC ho) 120 (by omega)).1
  rw [← bfW_def] at this
  exact ⟨this, this.c ho.1 ho.2.1⟩
theorem c_stk (h : CI M x w hi wi dm dd tl tx so si it) (hF : 1000 ≤ F) : Ok (f_X8_stepsToKept F x M) (fun r => r.1 = aStp w ∧ CI r.2 x w hi wi dm dd tl tx so si it ∧ Fr M r.2 x (x + 111)) := by
  obtain ⟨h0, h1, h3, h4, h5, h6, h7, h8⟩ := id h
  have c0 := h0
  unfold CO at c0
  unfold f_X8_stepsToKept
  iterate 1 (first | refine ok_b (gR_of (by assumption) (by rfl)) ?_ | refine ok_b (gI_of (by assumption) (by rfl)) ?_ | refine ok_b (ob_of (by assumption)) ?_)
  refine ok_m (c_expl h hF) (fun r hr => ?_)
  obtain ⟨v, ⟨cs, ds, hH, he⟩, f1, hC⟩ := hr
  have d0 := hC.1; have d1 := hC.2.1.1; have d3 := hH.1
  unfold CO at d0
  have hb := bfW_ok h8.1.1
  iterate 4 (first | refine ok_b (gR_of (by assumption) (by rfl)) ?_ | refine ok_b (gI_of (by assumption) (by rfl)) ?_ | refine ok_b (ob_of (by assumption)) ?_)
  refine ok_b (stepsTo_ok hH hb.2 (fun i hi => by rw [(he i hi).1]; exact vC_lt h8.1.1.2.1 (hb.1.2.1 i hi)) h8.1.2.1 hF) ?_
  refine ok_v ⟨?_, hC, f1.mono _ _ (by omega) (by omega)⟩
  show _ = aStp w
  unfold aStp
  rw [fx_cg (fun i hi => (he i hi).1)]
  by_cases c : fx (bfW w).1 (w 1) (bfW w).2.2 < (bfW w).2.2
  · rw [if_pos c, if_pos c, (he _ c).2]
  · rw [if_neg c, if_neg c]
theorem c_genus (h : CI M x w hi wi dm dd tl tx so si it) (hF : 1000 ≤ F) : f_X8_genus F x M = some (if whW w = 0 then -5 else (nI (w 0) + 1 - nI (crW w)) / 2) := by
  obtain ⟨h0, h1, h3, h4, h5, h6, h7, h8⟩ := id h
  have c0 := h0; have c1 := h1.1; have c2 := h1.2.1.1
  unfold CO at c0
  have ho := h8.1.1
  unfold f_X8_genus
  iterate 3 (first | refine bs (gR_of (by assumption) (by rfl)) ?_ | refine bs (gI_of (by assumption) (by rfl)) ?_ | refine bs (ob_of (by assumption)) ?_)
  refine bs (isWhole_ok h1.2.1 ho.2.1 (by have := ho.1; omega) (by omega)) ?_
  by_cases q : whW w = 0
  · rw [if_pos q]; exact ct q rfl
  · rw [if_neg q]
    refine cf q ?_
    iterate 6 (first | refine bs (gR_of (by assumption) (by rfl)) ?_ | refine bs (gI_of (by assumption) (by rfl)) ?_ | refine bs (ob_of (by assumption)) ?_)
    exact bs (corners_ok h1.2.1 ho (by omega)) rfl
theorem c_ends (h : CI M x w hi wi dm dd tl tx so si it) (hF : 20000 ≤ F) : Ok (f_X8_ends F x M) (fun r => r.1 = nI (enW w) ∧ CI r.2 x w hi wi dm dd tl tx so si it ∧ Fr M r.2 x (x + 111)) := by
  obtain ⟨h0, h1, h3, h4, h5, h6, h7, h8⟩ := id h
  have c0 := h0; have c1 := h1.1; have c2 := h1.2.1.1
  unfold CO at c0
  obtain ⟨-, -, n, t, b, l, s3⟩ := h6
  have c3 := s3.1
  have ho := h8.1.1
  have hle := enW_le w
  unfold f_X8_ends
  iterate 4 (first | refine ok_b (gR_of (by assumption) (by rfl)) ?_ | refine ok_b (gI_of (by assumption) (by rfl)) ?_ | refine ok_b (ob_of (by assumption)) ?_)
  refine ok_m (copyFrom_ok s3 h1.2.1 (by omega) (by omega)) (fun M1 hM1 => ?_)
  refine ok_loop (I := fun k q => q.1 = nI k ∧ RWw q.2 (x + 94) (ndW w k) ∧ ORw (ndW w k) ∧ ndW w k 0 = w 0 ∧ Fr M q.2 (x + 94) (x + 98)) (enW w) ?_ ?_ (enW w) 0 F _ (by omega) (by omega) ⟨rfl, (show RWw M1 (x + 94) w from hM1.1), ho, rfl, hM1.2⟩
  · rintro k i ⟨q1, q2⟩ hi ⟨rfl, gR, gO, g0, fr⟩ hk
    dsimp only at gR fr
    have hno := enW_no hi
    have hC := h.trial gR fr
    have d0 := hC.1; have d3 := gR.1
    unfold CO at d0
    unfold b_X8_ends_16
    refine ok_f (nI_ge (b := 9999) (by omega) (by omega)) ?_
    iterate 2 (first | refine ok_b (gR_of (by assumption) (by rfl)) ?_ | refine ok_b (gI_of (by assumption) (by rfl)) ?_ | refine ok_b (ob_of (by assumption)) ?_)
    refine ok_b (kindOfStep_ok gR gO) ?_
    refine ok_f hno ?_
    iterate 2 (first | refine ok_b (gR_of (by assumption) (by rfl)) ?_ | refine ok_b (gI_of (by assumption) (by rfl)) ?_ | refine ok_b (ob_of (by assumption)) ?_)
    rcases kd_c gO with ⟨e, -⟩ | ⟨e, hk2, hlt⟩
    · exact absurd e hno
    · have hs := stR_OR gO hno
      show Ok (Option.bind (f_X3_goStep F (x + 94) (kdW (ndW w i)) q2) _) _
      rw [e]
      refine ok_m (goStep_ok gR gO hk2 hlt (by omega)) (fun M2 hM2 => ?_)
      exact hk _ ⟨e1 i, RW.toW hM2.1, hs.1, hs.2.trans g0, fr.tr (fun q hq => hM2.2 q (by omega) (by omega) (by omega))⟩
  · rintro k ⟨q1, q2⟩ ⟨rfl, gR, gO, g0, fr⟩
    dsimp only at gR fr
    have hC := h.trial gR fr
    have d0 := hC.1; have d3 := gR.1
    unfold CO at d0
    unfold b_X8_ends_16
    by_cases c : enW w < 9999
    · refine ok_f (nI_ge (b := 9999) c (by omega)) ?_
      have hyes := enW_yes c
      iterate 2 (first | refine ok_b (gR_of (by assumption) (by rfl)) ?_ | refine ok_b (gI_of (by assumption) (by rfl)) ?_ | refine ok_b (ob_of (by assumption)) ?_)
      refine ok_b (kindOfStep_ok gR gO) ?_
      exact ok_t hyes (ok_v ⟨rfl, hC, fr.mono _ _ (by omega) (by omega)⟩)
    · have e : enW w = 9999 := by omega
      refine ok_t (nI_le (a := 9999) (b := enW w) (by omega) (by omega)) (ok_v ⟨?_, hC, fr.mono _ _ (by omega) (by omega)⟩)
      rw [e]; rfl
theorem c_told (h : CI M x w hi wi dm dd tl tx so si it) (a : Int32) (hF : 20000 ≤ F) : Ok (f_X8_told F x a M) (fun r => r.1 = aTld a w ∧ CI r.2 x w hi wi dm dd tl tx so si it ∧ Fr M r.2 x (x + 111)) := by
  obtain ⟨h0, h1, h3, h4, h5, h6, h7, h8⟩ := id h
  have c0 := h0; have c1 := h1.1; have c2 := h1.2.1.1
  unfold CO at c0
  have ho := h8.1.1
  unfold f_X8_told
  by_cases qa : isL 11 a
  · rw [show aTld a w = _ from if_pos qa]
    obtain ⟨j, hj, rfl⟩ := qa
    rw [nIc (by omega)]
    have hp2 : ∀ {y : Option (Int32 × XM)} {P : Int32 × XM → Prop}, Ok y P → Ok (y.bind fun p => some (p.1, p.2)) P := fun {y P} hy => ok_m hy (fun v hv => ok_v hv)
    rcases (show j = 0 ∨ j = 1 ∨ j = 2 ∨ j = 3 ∨ j = 4 ∨ j = 5 ∨ j = 6 ∨ j = 7 ∨ j = 8 ∨ j = 9 ∨ j = 10 by omega) with rfl | rfl | rfl | rfl | rfl | rfl | rfl | rfl | rfl | rfl | rfl
    · refine ok_t rfl ?_
      iterate 3 (first | refine ok_b (gR_of (by assumption) (by rfl)) ?_ | refine ok_b (gI_of (by assumption) (by rfl)) ?_ | refine ok_b (ob_of (by assumption)) ?_)
      exact ok_v ⟨rfl, h, Fr.rf⟩
    · refine ok_f (by decide) (ok_t rfl ?_)
      iterate 3 (first | refine ok_b (gR_of (by assumption) (by rfl)) ?_ | refine ok_b (gI_of (by assumption) (by rfl)) ?_ | refine ok_b (ob_of (by assumption)) ?_)
      exact ok_b (points_ok h1.2.1 ho.2.1 (by omega)) (ok_v ⟨rfl, h, Fr.rf⟩)
    · refine ok_f (by decide) (ok_f (by decide) (ok_t rfl ?_))
      iterate 3 (first | refine ok_b (gR_of (by assumption) (by rfl)) ?_ | refine ok_b (gI_of (by assumption) (by rfl)) ?_ | refine ok_b (ob_of (by assumption)) ?_)
      exact ok_b (codeNow_ok h1.2.1 ho.2.1 ho.2.2.1 ho.2.2.2.1 (by omega)) (ok_v ⟨rfl, h, Fr.rf⟩)
    · refine ok_f (by decide) (ok_f (by decide) (ok_f (by decide) (ok_t rfl ?_)))
      iterate 2 (first | refine ok_b (gR_of (by assumption) (by rfl)) ?_ | refine ok_b (gI_of (by assumption) (by rfl)) ?_ | refine ok_b (ob_of (by assumption)) ?_)
      exact ok_v ⟨rfl, h, Fr.rf⟩
    · refine ok_f (by decide) (ok_f (by decide) (ok_f (by decide) (ok_f (by decide) (ok_t rfl ?_))))
      iterate 3 (first | refine ok_b (gR_of (by assumption) (by rfl)) ?_ | refine ok_b (gI_of (by assumption) (by rfl)) ?_ | refine ok_b (ob_of (by assumption)) ?_)
      refine ok_b (isWhole_ok h1.2.1 ho.2.1 (by have := ho.1; omega) (by omega)) ?_
      show Ok (if whW w = 0 then _ else _) (fun (r : Int32 × XM) => r.1 = (if whW w = 0 then 0 else 1) ∧ CI r.2 x w hi wi dm dd tl tx so si it ∧ Fr M r.2 x (x + 111))
      by_cases q : whW w = 0
      · rw [if_pos q]; exact ok_v ⟨(if_pos q).symm, h, Fr.rf⟩
      · rw [if_neg q]; exact ok_v ⟨(if_neg q).symm, h, Fr.rf⟩
    · refine ok_f (by decide) (ok_f (by decide) (ok_f (by decide) (ok_f (by decide) (ok_f (by decide) (ok_t rfl ?_)))))
      iterate 1 (first | refine ok_b (gR_of (by assumption) (by rfl)) ?_ | refine ok_b (gI_of (by assumption) (by rfl)) ?_ | refine ok_b (ob_of (by assumption)) ?_)
      exact hp2 (ok_w (c_expl h (by omega)) (fun r hr => ⟨hr.1, hr.2.2.2, hr.2.2.1.mono _ _ (by omega) (by omega)⟩))
    · refine ok_f (by decide) (ok_f (by decide) (ok_f (by decide) (ok_f (by decide) (ok_f (by decide) (ok_f (by decide) (ok_t rfl ?_))))))
      iterate 1 (first | refine ok_b (gR_of (by assumption) (by rfl)) ?_ | refine ok_b (gI_of (by assumption) (by rfl)) ?_ | refine ok_b (ob_of (by assumption)) ?_)
      exact hp2 (c_stk h (by omega))
    · refine ok_f (by decide) (ok_f (by decide) (ok_f (by decide) (ok_f (by decide) (ok_f (by decide) (ok_f (by decide) (ok_f (by decide) (ok_t rfl ?_)))))))
      iterate 3 (first | refine ok_b (gR_of (by assumption) (by rfl)) ?_ | refine ok_b (gI_of (by assumption) (by rfl)) ?_ | refine ok_b (ob_of (by assumption)) ?_)
      exact ok_b (corners_ok h1.2.1 ho (by omega)) (ok_v ⟨rfl, h, Fr.rf⟩)
    · refine ok_f (by decide) (ok_f (by decide) (ok_f (by decide) (ok_f (by decide) (ok_f (by decide) (ok_f (by decide) (ok_f (by decide) (ok_f (by decide) (ok_t rfl ?_))))))))
      iterate 1 (first | refine ok_b (gR_of (by assumption) (by rfl)) ?_ | refine ok_b (gI_of (by assumption) (by rfl)) ?_ | refine ok_b (ob_of (by assumption)) ?_)
      exact ok_b (c_genus h (by omega)) (ok_v ⟨rfl, h, Fr.rf⟩)
    · refine ok_f (by decide) (ok_f (by decide) (ok_f (by decide) (ok_f (by decide) (ok_f (by decide) (ok_f (by decide) (ok_f (by decide) (ok_f (by decide) (ok_f (by decide) (ok_t rfl ?_)))))))))
      iterate 1 (first | refine ok_b (gR_of (by assumption) (by rfl)) ?_ | refine ok_b (gI_of (by assumption) (by rfl)) ?_ | refine ok_b (ob_of (by assumption)) ?_)
      exact hp2 (c_rounds h (by omega))
    · refine ok_f (by decide) (ok_f (by decide) (ok_f (by decide) (ok_f (by decide) (ok_f (by decide) (ok_f (by decide) (ok_f (by decide) (ok_f (by decide) (ok_f (by decide) (ok_f (by decide) (ok_t rfl ?_))))))))))
      iterate 1 (first | refine ok_b (gR_of (by assumption) (by rfl)) ?_ | refine ok_b (gI_of (by assumption) (by rfl)) ?_ | refine ok_b (ob_of (by assumption)) ?_)
      exact hp2 (c_ends h hF)
  · rw [show aTld a w = _ from if_neg qa]
    have hn : ∀ k, k < 11 → a ≠ nI k := fun k hk e => qa ⟨k, hk, e⟩
    exact ok_f (hn 0 (by omega)) (ok_f (hn 1 (by omega)) (ok_f (hn 2 (by omega)) (ok_f (hn 3 (by omega)) (ok_f (hn 4 (by omega)) (ok_f (hn 5 (by omega)) (ok_f (hn 6 (by omega)) (ok_f (hn 7 (by omega)) (ok_f (hn 8 (by omega)) (ok_f (hn 9 (by omega)) (ok_f (hn 10 (by omega)) (ok_v ⟨rfl, h, Fr.rf⟩)))))))))))
end ASK2
