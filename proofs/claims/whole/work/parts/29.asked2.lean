-- POINTS, CLASSES, FITS, ODDS, EVENTS
noncomputable def aPnt (a b : Int32) (w : Nat → Nat) : Int32 := @ite _ (isL (ptW w) a) (Classical.propDecidable _) (if b = 0 then nI (gW w a.toNatClampNeg) else if b = 1 then nI (rT w (kf (rT w) (rL w) a.toNatClampNeg (w 0))) else if b = 2 then nI (perG (gW w) (ptW w) a.toNatClampNeg) else -1) (-1)
noncomputable def aGon (a b : Int32) (w : Nat → Nat) : Int32 := @ite _ (isL (ptW w) a) (Classical.propDecidable _) (if b < 0 then -2 else if b ≤ 9999 then nI (itr (gW w) b.toNatClampNeg a.toNatClampNeg) else -2) (-1)
noncomputable def aCod (a : Int32) (w : Nat → Nat) : Int32 := if 0 ≤ a then crI (bfW w).1 (bfW w).2.2 a else -1
noncomputable def aNxt (a b : Int32) (w : Nat → Nat) : Int32 := @ite _ (isL 2 b) (Classical.propDecidable _) (@ite _ (isC (w 0) a) (Classical.propDecidable _) (oI (nxN (w 0) a.toNatClampNeg b.toNatClampNeg)) (-2)) (-1)
noncomputable def aMet (a : Int32) (w : Nat → Nat) : Int32 := @ite _ (isL (w 0 + 1) a) (Classical.propDecidable _) (nI (mtF (w 0) (rT w) (rB w) a.toNatClampNeg)) (-1)
/-- all that was seen is so, by other lengths -/
def snP (w l : Nat → Nat) (i : Nat) : Prop := w (18 + 2 * i) < fb_sm l (w 0) ∧ gt (w 0) (rT w) (rB w) l (w (18 + 2 * i)) = w (19 + 2 * i)
noncomputable def snB (w : Nat → Nat) (a v : Nat) : Bool := @decide (∀ i, i < w 17 → snP w (upN (rL w) a (v + 1)) i) (Classical.propDecidable _)
noncomputable def ltI (w : Nat → Nat) (a : Nat) : Nat → Int32
  | 0 => -5
  | i + 1 => if snB w a i = true ∧ ltI w a i = -5 then nI (i + 1) else ltI w a i
noncomputable def aFit (a b : Int32) (w : Nat → Nat) : Int32 := @ite _ (isL (w 0) a) (Classical.propDecidable _) (if b < 0 then -1 else if b ≤ 1 then (if b = 0 then nI (fb_ct (snB w a.toNatClampNeg) 40) else ltI w a.toNatClampNeg 40) else -1) (-1)
def aFr (a : Int32) (x m : Nat) : Int64 := if a = 0 then lN (x / Nat.gcd x m) else if a = 1 then lN (m / Nat.gcd x m) else -9223372036854775808
def hpW (a n : Nat) (w : Nat → Nat) : Nat → Nat := if a = 0 then (if kdW w = -1 then w else stR w) else if a = 1 then (if n < w 0 then wR w (rT w) (rB w) (upN (rL w) n (if 99 < rL w n + 1 then 99 else rL w n + 1)) else w) else (if rfI n (rT w) (rB w) (rL w) (w 0) = 0 then wR w (bcT n (rT w) (rB w) (w 0)) (bcB n (rT w) (rB w) (w 0)) (bcW n w) else w)
def evW (w : Nat → Nat) : Nat → Nat → Nat
  | 0 => w
  | j + 1 => hpW (w (27 + 2 * j)) (w (28 + 2 * j)) (evW w j)
noncomputable def aAft (a : Int32) (w : Nat → Nat) : Int32 := if a < 0 then -1 else if a ≤ 2 then (if a = 0 then nI (ptW (evW w (w 26))) else if a = 1 then nI (cdW (evW w (w 26))) else if whW (evW w (w 26)) = 0 then 0 else 1) else -1
theorem hpW_OR {a n : Nat} {w : Nat → Nat} (h : ORw w) (he : EV a n) : ORw (hpW a n w) ∧ hpW a n w 0 = w 0 := by
  unfold hpW
  rcases he with ⟨rfl, rfl⟩ | ⟨rfl, hn⟩ | ⟨rfl, hn⟩
  · rw [if_pos rfl]
    split
    · exact ⟨h, rfl⟩
    · rename_i c; exact stR_OR h c
  · rw [if_neg (by decide), if_pos rfl]
    split
    · refine ⟨OR.toW ⟨h.1, h.2.1, h.2.2.1, h.2.2.2.1, fun k hk => ?_⟩, wR_o (by omega)⟩
      have := h.2.2.2.2 k hk
      simp only [upN]
      split
      · rename_i e; rw [← e]; split <;> omega
      · exact this
    · exact ⟨h, rfl⟩
  · rw [if_neg (by decide), if_neg (by decide)]
    rcases rf_c n (rT w) (rB w) (rL w) (w 0) with ⟨e, hp, h99⟩ | ⟨-, e⟩
    · rw [if_pos e]; exact ⟨(back_OR h hn hp h99).toW, wR_o (by omega)⟩
    · rw [if_neg e]; exact ⟨h, rfl⟩
theorem evW_OR {w : Nat → Nat} (h : OKW w) : ∀ {j : Nat}, j ≤ w 26 → ORw (evW w j) ∧ evW w j 0 = w 0
  | 0, _ => ⟨h.1, rfl⟩
  | j + 1, hj => by
    have ih := evW_OR h (j := j) (by omega)
    have := hpW_OR ih.1 (h.2.2.2.2.2.2.1 j (by omega))
    exact ⟨this.1, this.2.trans ih.2⟩
section ASK3
variable {M : XM} {F x : Nat} {w wi dd tx si : Nat → Nat} {hi : Bool} {dm tl : Nat} {so : Nat → Int32} {it : Nat → Int64}
theorem c_point (h : CI M x w hi wi dm dd tl tx so si it) (a b : Int32) (hF : 1000 ≤ F) : Ok (f_X8_point F x a b M) (fun r => r.1 = aPnt a b w ∧ CI r.2 x w hi wi dm dd tl tx so si it ∧ Fr M r.2 x (x + 111)) := by
  obtain ⟨h0, h1, h3, h4, h5, h6, h7, h8⟩ := id h
  have c0 := h0; have c1 := h1.1; have c2 := h1.2.1.1
  unfold CO at c0
  have ho := h8.1.1
  have ht := tot_le ho
  unfold f_X8_point
  iterate 3 (first | refine ok_b (gR_of (by assumption) (by rfl)) ?_ | refine ok_b (gI_of (by assumption) (by rfl)) ?_ | refine ok_b (ob_of (by assumption)) ?_)
  by_cases qa : isL (ptW w) a
  · obtain ⟨p, hp, rfl⟩ := id qa
    have hp' : p < 495 := Nat.lt_of_lt_of_le hp ht.1
    have es : aPnt (nI p) b w = (if b = 0 then nI (gW w p) else if b = 1 then nI (rT w (kf (rT w) (rL w) p (w 0))) else if b = 2 then nI (perG (gW w) (ptW w) p) else -1) := by
      unfold aPnt; rw [if_pos qa, nIc (by omega)]
    refine ok_b (hasPoint_in h1.2.1 ho.2.1 (by omega) hp (by omega)) (ok_f (by decide) ?_)
    by_cases q0 : b = 0
    · rw [es.trans (if_pos q0)]
      refine ok_t q0 ?_
      iterate 3 (first | refine ok_b (gR_of (by assumption) (by rfl)) ?_ | refine ok_b (gI_of (by assumption) (by rfl)) ?_ | refine ok_b (ob_of (by assumption)) ?_)
      exact ok_b (goesTo_ok h1.2.1 ho hp (by omega)) (ok_v ⟨rfl, h, Fr.rf⟩)
    · rw [if_neg q0] at es
      refine ok_f q0 ?_
      by_cases q1 : b = 1
      · rw [es.trans (if_pos q1)]
        refine ok_t q1 ?_
        iterate 3 (first | refine ok_b (gR_of (by assumption) (by rfl)) ?_ | refine ok_b (gI_of (by assumption) (by rfl)) ?_ | refine ok_b (ob_of (by assumption)) ?_)
        exact ok_b (letterAt_ok h1.2.1 ho hp (by omega)) (ok_v ⟨rfl, h, Fr.rf⟩)
      · rw [if_neg q1] at es
        refine ok_f q1 ?_
        by_cases q2 : b = 2
        · rw [es.trans (if_pos q2)]
          refine ok_t q2 ?_
          iterate 1 (first | refine ok_b (gR_of (by assumption) (by rfl)) ?_ | refine ok_b (gI_of (by assumption) (by rfl)) ?_ | refine ok_b (ob_of (by assumption)) ?_)
          unfold f_X8_period
          refine ok_m (P := fun r => r.1 = nI (perG (gW w) (ptW w) p) ∧ CI r.2 x w hi wi dm dd tl tx so si it ∧ Fr M r.2 x (x + 111)) ?_ (fun v hv => ok_v hv)
          obtain ⟨⟨m, g, z, s1⟩, -⟩ := h6
          have c3 := s1.1
          iterate 4 (first | refine ok_b (gR_of (by assumption) (by rfl)) ?_ | refine ok_b (gI_of (by assumption) (by rfl)) ?_ | refine ok_b (ob_of (by assumption)) ?_)
          refine ok_m (c_lay h hF) (fun M1 hM1 => ?_)
          obtain ⟨⟨g1, z1, hL, hg⟩, f1, hC1⟩ := hM1
          have d0 := hC1.1; have d3 := hL.1
          unfold CO at d0
          iterate 2 (first | refine ok_b (gR_of (by assumption) (by rfl)) ?_ | refine ok_b (gI_of (by assumption) (by rfl)) ?_ | refine ok_b (ob_of (by assumption)) ?_)
          have hgl : ∀ p, p < ptW w → g1 p < ptW w := fun p hp => by rw [hg p hp]; exact gW_lt ho p hp
          obtain ⟨c, k1, k2, k3, k4⟩ := period_ex (gW_lt ho) (gW_in ho) hp
          refine ok_b (periodOf_ok (c := c) hL ht.1 hgl hp k1 k2 (by rw [itr_cg hgl hg c hp]; exact k3) (fun k q1 q2 => by rw [itr_cg hgl hg k hp]; exact k4 k q1 q2) hF) ?_
          exact ok_v ⟨by rw [perG_eq k1 k2 k3 k4], hC1, f1.mono _ _ (by omega) (by omega)⟩
        · rw [es.trans (if_neg q2)]
          exact ok_f q2 (ok_v ⟨rfl, h, Fr.rf⟩)
  · rw [show aPnt a b w = -1 from if_neg qa]
    exact ok_b (hasPoint_out h1.2.1 ho.2.1 (by omega) (isL_no2 (by omega) qa)) (ok_t rfl (ok_v ⟨rfl, h, Fr.rf⟩))
theorem c_gone (h : CI M x w hi wi dm dd tl tx so si it) (a b : Int32) (hF : 1000 ≤ F) : Ok (f_X8_gone F x a b M) (fun r => r.1 = aGon a b w ∧ CI r.2 x w hi wi dm dd tl tx so si it ∧ Fr M r.2 x (x + 111)) := by
  obtain ⟨h0, h1, h3, h4, h5, h6, h7, h8⟩ := id h
  have c0 := h0; have c1 := h1.1; have c2 := h1.2.1.1
  unfold CO at c0
  have ho := h8.1.1
  have ht := tot_le ho
  unfold f_X8_gone
  iterate 3 (first | refine ok_b (gR_of (by assumption) (by rfl)) ?_ | refine ok_b (gI_of (by assumption) (by rfl)) ?_ | refine ok_b (ob_of (by assumption)) ?_)
  by_cases qa : isL (ptW w) a
  · obtain ⟨p, hp, rfl⟩ := id qa
    have hp' : p < 495 := Nat.lt_of_lt_of_le hp ht.1
    have es : aGon (nI p) b w = (if b < 0 then -2 else if b ≤ 9999 then nI (itr (gW w) b.toNatClampNeg p) else -2) := by
      unfold aGon; rw [if_pos qa, nIc (n := p) (by omega)]
    refine ok_b (hasPoint_in h1.2.1 ho.2.1 (by omega) hp (by omega)) (ok_f (by decide) ?_)
    by_cases q0 : b < 0
    · rw [es.trans (if_pos q0)]
      exact ok_t q0 (ok_v ⟨rfl, h, Fr.rf⟩)
    · rw [if_neg q0] at es
      refine ok_f q0 ?_
      by_cases q1 : b ≤ 9999
      · rw [es.trans (if_pos q1)]
        refine ok_t q1 ?_
        obtain ⟨T, -, hT, rfl⟩ := rngN (a := b) 0 9999 (by decide) (by decide) q0 q1
        rw [nIc (by omega)]
        obtain ⟨⟨m, g, z, s1⟩, -⟩ := h6
        have c3 := s1.1
        iterate 4 (first | refine ok_b (gR_of (by assumption) (by rfl)) ?_ | refine ok_b (gI_of (by assumption) (by rfl)) ?_ | refine ok_b (ob_of (by assumption)) ?_)
        refine ok_m (c_lay h hF) (fun M1 hM1 => ?_)
        obtain ⟨⟨g1, z1, hL, hg⟩, f1, hC1⟩ := hM1
        have d0 := hC1.1; have d3 := hL.1
        unfold CO at d0
        iterate 2 (first | refine ok_b (gR_of (by assumption) (by rfl)) ?_ | refine ok_b (gI_of (by assumption) (by rfl)) ?_ | refine ok_b (ob_of (by assumption)) ?_)
        have hgl : ∀ p, p < ptW w → g1 p < ptW w := fun p hp => by rw [hg p hp]; exact gW_lt ho p hp
        refine ok_b (behind_ok hL ht.1 hgl (fun p q hp hq e => gW_in ho p q hp hq (by rw [← hg p hp, ← hg q hq]; exact e)) hp hT hF) ?_
        exact ok_v ⟨by rw [itr_cg hgl hg T hp], hC1, f1.mono _ _ (by omega) (by omega)⟩
      · rw [es.trans (if_neg q1)]
        exact ok_f q1 (ok_v ⟨rfl, h, Fr.rf⟩)
  · rw [show aGon a b w = -1 from if_neg qa]
    exact ok_b (hasPoint_out h1.2.1 ho.2.1 (by omega) (isL_no2 (by omega) qa)) (ok_t rfl (ok_v ⟨rfl, h, Fr.rf⟩))
theorem c_code (h : CI M x w hi wi dm dd tl tx so si it) (a : Int32) (hF : 1000 ≤ F) : Ok (f_X8_code F x a M) (fun r => r.1 = aCod a w ∧ CI r.2 x w hi wi dm dd tl tx so si it ∧ Fr M r.2 x (x + 111)) := by
  obtain ⟨h0, h1, h3, h4, h5, h6, h7, h8⟩ := id h
  have c0 := h0
  unfold CO at c0
  unfold f_X8_code
  by_cases q : 0 ≤ a
  · rw [show aCod a w = _ from if_pos q]
    refine ok_t q ?_
    iterate 1 (first | refine ok_b (gR_of (by assumption) (by rfl)) ?_ | refine ok_b (gI_of (by assumption) (by rfl)) ?_ | refine ok_b (ob_of (by assumption)) ?_)
    refine ok_m (c_expl h hF) (fun r hr => ?_)
    obtain ⟨v, ⟨cs, ds, hH, he⟩, f1, hC⟩ := hr
    have d0 := hC.1; have d3 := hH.1
    unfold CO at d0
    have hb := bfW_ok h8.1.1
    iterate 2 (first | refine ok_b (gR_of (by assumption) (by rfl)) ?_ | refine ok_b (gI_of (by assumption) (by rfl)) ?_ | refine ok_b (ob_of (by assumption)) ?_)
    refine ok_b (codeOfRank_ok hH hb.2 (fun i hi => by rw [(he i hi).1]; exact vC_lt h8.1.1.2.1 (hb.1.2.1 i hi)) hF) ?_
    exact ok_v ⟨crI_cg (fun i hi => (he i hi).1), hC, f1.mono _ _ (by omega) (by omega)⟩
  · rw [show aCod a w = _ from if_neg q]
    exact ok_f q (ok_v ⟨rfl, h, Fr.rf⟩)
theorem isC_nI {n : Nat} {a : Int32} (h5 : n ≤ 5) (h : isC n a) : vC n a.toNatClampNeg ∧ a = nI a.toNatClampNeg := by
  obtain ⟨p, hp, rfl⟩ := h
  have := en_b hp h5 (Nat.le_refl _)
  rw [nIc (by omega)]
  exact ⟨⟨p, hp, rfl⟩, rfl⟩
theorem c_next (h : CI M x w hi wi dm dd tl tx so si it) (a b : Int32) (hF : 1000 ≤ F) : Ok (f_X8_next F x a b M) (fun r => r.1 = aNxt a b w ∧ CI r.2 x w hi wi dm dd tl tx so si it ∧ Fr M r.2 x (x + 111)) := by
  obtain ⟨h0, h1, h3, h4, h5, h6, h7, h8⟩ := id h
  have c0 := h0; have c1 := h1.1; have c2 := h1.2.1.1
  unfold CO at c0
  have ho := h8.1.1
  unfold f_X8_next
  by_cases qb : isL 2 b
  · obtain ⟨k, hk, rfl⟩ := id qb
    refine ok_b (isKind_in hk) (ok_f (by decide) ?_)
    iterate 3 (first | refine ok_b (gR_of (by assumption) (by rfl)) ?_ | refine ok_b (gI_of (by assumption) (by rfl)) ?_ | refine ok_b (ob_of (by assumption)) ?_)
    rcases isCode_ok (F := F) (M := M) a ho.1 ho.2.1 (by omega) with ⟨hc, e⟩ | ⟨hc, e⟩
    · refine ok_b e (ok_f (by decide) ?_)
      obtain ⟨hv, ev⟩ := isC_nI ho.2.1 hc
      have es : aNxt a (nI k) w = oI (nxN (w 0) a.toNatClampNeg k) := by
        unfold aNxt; rw [if_pos qb, if_pos hc, nIc (by omega)]
      rw [es]
      obtain ⟨-, ⟨cs, ds, c, s2⟩, -⟩ := h6
      have c3 := s2.1
      iterate 5 (first | refine ok_b (gR_of (by assumption) (by rfl)) ?_ | refine ok_b (gI_of (by assumption) (by rfl)) ?_ | refine ok_b (ob_of (by assumption)) ?_)
      have hfo := follow_ok (F := F) (k := k) s2 ho.1 ho.2.1 hv hk (by omega)
      rw [← ev] at hfo
      refine ok_m hfo (fun r hr => ?_)
      exact ok_v ⟨hr.1, h.shapes hr.2.1 (hr.2.2.mono _ _ (by omega) (by omega)), hr.2.2.mono _ _ (by omega) (by omega)⟩
    · have es : aNxt a (nI k) w = -2 := by unfold aNxt; rw [if_pos qb, if_neg hc]
      rw [es]
      exact ok_b e (ok_t rfl (ok_v ⟨rfl, h, Fr.rf⟩))
  · rw [show aNxt a b w = -1 from if_neg qb]
    exact ok_b (isKind_out qb) (ok_t rfl (ok_v ⟨rfl, h, Fr.rf⟩))
theorem c_meeting (h : CI M x w hi wi dm dd tl tx so si it) (a : Int32) (hF : 1000 ≤ F) : f_X8_meeting F x a M = some (aMet a w) := by
  obtain ⟨h0, h1, h3, h4, h5, h6, h7, h8⟩ := id h
  have c0 := h0; have c1 := h1.1; have c2 := h1.2.1.1
  unfold CO at c0
  have ho := h8.1.1
  have h5' := ho.2.1
  unfold f_X8_meeting
  by_cases qa : isL (w 0 + 1) a
  · rw [show aMet a w = _ from if_pos qa]
    obtain ⟨j, hj, rfl⟩ := qa
    rw [nIc (by omega)]
    refine cf (nI_pos (by omega)) ?_
    iterate 3 (first | refine bs (gR_of (by assumption) (by rfl)) ?_ | refine bs (gI_of (by assumption) (by rfl)) ?_ | refine bs (ob_of (by assumption)) ?_)
    refine ct (nI_le (by omega) (by omega)) ?_
    iterate 3 (first | refine bs (gR_of (by assumption) (by rfl)) ?_ | refine bs (gI_of (by assumption) (by rfl)) ?_ | refine bs (ob_of (by assumption)) ?_)
    exact bs (meetingBehind_ok h1.2.1 ho hj (by omega)) rfl
  · rw [show aMet a w = _ from if_neg qa]
    by_cases q : a < 0
    · exact ct q rfl
    · refine cf q ?_
      iterate 3 (first | refine bs (gR_of (by assumption) (by rfl)) ?_ | refine bs (gI_of (by assumption) (by rfl)) ?_ | refine bs (ob_of (by assumption)) ?_)
      refine cf (fun z => ?_) rfl
      obtain ⟨m, -, hm, e⟩ := rngN (a := a) 0 (w 0) (by decide) (by omega) q z
      exact qa ⟨m, by omega, e⟩
theorem c_allSeen (h : CI M x w hi wi dm dd tl tx so si it) {l' : Nat → Nat} (hR : RW M (x + 94) (w 0) (rT w) (rB w) l') (ho : OR (w 0) (rT w) (rB w) l') (hF : 1000 ≤ F) : f_X8_isAllSeen F x (x + 94) M = some (@ite _ (∀ i, i < w 17 → snP w l' i) (Classical.propDecidable _) 1 0) := by
  obtain ⟨h0, h1, h3, h4, h5, h6, h7, h8⟩ := id h
  have c0 := h0; have c1 := h1.1; have c2 := h1.2.2.1.1; have c3 := hR.1
  unfold CO at c0
  have ht := tot_le ho
  obtain ⟨-, -, k17, -, -, ks, -⟩ := h8.1
  obtain ⟨-, n4, f', g', i1, i2, i3⟩ := h1.2.2.1
  unfold f_X8_isAllSeen
  have stp : ∀ (k : Int32 → Option Int32) (i : Nat) (Q : Int32 → Prop), i < w 17 → snP w l' i → Ok (k (nI (i + 1))) Q → Ok (b_X8_isAllSeen_2 F x (x + 94) M k (nI i)) Q := by
    intro k i Q hi hs hk
    have ei := i3 i hi
    dsimp only at ei
    unfold b_X8_isAllSeen_2
    iterate 3 (first | refine ok_b (gR_of (by assumption) (by rfl)) ?_ | refine ok_b (gI_of (by assumption) (by rfl)) ?_ | refine ok_b (ob_of (by assumption)) ?_)
    refine ok_f (nI_ge hi (by omega)) ?_
    iterate 3 (first | refine ok_b (gR_of (by assumption) (by rfl)) ?_ | refine ok_b (gI_of (by assumption) (by rfl)) ?_ | refine ok_b (ob_of (by assumption)) ?_)
    refine ok_b (i1.rd i rfl (by omega) (by decide)) ?_
    iterate 1 (first | refine ok_b (gR_of (by assumption) (by rfl)) ?_ | refine ok_b (gI_of (by assumption) (by rfl)) ?_ | refine ok_b (ob_of (by assumption)) ?_)
    rw [ei.1]
    refine ok_b (hasPoint_in hR ho.2.1 (by omega) hs.1 (by omega)) (ok_f (by decide) ?_)
    iterate 1 (first | refine ok_b (gR_of (by assumption) (by rfl)) ?_ | refine ok_b (gI_of (by assumption) (by rfl)) ?_ | refine ok_b (ob_of (by assumption)) ?_)
    refine ok_b (goesTo_ok hR ho hs.1 (by omega)) ?_
    iterate 3 (first | refine ok_b (gR_of (by assumption) (by rfl)) ?_ | refine ok_b (gI_of (by assumption) (by rfl)) ?_ | refine ok_b (ob_of (by assumption)) ?_)
    refine ok_b (i2.rd i rfl (by omega) (by decide)) ?_
    rw [ei.2, hs.2]
    refine ok_t rfl ?_
    rw [e1]; exact hk
  by_cases q : ∀ i, i < w 17 → snP w l' i
  · rw [if_pos q]
    refine ok_e (ok_loop (I := fun i q => q = nI i) (w 17) ?_ ?_ (w 17) 0 F _ (by omega) (by omega) rfl)
    · rintro k i q' hi rfl hk
      exact stp k i _ hi (q i hi) (hk _ rfl)
    · rintro k q' rfl
      unfold b_X8_isAllSeen_2
      iterate 3 (first | refine ok_b (gR_of (by assumption) (by rfl)) ?_ | refine ok_b (gI_of (by assumption) (by rfl)) ?_ | refine ok_b (ob_of (by assumption)) ?_)
      exact ok_t (nI_le (Nat.le_refl _) (by omega)) (ok_v rfl)
  · rw [if_neg q]
    have hex : ∃ i, i < w 17 ∧ ¬ snP w l' i := Classical.byContradiction (fun z => q (fun i hi => Classical.byContradiction (fun z2 => z ⟨i, hi, z2⟩)))
    obtain ⟨N, ⟨hN, hno⟩, hmin⟩ := pk_least (fun i => i < w 17 ∧ ¬ snP w l' i) hex
    refine ok_e (ok_loop (I := fun i q => q = nI i) N ?_ ?_ N 0 F _ (by omega) (by omega) rfl)
    · rintro k i q' hi rfl hk
      exact stp k i _ (by omega) (Classical.byContradiction (fun z => hmin i hi ⟨by omega, z⟩)) (hk _ rfl)
    · rintro k q' rfl
      have ei := i3 N hN
      dsimp only at ei
      have ksN := ks N hN
      unfold b_X8_isAllSeen_2
      iterate 3 (first | refine ok_b (gR_of (by assumption) (by rfl)) ?_ | refine ok_b (gI_of (by assumption) (by rfl)) ?_ | refine ok_b (ob_of (by assumption)) ?_)
      refine ok_f (nI_ge hN (by omega)) ?_
      iterate 3 (first | refine ok_b (gR_of (by assumption) (by rfl)) ?_ | refine ok_b (gI_of (by assumption) (by rfl)) ?_ | refine ok_b (ob_of (by assumption)) ?_)
      refine ok_b (i1.rd N rfl (by omega) (by decide)) ?_
      iterate 1 (first | refine ok_b (gR_of (by assumption) (by rfl)) ?_ | refine ok_b (gI_of (by assumption) (by rfl)) ?_ | refine ok_b (ob_of (by assumption)) ?_)
      rw [ei.1]
      by_cases c : w (18 + 2 * N) < fb_sm l' (w 0)
      · refine ok_b (hasPoint_in hR ho.2.1 (by omega) c (by omega)) (ok_f (by decide) ?_)
        iterate 1 (first | refine ok_b (gR_of (by assumption) (by rfl)) ?_ | refine ok_b (gI_of (by assumption) (by rfl)) ?_ | refine ok_b (ob_of (by assumption)) ?_)
        refine ok_b (goesTo_ok hR ho c (by omega)) ?_
        iterate 3 (first | refine ok_b (gR_of (by assumption) (by rfl)) ?_ | refine ok_b (gI_of (by assumption) (by rfl)) ?_ | refine ok_b (ob_of (by assumption)) ?_)
        refine ok_b (i2.rd N rfl (by omega) (by decide)) ?_
        rw [ei.2]
        have hb := gt_lt ho c
        exact ok_f (fun e => hno ⟨c, nI_inj (by omega) (by omega) e⟩) (ok_v rfl)
      · exact ok_b (hasPoint_out hR ho.2.1 (by omega) (Or.inr (nI_le (by omega) (by omega)))) (ok_t rfl (ok_v rfl))
theorem c_fits (h : CI M x w hi wi dm dd tl tx so si it) (a b : Int32) (hF : 1000 ≤ F) : Ok (f_X8_fits F x a b M) (fun r => r.1 = aFit a b w ∧ CI r.2 x w hi wi dm dd tl tx so si it ∧ Fr M r.2 x (x + 111)) := by
  obtain ⟨h0, h1, h3, h4, h5, h6, h7, h8⟩ := id h
  have c0 := h0; have c1 := h1.1; have c2 := h1.2.1.1
  unfold CO at c0
  have ho := h8.1.1
  have h5' := ho.2.1
  unfold f_X8_fits
  iterate 3 (first | refine ok_b (gR_of (by assumption) (by rfl)) ?_ | refine ok_b (gI_of (by assumption) (by rfl)) ?_ | refine ok_b (ob_of (by assumption)) ?_)
  by_cases qa : isL (w 0) a
  · obtain ⟨j, hj, rfl⟩ := id qa
    have es : aFit (nI j) b w = (if b < 0 then -1 else if b ≤ 1 then (if b = 0 then nI (fb_ct (snB w j) 40) else ltI w j 40) else -1) := by
      unfold aFit; rw [if_pos qa, nIc (by omega)]
    refine ok_b (hasLetter_in h1.2.1 hj h5') (ok_f (by decide) ?_)
    by_cases q0 : b < 0
    · rw [es.trans (if_pos q0)]
      exact ok_t q0 (ok_v ⟨rfl, h, Fr.rf⟩)
    · rw [if_neg q0] at es
      refine ok_f q0 ?_
      by_cases q1 : b ≤ 1
      · rw [if_pos q1] at es
        refine ok_t q1 ?_
        obtain ⟨-, -, n, t, b', l, s3⟩ := h6
        have c3 := s3.1
        iterate 4 (first | refine ok_b (gR_of (by assumption) (by rfl)) ?_ | refine ok_b (gI_of (by assumption) (by rfl)) ?_ | refine ok_b (ob_of (by assumption)) ?_)
        refine ok_m (copyFrom_ok s3 h1.2.1 (by omega) (by omega)) (fun M1 hM1 => ?_)
        refine ok_loop (I := fun i q => q.1 = nI (fb_ct (snB w j) i) ∧ q.2.1 = ltI w j i ∧ q.2.2.1 = nI (i + 1) ∧ (∃ l', RW q.2.2.2 (x + 94) (w 0) (rT w) (rB w) l' ∧ ∀ k, k ≠ j → l' k = rL w k) ∧ Fr M q.2.2.2 (x + 94) (x + 98)) 40 ?_ ?_ 40 0 F _ (by omega) (by omega) ⟨rfl, rfl, rfl, ⟨rL w, hM1.1, fun _ _ => rfl⟩, hM1.2⟩
        · rintro k i ⟨y1, y2, y3, y4⟩ hi ⟨g1, g2, g3, ⟨l', gR, gl⟩, fr⟩ hk
          dsimp only at g1 g2 g3 gR fr
          subst g1 g2 g3
          have hC := h.trial gR fr
          have d0 := hC.1; have d3 := gR.1
          unfold CO at d0
          unfold b_X8_fits_48
          dsimp only
          refine ok_f (nI_nlt (b := i + 1) (a := 40) (by omega) (by omega)) ?_
          iterate 2 (first | refine ok_b (gR_of (by assumption) (by rfl)) ?_ | refine ok_b (gI_of (by assumption) (by rfl)) ?_ | refine ok_b (ob_of (by assumption)) ?_)
          refine ok_m (gR.2.2.2.wr j (i + 1) rfl rfl (by omega) (by decide)) (fun M2 hM2 => ?_)
          have f2 := hM2.2
          have R2 : RW M2 (x + 94) (w 0) (rT w) (rB w) (upN (rL w) j (i + 1)) := by
            refine ⟨(f2 _ (by omega)).trans d3, gR.2.1.fr (f2 _ (by omega)), gR.2.2.1.fr (f2 _ (by omega)), hM2.1.cg (fun k hk => ?_)⟩
            simp only [upN]
            by_cases c : k = j
            · rw [if_pos c, if_pos c]
            · rw [if_neg c, if_neg c, gl k c]
          have fr2 : Fr M M2 (x + 94) (x + 98) := fr.tr (fun q hq => f2 q (by omega))
          have hC2 := h.trial R2 fr2
          have e0 := hC2.1; have e3 := R2.1
          unfold CO at e0
          iterate 2 (first | refine ok_b (gR_of (by assumption) (by rfl)) ?_ | refine ok_b (gI_of (by assumption) (by rfl)) ?_ | refine ok_b (ob_of (by assumption)) ?_)
          have ho2 : OR (w 0) (rT w) (rB w) (upN (rL w) j (i + 1)) := by
            refine ⟨ho.1, ho.2.1, ho.2.2.1, ho.2.2.2.1, fun k hk => ?_⟩
            have := ho.2.2.2.2 k hk
            simp only [upN]
            split
            · omega
            · exact this
          refine ok_b (c_allSeen hC2 R2 ho2 hF) ?_
          by_cases q : ∀ z, z < w 17 → snP w (upN (rL w) j (i + 1)) z
          · have eb : snB w j i = true := @decide_eq_true _ (Classical.propDecidable _) q
            rw [if_pos q]
            refine ok_f (by decide) ?_
            have ec : nI (fb_ct (snB w j) i) + 1 = nI (fb_ct (snB w j) (i + 1)) := by rw [fb_ct_succ, eb, e1]; rfl
            by_cases q5 : ltI w j i = -5
            · refine ok_t q5 (hk _ ⟨ec, ?_, e1 _, ⟨_, R2, fun k hk => upN_n hk⟩, fr2⟩)
              simp only [ltI]; rw [if_pos ⟨eb, q5⟩]
            · refine ok_f q5 (hk _ ⟨ec, ?_, e1 _, ⟨_, R2, fun k hk => upN_n hk⟩, fr2⟩)
              simp only [ltI]; rw [if_neg (fun z => q5 z.2)]
          · have eb : snB w j i = false := @decide_eq_false _ (Classical.propDecidable _) q
            rw [if_neg q]
            refine ok_t rfl (hk _ ⟨?_, ?_, e1 _, ⟨_, R2, fun k hk => upN_n hk⟩, fr2⟩)
            · rw [fb_ct_succ, eb]; rfl
            · simp only [ltI]; rw [if_neg (fun z => by rw [eb] at z; exact absurd z.1 (by decide))]
        · rintro k ⟨y1, y2, y3, y4⟩ ⟨g1, g2, g3, ⟨l', gR, gl⟩, fr⟩
          dsimp only at g1 g2 g3 gR fr
          subst g1 g2 g3
          have hC := h.trial gR fr
          unfold b_X8_fits_48
          dsimp only
          refine ok_t (by decide) ?_
          by_cases q2 : b = 0
          · rw [es.trans (if_pos q2)]
            exact ok_t q2 (ok_v ⟨rfl, hC, fr.mono _ _ (by omega) (by omega)⟩)
          · rw [es.trans (if_neg q2)]
            exact ok_f q2 (ok_v ⟨rfl, hC, fr.mono _ _ (by omega) (by omega)⟩)
      · rw [es.trans (if_neg q1)]
        exact ok_f q1 (ok_v ⟨rfl, h, Fr.rf⟩)
  · rw [show aFit a b w = -1 from if_neg qa]
    exact ok_b (hasLetter_out h1.2.1 (isL_no h5' qa)) (ok_t rfl (ok_v ⟨rfl, h, Fr.rf⟩))
theorem part_ok {y m : Nat} (hy : y < 2147483648) (h0 : 0 < m) (hm : m < 1024) (a : Int32) (hF : 1000 ≤ F) : f_X8_partInLowestTerms F (nI y) (nI m) a M = some (aFr a y m) := by
  have hg := Nat.gcd_pos_of_pos_right y h0
  have hg2 : Nat.gcd y m ≤ m := Nat.gcd_le_right y h0
  have hn0 : x_n0 (nI (Nat.gcd y m)) = some () := by unfold x_n0; rw [if_neg (nI_ne0 hg (by omega))]
  have hj : ∀ a, j_X8_partInLowestTerms_13 F (nI y) (nI m) a M = some (if a = 0 then lN (y / Nat.gcd y m) else lN (m / Nat.gcd y m)) := by
    intro a
    unfold j_X8_partInLowestTerms_13
    refine bs (greatestDivisor_ok hy hm hF) (ct (nI_le (a := 1) hg (by omega)) ?_)
    have b1 : y / Nat.gcd y m ≤ y := Nat.div_le_self _ _
    have b2 : m / Nat.gcd y m ≤ m := Nat.div_le_self _ _
    by_cases q : a = 0
    · refine ct q (bs hn0 ?_)
      rw [if_pos q, pk_div (by omega) hg (by omega), nI_l (by omega)]
    · refine cf q (bs hn0 ?_)
      rw [if_neg q, pk_div (by omega) hg (by omega), nI_l (by omega)]
  unfold f_X8_partInLowestTerms aFr
  by_cases q : a = 0
  · refine ct q ((hj a).trans ?_)
    rw [if_pos q, if_pos q]
  · refine cf q ?_
    by_cases q1 : a = 1
    · refine ct q1 ((hj a).trans ?_)
      rw [if_neg q, if_neg q, if_pos q1]
    · refine cf q1 ?_
      rw [if_neg q, if_neg q1]
def dnW (w : Nat → Nat) : Nat := fb_ct (fun p => decide (gW w p < p)) (ptW w)
def wyW (w : Nat → Nat) : Nat := fb_sm (lss (gW w)) (ptW w)
theorem dn_le : dnW w ≤ ptW w := fb_ct_le _ _
theorem wy_le (ho : ORw w) : wyW w ≤ 245025 := by
  have ht : ptW w ≤ 495 := (tot_le ho).1
  have h1 : wyW w ≤ ptW w * 495 := fb_sm_bound (fun k hk => by
    have := gW_lt ho k hk
    unfold lss
    split <;> omega)
  omega
theorem c_odds (h : CI M x w hi wi dm dd tl tx so si it) (a : Int32) (hF : 1000 ≤ F) : Ok (f_X8_odds F x a M) (fun r => r.1 = aFr a (dnW w) (ptW w) ∧ CI r.2 x w hi wi dm dd tl tx so si it ∧ Fr M r.2 x (x + 111)) := by
  obtain ⟨h0, h1, h3, h4, h5, h6, h7, h8⟩ := id h
  have c0 := h0; have c1 := h1.1; have c2 := h1.2.1.1
  unfold CO at c0
  obtain ⟨⟨m, g, z, s1⟩, -⟩ := h6
  have c3 := s1.1
  have ho := h8.1.1
  have ht : ptW w ≤ 495 ∧ 2 ≤ ptW w := tot_le ho
  unfold f_X8_odds
  iterate 4 (first | refine ok_b (gR_of (by assumption) (by rfl)) ?_ | refine ok_b (gI_of (by assumption) (by rfl)) ?_ | refine ok_b (ob_of (by assumption)) ?_)
  refine ok_m (c_lay h hF) (fun M1 hM1 => ?_)
  obtain ⟨⟨g1, z1, hL, hg⟩, f1, hC1⟩ := hM1
  have d0 := hC1.1; have d3 := hL.1
  unfold CO at d0
  iterate 2 (first | refine ok_b (gR_of (by assumption) (by rfl)) ?_ | refine ok_b (gI_of (by assumption) (by rfl)) ?_ | refine ok_b (ob_of (by assumption)) ?_)
  have hgl : ∀ p, p < ptW w → g1 p < ptW w := fun p hp => by rw [hg p hp]; exact gW_lt ho p hp
  refine ok_b (goingDown_ok hL ht.1 hgl hF) ?_
  iterate 2 (first | refine ok_b (gR_of (by assumption) (by rfl)) ?_ | refine ok_b (gI_of (by assumption) (by rfl)) ?_ | refine ok_b (ob_of (by assumption)) ?_)
  have e : fb_ct (fun p => decide (g1 p < p)) (ptW w) = dnW w := fb_ct_cong (fun k hk => by rw [hg k hk])
  have hd : dnW w ≤ ptW w := fb_ct_le _ _
  rw [e]
  refine ok_b (part_ok (by omega) (by omega) (by omega) a hF) ?_
  exact ok_v ⟨rfl, hC1, f1.mono _ _ (by omega) (by omega)⟩
theorem c_mean (h : CI M x w hi wi dm dd tl tx so si it) (a : Int32) (hF : 1000 ≤ F) : Ok (f_X8_mean F x a M) (fun r => r.1 = aFr a (wyW w) (ptW w) ∧ CI r.2 x w hi wi dm dd tl tx so si it ∧ Fr M r.2 x (x + 111)) := by
  obtain ⟨h0, h1, h3, h4, h5, h6, h7, h8⟩ := id h
  have c0 := h0; have c1 := h1.1; have c2 := h1.2.1.1
  unfold CO at c0
  obtain ⟨⟨m, g, z, s1⟩, -⟩ := h6
  have c3 := s1.1
  have ho := h8.1.1
  have ht : ptW w ≤ 495 ∧ 2 ≤ ptW w := tot_le ho
  unfold f_X8_mean
  iterate 4 (first | refine ok_b (gR_of (by assumption) (by rfl)) ?_ | refine ok_b (gI_of (by assumption) (by rfl)) ?_ | refine ok_b (ob_of (by assumption)) ?_)
  refine ok_m (c_lay h hF) (fun M1 hM1 => ?_)
  obtain ⟨⟨g1, z1, hL, hg⟩, f1, hC1⟩ := hM1
  have d0 := hC1.1; have d3 := hL.1
  unfold CO at d0
  iterate 2 (first | refine ok_b (gR_of (by assumption) (by rfl)) ?_ | refine ok_b (gI_of (by assumption) (by rfl)) ?_ | refine ok_b (ob_of (by assumption)) ?_)
  have hgl : ∀ p, p < ptW w → g1 p < ptW w := fun p hp => by rw [hg p hp]; exact gW_lt ho p hp
  refine ok_b (wayTogether_ok hL ht.1 hgl hF) ?_
  iterate 2 (first | refine ok_b (gR_of (by assumption) (by rfl)) ?_ | refine ok_b (gI_of (by assumption) (by rfl)) ?_ | refine ok_b (ob_of (by assumption)) ?_)
  have e : fb_sm (lss g1) (ptW w) = wyW w := fb_sm_cong (fun k hk => by unfold lss; rw [hg k hk])
  have hd := wy_le ho
  rw [e]
  refine ok_b (part_ok (by omega) (by omega) (by omega) a hF) ?_
  exact ok_v ⟨rfl, hC1, f1.mono _ _ (by omega) (by omega)⟩
theorem happen_ok {r a n : Nat} {v : Nat → Nat} (h : RWw M r v) (ho : ORw v) (he : EV a n) (hF : 10 ≤ F) : Ok (f_X3_happen F r (nI a) (nI n) M) (fun M' => RWw M' r (hpW a n v) ∧ Fr M M' r (r + 4)) := by
  have h5 := ho.2.1
  unfold f_X3_happen hpW
  rcases he with ⟨rfl, rfl⟩ | ⟨rfl, hn⟩ | ⟨rfl, hn⟩
  · rw [if_pos rfl]
    refine ok_t rfl ?_
    refine ok_b (ob_of h.1) ?_
    refine ok_b (kindOfStep_ok h ho) ?_
    rcases kd_c ho with ⟨e, -⟩ | ⟨e, hk, hlt⟩
    · rw [if_pos e]
      exact ok_t e (ok_v ⟨h, Fr.rf⟩)
    · have hne : kdW v ≠ -1 := by rw [e]; exact nI_m1 (by omega)
      rw [if_neg hne]
      refine ok_f hne ?_
      refine ok_b (ob_of h.1) ?_
      show Ok (Option.bind (f_X3_goStep F r (kdW v) M) _) _
      rw [e]
      refine ok_m (goStep_ok h ho hk hlt hF) (fun M2 hM2 => ?_)
      exact ok_v ⟨RW.toW hM2.1, fun q hq => hM2.2 q (by omega) (by omega) (by omega)⟩
  · rw [if_neg (show ¬ (1 = 0) by decide), if_pos rfl]
    refine ok_f (by decide) (ok_t rfl ?_)
    refine ok_b (ob_of h.1) ?_
    by_cases c : n < v 0
    · rw [if_pos c]
      have hl := ho.2.2.2.2 n c
      refine ok_b (hasLetter_in h c h5) (ok_f (by decide) ?_)
      refine ok_b (gR_of h.1 rfl) ?_
      refine ok_b (gR_of h.1 rfl) ?_
      refine ok_b (h.2.2.2.rd n rfl (by omega) (by decide)) ?_
      have ev : (if (99 : Int32) < nI (rL v n) + 1 then (99 : Int32) else nI (rL v n) + 1) = nI (if 99 < rL v n + 1 then 99 else rL v n + 1) := by
        rw [e1]
        by_cases q : 99 < rL v n + 1
        · rw [if_pos q]; exact if_pos (nI_lt (a := 99) q (by omega))
        · rw [if_neg q]; exact if_neg (nI_nlt (b := rL v n + 1) (a := 99) (by omega) (by omega))
      refine ok_m (h.2.2.2.wr n _ rfl ev (by omega) (by decide)) (fun M2 hM2 => ?_)
      exact ok_v ⟨RW.toW ⟨(hM2.2 _ (by omega)).trans h.1, h.2.1.fr (hM2.2 _ (by omega)), h.2.2.1.fr (hM2.2 _ (by omega)), hM2.1⟩, fun q hq => hM2.2 q (by omega)⟩
    · rw [if_neg c]
      exact ok_b (hasLetter_out h (Or.inr (nI_le (by omega) (by omega)))) (ok_t rfl (ok_v ⟨h, Fr.rf⟩))
  · rw [if_neg (show ¬ (2 = 0) by decide), if_neg (show ¬ (2 = 1) by decide)]
    refine ok_f (by decide) (ok_f (by decide) ?_)
    refine ok_b (ob_of h.1) ?_
    refine ok_b (refusal_ok h ho hn hF) ?_
    rcases rf_c n (rT v) (rB v) (rL v) (v 0) with ⟨e, hp, h99⟩ | ⟨-, e⟩
    · refine ok_t e ?_
      rw [if_pos e]
      refine ok_b (ob_of h.1) ?_
      refine ok_m (goStepBack_ok h ho hn hp hF) (fun M2 hM2 => ?_)
      exact ok_v ⟨RW.toW hM2.1, fun q hq => hM2.2 q (by omega) (by omega) (by omega)⟩
    · refine ok_f e ?_
      rw [if_neg e]
      exact ok_v ⟨h, Fr.rf⟩
theorem c_after (h : CI M x w hi wi dm dd tl tx so si it) (a : Int32) (hF : 1000 ≤ F) : Ok (f_X8_after F x a M) (fun r => r.1 = aAft a w ∧ CI r.2 x w hi wi dm dd tl tx so si it ∧ Fr M r.2 x (x + 111)) := by
  obtain ⟨h0, h1, h3, h4, h5, h6, h7, h8⟩ := id h
  have c0 := h0; have c1 := h1.1; have c2 := h1.2.1.1
  unfold CO at c0
  have h26 := h8.1.2.2.2.1
  unfold f_X8_after
  by_cases q0 : a < 0
  · rw [show aAft a w = -1 from if_pos q0]
    exact ok_t q0 (ok_v ⟨rfl, h, Fr.rf⟩)
  · refine ok_f q0 ?_
    by_cases q1 : a ≤ 2
    · have es : aAft a w = (if a = 0 then nI (ptW (evW w (w 26))) else if a = 1 then nI (cdW (evW w (w 26))) else if whW (evW w (w 26)) = 0 then 0 else 1) := by
        unfold aAft; rw [if_neg q0, if_pos q1]
      refine ok_t q1 ?_
      obtain ⟨-, -, n, t, b', l, s3⟩ := h6
      have c3 := s3.1
      iterate 4 (first | refine ok_b (gR_of (by assumption) (by rfl)) ?_ | refine ok_b (gI_of (by assumption) (by rfl)) ?_ | refine ok_b (ob_of (by assumption)) ?_)
      refine ok_m (copyFrom_ok s3 h1.2.1 (by omega) (by omega)) (fun M1 hM1 => ?_)
      refine ok_loop (I := fun i q => q.1 = nI i ∧ RWw q.2 (x + 94) (evW w i) ∧ Fr M q.2 (x + 94) (x + 98)) (w 26) ?_ ?_ (w 26) 0 F _ (by omega) (by omega) ⟨rfl, (show RWw M1 (x + 94) w from hM1.1), hM1.2⟩
      · rintro k i ⟨y1, y2⟩ hi ⟨rfl, gR, fr⟩ hk
        dsimp only at gR fr
        have hC := h.trial gR fr
        have d0 := hC.1; have d1 := hC.2.1.1; have d2 := hC.2.1.2.2.2.1.1; have d3 := gR.1
        unfold CO at d0
        obtain ⟨-, n8, f', g', i1, i2, i3⟩ := hC.2.1.2.2.2.1
        have ei := i3 i hi
        dsimp only at ei
        have hE := h8.1.2.2.2.2.2.2.1 i hi
        have hO := evW_OR h8.1 (j := i) (by omega)
        unfold b_X8_after_27
        iterate 3 (first | refine ok_b (gR_of (by assumption) (by rfl)) ?_ | refine ok_b (gI_of (by assumption) (by rfl)) ?_ | refine ok_b (ob_of (by assumption)) ?_)
        refine ok_f (nI_ge hi (by omega)) ?_
        iterate 4 (first | refine ok_b (gR_of (by assumption) (by rfl)) ?_ | refine ok_b (gI_of (by assumption) (by rfl)) ?_ | refine ok_b (ob_of (by assumption)) ?_)
        refine ok_b (i1.rd i rfl (by omega) (by decide)) ?_
        iterate 3 (first | refine ok_b (gR_of (by assumption) (by rfl)) ?_ | refine ok_b (gI_of (by assumption) (by rfl)) ?_ | refine ok_b (ob_of (by assumption)) ?_)
        refine ok_b (i2.rd i rfl (by omega) (by decide)) ?_
        iterate 1 (first | refine ok_b (gR_of (by assumption) (by rfl)) ?_ | refine ok_b (gI_of (by assumption) (by rfl)) ?_ | refine ok_b (ob_of (by assumption)) ?_)
        rw [ei.1, ei.2]
        refine ok_m (happen_ok gR hO.1 hE (by omega)) (fun M2 hM2 => ?_)
        exact hk _ ⟨e1 i, hM2.1, fr.tr hM2.2⟩
      · rintro k ⟨y1, y2⟩ ⟨rfl, gR, fr⟩
        dsimp only at gR fr
        have hC := h.trial gR fr
        have d0 := hC.1; have d1 := hC.2.1.1; have d2 := hC.2.1.2.2.2.1.1; have d3 := gR.1
        unfold CO at d0
        have hO := (evW_OR h8.1 (Nat.le_refl _)).1
        have fr' : Fr M y2 x (x + 111) := fr.mono _ _ (by omega) (by omega)
        unfold b_X8_after_27
        iterate 3 (first | refine ok_b (gR_of (by assumption) (by rfl)) ?_ | refine ok_b (gI_of (by assumption) (by rfl)) ?_ | refine ok_b (ob_of (by assumption)) ?_)
        refine ok_t (nI_le (Nat.le_refl _) (by omega)) ?_
        by_cases q2 : a = 0
        · rw [es.trans (if_pos q2)]
          refine ok_t q2 ?_
          iterate 2 (first | refine ok_b (gR_of (by assumption) (by rfl)) ?_ | refine ok_b (gI_of (by assumption) (by rfl)) ?_ | refine ok_b (ob_of (by assumption)) ?_)
          exact ok_b (points_ok gR hO.2.1 (by omega)) (ok_v ⟨rfl, hC, fr'⟩)
        · rw [if_neg q2] at es
          refine ok_f q2 ?_
          by_cases q3 : a = 1
          · rw [es.trans (if_pos q3)]
            refine ok_t q3 ?_
            iterate 2 (first | refine ok_b (gR_of (by assumption) (by rfl)) ?_ | refine ok_b (gI_of (by assumption) (by rfl)) ?_ | refine ok_b (ob_of (by assumption)) ?_)
            exact ok_b (codeNow_ok gR hO.2.1 hO.2.2.1 hO.2.2.2.1 (by omega)) (ok_v ⟨rfl, hC, fr'⟩)
          · rw [if_neg q3] at es
            refine ok_f q3 ?_
            iterate 2 (first | refine ok_b (gR_of (by assumption) (by rfl)) ?_ | refine ok_b (gI_of (by assumption) (by rfl)) ?_ | refine ok_b (ob_of (by assumption)) ?_)
            refine ok_b (isWhole_ok gR hO.2.1 (by have := hO.1; omega) (by omega)) ?_
            by_cases q4 : whW (evW w (w 26)) = 0
            · rw [es.trans (if_pos q4)]
              exact ok_t q4 (ok_v ⟨rfl, hC, fr'⟩)
            · rw [es.trans (if_neg q4)]
              exact ok_f q4 (ok_v ⟨rfl, hC, fr'⟩)
    · have es : aAft a w = -1 := by unfold aAft; rw [if_neg q0, if_neg q1]
      rw [es]
      exact ok_f q1 (ok_v ⟨rfl, h, Fr.rf⟩)
end ASK3
