-- THE REFERENCE: READING, NOTES, TAPES
section MOPS
variable {M : XM} {F y : Nat} {pc ft : Int32} {w wi dd tx si : Nat → Nat} {hi : Bool} {dm tl : Nat} {so : Nat → Int32} {it : Nat → Int64}
theorem fault_lt (ht : tl ≤ 100) : fault tl tx < 1000 := by
  have hp := pp_le (tl := tl) (tx := tx) (Nat.le_refl _)
  unfold fault
  split
  · rename_i g; have := e2p_le (tx := tx) g.1; omega
  · unfold clF
    split
    · rename_i z; have := e1p_le (tx := tx) z.1
      split <;> omega
    · omega
theorem mput7 (h : MJ M y pc ft w hi wi dm dd tl tx so si it) : Ok (x_put M y 9 7 (.int 0)) (fun M' => MJ M' y pc ft w hi wi dm dd 0 tx so si it ∧ ∀ q, q ≠ y → M' q = M q) := by
  obtain ⟨⟨cm, c⟩, hW0, ⟨⟨v, a1, a2⟩, ⟨u, b1, b2⟩, ⟨t, c1, c2⟩, d1, d2, d3⟩, hS⟩ := id h
  refine ⟨_, put_of c (by simp [MOb]), ⟨⟨cm, up_s⟩, hW0.fr (up_n (by omega)), ⟨⟨v, a1.fr (up_n (by omega)), a2⟩, ⟨u, b1.fr (up_n (by omega)), b2⟩, ⟨t, c1.fr (up_n (by omega)), fun k hk => absurd hk (Nat.not_lt_zero k)⟩, d1.fr (up_n (by omega)), d2.fr (up_n (by omega)), d3.fr (up_n (by omega))⟩, hS.of (fun k a b c d => Or.inl (up_n (by omega))) (Or.inl (up_n (by omega)))⟩, fun q hq => up_n hq⟩
theorem m_read (h : MJ M y pc ft w hi wi dm dd tl tx so si it) (hK : KS w hi wi dm dd tl tx so si it) (hKj : good tl tx → ∀ j, j ≤ lastC tl tx → KS (rdS tl tx w dm dd j).2.1 hi wi (rdS tl tx w dm dd j).2.2.1 (rdS tl tx w dm dd j).2.2.2 tl tx so si it) (hF : 1000 ≤ F) : Ok (f_X9_read F y M) (fun r => r.1 = (sRd w dm dd tl tx).1 ∧ (∃ pc' ft', MJ r.2 y pc' ft' (sRd w dm dd tl tx).2.1 hi wi (sRd w dm dd tl tx).2.2.1 (sRd w dm dd tl tx).2.2.2 0 tx so si it) ∧ Fr M r.2 y (y + 17)) := by
  obtain ⟨⟨cm, c⟩, -⟩ := id h
  have ht := hK.2.2.2.1.1
  have hx := hK.2.2.2.1.2
  have hfl := fault_lt (tx := tx) ht
  unfold f_X9_read
  refine ok_b (ob_of c) ?_
  refine ok_m (through0 h ht hx hF) (fun r hr => ?_)
  obtain ⟨⟨pc', ft', J1, e1, e2⟩, f1⟩ := hr
  obtain ⟨⟨cm1, c1⟩, -⟩ := id J1
  refine ok_b (gI_of c1 rfl) ?_
  by_cases g : good tl tx
  · rw [show sRd w dm dd tl tx = _ from if_pos g]
    rw [e1 g] at c1 J1 ⊢
    refine ok_f (by decide) (ok_b (ob_of c1) ?_)
    refine ok_m (through1 J1 g ht hx (hKj g) hF) (fun r2 hr2 => ?_)
    obtain ⟨v2, ⟨pc2, ft2, J2⟩, f2⟩ := hr2
    refine ok_m (mput7 J2) (fun M3 hM3 => ?_)
    exact ok_v ⟨v2, ⟨pc2, ft2, hM3.1⟩, fun q hq => (hM3.2 q (by omega)).trans ((f2 q hq).trans (f1 q hq))⟩
  · rw [show sRd w dm dd tl tx = _ from if_neg g]
    rw [e2 g] at c1 J1 ⊢
    refine ok_t (nI_pos' (by omega)) (ok_b (gI_of c1 rfl) ?_)
    refine ok_m (mput7 J1) (fun M3 hM3 => ?_)
    exact ok_v ⟨rfl, ⟨_, _, hM3.1⟩, fun q hq => (hM3.2 q (by omega)).trans (f1 q hq)⟩
theorem m_of (h : MJ M y pc ft w hi wi dm dd tl tx so si it) (hK : KS w hi wi dm dd tl tx so si it) (a b : Int32) : f_X9_of y a b M = some (aOf a b w) := by
  obtain ⟨⟨cm, c⟩, hW, -⟩ := id h
  have ho := hK.1.1
  have h2 := ho.1
  have h5 := ho.2.1
  unfold f_X9_of
  refine bs (ob_of c) ?_
  by_cases qa : isL (w 0) a
  · rw [show aOf a b w = _ from if_pos qa]
    refine bs (isLetter_in h.nw h5 qa) (cf (by decide) ?_)
    obtain ⟨u, hu, rfl⟩ := qa
    rw [nIc (by omega)]
    by_cases qb : isL 3 b
    · refine bs (in_L (n := 3) (by decide) rfl qb) (cf (by decide) (bs (gR_of c rfl) ?_))
      obtain ⟨v, hv, rfl⟩ := qb
      rcases (show v = 0 ∨ v = 1 ∨ v = 2 by omega) with rfl | rfl | rfl
      · exact ct rfl (bs (hW.rd (2 + u) (nI_add 2 u) (by omega) (by decide)) rfl)
      · exact cf (by decide) (ct rfl (bs (hW.rd (7 + u) (nI_add 7 u) (by omega) (by decide)) rfl))
      · exact cf (by decide) (cf (by decide) (bs (hW.rd (12 + u) (nI_add 12 u) (by omega) (by decide)) rfl))
    · refine bs (in_NL (n := 3) (by decide) (by decide) rfl qb) (ct rfl ?_)
      exact congrArg some (Eq.symm (cf (fun e => qb ⟨0, by decide, e⟩) (cf (fun e => qb ⟨1, by decide, e⟩) (cf (fun e => qb ⟨2, by decide, e⟩) rfl))))
  · rw [show aOf a b w = _ from if_neg qa]
    exact bs (isLetter_out h.nw (by omega) h5 qa) (ct rfl rfl)
theorem m_count (h : MJ M y pc ft w hi wi dm dd tl tx so si it) (a : Int32) : f_X9_count y a M = some (aCnt a w dm tl) := by
  obtain ⟨⟨cm, c⟩, hW, -⟩ := id h
  unfold f_X9_count aCnt
  by_cases q0 : a = 0
  · rw [if_pos q0, if_pos q0]
    exact bs (gR_of c rfl) (bs (hW.rd 17 rfl (by omega) (by decide)) rfl)
  · rw [if_neg q0, if_neg q0]
    by_cases q1 : a = 1
    · rw [if_pos q1, if_pos q1]
      exact bs (gR_of c rfl) (bs (hW.rd 26 rfl (by omega) (by decide)) rfl)
    · rw [if_neg q1, if_neg q1]
      by_cases q2 : a = 2
      · rw [if_pos q2, if_pos q2]
        exact bs (gR_of c rfl) (bs (hW.rd 43 rfl (by omega) (by decide)) rfl)
      · rw [if_neg q2, if_neg q2]
        by_cases q3 : a = 3
        · rw [if_pos q3, if_pos q3]
          exact bs (gI_of c rfl) rfl
        · rw [if_neg q3, if_neg q3]
          by_cases q4 : a = 4
          · rw [if_pos q4, if_pos q4]
            exact bs (gI_of c rfl) rfl
          · rw [if_neg q4, if_neg q4]
theorem m_looked (h : MJ M y pc ft w hi wi dm dd tl tx so si it) (hK : KS w hi wi dm dd tl tx so si it) (hF : 1000 ≤ F) : f_X9_looked F y M = some (aLok w) := by
  obtain ⟨⟨cm, c⟩, hW, -⟩ := id h
  have h2 := hK.1.1.1
  have h5 := hK.1.1.2.1
  obtain ⟨-, -, -, -, k43, -, -, kb⟩ := hK.1
  have hlL := hK.1.1.2.2.2.2
  have hle := fa_first_le (bkB w) (w 43)
  have r1 : ∀ i, i < 8 → x_a32 .int M (y + 1) ((44 : Int32) + 2 * nI i) = some (nI (w (44 + 2 * i))) := fun i hi => hW.rd (44 + 2 * i) (by show nI 44 + nI 2 * nI i = _; rw [pk_mul, nI_add]) (by omega) (by decide)
  have r2 : ∀ i, i < 8 → x_a32 .int M (y + 1) ((44 : Int32) + 2 * nI i + 1) = some (nI (w (45 + 2 * i))) := fun i hi => hW.rd (45 + 2 * i) (by show nI 44 + nI 2 * nI i + 1 = _; rw [pk_mul, nI_add, e1]; congr 1; omega) (by omega) (by decide)
  unfold f_X9_looked
  refine ok_e (ok_loop (I := fun i q => q = nI i) (fa_first (bkB w) (w 43)) ?_ ?_ (fa_first (bkB w) (w 43)) 0 F _ (by omega) (by omega) rfl)
  · rintro k i q hi rfl hk
    have hno := fa_first_no (bkB w) (w 43) i hi
    simp only [bkB, decide_eq_false_iff_not, Classical.not_not] at hno
    have kbi := kb i (by omega)
    unfold b_X9_looked_2
    refine ok_b (gR_of c rfl) (ok_b (hW.rd 43 rfl (by omega) (by decide)) (ok_f (nI_ge (by omega) (by omega)) ?_))
    refine ok_b (gR_of c rfl) (ok_b (r1 i (by omega)) (ok_b (ob_of c) (ok_b (isLetter_in h.nw h5 ⟨_, hno.1, rfl⟩) (ok_f (by decide) ?_))))
    refine ok_b (gR_of c rfl) (ok_b (hW.rd (12 + w (44 + 2 * i)) (nI_add 12 _) (by omega) (by decide)) (ok_b (gR_of c rfl) (ok_b (r2 i (by omega)) ?_)))
    refine ok_t ?_ (hk _ (e1 i))
    show nI (rL w (w (44 + 2 * i))) = _
    rw [hno.2]
  · rintro k q rfl
    unfold b_X9_looked_2 aLok
    refine ok_b (gR_of c rfl) (ok_b (hW.rd 43 rfl (by omega) (by decide)) ?_)
    by_cases z : fa_first (bkB w) (w 43) < w 43
    · rw [if_pos z]
      refine ok_f (nI_ge z (by omega)) ?_
      have hyes := fa_first_yes (bkB w) (w 43) z
      simp only [bkB, decide_eq_true_eq] at hyes
      have kbi := kb _ z
      refine ok_b (gR_of c rfl) (ok_b (r1 _ (by omega)) (ok_b (ob_of c) ?_))
      by_cases c2 : w (44 + 2 * fa_first (bkB w) (w 43)) < w 0
      · refine ok_b (isLetter_in h.nw h5 ⟨_, c2, rfl⟩) (ok_f (by decide) ?_)
        refine ok_b (gR_of c rfl) (ok_b (hW.rd (12 + w (44 + 2 * fa_first (bkB w) (w 43))) (nI_add 12 _) (by omega) (by decide)) (ok_b (gR_of c rfl) (ok_b (r2 _ (by omega)) ?_)))
        have hb := hlL _ c2
        exact ok_f (fun e => hyes ⟨c2, nI_inj (by show rL w _ < _; omega) (by omega) e⟩) (ok_v rfl)
      · exact ok_b (isLetter_out h.nw (by omega) h5 (fun z => by obtain ⟨j, hj, e⟩ := z; have := nI_inj (by omega) (by omega) e; omega)) (ok_t rfl (ok_v rfl))
    · rw [if_neg z]
      exact ok_t (nI_le (by omega) (by omega)) (ok_v rfl)
/-- one more row of two, in the sixty -/
theorem madd_ok (h : MJ M y pc ft w hi wi dm dd tl tx so si it) {cc u v : Nat} (hcc : cc + 2 + 2 * w cc < 60) : Ok ((x_gR M y 9 0).bind fun v10 => (x_gR M y 9 0).bind fun v11 => (x_a32 .int M v11 (nI cc)).bind fun v12 => (x_w32 .int M v10 ((nI (cc + 1)) + ((2 : Int32) * v12)) (nI u)).bind fun m13 => (x_gR m13 y 9 0).bind fun v14 => (x_gR m13 y 9 0).bind fun v15 => (x_a32 .int m13 v15 (nI cc)).bind fun v16 => (x_w32 .int m13 v14 (((nI (cc + 1)) + ((2 : Int32) * v16)) + (1 : Int32)) (nI v)).bind fun m17 => (x_gR m17 y 9 0).bind fun v18 => (x_a32 .int m17 v18 (nI cc)).bind fun v19 => (x_w32 .int m17 v18 (nI cc) (v19 + (1 : Int32))).bind fun m20 => (x_gR m20 y 9 0).bind fun v21 => (x_a32 .int m20 v21 (nI cc)).bind fun v22 => some (v22, m20)) (fun r => r.1 = nI (w cc + 1) ∧ MJ r.2 y pc ft (nt2 w cc u v) hi wi dm dd tl tx so si it ∧ Fr M r.2 y (y + 17)) := by
  obtain ⟨⟨cm, c⟩, hW, -⟩ := id h
  refine ok_b (gR_of c rfl) (ok_b (gR_of c rfl) (ok_b (hW.rd cc rfl (by omega) (by decide)) ?_))
  have ei : ((nI (cc + 1)) + ((2 : Int32) * nI (w cc))) = nI (cc + 1 + 2 * w cc) := by show nI (cc + 1) + nI 2 * nI (w cc) = _; rw [pk_mul, nI_add]
  refine ok_m (h.nw.wr (cc + 1 + 2 * w cc) u ei rfl (by omega)) (fun M1 hM1 => ?_)
  have c1 : M1 y = _ := (hM1.2 y (by omega)).trans c
  have k1 : x_a32 .int M1 (y + 1) (nI cc) = some (nI (w cc)) := by rw [hM1.1.2.rd cc rfl (by omega) (by decide), upN_n (by omega)]
  refine ok_b (gR_of c1 rfl) (ok_b (gR_of c1 rfl) (ok_b k1 ?_))
  refine ok_m (hM1.1.wr (cc + 2 + 2 * w cc) v (by rw [ei, e1]; congr 1; omega) rfl (by omega)) (fun M2 hM2 => ?_)
  have c2 : M2 y = _ := (hM2.2 y (by omega)).trans c1
  have k2 : x_a32 .int M2 (y + 1) (nI cc) = some (nI (w cc)) := by rw [hM2.1.2.rd cc rfl (by omega) (by decide), upN_n (by omega), upN_n (by omega)]
  refine ok_b (gR_of c2 rfl) (ok_b k2 ?_)
  refine ok_m (hM2.1.wr cc (w cc + 1) rfl (e1 _) (by omega)) (fun M3 hM3 => ?_)
  have c3 : M3 y = _ := (hM3.2 y (by omega)).trans c2
  have k3 : x_a32 .int M3 (y + 1) (nI cc) = some (nI (w cc + 1)) := by rw [hM3.1.2.rd cc rfl (by omega) (by decide), upN_s]
  refine ok_b (gR_of c3 rfl) (ok_b k3 ?_)
  refine ok_v ⟨rfl, h.now (hM3.1.cg (fun k _ => ?_)) (fun q hq => (hM3.2 q hq).trans ((hM2.2 q hq).trans (hM1.2 q hq))), fun q hq => (hM3.2 q (by omega)).trans ((hM2.2 q (by omega)).trans (hM1.2 q (by omega)))⟩
  simp only [upN, nt2]
  by_cases z1 : k = cc
  · rw [if_pos z1, if_pos z1]
  · rw [if_neg z1, if_neg z1]
    by_cases z2 : k = cc + 2 + 2 * w cc
    · rw [if_pos z2, if_neg (by omega), if_pos z2]
    · rw [if_neg z2]
      by_cases z3 : k = cc + 1 + 2 * w cc
      · rw [if_pos z3, if_pos z3]
      · rw [if_neg z3, if_neg z3, if_neg z2]
theorem mclr_ok (h : MJ M y pc ft w hi wi dm dd tl tx so si it) {cc : Nat} (hcc : cc < 60) : Ok ((x_gR M y 9 0).bind fun v22 => (x_w32 .int M v22 (nI cc) (0 : Int32)).bind fun m23 => some ((0 : Int32), m23)) (fun r => r.1 = 0 ∧ MJ r.2 y pc ft (upN w cc 0) hi wi dm dd tl tx so si it ∧ Fr M r.2 y (y + 17)) := by
  obtain ⟨⟨cm, c⟩, hW, -⟩ := id h
  refine ok_b (gR_of c rfl) ?_
  refine ok_m (h.nw.wr cc 0 rfl rfl hcc) (fun M1 hM1 => ?_)
  exact ok_v ⟨rfl, h.now hM1.1 hM1.2, fun q hq => hM1.2 q (by omega)⟩
theorem m_see (h : MJ M y pc ft w hi wi dm dd tl tx so si it) (hK : KS w hi wi dm dd tl tx so si it) (a b : Int32) : Ok (f_X9_see y a b M) (fun r => r.1 = (sSee a b w).1 ∧ MJ r.2 y pc ft (sSee a b w).2 hi wi dm dd tl tx so si it ∧ Fr M r.2 y (y + 17)) := by
  obtain ⟨⟨cm, c⟩, hW, -⟩ := id h
  have k17 := hK.1.2.2.1
  unfold f_X9_see
  by_cases q : a = -1
  · rw [show sSee a b w = (0, upN w 17 0) from if_pos q]
    exact ok_t q (mclr_ok h (cc := 17) (by omega))
  · refine ok_f q ?_
    by_cases qa : isL 500 a
    · obtain ⟨u, hu, rfl⟩ := id qa
      refine ok_b (in_L (n := 500) (by decide) rfl qa) (ok_f (by decide) ?_)
      by_cases qb : isL 500 b
      · obtain ⟨v, hv, rfl⟩ := id qb
        refine ok_b (in_L (n := 500) (by decide) rfl qb) (ok_f (by decide) ?_)
        refine ok_b (gR_of c rfl) (ok_b (hW.rd 17 rfl (by omega) (by decide)) ?_)
        by_cases qc : w 17 = 4
        · have es : sSee (nI u) (nI v) w = (-4, w) := by unfold sSee; rw [if_neg q, if_pos ⟨qa, qb⟩, if_pos qc]
          rw [es]
          exact ok_t (by rw [qc]; rfl) (ok_v ⟨rfl, h, Fr.rf⟩)
        · have es : sSee (nI u) (nI v) w = (nI (w 17 + 1), nt2 w 17 u v) := by unfold sSee; rw [if_neg q, if_pos ⟨qa, qb⟩, if_neg qc, nIc (n := u) (by omega), nIc (n := v) (by omega)]
          rw [es]
          exact ok_f (fun e => qc (nI_inj (b := 4) (by omega) (by decide) e)) (madd_ok h (cc := 17) (by omega))
      · have es : sSee (nI u) b w = (-2, w) := by unfold sSee; rw [if_neg q, if_neg (fun z => qb z.2)]
        rw [es]
        exact ok_b (in_NL (n := 500) (by decide) (by decide) rfl qb) (ok_t rfl (ok_v ⟨rfl, h, Fr.rf⟩))
    · have es : sSee a b w = (-2, w) := by unfold sSee; rw [if_neg q, if_neg (fun z => qa z.1)]
      rw [es]
      exact ok_b (in_NL (n := 500) (by decide) (by decide) rfl qa) (ok_t rfl (ok_v ⟨rfl, h, Fr.rf⟩))
theorem m_book (h : MJ M y pc ft w hi wi dm dd tl tx so si it) (hK : KS w hi wi dm dd tl tx so si it) (a b : Int32) : Ok (f_X9_book y a b M) (fun r => r.1 = (sBok a b w).1 ∧ MJ r.2 y pc ft (sBok a b w).2 hi wi dm dd tl tx so si it ∧ Fr M r.2 y (y + 17)) := by
  obtain ⟨⟨cm, c⟩, hW, -⟩ := id h
  have k43 := hK.1.2.2.2.2.1
  have h2 := hK.1.1.1
  have h5 := hK.1.1.2.1
  unfold f_X9_book
  by_cases q : a = -1
  · rw [show sBok a b w = (0, upN w 43 0) from if_pos q]
    exact ok_t q (mclr_ok h (cc := 43) (by omega))
  · refine ok_f q (ok_b (ob_of c) ?_)
    by_cases qa : isL (w 0) a
    · obtain ⟨u, hu, rfl⟩ := id qa
      refine ok_b (isLetter_in h.nw h5 qa) (ok_f (by decide) ?_)
      by_cases q1 : b < 1
      · have es : sBok (nI u) b w = (-2, w) := by unfold sBok; rw [if_neg q, if_pos qa, if_pos q1]
        rw [es]
        exact ok_b (in_n (lo := 1) (hi := 99) rfl rfl (Or.inl q1)) (ok_t rfl (ok_v ⟨rfl, h, Fr.rf⟩))
      · by_cases q2 : 99 < b
        · have es : sBok (nI u) b w = (-2, w) := by unfold sBok; rw [if_neg q, if_pos qa, if_neg q1, if_pos q2]
          rw [es]
          exact ok_b (in_n (lo := 1) (hi := 99) rfl rfl (Or.inr q2)) (ok_t rfl (ok_v ⟨rfl, h, Fr.rf⟩))
        · obtain ⟨v, hv1, hv2, rfl⟩ := rngN (a := b) 1 99 (by decide) (by decide) q1 (fa_of_nlt q2)
          refine ok_b (in_y (lo := 1) (hi := 99) rfl rfl q1 q2) (ok_f (by decide) ?_)
          refine ok_b (gR_of c rfl) (ok_b (hW.rd 43 rfl (by omega) (by decide)) ?_)
          by_cases qc : w 43 = 8
          · have es : sBok (nI u) (nI v) w = (-4, w) := by unfold sBok; rw [if_neg q, if_pos qa, if_neg q1, if_neg q2, if_pos qc]
            rw [es]
            exact ok_t (by rw [qc]; rfl) (ok_v ⟨rfl, h, Fr.rf⟩)
          · have es : sBok (nI u) (nI v) w = (nI (w 43 + 1), nt2 w 43 u v) := by unfold sBok; rw [if_neg q, if_pos qa, if_neg q1, if_neg q2, if_neg qc, nIc (n := u) (by omega), nIc (n := v) (by omega)]
            rw [es]
            exact ok_f (fun e => qc (nI_inj (b := 8) (by omega) (by decide) e)) (madd_ok h (cc := 43) (by omega))
    · have es : sBok a b w = (-1, w) := by unfold sBok; rw [if_neg q, if_neg qa]
      rw [es]
      exact ok_b (isLetter_out h.nw (by omega) h5 qa) (ok_t rfl (ok_v ⟨rfl, h, Fr.rf⟩))
theorem m_event (h : MJ M y pc ft w hi wi dm dd tl tx so si it) (hK : KS w hi wi dm dd tl tx so si it) (a b : Int32) : Ok (f_X9_event y a b M) (fun r => r.1 = (sEvt a b w).1 ∧ MJ r.2 y pc ft (sEvt a b w).2 hi wi dm dd tl tx so si it ∧ Fr M r.2 y (y + 17)) := by
  obtain ⟨⟨cm, c⟩, hW, -⟩ := id h
  have k26 := hK.1.2.2.2.1
  have h2 := hK.1.1.1
  have h5 := hK.1.1.2.1
  unfold f_X9_event
  by_cases q : a = -1
  · rw [show sEvt a b w = (0, upN w 26 0) from if_pos q]
    exact ok_t q (mclr_ok h (cc := 26) (by omega))
  · refine ok_f q ?_
    have no : ∀ {a b : Int32} (v : Int32), sEvt a b w = (v, w) → Ok (some (v, M)) (fun r => r.1 = (sEvt a b w).1 ∧ MJ r.2 y pc ft (sEvt a b w).2 hi wi dm dd tl tx so si it ∧ Fr M r.2 y (y + 17)) := by
      intro a b v e
      rw [e]; exact ok_v ⟨rfl, h, Fr.rf⟩
    have fin : ∀ {u v : Nat}, sEvt (nI u) (nI v) w = (if w 26 = 8 then (-4, w) else (nI (w 26 + 1), nt2 w 26 u v)) → Ok (j_X9_event_68 y (nI u) (nI v) M) (fun r => r.1 = (sEvt (nI u) (nI v) w).1 ∧ MJ r.2 y pc ft (sEvt (nI u) (nI v) w).2 hi wi dm dd tl tx so si it ∧ Fr M r.2 y (y + 17)) := by
      intro u v e
      unfold j_X9_event_68
      refine ok_b (gR_of c rfl) (ok_b (hW.rd 26 rfl (by omega) (by decide)) ?_)
      by_cases qc : w 26 = 8
      · rw [e.trans (if_pos qc)]
        exact ok_t (by rw [qc]; rfl) (ok_v ⟨rfl, h, Fr.rf⟩)
      · rw [e.trans (if_neg qc)]
        exact ok_f (fun e => qc (nI_inj (b := 8) (by omega) (by decide) e)) (madd_ok h (cc := 26) (by omega))
    by_cases qa : isL 3 a
    · obtain ⟨u, hu, rfl⟩ := id qa
      refine ok_b (in_L (n := 3) (by decide) rfl qa) (ok_f (by decide) ?_)
      rcases (show u = 0 ∨ u = 1 ∨ u = 2 by omega) with rfl | rfl | rfl
      · refine ok_f (by decide) ?_
        unfold j_X9_event_40
        refine ok_f (by decide) ?_
        unfold j_X9_event_57
        refine ok_t rfl ?_
        by_cases qb : b = 0
        · subst qb
          refine ok_t rfl ?_
          refine fin (u := 0) (v := 0) ?_
          unfold sEvt
          rw [if_neg q, if_pos qa, if_neg (by rintro (⟨z, -⟩ | ⟨z, -⟩) <;> exact absurd z (by decide)), if_neg (fun z => z.2 rfl)]
          rfl
        · refine ok_f qb (no (-2) ?_)
          unfold sEvt
          rw [if_neg q, if_pos qa, if_neg (by rintro (⟨z, -⟩ | ⟨z, -⟩) <;> exact absurd z (by decide)), if_pos ⟨rfl, qb⟩]
      · refine ok_t rfl (ok_b (ob_of c) ?_)
        by_cases qb : isL (w 0) b
        · obtain ⟨v, hv, rfl⟩ := id qb
          refine ok_b (isLetter_in h.nw h5 qb) (ok_f (by decide) ?_)
          unfold j_X9_event_40
          refine ok_f (by decide) ?_
          unfold j_X9_event_57
          refine ok_f (by decide) ?_
          refine fin (u := 1) (v := v) ?_
          unfold sEvt
          rw [if_neg q, if_pos qa, if_neg (fun z => z.elim (fun z => z.2 qb) (fun z => absurd z.1 (by decide))), if_neg (fun z => absurd z.1 (by decide)), nIc (n := v) (by omega)]
          rfl
        · refine ok_b (isLetter_out h.nw (by omega) h5 qb) (ok_t rfl (no (-1) ?_))
          unfold sEvt
          rw [if_neg q, if_pos qa, if_pos (Or.inl ⟨rfl, qb⟩)]
      · refine ok_f (by decide) ?_
        unfold j_X9_event_40
        refine ok_t rfl ?_
        by_cases qb : isL 2 b
        · obtain ⟨v, hv, rfl⟩ := id qb
          refine ok_b (in_L (n := 2) (by decide) rfl qb) (ok_f (by decide) ?_)
          unfold j_X9_event_57
          refine ok_f (by decide) ?_
          refine fin (u := 2) (v := v) ?_
          unfold sEvt
          rw [if_neg q, if_pos qa, if_neg (fun z => z.elim (fun z => absurd z.1 (by decide)) (fun z => z.2 qb)), if_neg (fun z => absurd z.1 (by decide)), nIc (n := v) (by omega)]
          rfl
        · refine ok_b (in_NL (n := 2) (by decide) (by decide) rfl qb) (ok_t rfl (no (-1) ?_))
          unfold sEvt
          rw [if_neg q, if_pos qa, if_pos (Or.inr ⟨rfl, qb⟩)]
    · have es : sEvt a b w = (-1, w) := by unfold sEvt; rw [if_neg q, if_neg qa]
      exact ok_b (in_NL (n := 3) (by decide) (by decide) rfl qa) (ok_t rfl (no (-1) es))
theorem m_image (h : MJ M y pc ft w hi wi dm dd tl tx so si it) (hK : KS w hi wi dm dd tl tx so si it) (hF : 1000 ≤ F) : Ok (f_X9_image F y M) (fun r => r.1 = nI (fb_sm (rL w) (w 0)) ∧ MJ r.2 y pc ft w true w dm dd tl tx so si it ∧ Fr M r.2 y (y + 17)) := by
  obtain ⟨⟨cm, c⟩, hW, ⟨⟨v, a1, a2⟩, ⟨u, b1, b2⟩, ⟨t, c1, c2⟩, d1, d2, d3⟩, hS⟩ := id h
  unfold f_X9_image
  refine ok_b (gR_of c rfl) (ok_b (gR_of c rfl) ?_)
  refine ok_m (cpI_ok hW a1 (s := 0) (d := 0) (n := 60) (by omega) (by omega) (by omega) rfl rfl rfl) (fun M1 hM1 => ?_)
  have o1 : M1 y = _ := (hM1.2 y (by omega)).trans c
  refine ok_b (put_of o1 (by simp [MOb])) ?_
  generalize hm : x_up M1 y _ = M2
  have f2 : ∀ q, q ≠ y → q ≠ y + 2 → M2 q = M q := fun q z1 z2 => by subst hm; exact (up_n z1).trans (hM1.2 q z2)
  have o2 : M2 y = some (.inr (9, MOb y (bz true) (nI dm) (nI tl) pc ft cm)) := by subst hm; rw [up_s]; rfl
  have W2 : IA M2 (y + 1) 60 w := hW.fr (f2 _ (by omega) (by omega))
  refine ok_b (ob_of o2) (ok_b (mpoints_ok ⟨⟨_, _, _, _, _, _, o2⟩, W2⟩ hK.1.1.2.1 (by omega)) ?_)
  have I2 : IA M2 (y + 2) 60 w := by
    subst hm
    refine (hM1.1.fr (up_n (by omega))).cg (fun k hk => ?_)
    dsimp only
    rw [if_pos (by omega)]
    congr 2
    omega
  exact ok_v ⟨rfl, ⟨⟨cm, o2⟩, W2, ⟨⟨w, I2, fun _ k hk => rfl⟩, ⟨u, b1.fr (f2 _ (by omega) (by omega)), b2⟩, ⟨t, c1.fr (f2 _ (by omega) (by omega)), c2⟩, d1.fr (f2 _ (by omega) (by omega)), d2.fr (f2 _ (by omega) (by omega)), d3.fr (f2 _ (by omega) (by omega))⟩, hS.of (fun k a b c d => Or.inl (f2 _ (by omega) (by omega))) (Or.inl (f2 _ (by omega) (by omega)))⟩, fun q hq => f2 q (by omega) (by omega)⟩
theorem ptW_cg {w v : Nat → Nat} (h5 : w 0 ≤ 5) (e : ∀ k, k < 17 → v k = w k) : ptW v = ptW w := by
  unfold ptW
  rw [e 0 (by omega)]
  exact fb_sm_cong (fun k hk => e _ (by omega))
theorem m_undo (h : MJ M y pc ft w hi wi dm dd tl tx so si it) (hK : KS w hi wi dm dd tl tx so si it) (hF : 1000 ≤ F) : Ok (f_X9_undo F y M) (fun r => r.1 = (sUnd w hi wi dm dd).1 ∧ MJ r.2 y pc ft (sUnd w hi wi dm dd).2.1 hi wi (sUnd w hi wi dm dd).2.2.1 (sUnd w hi wi dm dd).2.2.2 tl tx so si it ∧ Fr M r.2 y (y + 17)) := by
  obtain ⟨⟨cm, c⟩, hW, ⟨⟨v, a1, a2⟩, ⟨u, b1, b2⟩, ⟨t, c1, c2⟩, d1, d2, d3⟩, hS⟩ := id h
  unfold f_X9_undo
  refine ok_b (gI_of c rfl) ?_
  cases hh : hi with
  | false =>
    subst hh
    exact ok_t rfl (ok_v ⟨rfl, h, Fr.rf⟩)
  | true =>
    subst hh
    refine ok_f (by decide) (ok_b (gR_of c rfl) (ok_b (gR_of c rfl) ?_))
    refine ok_m (cpI_ok a1 hW (s := 0) (d := 0) (n := 60) (by omega) (by omega) (by omega) rfl rfl rfl) (fun M1 hM1 => ?_)
    have o1 : M1 y = _ := (hM1.2 y (by omega)).trans c
    refine ok_b (put_of o1 (by simp [MOb])) ?_
    generalize hm : x_up M1 y _ = M2
    have f2 : ∀ q, q ≠ y → q ≠ y + 1 → M2 q = M q := fun q z1 z2 => by subst hm; exact (up_n z1).trans (hM1.2 q z2)
    have o2 : M2 y = some (.inr (9, MOb y (bz true) (nI 0) (nI tl) pc ft cm)) := by subst hm; rw [up_s]; rfl
    have W2 : IA M2 (y + 1) 60 wi := by
      subst hm
      refine (hM1.1.fr (up_n (by omega))).cg (fun k hk => ?_)
      dsimp only
      rw [if_pos (by omega), a2 rfl _ (by omega)]
      congr 2
      omega
    refine ok_b (ob_of o2) (ok_b (mpoints_ok ⟨⟨_, _, _, _, _, _, o2⟩, W2⟩ (hK.2.1 rfl).1.2.1 (by omega)) ?_)
    refine ok_v ⟨rfl, h.set (cm' := cm) o2 W2 ⟨u, b1.fr (f2 _ (by omega) (by omega)), fun k hk => absurd hk (Nat.not_lt_zero k)⟩ (fun q z1 z2 _ _ => f2 q z1 z2) ?_, fun q hq => f2 q (by omega) (by omega)⟩
    obtain ⟨t, ht⟩ := hS.1 4 (by omega) (by omega) (by omega) (by omega)
    exact ⟨t, ht.fr (f2 _ (by omega) (by omega))⟩
theorem MJ.tape {M' : XM} {so' : Nat → Int32} {si' : Nat → Nat} {it' : Nat → Int64} (h : MJ M y pc ft w hi wi dm dd tl tx so si it) (h1 : JA M' (y + 14) 6 so') (h2 : IA M' (y + 15) 6 si') (h3 : LA M' (y + 16) 360 it') (fr : ∀ q, q < y + 14 → M' q = M q) : MJ M' y pc ft w hi wi dm dd tl tx so' si' it' := by
  obtain ⟨⟨cm, c⟩, hW, ⟨⟨v, a1, a2⟩, ⟨u, b1, b2⟩, ⟨t, c1, c2⟩, d1, d2, d3⟩, hS⟩ := id h
  exact ⟨⟨cm, (fr _ (by omega)).trans c⟩, hW.fr (fr _ (by omega)), ⟨⟨v, a1.fr (fr _ (by omega)), a2⟩, ⟨u, b1.fr (fr _ (by omega)), b2⟩, ⟨t, c1.fr (fr _ (by omega)), c2⟩, h1, h2, h3⟩, hS.of (fun k a b c d => Or.inl (fr _ (by omega))) (Or.inl (fr _ (by omega)))⟩
theorem mTape_in {a : Int32} (h : isL 6 a) : f_X9_isTape a M = some 1 := by
  unfold f_X9_isTape
  exact bs (in_L (n := 6) (by decide) rfl h) (bs (v := ()) (by decide) rfl)
theorem mTape_out {a : Int32} (h : ¬ isL 6 a) : f_X9_isTape a M = some 0 := by
  unfold f_X9_isTape
  exact bs (in_NL (n := 6) (by decide) (by decide) rfl h) (bs (v := ()) (by decide) rfl)
theorem m_tape (h : MJ M y pc ft w hi wi dm dd tl tx so si it) (a b c' : Int32) (hF : 1000 ≤ F) : Ok (f_X9_tape F y a b c' M) (fun r => r.1 = (sTap a b c' so si it).1 ∧ MJ r.2 y pc ft w hi wi dm dd tl tx (sTap a b c' so si it).2.1 (sTap a b c' so si it).2.2.1 (sTap a b c' so si it).2.2.2 ∧ Fr M r.2 y (y + 17)) := by
  obtain ⟨⟨cm, c⟩, hW, ⟨-, -, -, d1, d2, d3⟩, hS⟩ := id h
  unfold f_X9_tape
  by_cases qa : isL 6 a
  · obtain ⟨i, hi6, rfl⟩ := id qa
    have es : sTap (nI i) b c' so si it = (if b = -1 then (1, upJ so i (-1), upN si i 0, itS it i (fun _ => 0)) else if b < 0 then (-2, so, si, it) else if 4 < b then (-2, so, si, it) else if c' ≤ 60 then (if 0 ≤ c' then (1, upJ so i b, upN si i c'.toNatClampNeg, itS it i (fun _ => 0)) else (-14, so, si, it)) else (-2, so, si, it)) := by
      unfold sTap; rw [if_pos qa, nIc (by omega)]
    refine ok_b (mTape_in qa) (ok_f (by decide) ?_)
    have loop : ∀ (s : Int32) (n : Nat) (M2 : XM), JA M2 (y + 14) 6 (upJ so i s) → IA M2 (y + 15) 6 (upN si i n) → (∀ q, q ≠ y + 14 → q ≠ y + 15 → M2 q = M q) → Ok (x_it (b_X9_tape_75 F y (nI i)) F (0, M2)) (fun r => r.1 = 1 ∧ MJ r.2 y pc ft w hi wi dm dd tl tx (upJ so i s) (upN si i n) (itS it i (fun _ => 0)) ∧ Fr M r.2 y (y + 17)) := by
      intro s n M2 g1 g2 g3
      refine ok_loop (I := fun k q => q.1 = nI k ∧ LA q.2 (y + 16) 360 (fun j => if 60 * i ≤ j ∧ j < 60 * i + k then 0 else it j) ∧ ∀ z, z ≠ y + 16 → q.2 z = M2 z) 60 ?_ ?_ 60 0 F _ (by omega) (by omega) ⟨rfl, (d3.fr (g3 _ (by omega) (by omega))).cg (fun k hk => ?_), fun _ _ => rfl⟩
      · rintro k j ⟨q1, q2⟩ hj ⟨rfl, g, fr⟩ hk
        dsimp only at g fr
        have o : q2 y = _ := (fr y (by omega)).trans ((g3 y (by omega) (by omega)).trans c)
        unfold b_X9_tape_75
        refine ok_f (nI_ge (b := 60) hj (by omega)) (ok_b (gR_of o rfl) ?_)
        refine ok_m (g.wr (60 * i + j) 0 (by show nI 60 * nI i + nI j = _; rw [pk_mul, nI_add]) (by omega) (by decide)) (fun M3 hM3 => ?_)
        refine hk _ ⟨e1 j, hM3.1.cg (fun k hk => ?_), fun z hz => (hM3.2 z hz).trans (fr z hz)⟩
        simp only [upL]
        by_cases z : k = 60 * i + j
        · rw [if_pos z, if_pos (by omega)]
        · rw [if_neg z]
          by_cases z2 : 60 * i ≤ k ∧ k < 60 * i + j
          · rw [if_pos z2, if_pos (by omega)]
          · rw [if_neg z2, if_neg (by omega)]
      · rintro k ⟨q1, q2⟩ ⟨rfl, g, fr⟩
        dsimp only at g fr
        unfold b_X9_tape_75
        refine ok_t (nI_le (a := 60) (b := 60) (Nat.le_refl _) (by omega)) (ok_v ⟨rfl, h.tape (g1.fr (fr _ (by omega))) (g2.fr (fr _ (by omega))) (g.cg (fun k hk => rfl)) (fun q hq => (fr q (by omega)).trans (g3 q (by omega) (by omega))), fun q hq => (fr q (by omega)).trans (g3 q (by omega) (by omega))⟩)
      · rw [if_neg (by omega)]
    have j49 : ∀ (s c2 : Int32) (n : Nat), (s = -1 ∧ n = 0) ∨ (s ≠ -1 ∧ c2 = nI n) → Ok (j_X9_tape_49 F y (nI i) s c2 M) (fun r => r.1 = 1 ∧ MJ r.2 y pc ft w hi wi dm dd tl tx (upJ so i s) (upN si i n) (itS it i (fun _ => 0)) ∧ Fr M r.2 y (y + 17)) := by
      intro s c2 n hs
      unfold j_X9_tape_49
      refine ok_b (gR_of c rfl) ?_
      refine ok_m (d1.wr i s rfl hi6 (by decide)) (fun M1 hM1 => ?_)
      have o1 : M1 y = _ := (hM1.2 y (by omega)).trans c
      refine ok_b (gR_of o1 rfl) ?_
      rcases hs with ⟨e, rfl⟩ | ⟨e, rfl⟩
      · refine ok_t e ?_
        refine ok_m (IA.wr (d2.fr (hM1.2 _ (by omega))) i 0 rfl rfl hi6 (by decide)) (fun M2 hM2 => ?_)
        exact loop s 0 M2 (hM1.1.fr (hM2.2 _ (by omega))) hM2.1 (fun q z1 z2 => (hM2.2 q z2).trans (hM1.2 q z1))
      · refine ok_f e ?_
        refine ok_m (IA.wr (d2.fr (hM1.2 _ (by omega))) i n rfl rfl hi6 (by decide)) (fun M2 hM2 => ?_)
        exact loop s n M2 (hM1.1.fr (hM2.2 _ (by omega))) hM2.1 (fun q z1 z2 => (hM2.2 q z2).trans (hM1.2 q z1))
    by_cases q1 : b = -1
    · rw [es.trans (if_pos q1)]
      refine ok_b (in_y (lo := -1) (hi := 4) rfl rfl (by rw [q1]; decide) (by rw [q1]; decide)) (ok_f (by decide) (ok_t q1 ?_))
      unfold j_X9_tape_37
      refine ok_t q1 ?_
      have := j49 b c' 0 (Or.inl ⟨q1, rfl⟩)
      rw [q1] at this ⊢
      exact this
    · rw [if_neg q1] at es
      by_cases q2 : b < 0
      · rw [es.trans (if_pos q2)]
        refine ok_b (in_n (lo := -1) (hi := 4) rfl rfl (Or.inl ?_)) (ok_t rfl (ok_v ⟨rfl, h, Fr.rf⟩))
        have h1 := (fa_lt _ _).mp q2
        have h2 : b.toInt ≠ -1 := fun e => q1 (Int32.toInt_inj.mp e)
        rw [fa_lt]
        rw [show ((0 : Int32).toInt) = 0 from rfl] at h1
        rw [show ((-1 : Int32).toInt) = -1 from rfl]
        omega
      · rw [if_neg q2] at es
        by_cases q3 : 4 < b
        · rw [es.trans (if_pos q3)]
          exact ok_b (in_n (lo := -1) (hi := 4) rfl rfl (Or.inr q3)) (ok_t rfl (ok_v ⟨rfl, h, Fr.rf⟩))
        · rw [if_neg q3] at es
          refine ok_b (in_y (lo := -1) (hi := 4) rfl rfl (fun z => q2 ?_) q3) (ok_f (by decide) (ok_f q1 ?_))
          · have h1 := (fa_lt _ _).mp z
            rw [fa_lt]
            rw [show ((0 : Int32).toInt) = 0 from rfl]
            rw [show ((-1 : Int32).toInt) = -1 from rfl] at h1
            omega
          · by_cases q4 : c' ≤ 60
            · rw [if_pos q4] at es
              refine ok_t q4 ?_
              unfold j_X9_tape_37
              refine ok_f q1 ?_
              by_cases q5 : 0 ≤ c'
              · rw [es.trans (if_pos q5)]
                refine ok_t q5 ?_
                obtain ⟨n, -, hn, rfl⟩ := rngN (a := c') 0 60 (by decide) (by decide) (fun z => absurd z (Int32.not_lt.mpr q5)) q4
                rw [nIc (by omega)]
                exact j49 b (nI n) n (Or.inr ⟨q1, rfl⟩)
              · rw [es.trans (if_neg q5)]
                exact ok_f q5 (ok_v ⟨rfl, h, Fr.rf⟩)
            · rw [es.trans (if_neg q4)]
              exact ok_f q4 (ok_v ⟨rfl, h, Fr.rf⟩)
  · rw [show sTap a b c' so si it = (-1, so, si, it) from if_neg qa]
    exact ok_b (mTape_out qa) (ok_t rfl (ok_v ⟨rfl, h, Fr.rf⟩))
end MOPS
