-- ASKED, TAPES
section ASK1
variable {M : XM} {F x : Nat} {w wi dd tx si : Nat → Nat} {hi : Bool} {dm tl : Nat} {so : Nat → Int32} {it : Nat → Int64}
noncomputable def aOf (a b : Int32) (w : Nat → Nat) : Int32 := @ite _ (isL (w 0) a) (Classical.propDecidable _) (if b = 0 then nI (rT w a.toNatClampNeg) else if b = 1 then nI (rB w a.toNatClampNeg) else if b = 2 then nI (rL w a.toNatClampNeg) else -1) (-1)
theorem c_of (h : CI M x w hi wi dm dd tl tx so si it) (a b : Int32) : f_X8_of x a b M = some (aOf a b w) := by
  obtain ⟨h0, h1, h3, h4, h5, h6, h7, h8⟩ := id h
  have c0 := h0; have c1 := h1.1; have c2 := h1.2.1.1
  unfold CO at c0
  have h5' := h8.1.1.2.1
  unfold f_X8_of
  iterate 3 (first | refine bs (gR_of (by assumption) (by rfl)) ?_ | refine bs (gI_of (by assumption) (by rfl)) ?_ | refine bs (ob_of (by assumption)) ?_)
  by_cases qa : isL (w 0) a
  · rw [show aOf a b w = _ from if_pos qa]
    obtain ⟨u, hu, rfl⟩ := qa
    rw [nIc (by omega)]
    refine bs (hasLetter_in h1.2.1 hu h5') (cf (by decide) ?_)
    by_cases q0 : b = 0
    · refine ct q0 ?_
      rw [if_pos q0]
      iterate 3 (first | refine bs (gR_of (by assumption) (by rfl)) ?_ | refine bs (gI_of (by assumption) (by rfl)) ?_ | refine bs (ob_of (by assumption)) ?_)
      exact bs (h1.2.1.2.1.rd u rfl (by omega) (by decide)) rfl
    · refine cf q0 ?_
      rw [if_neg q0]
      by_cases q1 : b = 1
      · refine ct q1 ?_
        rw [if_pos q1]
        iterate 3 (first | refine bs (gR_of (by assumption) (by rfl)) ?_ | refine bs (gI_of (by assumption) (by rfl)) ?_ | refine bs (ob_of (by assumption)) ?_)
        exact bs (h1.2.1.2.2.1.rd u rfl (by omega) (by decide)) rfl
      · refine cf q1 ?_
        rw [if_neg q1]
        by_cases q2 : b = 2
        · refine ct q2 ?_
          rw [if_pos q2]
          iterate 3 (first | refine bs (gR_of (by assumption) (by rfl)) ?_ | refine bs (gI_of (by assumption) (by rfl)) ?_ | refine bs (ob_of (by assumption)) ?_)
          exact bs (h1.2.1.2.2.2.rd u rfl (by omega) (by decide)) rfl
        · refine cf q2 ?_
          rw [if_neg q2]
  · rw [show aOf a b w = _ from if_neg qa]
    exact bs (hasLetter_out h1.2.1 (isL_no h5' qa)) (ct rfl rfl)
def aCnt (a : Int32) (w : Nat → Nat) (dm tl : Nat) : Int32 := if a = 0 then nI (w 17) else if a = 1 then nI (w 26) else if a = 2 then nI (w 43) else if a = 3 then nI tl else if a = 4 then nI dm else -2
theorem c_count (h : CI M x w hi wi dm dd tl tx so si it) (a : Int32) : f_X8_count x a M = some (aCnt a w dm tl) := by
  obtain ⟨h0, h1, h3, h4, h5, h6, h7, h8⟩ := id h
  have c0 := h0; have c1 := h1.1; have c2 := h1.2.2.1.1; have c3 := h1.2.2.2.1.1; have c4 := h1.2.2.2.2.1
  unfold CO at c0
  obtain ⟨e, c5⟩ := h4.cell
  obtain ⟨⟨p, m, c6⟩, -⟩ := h5
  unfold f_X8_count aCnt
  by_cases q0 : a = 0
  · rw [if_pos q0, if_pos q0]
    iterate 3 (first | refine bs (gR_of (by assumption) (by rfl)) ?_ | refine bs (gI_of (by assumption) (by rfl)) ?_ | refine bs (ob_of (by assumption)) ?_)
    rfl
  · rw [if_neg q0, if_neg q0]
    by_cases q1 : a = 1
    · rw [if_pos q1, if_pos q1]
      iterate 3 (first | refine bs (gR_of (by assumption) (by rfl)) ?_ | refine bs (gI_of (by assumption) (by rfl)) ?_ | refine bs (ob_of (by assumption)) ?_)
      rfl
    · rw [if_neg q1, if_neg q1]
      by_cases q2 : a = 2
      · rw [if_pos q2, if_pos q2]
        iterate 3 (first | refine bs (gR_of (by assumption) (by rfl)) ?_ | refine bs (gI_of (by assumption) (by rfl)) ?_ | refine bs (ob_of (by assumption)) ?_)
        rfl
      · rw [if_neg q2, if_neg q2]
        by_cases q3 : a = 3
        · rw [if_pos q3, if_pos q3]
          iterate 2 (first | refine bs (gR_of (by assumption) (by rfl)) ?_ | refine bs (gI_of (by assumption) (by rfl)) ?_ | refine bs (ob_of (by assumption)) ?_)
          rfl
        · rw [if_neg q3, if_neg q3]
          by_cases q4 : a = 4
          · rw [if_pos q4, if_pos q4]
            iterate 2 (first | refine bs (gR_of (by assumption) (by rfl)) ?_ | refine bs (gI_of (by assumption) (by rfl)) ?_ | refine bs (ob_of (by assumption)) ?_)
            rfl
          · rw [if_neg q4, if_neg q4]
/-- a row of the book that is otherwise now -/
def bkB (w : Nat → Nat) (i : Nat) : Bool := decide (¬ (w (44 + 2 * i) < w 0 ∧ rL w (w (44 + 2 * i)) = w (45 + 2 * i)))
def aLok (w : Nat → Nat) : Int32 := if fa_first (bkB w) (w 43) < w 43 then nI (fa_first (bkB w) (w 43)) else -5
theorem c_looked (h : CI M x w hi wi dm dd tl tx so si it) (hF : 1000 ≤ F) : f_X8_looked F x M = some (aLok w) := by
  obtain ⟨h0, h1, h3, h4, h5, h6, h7, h8⟩ := id h
  have c0 := h0; have c1 := h1.1; have c2 := h1.2.2.2.2.1; have c3 := h1.2.1.1
  unfold CO at c0
  have h5' := h8.1.1.2.1
  obtain ⟨-, -, -, -, k43, -, -, kb⟩ := h8.1
  have hlL := h8.1.1.2.2.2.2
  obtain ⟨-, n8, f', g', i1, i2, i3⟩ := h1.2.2.2.2
  have hle := fa_first_le (bkB w) (w 43)
  unfold f_X8_looked
  refine ok_e (ok_loop (I := fun i q => q = nI i) (fa_first (bkB w) (w 43)) ?_ ?_ (fa_first (bkB w) (w 43)) 0 F _ (by omega) (by omega) rfl)
  · rintro k i q hi rfl hk
    have hno := fa_first_no (bkB w) (w 43) i hi
    simp only [bkB, decide_eq_false_iff_not, Classical.not_not] at hno
    have kbi := kb i (by omega)
    have ei := i3 i (by omega)
    dsimp only at ei
    unfold b_X8_looked_2
    iterate 3 (first | refine ok_b (gR_of (by assumption) (by rfl)) ?_ | refine ok_b (gI_of (by assumption) (by rfl)) ?_ | refine ok_b (ob_of (by assumption)) ?_)
    refine ok_f (nI_ge (by omega) (by omega)) ?_
    iterate 3 (first | refine ok_b (gR_of (by assumption) (by rfl)) ?_ | refine ok_b (gI_of (by assumption) (by rfl)) ?_ | refine ok_b (ob_of (by assumption)) ?_)
    refine ok_b (i1.rd i rfl (by omega) (by decide)) ?_
    iterate 3 (first | refine ok_b (gR_of (by assumption) (by rfl)) ?_ | refine ok_b (gI_of (by assumption) (by rfl)) ?_ | refine ok_b (ob_of (by assumption)) ?_)
    rw [ei.1]
    refine ok_b (hasLetter_in h1.2.1 hno.1 h5') (ok_f (by decide) ?_)
    iterate 3 (first | refine ok_b (gR_of (by assumption) (by rfl)) ?_ | refine ok_b (gI_of (by assumption) (by rfl)) ?_ | refine ok_b (ob_of (by assumption)) ?_)
    refine ok_b (h1.2.1.2.2.2.rd (w (44 + 2 * i)) rfl (by omega) (by decide)) ?_
    iterate 3 (first | refine ok_b (gR_of (by assumption) (by rfl)) ?_ | refine ok_b (gI_of (by assumption) (by rfl)) ?_ | refine ok_b (ob_of (by assumption)) ?_)
    refine ok_b (i2.rd i rfl (by omega) (by decide)) ?_
    refine ok_t ?_ (hk _ (e1 i))
    rw [ei.2, hno.2]
  · rintro k q rfl
    unfold b_X8_looked_2 aLok
    iterate 3 (first | refine ok_b (gR_of (by assumption) (by rfl)) ?_ | refine ok_b (gI_of (by assumption) (by rfl)) ?_ | refine ok_b (ob_of (by assumption)) ?_)
    by_cases c : fa_first (bkB w) (w 43) < w 43
    · rw [if_pos c]
      refine ok_f (nI_ge c (by omega)) ?_
      have hyes := fa_first_yes (bkB w) (w 43) c
      simp only [bkB, decide_eq_true_eq] at hyes
      have kbi := kb _ c
      have ei := i3 _ c
      dsimp only at ei
      iterate 3 (first | refine ok_b (gR_of (by assumption) (by rfl)) ?_ | refine ok_b (gI_of (by assumption) (by rfl)) ?_ | refine ok_b (ob_of (by assumption)) ?_)
      refine ok_b (i1.rd _ rfl (show fa_first (bkB w) (w 43) < 8 by omega) (by decide)) ?_
      iterate 3 (first | refine ok_b (gR_of (by assumption) (by rfl)) ?_ | refine ok_b (gI_of (by assumption) (by rfl)) ?_ | refine ok_b (ob_of (by assumption)) ?_)
      rw [ei.1]
      by_cases c2 : w (44 + 2 * fa_first (bkB w) (w 43)) < w 0
      · refine ok_b (hasLetter_in h1.2.1 c2 h5') (ok_f (by decide) ?_)
        iterate 3 (first | refine ok_b (gR_of (by assumption) (by rfl)) ?_ | refine ok_b (gI_of (by assumption) (by rfl)) ?_ | refine ok_b (ob_of (by assumption)) ?_)
        refine ok_b (h1.2.1.2.2.2.rd (w (44 + 2 * fa_first (bkB w) (w 43))) rfl (by omega) (by decide)) ?_
        iterate 3 (first | refine ok_b (gR_of (by assumption) (by rfl)) ?_ | refine ok_b (gI_of (by assumption) (by rfl)) ?_ | refine ok_b (ob_of (by assumption)) ?_)
        refine ok_b (i2.rd _ rfl (show fa_first (bkB w) (w 43) < 8 by omega) (by decide)) ?_
        have hb := hlL _ c2
        refine ok_f (fun e => ?_) (ok_v rfl)
        rw [ei.2] at e
        exact hyes ⟨c2, nI_inj (by omega) (by omega) e⟩
      · refine ok_b (hasLetter_out h1.2.1 (Or.inr (nI_le (by omega) (by omega)))) (ok_t rfl (ok_v rfl))
    · rw [if_neg c]
      exact ok_t (nI_le (by omega) (by omega)) (ok_v rfl)
theorem c_image (h : CI M x w hi wi dm dd tl tx so si it) (hF : 1000 ≤ F) : Ok (f_X8_image F x M) (fun r => r.1 = nI (fb_sm (rL w) (w 0)) ∧ CI r.2 x w true w dm dd tl tx so si it ∧ Fr M r.2 x (x + 111)) := by
  obtain ⟨h0, h1, h3, h4, h5, h6, h7, h8⟩ := id h
  have c0 := h0; have c1 := h1.1; have c2 := h1.2.1.1; have c3 := h3.1
  unfold CO at c0
  unfold f_X8_image
  iterate 3 (first | refine ok_b (gR_of (by assumption) (by rfl)) ?_ | refine ok_b (gI_of (by assumption) (by rfl)) ?_ | refine ok_b (ob_of (by assumption)) ?_)
  refine ok_m (scopy_ok h3 h1 (by omega) hF) (fun M1 hM1 => ?_)
  have f1 := hM1.2
  have d0 : M1 x = _ := (f1 x (by omega)).trans c0
  refine ok_b (put_of d0 (by simp)) ?_
  generalize hm : x_up M1 x _ = M2
  have f2 : ∀ q, q ≠ x → M2 q = M1 q := fun q hq => by subst hm; exact up_n hq
  have e0 : M2 x = some (.inr (8, [.ref (x + 1), .ref (x + 15), .int (bz true), .ref (x + 29), .ref (x + 79), .ref (x + 84), .ref (x + 87), .ref (x + 94), .ref (x + 98)])) := by subst hm; rw [up_s]; rfl
  have fr : ∀ q, q ≠ x → (q < x + 15 ∨ x + 29 ≤ q) → M2 q = M q := fun q q1 q2 => (f2 q q1).trans (f1 q (by omega))
  have hS : SU M2 (x + 1) w := h1.fr (fun q a1 a2 => fr q (by omega) (by omega))
  have e1 := hS.1; have e2 := hS.2.1.1
  iterate 3 (first | refine ok_b (gR_of (by assumption) (by rfl)) ?_ | refine ok_b (gI_of (by assumption) (by rfl)) ?_ | refine ok_b (ob_of (by assumption)) ?_)
  refine ok_b (points_ok hS.2.1 h8.1.1.2.1 (by omega)) ?_
  refine ok_v ⟨rfl, ⟨e0, hS, hM1.1.fr (fun q a1 a2 => f2 q (by omega)), h4.fr (fun q a1 a2 => fr q (by omega) (by omega)), h5.fr (fun q a1 a2 => fr q (by omega) (by omega)), h6.fr (fun q a1 a2 => fr q (by omega) (by omega)), h7.fr (fun q a1 a2 => fr q (by omega) (by omega)), h8.1, fun _ => h8.1, h8.2.2⟩, fun q hq => fr q (by omega) (by omega)⟩
def sUnd (w : Nat → Nat) (hi : Bool) (wi : Nat → Nat) (dm : Nat) (dd : Nat → Nat) : Int32 × T3 := if hi = true then (nI (fb_sm (rL wi) (wi 0)), wi, 0, dd) else (-3, w, dm, dd)
theorem c_undo (h : CI M x w hi wi dm dd tl tx so si it) (hF : 1000 ≤ F) : Ok (f_X8_undo F x M) (fun r => r.1 = (sUnd w hi wi dm dd).1 ∧ CI r.2 x (sUnd w hi wi dm dd).2.1 hi wi (sUnd w hi wi dm dd).2.2.1 (sUnd w hi wi dm dd).2.2.2 tl tx so si it ∧ Fr M r.2 x (x + 111)) := by
  obtain ⟨h0, h1, h3, h4, h5, h6, h7, h8⟩ := id h
  have c0 := h0; have c1 := h1.1; have c2 := h1.2.1.1; have c3 := h3.1
  unfold CO at c0
  unfold f_X8_undo
  iterate 1 (first | refine ok_b (gR_of (by assumption) (by rfl)) ?_ | refine ok_b (gI_of (by assumption) (by rfl)) ?_ | refine ok_b (ob_of (by assumption)) ?_)
  cases hh : hi with
  | false =>
    subst hh
    exact ok_t rfl (ok_v ⟨rfl, h, Fr.rf⟩)
  | true =>
    subst hh
    refine ok_f (by decide) ?_
    iterate 3 (first | refine ok_b (gR_of (by assumption) (by rfl)) ?_ | refine ok_b (gI_of (by assumption) (by rfl)) ?_ | refine ok_b (ob_of (by assumption)) ?_)
    refine ok_m (scopy_ok h1 h3 (by omega) hF) (fun M1 hM1 => ?_)
    have f1 := hM1.2
    have d0 : M1 x = _ := (f1 x (by omega)).trans c0
    have hD1 : DD M1 (x + 29) (w 0) dm dd := h4.fr (fun q a1 a2 => f1 q (by omega))
    obtain ⟨e3, d3⟩ := hD1.cell
    iterate 2 (first | refine ok_b (gR_of (by assumption) (by rfl)) ?_ | refine ok_b (gI_of (by assumption) (by rfl)) ?_ | refine ok_b (ob_of (by assumption)) ?_)
    refine ok_m (forget_ok hD1 (wi 0)) (fun M2 hM2 => ?_)
    have f2 := hM2.2
    have e0 : M2 x = _ := (f2 x (by omega)).trans d0
    have hS : SU M2 (x + 1) wi := hM1.1.fr (fun q a1 a2 => f2 q (by omega))
    have e1 := hS.1; have e2 := hS.2.1.1
    iterate 3 (first | refine ok_b (gR_of (by assumption) (by rfl)) ?_ | refine ok_b (gI_of (by assumption) (by rfl)) ?_ | refine ok_b (ob_of (by assumption)) ?_)
    have hW := h8.2.1 rfl
    refine ok_b (points_ok hS.2.1 hW.1.2.1 (by omega)) ?_
    exact ok_v ⟨rfl, h.set hS hM2.1 (fun q q1 q2 => (f2 q (by omega)).trans (f1 q (by omega))) hW KD.z, fun q hq => (f2 q (by omega)).trans (f1 q (by omega))⟩
end ASK1
