-- SEEN, EVENTS, BOOKS, THE IMAGE
theorem isL_no2 {n : Nat} {a : Int32} (hn : n < 2147483648) (h : ¬ isL n a) : a < 0 ∨ nI n ≤ a := by
  rcases pk_ix a (n := n) (by omega) with q | q | q
  · exact Or.inl q
  · exact Or.inr q
  · exact absurd q h
theorem SU.seen {M M' : XM} {s : Nat} {w w' : Nat → Nat} (h : SU M s w) (hN : NT M' (s + 5) 4 (w' 17) (fun i => w' (18 + 2 * i)) (fun i => w' (19 + 2 * i))) (fr : Fr M M' (s + 5) (s + 8)) (he : ∀ k, (k < 17 ∨ 26 ≤ k) → k < 60 → w' k = w k) : SU M' s w' := by
  obtain ⟨h0, h1, h3, h4, h5⟩ := h
  have c0 := he 0 (by omega) (by omega); have c1 := he 1 (by omega) (by omega); have c26 := he 26 (by omega) (by omega); have c43 := he 43 (by omega) (by omega)
  refine ⟨by rw [c1]; exact (fr s (by omega)).trans h0, ?_, hN, ?_, ?_⟩
  · unfold RWw; rw [c0]; exact (h1.fr (fun q a1 a2 => fr q (by omega))).cg (fun k hk => (he _ (by omega) (by omega)).symm) (fun k hk => (he _ (by omega) (by omega)).symm) (fun k hk => (he _ (by omega) (by omega)).symm)
  · rw [c26]; have := h4.2.1; exact (h4.fr (fun q a1 a2 => fr q (by omega))).cg (fun i hi => ⟨(he _ (by omega) (by omega)).symm, (he _ (by omega) (by omega)).symm⟩)
  · rw [c43]; have := h5.2.1; exact (h5.fr (fun q a1 a2 => fr q (by omega))).cg (fun i hi => ⟨(he _ (by omega) (by omega)).symm, (he _ (by omega) (by omega)).symm⟩)
theorem SU.evts {M M' : XM} {s : Nat} {w w' : Nat → Nat} (h : SU M s w) (hN : NT M' (s + 8) 8 (w' 26) (fun i => w' (27 + 2 * i)) (fun i => w' (28 + 2 * i))) (fr : Fr M M' (s + 8) (s + 11)) (he : ∀ k, (k < 26 ∨ 43 ≤ k) → k < 60 → w' k = w k) : SU M' s w' := by
  obtain ⟨h0, h1, h3, h4, h5⟩ := h
  have c0 := he 0 (by omega) (by omega); have c1 := he 1 (by omega) (by omega); have c17 := he 17 (by omega) (by omega); have c43 := he 43 (by omega) (by omega)
  refine ⟨by rw [c1]; exact (fr s (by omega)).trans h0, ?_, ?_, hN, ?_⟩
  · unfold RWw; rw [c0]; exact (h1.fr (fun q a1 a2 => fr q (by omega))).cg (fun k hk => (he _ (by omega) (by omega)).symm) (fun k hk => (he _ (by omega) (by omega)).symm) (fun k hk => (he _ (by omega) (by omega)).symm)
  · rw [c17]; have := h3.2.1; exact (h3.fr (fun q a1 a2 => fr q (by omega))).cg (fun i hi => ⟨(he _ (by omega) (by omega)).symm, (he _ (by omega) (by omega)).symm⟩)
  · rw [c43]; have := h5.2.1; exact (h5.fr (fun q a1 a2 => fr q (by omega))).cg (fun i hi => ⟨(he _ (by omega) (by omega)).symm, (he _ (by omega) (by omega)).symm⟩)
theorem SU.book {M M' : XM} {s : Nat} {w w' : Nat → Nat} (h : SU M s w) (hN : NT M' (s + 11) 8 (w' 43) (fun i => w' (44 + 2 * i)) (fun i => w' (45 + 2 * i))) (fr : Fr M M' (s + 11) (s + 14)) (he : ∀ k, k < 43 → w' k = w k) : SU M' s w' := by
  obtain ⟨h0, h1, h3, h4, h5⟩ := h
  have c0 := he 0 (by omega); have c1 := he 1 (by omega); have c26 := he 26 (by omega); have c17 := he 17 (by omega)
  refine ⟨by rw [c1]; exact (fr s (by omega)).trans h0, ?_, ?_, ?_, hN⟩
  · unfold RWw; rw [c0]; exact (h1.fr (fun q a1 a2 => fr q (by omega))).cg (fun k hk => (he _ (by omega)).symm) (fun k hk => (he _ (by omega)).symm) (fun k hk => (he _ (by omega)).symm)
  · rw [c17]; have := h3.2.1; exact (h3.fr (fun q a1 a2 => fr q (by omega))).cg (fun i hi => ⟨(he _ (by omega)).symm, (he _ (by omega)).symm⟩)
  · rw [c26]; have := h4.2.1; exact (h4.fr (fun q a1 a2 => fr q (by omega))).cg (fun i hi => ⟨(he _ (by omega)).symm, (he _ (by omega)).symm⟩)
/-- one more row of two behind so many at place c of the sixty -/
def nt2 (w : Nat → Nat) (c u v : Nat) : Nat → Nat := fun k => if k = c then w c + 1 else if k = c + 1 + 2 * w c then u else if k = c + 2 + 2 * w c then v else w k
theorem nt2_f {w : Nat → Nat} {c u v : Nat} : (fun i => nt2 w c u v (c + 1 + 2 * i)) = upN (fun i => w (c + 1 + 2 * i)) (w c) u ∧ (fun i => nt2 w c u v (c + 2 + 2 * i)) = upN (fun i => w (c + 2 + 2 * i)) (w c) v := by
  constructor
  · funext i
    simp only [nt2, upN]
    rw [if_neg (by omega)]
    by_cases q : i = w c
    · rw [if_pos q, if_pos (by omega)]
    · rw [if_neg q, if_neg (by omega), if_neg (by omega)]
  · funext i
    simp only [nt2, upN]
    rw [if_neg (by omega), if_neg (by omega)]
    by_cases q : i = w c
    · rw [if_pos q, if_pos (by omega)]
    · rw [if_neg q, if_neg (by omega)]
theorem nt2_o {w : Nat → Nat} {c u v k : Nat} (h : k < c ∨ c + 2 + 2 * w c < k) : nt2 w c u v k = w k := by
  simp only [nt2]; rw [if_neg (by omega), if_neg (by omega), if_neg (by omega)]
theorem nt2_c {w : Nat → Nat} {c u v : Nat} : nt2 w c u v c = w c + 1 := if_pos rfl
theorem nt2_u {w : Nat → Nat} {c u v : Nat} : nt2 w c u v (c + 1 + 2 * w c) = u := by unfold nt2; rw [if_neg (by omega), if_pos rfl]
theorem nt2_v {w : Nat → Nat} {c u v : Nat} : nt2 w c u v (c + 2 + 2 * w c) = v := by unfold nt2; rw [if_neg (by omega), if_neg (by omega), if_pos rfl]
theorem nt2_i {w : Nat → Nat} {c u v i : Nat} (h : i < w c) : nt2 w c u v (c + 1 + 2 * i) = w (c + 1 + 2 * i) ∧ nt2 w c u v (c + 2 + 2 * i) = w (c + 2 + 2 * i) := by
  simp only [nt2]; rw [if_neg (by omega), if_neg (by omega), if_neg (by omega), if_neg (by omega), if_neg (by omega), if_neg (by omega)]; exact ⟨rfl, rfl⟩
theorem ORw.cg {w w' : Nat → Nat} (a0 : ORw w) (h : ∀ k, k < 17 → w' k = w k) : ORw w' := by
  unfold ORw
  rw [h 0 (by omega)]
  have := a0.2.1
  exact OR.cg (n := w 0) (t := rT w) (b := rB w) (l := rL w) a0 (fun k hk => (h _ (by omega)).symm) (fun k hk => (h _ (by omega)).symm) (fun k hk => (h _ (by omega)).symm)
theorem OKW.cl {w : Nat → Nat} (h : OKW w) {c : Nat} (hc : c = 17 ∨ c = 26 ∨ c = 43) : OKW (upN w c 0) := by
  obtain ⟨a0, a1, a2, a3, a4, a5, a6, a7⟩ := h
  have ho : ORw (upN w c 0) := a0.cg (fun k hk => upN_n (by omega))
  refine ⟨ho, by rw [upN_n (by omega)]; exact a1, ?_, ?_, ?_, fun i hi => ?_, fun i hi => ?_, fun i hi => ?_⟩
  · by_cases q : 17 = c
    · rw [← q, upN_s]; omega
    · rw [upN_n q]; exact a2
  · by_cases q : 26 = c
    · rw [← q, upN_s]; omega
    · rw [upN_n q]; exact a3
  · by_cases q : 43 = c
    · rw [← q, upN_s]; omega
    · rw [upN_n q]; exact a4
  · by_cases q : 17 = c
    · rw [← q, upN_s] at hi; omega
    · rw [upN_n q] at hi
      rw [upN_n (by omega), upN_n (by omega)]; exact a5 i hi
  · by_cases q : 26 = c
    · rw [← q, upN_s] at hi; omega
    · rw [upN_n q] at hi
      rw [upN_n (by omega), upN_n (by omega)]; exact a6 i hi
  · by_cases q : 43 = c
    · rw [← q, upN_s] at hi; omega
    · rw [upN_n q] at hi
      rw [upN_n (by omega), upN_n (by omega)]; exact a7 i hi
theorem OKW.seen {w : Nat → Nat} (h : OKW w) {u v : Nat} (hc : w 17 < 4) (hu : u < 500) (hv : v < 500) : OKW (nt2 w 17 u v) := by
  obtain ⟨a0, a1, a2, a3, a4, a5, a6, a7⟩ := h
  have ho : ∀ k, k < 17 ∨ 26 ≤ k → nt2 w 17 u v k = w k := fun k hk => nt2_o (by omega)
  refine ⟨a0.cg (fun k hk => ho k (by omega)), by rw [ho 1 (by omega)]; exact a1, by rw [nt2_c]; omega, by rw [ho 26 (by omega)]; exact a3, by rw [ho 43 (by omega)]; exact a4, fun i hi => ?_, fun i hi => ?_, fun i hi => ?_⟩
  · rw [nt2_c] at hi
    by_cases q : i = w 17
    · subst q
      exact ⟨by rw [show 18 + 2 * w 17 = 17 + 1 + 2 * w 17 by omega, nt2_u]; exact hu, by rw [show 19 + 2 * w 17 = 17 + 2 + 2 * w 17 by omega, nt2_v]; exact hv⟩
    · have := nt2_i (w := w) (c := 17) (u := u) (v := v) (i := i) (by omega)
      rw [show 17 + 1 + 2 * i = 18 + 2 * i by omega, show 17 + 2 + 2 * i = 19 + 2 * i by omega] at this
      rw [this.1, this.2]; exact a5 i (by omega)
  · rw [ho 26 (by omega)] at hi
    rw [ho _ (by omega), ho _ (by omega)]; exact a6 i hi
  · rw [ho 43 (by omega)] at hi
    rw [ho _ (by omega), ho _ (by omega)]; exact a7 i hi
theorem OKW.evts {w : Nat → Nat} (h : OKW w) {u v : Nat} (hc : w 26 < 8) (hu : EV u v) : OKW (nt2 w 26 u v) := by
  obtain ⟨a0, a1, a2, a3, a4, a5, a6, a7⟩ := h
  have ho : ∀ k, k < 26 ∨ 43 ≤ k → nt2 w 26 u v k = w k := fun k hk => nt2_o (by omega)
  refine ⟨a0.cg (fun k hk => ho k (by omega)), by rw [ho 1 (by omega)]; exact a1, by rw [ho 17 (by omega)]; exact a2, by rw [nt2_c]; omega, by rw [ho 43 (by omega)]; exact a4, fun i hi => ?_, fun i hi => ?_, fun i hi => ?_⟩
  · rw [ho 17 (by omega)] at hi
    rw [ho _ (by omega), ho _ (by omega)]; exact a5 i hi
  · rw [nt2_c] at hi
    by_cases q : i = w 26
    · subst q
      rw [show 27 + 2 * w 26 = 26 + 1 + 2 * w 26 by omega, nt2_u, show 28 + 2 * w 26 = 26 + 2 + 2 * w 26 by omega, nt2_v]; exact hu
    · have := nt2_i (w := w) (c := 26) (u := u) (v := v) (i := i) (by omega)
      rw [show 26 + 1 + 2 * i = 27 + 2 * i by omega, show 26 + 2 + 2 * i = 28 + 2 * i by omega] at this
      rw [this.1, this.2]; exact a6 i (by omega)
  · rw [ho 43 (by omega)] at hi
    rw [ho _ (by omega), ho _ (by omega)]; exact a7 i hi
theorem OKW.book {w : Nat → Nat} (h : OKW w) {u v : Nat} (hc : w 43 < 8) (hu : u < 5) (hv : v ≤ 99) : OKW (nt2 w 43 u v) := by
  obtain ⟨a0, a1, a2, a3, a4, a5, a6, a7⟩ := h
  have ho : ∀ k, k < 43 → nt2 w 43 u v k = w k := fun k hk => nt2_o (by omega)
  refine ⟨a0.cg (fun k hk => ho k (by omega)), by rw [ho 1 (by omega)]; exact a1, by rw [ho 17 (by omega)]; exact a2, by rw [ho 26 (by omega)]; exact a3, by rw [nt2_c]; omega, fun i hi => ?_, fun i hi => ?_, fun i hi => ?_⟩
  · rw [ho 17 (by omega)] at hi
    rw [ho _ (by omega), ho _ (by omega)]; exact a5 i hi
  · rw [ho 26 (by omega)] at hi
    rw [ho _ (by omega), ho _ (by omega)]; exact a6 i hi
  · rw [nt2_c] at hi
    by_cases q : i = w 43
    · subst q
      exact ⟨by rw [show 44 + 2 * w 43 = 43 + 1 + 2 * w 43 by omega, nt2_u]; exact hu, by rw [show 45 + 2 * w 43 = 43 + 2 + 2 * w 43 by omega, nt2_v]; exact hv⟩
    · have := nt2_i (w := w) (c := 43) (u := u) (v := v) (i := i) (by omega)
      rw [show 43 + 1 + 2 * i = 44 + 2 * i by omega, show 43 + 2 + 2 * i = 45 + 2 * i by omega] at this
      rw [this.1, this.2]; exact a7 i (by omega)
noncomputable def sSee (a b : Int32) (w : Nat → Nat) : Int32 × (Nat → Nat) := if a = -1 then (0, upN w 17 0) else @ite _ (isL 500 a ∧ isL 500 b) (Classical.propDecidable _) (if w 17 = 4 then (-4, w) else (nI (w 17 + 1), nt2 w 17 a.toNatClampNeg b.toNatClampNeg)) (-2, w)
noncomputable def sEvt (a b : Int32) (w : Nat → Nat) : Int32 × (Nat → Nat) := if a = -1 then (0, upN w 26 0) else @ite _ (isL 3 a) (Classical.propDecidable _) (@ite _ ((a = 1 ∧ ¬ isL (w 0) b) ∨ (a = 2 ∧ ¬ isL 2 b)) (Classical.propDecidable _) (-1, w) (if a = 0 ∧ b ≠ 0 then (-2, w) else if w 26 = 8 then (-4, w) else (nI (w 26 + 1), nt2 w 26 a.toNatClampNeg b.toNatClampNeg))) (-1, w)
noncomputable def sBok (a b : Int32) (w : Nat → Nat) : Int32 × (Nat → Nat) := if a = -1 then (0, upN w 43 0) else @ite _ (isL (w 0) a) (Classical.propDecidable _) (if b < 1 then (-2, w) else if 99 < b then (-2, w) else if w 43 = 8 then (-4, w) else (nI (w 43 + 1), nt2 w 43 a.toNatClampNeg b.toNatClampNeg)) (-1, w)
section NOTES2
variable {M : XM} {F x : Nat} {w wi dd tx si : Nat → Nat} {hi : Bool} {dm tl : Nat} {so : Nat → Int32} {it : Nat → Int64}
theorem CI.w1 {M' : XM} {w' : Nat → Nat} (h : CI M x w hi wi dm dd tl tx so si it) (hS : SU M' (x + 1) w') (fr : Fr M M' (x + 1) (x + 15)) (hW : OKW w') (e : w' 0 = w 0) : CI M' x w' hi wi dm dd tl tx so si it :=
  h.set hS (by rw [e]; exact h.2.2.2.1.fr (fun q a1 a2 => fr q (by omega))) (fun q q1 q2 => fr q (by omega)) hW (by rw [e]; exact h.2.2.2.2.2.2.2.2.2.1)
theorem cbs_in {j : Nat} (h : j < 500) : f_X8_canBeSeen (nI j) M = some 1 := cf (nI_pos (by omega)) (cf (nI_nlt (b := j) (a := 499) (by omega) (by omega)) rfl)
theorem cbs_out {a : Int32} (h : ¬ isL 500 a) : f_X8_canBeSeen a M = some 0 := by
  unfold f_X8_canBeSeen
  by_cases c : a < 0
  · exact ct c rfl
  · refine cf c (ct ?_ rfl)
    rcases isL_no2 (by decide) h with q | q
    · exact absurd q c
    · have := (fa_le _ _).mp q
      rw [fa_lt]
      rw [show ((499 : Int32).toInt) = 499 from rfl]
      rw [show ((nI 500).toInt) = 500 from rfl] at this
      omega
theorem c_see (h : CI M x w hi wi dm dd tl tx so si it) (a b : Int32) : Ok (f_X8_see x a b M) (fun r => r.1 = (sSee a b w).1 ∧ CI r.2 x (sSee a b w).2 hi wi dm dd tl tx so si it ∧ Fr M r.2 x (x + 111)) := by
  obtain ⟨h0, h1, h3, h4, h5, h6, h7, h8⟩ := id h
  have c0 := h0; have c1 := h1.1; have c2 := h1.2.2.1.1
  unfold CO at c0
  have h4' := h1.2.2.1.2.1
  unfold f_X8_see
  by_cases q : a = -1
  · rw [show sSee a b w = (0, upN w 17 0) from if_pos q]
    refine ok_t q ?_
    iterate 3 (first | refine ok_b (gR_of (by assumption) (by rfl)) ?_ | refine ok_b (gI_of (by assumption) (by rfl)) ?_ | refine ok_b (ob_of (by assumption)) ?_)
    refine ok_m (nclear_ok h1.2.2.1) (fun r hr => ?_)
    refine ok_v ⟨hr.1, h.w1 (w' := upN w 17 0) (h1.seen ?_ hr.2.2 (fun k hk _ => upN_n (by omega))) (hr.2.2.mono _ _ (by omega) (by omega)) (h8.1.cl (by omega)) (upN_n (by omega)), hr.2.2.mono _ _ (by omega) (by omega)⟩
    rw [upN_s]
    exact hr.2.1.cg (fun i hi => absurd hi (Nat.not_lt_zero i))
  · refine ok_f q ?_
    by_cases qa : isL 500 a
    · obtain ⟨u, hu, rfl⟩ := id qa
      refine ok_b (cbs_in hu) (ok_f (by decide) ?_)
      by_cases qb : isL 500 b
      · obtain ⟨v, hv, rfl⟩ := id qb
        refine ok_b (cbs_in hv) (ok_f (by decide) ?_)
        iterate 3 (first | refine ok_b (gR_of (by assumption) (by rfl)) ?_ | refine ok_b (gI_of (by assumption) (by rfl)) ?_ | refine ok_b (ob_of (by assumption)) ?_)
        by_cases qc : w 17 = 4
        · have es : sSee (nI u) (nI v) w = (-4, w) := by unfold sSee; rw [if_neg q, if_pos ⟨qa, qb⟩, if_pos qc]
          rw [es]
          exact ok_b (nadd_out h1.2.2.1 qc (by decide)) (ok_v ⟨rfl, h, Fr.rf⟩)
        · have es : sSee (nI u) (nI v) w = (nI (w 17 + 1), nt2 w 17 u v) := by unfold sSee; rw [if_neg q, if_pos ⟨qa, qb⟩, if_neg qc, nIc (by omega), nIc (by omega)]
          rw [es]
          refine ok_m (nadd_in h1.2.2.1 (by omega) (by decide) (u := u) (v := v)) (fun r hr => ?_)
          refine ok_v ⟨hr.1, h.w1 (w' := nt2 w 17 u v) (h1.seen ?_ hr.2.2 (fun k hk _ => nt2_o (by omega))) (hr.2.2.mono _ _ (by omega) (by omega)) (h8.1.seen (by omega) hu hv) (nt2_o (by omega)), hr.2.2.mono _ _ (by omega) (by omega)⟩
          have e := nt2_f (w := w) (c := 17) (u := u) (v := v)
          show NT r.2 (x + 1 + 5) 4 (nt2 w 17 u v 17) (fun i => nt2 w 17 u v (17 + 1 + 2 * i)) (fun i => nt2 w 17 u v (17 + 2 + 2 * i))
          rw [nt2_c, e.1, e.2]
          exact hr.2.1
      · have es : sSee (nI u) b w = (-2, w) := by unfold sSee; rw [if_neg q, if_neg (fun z => qb z.2)]
        rw [es]
        exact ok_b (cbs_out qb) (ok_t rfl (ok_v ⟨rfl, h, Fr.rf⟩))
    · have es : sSee a b w = (-2, w) := by unfold sSee; rw [if_neg q, if_neg (fun z => qa z.1)]
      rw [es]
      exact ok_b (cbs_out qa) (ok_t rfl (ok_v ⟨rfl, h, Fr.rf⟩))
theorem c_book (h : CI M x w hi wi dm dd tl tx so si it) (a b : Int32) : Ok (f_X8_book x a b M) (fun r => r.1 = (sBok a b w).1 ∧ CI r.2 x (sBok a b w).2 hi wi dm dd tl tx so si it ∧ Fr M r.2 x (x + 111)) := by
  obtain ⟨h0, h1, h3, h4, h5, h6, h7, h8⟩ := id h
  have c0 := h0; have c1 := h1.1; have c2 := h1.2.2.2.2.1; have c3 := h1.2.1.1
  unfold CO at c0
  have h4' := h1.2.2.2.2.2.1
  have h5' := h8.1.1.2.1
  unfold f_X8_book
  by_cases q : a = -1
  · rw [show sBok a b w = (0, upN w 43 0) from if_pos q]
    refine ok_t q ?_
    iterate 3 (first | refine ok_b (gR_of (by assumption) (by rfl)) ?_ | refine ok_b (gI_of (by assumption) (by rfl)) ?_ | refine ok_b (ob_of (by assumption)) ?_)
    refine ok_m (nclear_ok h1.2.2.2.2) (fun r hr => ?_)
    refine ok_v ⟨hr.1, h.w1 (w' := upN w 43 0) (h1.book ?_ hr.2.2 (fun k hk => upN_n (by omega))) (hr.2.2.mono _ _ (by omega) (by omega)) (h8.1.cl (by omega)) (upN_n (by omega)), hr.2.2.mono _ _ (by omega) (by omega)⟩
    rw [upN_s]
    exact hr.2.1.cg (fun i hi => absurd hi (Nat.not_lt_zero i))
  · refine ok_f q ?_
    iterate 3 (first | refine ok_b (gR_of (by assumption) (by rfl)) ?_ | refine ok_b (gI_of (by assumption) (by rfl)) ?_ | refine ok_b (ob_of (by assumption)) ?_)
    by_cases qa : isL (w 0) a
    · obtain ⟨u, hu, rfl⟩ := id qa
      refine ok_b (hasLetter_in h1.2.1 hu h5') (ok_f (by decide) ?_)
      unfold f_X8_isLength
      by_cases q1 : b < 1
      · have es : sBok (nI u) b w = (-2, w) := by unfold sBok; rw [if_neg q, if_pos qa, if_pos q1]
        rw [es]
        exact ok_b (ct q1 rfl) (ok_t rfl (ok_v ⟨rfl, h, Fr.rf⟩))
      · by_cases q2 : 99 < b
        · have es : sBok (nI u) b w = (-2, w) := by unfold sBok; rw [if_neg q, if_pos qa, if_neg q1, if_pos q2]
          rw [es]
          exact ok_b (cf q1 (ct q2 rfl)) (ok_t rfl (ok_v ⟨rfl, h, Fr.rf⟩))
        · obtain ⟨v, hv1, hv2, rfl⟩ := rngN (a := b) 1 99 (by decide) (by decide) q1 (fa_of_nlt q2)
          refine ok_b (cf q1 (cf q2 rfl)) (ok_f (by decide) ?_)
          iterate 3 (first | refine ok_b (gR_of (by assumption) (by rfl)) ?_ | refine ok_b (gI_of (by assumption) (by rfl)) ?_ | refine ok_b (ob_of (by assumption)) ?_)
          by_cases qc : w 43 = 8
          · have es : sBok (nI u) (nI v) w = (-4, w) := by unfold sBok; rw [if_neg q, if_pos qa, if_neg q1, if_neg q2, if_pos qc]
            rw [es]
            exact ok_b (nadd_out h1.2.2.2.2 qc (by decide)) (ok_v ⟨rfl, h, Fr.rf⟩)
          · have es : sBok (nI u) (nI v) w = (nI (w 43 + 1), nt2 w 43 u v) := by unfold sBok; rw [if_neg q, if_pos qa, if_neg q1, if_neg q2, if_neg qc, nIc (by omega), nIc (by omega)]
            rw [es]
            refine ok_m (nadd_in h1.2.2.2.2 (by omega) (by decide) (u := u) (v := v)) (fun r hr => ?_)
            refine ok_v ⟨hr.1, h.w1 (w' := nt2 w 43 u v) (h1.book ?_ hr.2.2 (fun k hk => nt2_o (by omega))) (hr.2.2.mono _ _ (by omega) (by omega)) (h8.1.book (by omega) (by omega) hv2) (nt2_o (by omega)), hr.2.2.mono _ _ (by omega) (by omega)⟩
            have e := nt2_f (w := w) (c := 43) (u := u) (v := v)
            show NT r.2 (x + 1 + 11) 8 (nt2 w 43 u v 43) (fun i => nt2 w 43 u v (43 + 1 + 2 * i)) (fun i => nt2 w 43 u v (43 + 2 + 2 * i))
            rw [nt2_c, e.1, e.2]
            exact hr.2.1
    · have es : sBok a b w = (-1, w) := by unfold sBok; rw [if_neg q, if_neg qa]
      rw [es]
      exact ok_b (hasLetter_out h1.2.1 (isL_no h5' qa)) (ok_t rfl (ok_v ⟨rfl, h, Fr.rf⟩))
theorem c_event (h : CI M x w hi wi dm dd tl tx so si it) (a b : Int32) : Ok (f_X8_event x a b M) (fun r => r.1 = (sEvt a b w).1 ∧ CI r.2 x (sEvt a b w).2 hi wi dm dd tl tx so si it ∧ Fr M r.2 x (x + 111)) := by
  obtain ⟨h0, h1, h3, h4, h5, h6, h7, h8⟩ := id h
  have c0 := h0; have c1 := h1.1; have c2 := h1.2.2.2.1.1; have c3 := h1.2.1.1
  unfold CO at c0
  have h4' := h1.2.2.2.1.2.1
  have h5' := h8.1.1.2.1
  unfold f_X8_event
  by_cases q : a = -1
  · rw [show sEvt a b w = (0, upN w 26 0) from if_pos q]
    refine ok_t q ?_
    iterate 3 (first | refine ok_b (gR_of (by assumption) (by rfl)) ?_ | refine ok_b (gI_of (by assumption) (by rfl)) ?_ | refine ok_b (ob_of (by assumption)) ?_)
    refine ok_m (nclear_ok h1.2.2.2.1) (fun r hr => ?_)
    refine ok_v ⟨hr.1, h.w1 (w' := upN w 26 0) (h1.evts ?_ hr.2.2 (fun k hk _ => upN_n (by omega))) (hr.2.2.mono _ _ (by omega) (by omega)) (h8.1.cl (by omega)) (upN_n (by omega)), hr.2.2.mono _ _ (by omega) (by omega)⟩
    rw [upN_s]
    exact hr.2.1.cg (fun i hi => absurd hi (Nat.not_lt_zero i))
  · refine ok_f q ?_
    have no : ∀ {a b : Int32} (v : Int32), sEvt a b w = (v, w) → Ok (some (v, M)) (fun r => r.1 = (sEvt a b w).1 ∧ CI r.2 x (sEvt a b w).2 hi wi dm dd tl tx so si it ∧ Fr M r.2 x (x + 111)) := by
      intro a b v e
      rw [e]; exact ok_v ⟨rfl, h, Fr.rf⟩
    have fin : ∀ {u v : Nat}, u < 3 → v < 5 → EV u v → sEvt (nI u) (nI v) w = (if w 26 = 8 then (-4, w) else (nI (w 26 + 1), nt2 w 26 u v)) → Ok (j_X8_event_73 x (nI u) (nI v) M) (fun r => r.1 = (sEvt (nI u) (nI v) w).1 ∧ CI r.2 x (sEvt (nI u) (nI v) w).2 hi wi dm dd tl tx so si it ∧ Fr M r.2 x (x + 111)) := by
      intro u v hu hv hE e
      unfold j_X8_event_73
      iterate 3 (first | refine ok_b (gR_of (by assumption) (by rfl)) ?_ | refine ok_b (gI_of (by assumption) (by rfl)) ?_ | refine ok_b (ob_of (by assumption)) ?_)
      by_cases qc : w 26 = 8
      · rw [e.trans (if_pos qc)]
        exact ok_b (nadd_out h1.2.2.2.1 qc (by decide)) (ok_v ⟨rfl, h, Fr.rf⟩)
      · rw [e.trans (if_neg qc)]
        refine ok_m (nadd_in h1.2.2.2.1 (by omega) (by decide) (u := u) (v := v)) (fun r hr => ?_)
        refine ok_v ⟨hr.1, h.w1 (w' := nt2 w 26 u v) (h1.evts ?_ hr.2.2 (fun k hk _ => nt2_o (by omega))) (hr.2.2.mono _ _ (by omega) (by omega)) (h8.1.evts (by omega) hE) (nt2_o (by omega)), hr.2.2.mono _ _ (by omega) (by omega)⟩
        have e := nt2_f (w := w) (c := 26) (u := u) (v := v)
        show NT r.2 (x + 1 + 8) 8 (nt2 w 26 u v 26) (fun i => nt2 w 26 u v (26 + 1 + 2 * i)) (fun i => nt2 w 26 u v (26 + 2 + 2 * i))
        rw [nt2_c, e.1, e.2]
        exact hr.2.1
    by_cases qa : isL 3 a
    · obtain ⟨u, hu, rfl⟩ := id qa
      refine ok_f (nI_pos (by omega)) (ok_t (nI_le (b := 2) (by omega) (by omega)) ?_)
      rcases (show u = 0 ∨ u = 1 ∨ u = 2 by omega) with rfl | rfl | rfl
      · refine ok_f (by decide) ?_
        unfold j_X8_event_48
        refine ok_f (by decide) ?_
        unfold j_X8_event_62
        refine ok_t rfl ?_
        by_cases qb : b = 0
        · subst qb
          refine ok_t rfl ?_
          refine fin (u := 0) (v := 0) (by omega) (by omega) (Or.inl ⟨rfl, rfl⟩) ?_
          unfold sEvt
          rw [if_neg q, if_pos qa, if_neg (by rintro (⟨z, -⟩ | ⟨z, -⟩) <;> exact absurd z (by decide)), if_neg (fun z => z.2 rfl)]
          rfl
        · refine ok_f qb (no (-2) ?_)
          unfold sEvt
          rw [if_neg q, if_pos qa, if_neg (by rintro (⟨z, -⟩ | ⟨z, -⟩) <;> exact absurd z (by decide)), if_pos ⟨rfl, qb⟩]
      · refine ok_t rfl ?_
        iterate 3 (first | refine ok_b (gR_of (by assumption) (by rfl)) ?_ | refine ok_b (gI_of (by assumption) (by rfl)) ?_ | refine ok_b (ob_of (by assumption)) ?_)
        by_cases qb : isL (w 0) b
        · obtain ⟨v, hv, rfl⟩ := id qb
          refine ok_b (hasLetter_in h1.2.1 hv h5') (ok_f (by decide) ?_)
          unfold j_X8_event_48
          refine ok_f (by decide) ?_
          unfold j_X8_event_62
          refine ok_f (by decide) ?_
          refine fin (u := 1) (v := v) (by omega) (by omega) (Or.inr (Or.inl ⟨rfl, by omega⟩)) ?_
          unfold sEvt
          rw [if_neg q, if_pos qa, if_neg (fun z => z.elim (fun z => z.2 qb) (fun z => absurd z.1 (by decide))), if_neg (fun z => absurd z.1 (by decide)), nIc (n := v) (by omega)]
          rfl
        · refine ok_b (hasLetter_out h1.2.1 (isL_no h5' qb)) (ok_t rfl (no (-1) ?_))
          unfold sEvt
          rw [if_neg q, if_pos qa, if_pos (Or.inl ⟨rfl, qb⟩)]
      · refine ok_f (by decide) ?_
        unfold j_X8_event_48
        refine ok_t rfl ?_
        by_cases qb : isL 2 b
        · obtain ⟨v, hv, rfl⟩ := id qb
          refine ok_b (isKind_in hv) (ok_f (by decide) ?_)
          unfold j_X8_event_62
          refine ok_f (by decide) ?_
          refine fin (u := 2) (v := v) (by omega) (by omega) (Or.inr (Or.inr ⟨rfl, hv⟩)) ?_
          unfold sEvt
          rw [if_neg q, if_pos qa, if_neg (fun z => z.elim (fun z => absurd z.1 (by decide)) (fun z => z.2 qb)), if_neg (fun z => absurd z.1 (by decide)), nIc (n := v) (by omega)]
          rfl
        · refine ok_b (isKind_out qb) (ok_t rfl (no (-1) ?_))
          unfold sEvt
          rw [if_neg q, if_pos qa, if_pos (Or.inr ⟨rfl, qb⟩)]
    · have es : sEvt a b w = (-1, w) := by unfold sEvt; rw [if_neg q, if_neg qa]
      by_cases q0 : a < 0
      · exact ok_t q0 (no (-1) es)
      · refine ok_f q0 (ok_f (fun z => qa ?_) (no (-1) es))
        obtain ⟨m, -, h2, e⟩ := rngN (a := a) 0 2 (by decide) (by decide) q0 z
        exact ⟨m, by omega, e⟩
end NOTES2
