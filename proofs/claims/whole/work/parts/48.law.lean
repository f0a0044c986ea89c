-- THE LAW
section LAW
variable {M : XM} {F x : Nat} {w wi dd tx si : Nat → Nat} {hi : Bool} {dm tl : Nat} {so : Nat → Int32} {it : Nat → Int64}
theorem rd_ci (h : CI M x w hi wi dm dd tl tx so si it) (hg : good tl tx) (hF : 1000 ≤ F) : ∀ j, j ≤ lastC tl tx + 1 → ∃ M', CI M' x (rdS tl tx w dm dd j).2.1 hi wi (rdS tl tx w dm dd j).2.2.1 (rdS tl tx w dm dd j).2.2.2 tl tx so si it
  | 0, _ => ⟨M, h⟩
  | j + 1, hj => by
    obtain ⟨M1, h1⟩ := rd_ci h hg hF j (by omega)
    obtain ⟨r, -, hr⟩ := c_do (F := F) h1 (last_G hg (show j < lastC tl tx + 1 by omega)).2.1 (nI (clA tl tx (pp tl tx j))) (nI (clB tl tx (pp tl tx j))) hF
    exact ⟨r.2, hr.2.1⟩
end LAW
def INV (M : XM) (x : Nat) : Prop := ∃ (w : Nat → Nat) (hi : Bool) (wi : Nat → Nat) (dm : Nat) (dd : Nat → Nat) (tl : Nat) (tx : Nat → Nat) (so : Nat → Int32) (si : Nat → Nat) (it : Nat → Int64) (pc ft : Int32), CI M x w hi wi dm dd tl tx so si it ∧ MJ M (x + 111) pc ft w hi wi dm dd tl tx so si it
theorem INV.mk {M1 M2 : XM} {x : Nat} {pc ft : Int32} {w wi dd tx si : Nat → Nat} {hi : Bool} {dm tl : Nat} {so : Nat → Int32} {it : Nat → Int64} (hC : CI M1 x w hi wi dm dd tl tx so si it) (hJ : MJ M2 (x + 111) pc ft w hi wi dm dd tl tx so si it) (fr : Fr M1 M2 (x + 111) (x + 111 + 17)) : INV M2 x :=
  ⟨w, hi, wi, dm, dd, tl, tx, so, si, it, pc, ft, hC.fr (fun q a1 a2 => fr q (by omega)), hJ⟩
theorem sc_ok {L t j : Nat} {xs : Nat → Int32} {jj : Int32} (hL : L ≤ 3072) (ht : 6 * t + 6 ≤ L) (hj : j < 6) (hjj : jj = nI j) : x_sc L xs (nI (6 * t) + jj) = some (xs (6 * t + j)) := by
  subst hjj
  unfold x_sc
  rw [nI_add, x_in_nI (by omega) (by omega), nIc (by omega)]
  rfl
theorem sc_0 {L t : Nat} {xs : Nat → Int32} (hL : L ≤ 3072) (ht : 6 * t + 6 ≤ L) : x_sc L xs (nI (6 * t)) = some (xs (6 * t)) := by
  unfold x_sc
  rw [x_in_nI (by omega) (by omega), nIc (by omega)]
  rfl
theorem law_step {F L t x b : Nat} {xs : Nat → Int32} {M : XM} (hL : L ≤ 3072) (ht : 6 * t + 6 ≤ L) (hF : 20000 ≤ F) (h : INV M x) {k : (Int32 × XM) → Option Unit} {Q : Unit → Prop} (hk : ∀ M', INV M' x → Ok (k (nI (6 * (t + 1)), M')) Q) : Ok (b_L_law_18 F x b L xs x (x + 111) k (nI (6 * t), M)) Q := by
  obtain ⟨w, hi, wi, dm, dd, tl, tx, so, si, it, pc, ft, hC, hJ⟩ := h
  have hF1 : 1000 ≤ F := by omega
  have hK := hC.2.2.2.2.2.2.2
  have C0 := hC.1
  unfold CO at C0
  obtain ⟨⟨cm0, J0⟩, -⟩ := id hJ
  have E1 := sc_ok (xs := xs) (jj := 1) hL ht (show 1 < 6 by omega) rfl
  have E2 := sc_ok (xs := xs) (jj := 2) hL ht (show 2 < 6 by omega) rfl
  have E3 := sc_ok (xs := xs) (jj := 3) hL ht (show 3 < 6 by omega) rfl
  have E4 := sc_ok (xs := xs) (jj := 4) hL ht (show 4 < 6 by omega) rfl
  have E5 := sc_ok (xs := xs) (jj := 5) hL ht (show 5 < 6 by omega) rfl
  have nx : nI (6 * t) + (6 : Int32) = nI (6 * (t + 1)) := by show nI (6 * t) + nI 6 = _; rw [nI_add]; congr 1
  unfold b_L_law_18
  dsimp only
  rw [nx]
  refine ok_f ?_ (ok_b (sc_0 hL ht) ?_)
  · show ¬ nI L - nI 6 < nI (6 * t)
    rw [pk_sub (by omega)]
    exact nI_nlt (by omega) (by omega)
  by_cases c0 : xs (6 * t) &&& 63 = 0
  · refine ok_t c0 (ok_b E1 (ok_b (ob_of C0) ?_))
    refine ok_m (c_letters hC _ hF1) (fun r hr => ?_)
    obtain ⟨v, C1, f1⟩ := hr
    have J1 := hJ.fr (fun q a1 a2 => f1 q (by omega))
    obtain ⟨⟨cm, o⟩, -⟩ := id J1
    refine ok_b E1 (ok_b (ob_of o) ?_)
    refine ok_m (m_letters J1 hK _ hF1) (fun r2 hr2 => ?_)
    obtain ⟨v2, J2, f2⟩ := hr2
    exact ok_t (v.trans v2.symm) (hk _ (INV.mk C1 J2 f2))
  refine ok_f c0 ?_
  by_cases c1 : xs (6 * t) &&& 63 = 1
  · refine ok_t c1 (ok_b E1 (ok_b (ob_of C0) ?_))
    refine ok_m (c_bottom hC _ hF1) (fun r hr => ?_)
    obtain ⟨v, C1, f1⟩ := hr
    have J1 := hJ.fr (fun q a1 a2 => f1 q (by omega))
    obtain ⟨⟨cm, o⟩, -⟩ := id J1
    refine ok_b E1 (ok_b (ob_of o) ?_)
    refine ok_m (m_bottom J1 hK _ hF1) (fun r2 hr2 => ?_)
    obtain ⟨v2, J2, f2⟩ := hr2
    exact ok_t (v.trans v2.symm) (hk _ (INV.mk C1 J2 f2))
  refine ok_f c1 ?_
  by_cases c2 : xs (6 * t) &&& 63 = 2
  · refine ok_t c2 (ok_b E1 (ok_b E2 (ok_b (ob_of C0) ?_)))
    refine ok_m (c_length hC _ _ hF1) (fun r hr => ?_)
    obtain ⟨v, C1, f1⟩ := hr
    have J1 := hJ.fr (fun q a1 a2 => f1 q (by omega))
    obtain ⟨⟨cm, o⟩, -⟩ := id J1
    refine ok_b E1 (ok_b E2 (ok_b (ob_of o) ?_))
    refine ok_m (m_length J1 hK _ _) (fun r2 hr2 => ?_)
    obtain ⟨v2, J2, f2⟩ := hr2
    exact ok_t (v.trans v2.symm) (hk _ (INV.mk C1 J2 f2))
  refine ok_f c2 ?_
  by_cases c3 : xs (6 * t) &&& 63 = 3
  · refine ok_t c3 (ok_b E1 (ok_b E2 (ok_b (ob_of C0) ?_)))
    refine ok_m (c_swap hC _ _ hF1) (fun r hr => ?_)
    obtain ⟨v, C1, f1⟩ := hr
    have J1 := hJ.fr (fun q a1 a2 => f1 q (by omega))
    obtain ⟨⟨cm, o⟩, -⟩ := id J1
    refine ok_b E1 (ok_b E2 (ok_b (ob_of o) ?_))
    refine ok_m (m_swap J1 hK _ _ hF1) (fun r2 hr2 => ?_)
    obtain ⟨v2, J2, f2⟩ := hr2
    exact ok_t (v.trans v2.symm) (hk _ (INV.mk C1 J2 f2))
  refine ok_f c3 ?_
  by_cases c4 : xs (6 * t) &&& 63 = 4
  · refine ok_t c4 (ok_b (ob_of C0) ?_)
    refine ok_m (c_step hC hF1) (fun r hr => ?_)
    obtain ⟨v, C1, f1⟩ := hr
    have J1 := hJ.fr (fun q a1 a2 => f1 q (by omega))
    obtain ⟨⟨cm, o⟩, -⟩ := id J1
    refine ok_b (ob_of o) ?_
    refine ok_m (m_step J1 hK hF1) (fun r2 hr2 => ?_)
    obtain ⟨v2, J2, f2⟩ := hr2
    exact ok_t (v.trans v2.symm) (hk _ (INV.mk C1 J2 f2))
  refine ok_f c4 ?_
  by_cases c5 : xs (6 * t) &&& 63 = 5
  · refine ok_t c5 (ok_b E1 (ok_b (ob_of C0) ?_))
    refine ok_m (c_back hC _ hF1) (fun r hr => ?_)
    obtain ⟨v, C1, f1⟩ := hr
    have J1 := hJ.fr (fun q a1 a2 => f1 q (by omega))
    obtain ⟨⟨cm, o⟩, -⟩ := id J1
    refine ok_b E1 (ok_b (ob_of o) ?_)
    refine ok_m (m_back J1 hK _ hF1) (fun r2 hr2 => ?_)
    obtain ⟨v2, J2, f2⟩ := hr2
    exact ok_t (v.trans v2.symm) (hk _ (INV.mk C1 J2 f2))
  refine ok_f c5 ?_
  by_cases c6 : xs (6 * t) &&& 63 = 6
  · refine ok_t c6 (ok_b (ob_of C0) ?_)
    refine ok_m (c_takeBack hC hF1) (fun r hr => ?_)
    obtain ⟨v, C1, f1⟩ := hr
    have J1 := hJ.fr (fun q a1 a2 => f1 q (by omega))
    obtain ⟨⟨cm, o⟩, -⟩ := id J1
    refine ok_b (ob_of o) ?_
    refine ok_m (m_takeBack J1 hK) (fun r2 hr2 => ?_)
    obtain ⟨v2, J2, f2⟩ := hr2
    exact ok_t (v.trans v2.symm) (hk _ (INV.mk C1 J2 f2))
  refine ok_f c6 ?_
  by_cases c7 : xs (6 * t) &&& 63 = 7
  · refine ok_t c7 (ok_b (ob_of C0) ?_)
    refine ok_m (c_keep hC hF1) (fun r hr => ?_)
    obtain ⟨v, C1, f1⟩ := hr
    have J1 := hJ.fr (fun q a1 a2 => f1 q (by omega))
    obtain ⟨⟨cm, o⟩, -⟩ := id J1
    refine ok_b (ob_of o) ?_
    refine ok_m (m_keep J1 hK hF1) (fun r2 hr2 => ?_)
    obtain ⟨v2, J2, f2⟩ := hr2
    exact ok_t (v.trans v2.symm) (hk _ (INV.mk C1 J2 f2))
  refine ok_f c7 ?_
  by_cases c8 : xs (6 * t) &&& 63 = 8
  · refine ok_t c8 (ok_b E1 (ok_b (ob_of C0) ?_))
    refine ok_m (c_feed hC _) (fun r hr => ?_)
    obtain ⟨v, C1, f1⟩ := hr
    have J1 := hJ.fr (fun q a1 a2 => f1 q (by omega))
    obtain ⟨⟨cm, o⟩, -⟩ := id J1
    refine ok_b E1 (ok_b (ob_of o) ?_)
    refine ok_m (m_feed J1 hK _) (fun r2 hr2 => ?_)
    obtain ⟨v2, J2, f2⟩ := hr2
    exact ok_t (v.trans v2.symm) (hk _ (INV.mk C1 J2 f2))
  refine ok_f c8 ?_
  by_cases c9 : xs (6 * t) &&& 63 = 9
  · refine ok_t c9 (ok_b (ob_of C0) ?_)
    refine ok_m (c_read hC hF1) (fun r hr => ?_)
    obtain ⟨v, C1, f1⟩ := hr
    have J1 := hJ.fr (fun q a1 a2 => f1 q (by omega))
    obtain ⟨⟨cm, o⟩, -⟩ := id J1
    refine ok_b (ob_of o) ?_
    refine ok_m (m_read J1 hK (fun g j hj => (rd_ci hC g hF1 j (by omega)).elim (fun _ z => z.2.2.2.2.2.2.2)) hF1) (fun r2 hr2 => ?_)
    obtain ⟨v2, ⟨pc2, ft2, J2⟩, f2⟩ := hr2
    exact ok_t (v.trans v2.symm) (hk _ (INV.mk C1 J2 f2))
  refine ok_f c9 ?_
  by_cases c10 : xs (6 * t) &&& 63 = 10
  · refine ok_t c10 (ok_b E1 (ok_b E2 (ok_b (ob_of C0) ?_)))
    refine ok_b (c_of hC _ _) (ok_b E1 (ok_b E2 (ok_b (ob_of J0) ?_)))
    exact ok_b (m_of hJ hK _ _) (ok_t rfl (hk _ (INV.mk hC hJ Fr.rf)))
  refine ok_f c10 ?_
  by_cases c11 : xs (6 * t) &&& 63 = 11
  · refine ok_t c11 (ok_b E1 (ok_b (ob_of C0) ?_))
    refine ok_m (c_told hC _ hF) (fun r hr => ?_)
    obtain ⟨v, C1, f1⟩ := hr
    have J1 := hJ.fr (fun q a1 a2 => f1 q (by omega))
    obtain ⟨⟨cm, o⟩, -⟩ := id J1
    refine ok_b E1 (ok_b (ob_of o) ?_)
    refine ok_m (m_told J1 hK _ hF) (fun r2 hr2 => ?_)
    obtain ⟨v2, J2, f2⟩ := hr2
    exact ok_t (v.trans v2.symm) (hk _ (INV.mk C1 J2 f2))
  refine ok_f c11 ?_
  by_cases c12 : xs (6 * t) &&& 63 = 12
  · refine ok_t c12 (ok_b E1 (ok_b E2 (ok_b (ob_of C0) ?_)))
    refine ok_m (c_point hC _ _ hF1) (fun r hr => ?_)
    obtain ⟨v, C1, f1⟩ := hr
    have J1 := hJ.fr (fun q a1 a2 => f1 q (by omega))
    obtain ⟨⟨cm, o⟩, -⟩ := id J1
    refine ok_b E1 (ok_b E2 (ok_b (ob_of o) ?_))
    refine ok_m (m_point J1 hK _ _ hF1) (fun r2 hr2 => ?_)
    obtain ⟨v2, J2, f2⟩ := hr2
    exact ok_t (v.trans v2.symm) (hk _ (INV.mk C1 J2 f2))
  refine ok_f c12 ?_
  by_cases c13 : xs (6 * t) &&& 63 = 13
  · refine ok_t c13 (ok_b E1 (ok_b E2 (ok_b (ob_of C0) ?_)))
    refine ok_m (c_gone hC _ _ hF1) (fun r hr => ?_)
    obtain ⟨v, C1, f1⟩ := hr
    have J1 := hJ.fr (fun q a1 a2 => f1 q (by omega))
    obtain ⟨⟨cm, o⟩, -⟩ := id J1
    refine ok_b E1 (ok_b E2 (ok_b (ob_of o) ?_))
    refine ok_m (m_gone J1 hK _ _ hF) (fun r2 hr2 => ?_)
    obtain ⟨v2, J2, f2⟩ := hr2
    exact ok_t (v.trans v2.symm) (hk _ (INV.mk C1 J2 f2))
  refine ok_f c13 ?_
  by_cases c14 : xs (6 * t) &&& 63 = 14
  · refine ok_t c14 (ok_b E1 (ok_b (ob_of C0) ?_))
    refine ok_m (c_code hC _ hF1) (fun r hr => ?_)
    obtain ⟨v, C1, f1⟩ := hr
    have J1 := hJ.fr (fun q a1 a2 => f1 q (by omega))
    obtain ⟨⟨cm, o⟩, -⟩ := id J1
    refine ok_b E1 (ok_b (ob_of o) ?_)
    refine ok_m (m_code J1 hK _ hF1) (fun r2 hr2 => ?_)
    obtain ⟨v2, J2, f2⟩ := hr2
    exact ok_t (v.trans v2.symm) (hk _ (INV.mk C1 J2 f2))
  refine ok_f c14 ?_
  by_cases c15 : xs (6 * t) &&& 63 = 15
  · refine ok_t c15 (ok_b E1 (ok_b E2 (ok_b (ob_of C0) ?_)))
    refine ok_m (c_next hC _ _ hF1) (fun r hr => ?_)
    obtain ⟨v, C1, f1⟩ := hr
    have J1 := hJ.fr (fun q a1 a2 => f1 q (by omega))
    obtain ⟨⟨cm, o⟩, -⟩ := id J1
    refine ok_b E1 (ok_b E2 (ok_b (ob_of o) ?_))
    refine ok_m (m_next J1 hK _ _ hF1) (fun r2 hr2 => ?_)
    obtain ⟨v2, J2, f2⟩ := hr2
    exact ok_t (v.trans v2.symm) (hk _ (INV.mk C1 J2 f2))
  refine ok_f c15 ?_
  by_cases c16 : xs (6 * t) &&& 63 = 16
  · refine ok_t c16 (ok_b E1 (ok_b (ob_of C0) ?_))
    refine ok_b (c_meeting hC _ hF1) (ok_b E1 (ok_b (ob_of J0) ?_))
    exact ok_b (m_meeting hJ hK _ hF1) (ok_t rfl (hk _ (INV.mk hC hJ Fr.rf)))
  refine ok_f c16 ?_
  by_cases c17 : xs (6 * t) &&& 63 = 17
  · refine ok_t c17 (ok_b E1 (ok_b E2 (ok_b (ob_of C0) ?_)))
    refine ok_m (c_see hC _ _) (fun r hr => ?_)
    obtain ⟨v, C1, f1⟩ := hr
    have J1 := hJ.fr (fun q a1 a2 => f1 q (by omega))
    obtain ⟨⟨cm, o⟩, -⟩ := id J1
    refine ok_b E1 (ok_b E2 (ok_b (ob_of o) ?_))
    refine ok_m (m_see J1 hK _ _) (fun r2 hr2 => ?_)
    obtain ⟨v2, J2, f2⟩ := hr2
    exact ok_t (v.trans v2.symm) (hk _ (INV.mk C1 J2 f2))
  refine ok_f c17 ?_
  by_cases c18 : xs (6 * t) &&& 63 = 18
  · refine ok_t c18 (ok_b E1 (ok_b E2 (ok_b (ob_of C0) ?_)))
    refine ok_m (c_fits hC _ _ hF1) (fun r hr => ?_)
    obtain ⟨v, C1, f1⟩ := hr
    have J1 := hJ.fr (fun q a1 a2 => f1 q (by omega))
    obtain ⟨⟨cm, o⟩, -⟩ := id J1
    refine ok_b E1 (ok_b E2 (ok_b (ob_of o) ?_))
    refine ok_m (m_fits J1 hK _ _ hF1) (fun r2 hr2 => ?_)
    obtain ⟨v2, J2, f2⟩ := hr2
    exact ok_t (v.trans v2.symm) (hk _ (INV.mk C1 J2 f2))
  refine ok_f c18 ?_
  by_cases c19 : xs (6 * t) &&& 63 = 19
  · refine ok_t c19 (ok_b E1 (ok_b (ob_of C0) ?_))
    refine ok_m (c_odds hC _ hF1) (fun r hr => ?_)
    obtain ⟨v, C1, f1⟩ := hr
    have J1 := hJ.fr (fun q a1 a2 => f1 q (by omega))
    obtain ⟨⟨cm, o⟩, -⟩ := id J1
    refine ok_b E1 (ok_b (ob_of o) ?_)
    refine ok_m (m_odds J1 hK _ hF1) (fun r2 hr2 => ?_)
    obtain ⟨v2, J2, f2⟩ := hr2
    exact ok_t ((lg_cmp_eq _ _).mpr (v.trans v2.symm)) (hk _ (INV.mk C1 J2 f2))
  refine ok_f c19 ?_
  by_cases c20 : xs (6 * t) &&& 63 = 20
  · refine ok_t c20 (ok_b E1 (ok_b (ob_of C0) ?_))
    refine ok_m (c_mean hC _ hF1) (fun r hr => ?_)
    obtain ⟨v, C1, f1⟩ := hr
    have J1 := hJ.fr (fun q a1 a2 => f1 q (by omega))
    obtain ⟨⟨cm, o⟩, -⟩ := id J1
    refine ok_b E1 (ok_b (ob_of o) ?_)
    refine ok_m (m_mean J1 hK _ hF1) (fun r2 hr2 => ?_)
    obtain ⟨v2, J2, f2⟩ := hr2
    exact ok_t ((lg_cmp_eq _ _).mpr (v.trans v2.symm)) (hk _ (INV.mk C1 J2 f2))
  refine ok_f c20 ?_
  by_cases c21 : xs (6 * t) &&& 63 = 21
  · refine ok_t c21 (ok_b E1 (ok_b E2 (ok_b (ob_of C0) ?_)))
    refine ok_m (c_event hC _ _) (fun r hr => ?_)
    obtain ⟨v, C1, f1⟩ := hr
    have J1 := hJ.fr (fun q a1 a2 => f1 q (by omega))
    obtain ⟨⟨cm, o⟩, -⟩ := id J1
    refine ok_b E1 (ok_b E2 (ok_b (ob_of o) ?_))
    refine ok_m (m_event J1 hK _ _) (fun r2 hr2 => ?_)
    obtain ⟨v2, J2, f2⟩ := hr2
    exact ok_t (v.trans v2.symm) (hk _ (INV.mk C1 J2 f2))
  refine ok_f c21 ?_
  by_cases c22 : xs (6 * t) &&& 63 = 22
  · refine ok_t c22 (ok_b E1 (ok_b (ob_of C0) ?_))
    refine ok_m (c_after hC _ hF1) (fun r hr => ?_)
    obtain ⟨v, C1, f1⟩ := hr
    have J1 := hJ.fr (fun q a1 a2 => f1 q (by omega))
    obtain ⟨⟨cm, o⟩, -⟩ := id J1
    refine ok_b E1 (ok_b (ob_of o) ?_)
    refine ok_m (m_after J1 hK _ hF1) (fun r2 hr2 => ?_)
    obtain ⟨v2, J2, f2⟩ := hr2
    exact ok_t (v.trans v2.symm) (hk _ (INV.mk C1 J2 f2))
  refine ok_f c22 ?_
  by_cases c23 : xs (6 * t) &&& 63 = 23
  · refine ok_t c23 (ok_b E1 (ok_b E2 (ok_b (ob_of C0) ?_)))
    refine ok_m (c_book hC _ _) (fun r hr => ?_)
    obtain ⟨v, C1, f1⟩ := hr
    have J1 := hJ.fr (fun q a1 a2 => f1 q (by omega))
    obtain ⟨⟨cm, o⟩, -⟩ := id J1
    refine ok_b E1 (ok_b E2 (ok_b (ob_of o) ?_))
    refine ok_m (m_book J1 hK _ _) (fun r2 hr2 => ?_)
    obtain ⟨v2, J2, f2⟩ := hr2
    exact ok_t (v.trans v2.symm) (hk _ (INV.mk C1 J2 f2))
  refine ok_f c23 ?_
  by_cases c24 : xs (6 * t) &&& 63 = 24
  · refine ok_t c24 (ok_b (ob_of C0) ?_)
    refine ok_b (c_looked hC hF1) (ok_b (ob_of J0) ?_)
    exact ok_b (m_looked hJ hK hF1) (ok_t rfl (hk _ (INV.mk hC hJ Fr.rf)))
  refine ok_f c24 ?_
  by_cases c25 : xs (6 * t) &&& 63 = 25
  · refine ok_t c25 (ok_b E1 (ok_b E2 (ok_b (ob_of C0) ?_)))
    refine ok_b (c_judge hC _ _ hF1) (ok_b E1 (ok_b E2 (ok_b (ob_of J0) ?_)))
    exact ok_b (m_judge hJ hK _ _ hF1) (ok_t rfl (hk _ (INV.mk hC hJ Fr.rf)))
  refine ok_f c25 ?_
  by_cases c26 : xs (6 * t) &&& 63 = 26
  · refine ok_t c26 (ok_b (ob_of C0) ?_)
    refine ok_m (c_image hC hF1) (fun r hr => ?_)
    obtain ⟨v, C1, f1⟩ := hr
    have J1 := hJ.fr (fun q a1 a2 => f1 q (by omega))
    obtain ⟨⟨cm, o⟩, -⟩ := id J1
    refine ok_b (ob_of o) ?_
    refine ok_m (m_image J1 hK hF1) (fun r2 hr2 => ?_)
    obtain ⟨v2, J2, f2⟩ := hr2
    exact ok_t (v.trans v2.symm) (hk _ (INV.mk C1 J2 f2))
  refine ok_f c26 ?_
  by_cases c27 : xs (6 * t) &&& 63 = 27
  · refine ok_t c27 (ok_b (ob_of C0) ?_)
    refine ok_m (c_undo hC hF1) (fun r hr => ?_)
    obtain ⟨v, C1, f1⟩ := hr
    have J1 := hJ.fr (fun q a1 a2 => f1 q (by omega))
    obtain ⟨⟨cm, o⟩, -⟩ := id J1
    refine ok_b (ob_of o) ?_
    refine ok_m (m_undo J1 hK hF1) (fun r2 hr2 => ?_)
    obtain ⟨v2, J2, f2⟩ := hr2
    exact ok_t (v.trans v2.symm) (hk _ (INV.mk C1 J2 f2))
  refine ok_f c27 ?_
  by_cases c28 : xs (6 * t) &&& 63 = 28
  · refine ok_t c28 (ok_b E1 (ok_b (ob_of C0) ?_))
    refine ok_b (c_count hC _) (ok_b E1 (ok_b (ob_of J0) ?_))
    exact ok_b (m_count hJ _) (ok_t rfl (hk _ (INV.mk hC hJ Fr.rf)))
  refine ok_f c28 ?_
  by_cases c29 : xs (6 * t) &&& 63 = 29
  · refine ok_t c29 (ok_b E1 (ok_b E2 (ok_b E3 (ok_b (ob_of C0) ?_))))
    refine ok_m (c_tape hC _ _ _ hF1) (fun r hr => ?_)
    obtain ⟨v, C1, f1⟩ := hr
    have J1 := hJ.fr (fun q a1 a2 => f1 q (by omega))
    obtain ⟨⟨cm, o⟩, -⟩ := id J1
    refine ok_b E1 (ok_b E2 (ok_b E3 (ok_b (ob_of o) ?_)))
    refine ok_m (m_tape J1 _ _ _ hF1) (fun r2 hr2 => ?_)
    obtain ⟨v2, J2, f2⟩ := hr2
    exact ok_t (v.trans v2.symm) (hk _ (INV.mk C1 J2 f2))
  refine ok_f c29 ?_
  by_cases c30 : xs (6 * t) &&& 63 = 30
  · refine ok_t c30 (ok_b E1 (ok_b E2 (ok_b E3 (ok_b E4 (ok_b (ob_of C0) ?_)))))
    refine ok_m (c_item hC _ _ _) (fun r hr => ?_)
    obtain ⟨v, C1, f1⟩ := hr
    have J1 := hJ.fr (fun q a1 a2 => f1 q (by omega))
    obtain ⟨⟨cm, o⟩, -⟩ := id J1
    refine ok_b E1 (ok_b E2 (ok_b E3 (ok_b E4 (ok_b (ob_of o) ?_))))
    refine ok_m (m_item J1 hK _ _ _) (fun r2 hr2 => ?_)
    obtain ⟨v2, J2, f2⟩ := hr2
    exact ok_t (v.trans v2.symm) (hk _ (INV.mk C1 J2 f2))
  refine ok_f c30 ?_
  by_cases c31 : xs (6 * t) &&& 63 = 31
  · refine ok_t c31 (ok_b E1 (ok_b E2 (ok_b (ob_of C0) ?_)))
    refine ok_b (c_peek hC _ _) (ok_b E1 (ok_b E2 (ok_b (ob_of J0) ?_)))
    exact ok_b (m_peek hJ hK _ _) (ok_t ((lg_cmp_eq _ _).mpr rfl) (hk _ (INV.mk hC hJ Fr.rf)))
  refine ok_f c31 ?_
  by_cases c32 : xs (6 * t) &&& 63 = 32
  · refine ok_t c32 (ok_b E1 (ok_b E2 (ok_b E3 (ok_b E4 (ok_b E5 (ok_b (ob_of C0) ?_))))))
    refine ok_m (c_shift hC _ _ _ _ _) (fun r hr => ?_)
    obtain ⟨v, C1, f1⟩ := hr
    have J1 := hJ.fr (fun q a1 a2 => f1 q (by omega))
    obtain ⟨⟨cm, o⟩, -⟩ := id J1
    refine ok_b E1 (ok_b E2 (ok_b E3 (ok_b E4 (ok_b E5 (ok_b (ob_of o) ?_)))))
    refine ok_m (m_shift J1 hK _ _ _ _ _) (fun r2 hr2 => ?_)
    obtain ⟨v2, J2, f2⟩ := hr2
    exact ok_t (v.trans v2.symm) (hk _ (INV.mk C1 J2 f2))
  refine ok_f c32 ?_
  exact hk _ (INV.mk hC hJ Fr.rf)
