-- THE REFERENCE: FITS
section MFITS
variable {M : XM} {F y : Nat} {pc ft : Int32} {w wi dd tx si : Nat → Nat} {hi : Bool} {dm tl : Nat} {so : Nat → Int32} {it : Nat → Int64}
def snQ (w : Nat → Nat) (i : Nat) : Prop := w (18 + 2 * i) < ptW w ∧ gW w (w (18 + 2 * i)) = w (19 + 2 * i)
theorem mallSeen (h : MJ M y pc ft w hi wi dm dd tl tx so si it) (ho : ORw w) (hs : w 17 ≤ 4 ∧ ∀ i, i < w 17 → w (18 + 2 * i) < 500 ∧ w (19 + 2 * i) < 500) (hF : 1000 ≤ F) : Ok (f_X9_isAllSeen F y M) (fun r => r.1 = (@ite _ (∀ i, i < w 17 → snQ w i) (Classical.propDecidable _) 1 0) ∧ MJ r.2 y pc ft w hi wi dm dd tl tx so si it ∧ Fr M r.2 y (y + 17)) := by
  obtain ⟨⟨cm, c⟩, hW, hKp, hS⟩ := id h
  have ht : ptW w ≤ 495 ∧ 2 ≤ ptW w := tot_le ho
  obtain ⟨k17, ks⟩ := hs
  unfold f_X9_isAllSeen
  refine ok_b (ob_of c) ?_
  refine ok_m (finds_ok h.nw (hS.1 7 (by omega) (by omega) (by omega) (by omega)) (hS.1 8 (by omega) (by omega) (by omega) (by omega)) (hS.1 9 (by omega) (by omega) (by omega) (by omega)) ho hF) (fun r hr => ?_)
  obtain ⟨v, g, fr⟩ := hr
  have J1 : MJ r.2 y pc ft w hi wi dm dd tl tx so si it := h.sc (fr _ (by omega) (by omega) (by omega)) (fr _ (by omega) (by omega) (by omega)) (fr _ (by omega) (by omega) (by omega)) (fr _ (by omega) (by omega) (by omega)) (fr _ (by omega) (by omega) (by omega)) (fr _ (by omega) (by omega) (by omega)) (fr _ (by omega) (by omega) (by omega)) (fr _ (by omega) (by omega) (by omega)) (hS.gp g fr)
  have f1 : Fr M r.2 y (y + 17) := fun q hq => fr q (by omega) (by omega) (by omega)
  obtain ⟨⟨t7, a7, b7⟩, -, -⟩ := g
  obtain ⟨⟨cm1, c1⟩, W1, -⟩ := id J1
  rw [v]
  have r1 : ∀ i, i < 4 → x_a32 .int r.2 (y + 1) ((18 : Int32) + 2 * nI i) = some (nI (w (18 + 2 * i))) := fun i hi => W1.rd (18 + 2 * i) (by show nI 18 + nI 2 * nI i = _; rw [pk_mul, nI_add]) (by omega) (by decide)
  have r2 : ∀ i, i < 4 → x_a32 .int r.2 (y + 1) ((18 : Int32) + 2 * nI i + 1) = some (nI (w (19 + 2 * i))) := fun i hi => W1.rd (19 + 2 * i) (by show nI 18 + nI 2 * nI i + 1 = _; rw [pk_mul, nI_add, e1]; congr 1; omega) (by omega) (by decide)
  have stp : ∀ (k : Int32 → Option (Int32 × XM)) (i : Nat) (Q : Int32 × XM → Prop), i < w 17 → snQ w i → Ok (k (nI (i + 1))) Q → Ok (b_X9_isAllSeen_7 F y (nI (ptW w)) r.2 k (nI i)) Q := by
    intro k i Q hi2 hs hk
    unfold b_X9_isAllSeen_7
    refine ok_b (gR_of c1 rfl) (ok_b (W1.rd 17 rfl (by omega) (by decide)) (ok_f (nI_ge hi2 (by omega)) ?_))
    refine ok_b (gR_of c1 rfl) (ok_b (r1 i (by omega)) (ok_f (nI_ge hs.1 (by omega)) ?_))
    have := hs.1
    refine ok_b (gR_of c1 rfl) (ok_b (a7.rd (w (18 + 2 * i)) rfl (by omega) (by decide)) (ok_b (gR_of c1 rfl) (ok_b (r2 i (by omega)) ?_)))
    rw [b7 _ hs.1, hs.2, e1]
    exact ok_t rfl hk
  by_cases q : ∀ i, i < w 17 → snQ w i
  · rw [if_pos q]
    refine ok_loop (I := fun i q => q = nI i) (w 17) ?_ ?_ (w 17) 0 F _ (by omega) (by omega) rfl
    · rintro k i q' hi2 rfl hk
      exact stp k i _ hi2 (q i hi2) (hk _ rfl)
    · rintro k q' rfl
      unfold b_X9_isAllSeen_7
      exact ok_b (gR_of c1 rfl) (ok_b (W1.rd 17 rfl (by omega) (by decide)) (ok_t (nI_le (Nat.le_refl _) (by omega)) (ok_v ⟨rfl, J1, f1⟩)))
  · rw [if_neg q]
    have hex : ∃ i, i < w 17 ∧ ¬ snQ w i := Classical.byContradiction (fun z => q (fun i hi => Classical.byContradiction (fun z2 => z ⟨i, hi, z2⟩)))
    obtain ⟨N, ⟨hN, hno⟩, hmin⟩ := pk_least (fun i => i < w 17 ∧ ¬ snQ w i) hex
    refine ok_loop (I := fun i q => q = nI i) N ?_ ?_ N 0 F _ (by omega) (by omega) rfl
    · rintro k i q' hi2 rfl hk
      exact stp k i _ (by omega) (Classical.byContradiction (fun z => hmin i hi2 ⟨by omega, z⟩)) (hk _ rfl)
    · rintro k q' rfl
      have ksN := ks N hN
      unfold b_X9_isAllSeen_7
      refine ok_b (gR_of c1 rfl) (ok_b (W1.rd 17 rfl (by omega) (by decide)) (ok_f (nI_ge hN (by omega)) ?_))
      refine ok_b (gR_of c1 rfl) (ok_b (r1 N (by omega)) ?_)
      by_cases z : w (18 + 2 * N) < ptW w
      · refine ok_f (nI_ge z (by omega)) (ok_b (gR_of c1 rfl) (ok_b (a7.rd (w (18 + 2 * N)) rfl (by omega) (by decide)) (ok_b (gR_of c1 rfl) (ok_b (r2 N (by omega)) ?_))))
        rw [b7 _ z]
        have hb := gW_lt ho _ z
        exact ok_f (fun e => hno ⟨z, nI_inj (by omega) (by omega) e⟩) (ok_v ⟨rfl, J1, f1⟩)
      · exact ok_t (nI_le (by omega) (by omega)) (ok_v ⟨rfl, J1, f1⟩)
theorem m_fits (h : MJ M y pc ft w hi wi dm dd tl tx so si it) (hK : KS w hi wi dm dd tl tx so si it) (a b : Int32) (hF : 1000 ≤ F) : Ok (f_X9_fits F y a b M) (fun r => r.1 = aFit a b w ∧ MJ r.2 y pc ft w hi wi dm dd tl tx so si it ∧ Fr M r.2 y (y + 17)) := by
  obtain ⟨⟨cm, c⟩, hW, hKp, hS⟩ := id h
  have ho := hK.1.1
  have h2 := ho.1
  have h5 := ho.2.1
  unfold f_X9_fits
  refine ok_b (ob_of c) ?_
  by_cases qa : isL (w 0) a
  · refine ok_b (isLetter_in h.nw h5 qa) (ok_f (by decide) ?_)
    obtain ⟨j, hj, rfl⟩ := id qa
    have es : aFit (nI j) b w = (if b < 0 then -1 else if b ≤ 1 then (if b = 0 then nI (fb_ct (snB w j) 40) else ltI w j 40) else -1) := by
      unfold aFit; rw [if_pos qa, nIc (by omega)]
    by_cases qb : isL 2 b
    · refine ok_b (in_L (n := 2) (by decide) rfl qb) (ok_f (by decide) (ok_b (gR_of c rfl) (ok_b (hW.rd (12 + j) (nI_add 12 j) (by omega) (by decide)) ?_)))
      obtain ⟨u, hu, rfl⟩ := qb
      have es2 : aFit (nI j) (nI u) w = (if nI u = 0 then nI (fb_ct (snB w j) 40) else ltI w j 40) := by
        rw [es]; exact cf (nI_pos (by omega)) (ct (nI_le (a := u) (b := 1) (by omega) (by omega)) rfl)
      refine ok_loop (I := fun i q => q.1 = nI (fb_ct (snB w j) i) ∧ q.2.1 = ltI w j i ∧ q.2.2.1 = nI (i + 1) ∧ (∃ x, MJ q.2.2.2 y pc ft (upN w (12 + j) x) hi wi dm dd tl tx so si it) ∧ Fr M q.2.2.2 y (y + 17)) 40 ?_ ?_ 40 0 F _ (by omega) (by omega) ⟨rfl, rfl, rfl, ⟨w (12 + j), h.now (h.nw.cg (fun k _ => ?_)) (fun _ _ => rfl)⟩, Fr.rf⟩
      · rintro k i ⟨q1, q2, q3, q4⟩ hi2 ⟨g1, g2, g3, ⟨x, gJ⟩, fr⟩ hk
        dsimp only at g1 g2 g3 gJ fr
        subst g1 g2 g3
        obtain ⟨⟨cm2, c2⟩, -⟩ := id gJ
        unfold b_X9_fits_40
        dsimp only
        refine ok_f (nI_nlt (b := i + 1) (a := 40) (by omega) (by omega)) (ok_b (gR_of c2 rfl) ?_)
        refine ok_m (gJ.nw.wr (12 + j) (i + 1) (nI_add 12 j) rfl (by omega)) (fun M2 hM2 => ?_)
        have J2 : MJ M2 y pc ft (upN w (12 + j) (i + 1)) hi wi dm dd tl tx so si it := gJ.now (hM2.1.cg (fun k _ => by simp only [upN]; by_cases z : k = 12 + j <;> simp [z])) hM2.2
        have fr2 : Fr M M2 y (y + 17) := fun q hq => (hM2.2 q (by omega)).trans (fr q hq)
        obtain ⟨⟨cm3, c3⟩, -⟩ := id J2
        refine ok_b (ob_of c3) ?_
        have ho2 : OR (w 0) (rT w) (rB w) (upN (rL w) j (i + 1)) := by
          refine ⟨ho.1, ho.2.1, ho.2.2.1, ho.2.2.2.1, fun k hk => ?_⟩
          have := ho.2.2.2.2 k hk
          simp only [upN]
          split
          · omega
          · exact this
        have eo : ∀ k, (k < 12 ∨ 17 ≤ k) → upN w (12 + j) (i + 1) k = w k := fun k hk => upN_n (by omega)
        have eT : ∀ k, k < 5 → rT (upN w (12 + j) (i + 1)) k = rT w k := fun k hk => eo _ (by omega)
        have eB : ∀ k, k < 5 → rB (upN w (12 + j) (i + 1)) k = rB w k := fun k hk => eo _ (by omega)
        have eL : ∀ k, rL (upN w (12 + j) (i + 1)) k = upN (rL w) j (i + 1) k := fun k => by
          show (if 12 + k = 12 + j then i + 1 else w (12 + k)) = (if k = j then i + 1 else w (12 + k))
          by_cases z : k = j
          · rw [if_pos z, if_pos (by omega)]
          · rw [if_neg z, if_neg (by omega)]
        have ho3 : ORw (upN w (12 + j) (i + 1)) := by
          unfold ORw
          rw [eo 0 (by omega)]
          exact ho2.cg (fun k hk => (eT k (by omega)).symm) (fun k hk => (eB k (by omega)).symm) (fun k hk => (eL k).symm)
        have ept : ptW (upN w (12 + j) (i + 1)) = fb_sm (upN (rL w) j (i + 1)) (w 0) := by
          unfold ptW
          rw [eo 0 (by omega)]
          exact fb_sm_cong (fun k hk => eL k)
        have k17 := hK.1.2.2.1
        have esn : (∀ z, z < upN w (12 + j) (i + 1) 17 → snQ (upN w (12 + j) (i + 1)) z) ↔ (∀ z, z < w 17 → snP w (upN (rL w) j (i + 1)) z) := by
          rw [eo 17 (by omega)]
          have one : ∀ z, z < w 17 → (snQ (upN w (12 + j) (i + 1)) z ↔ snP w (upN (rL w) j (i + 1)) z) := by
            intro z hz
            unfold snQ snP
            rw [eo (18 + 2 * z) (by omega), eo (19 + 2 * z) (by omega), ept]
            constructor
            · rintro ⟨a1, a2⟩
              refine ⟨a1, ?_⟩
              rw [← a2]
              unfold gW
              rw [eo 0 (by omega)]
              exact gt_cg ho2 (fun k hk => (eT k (by omega)).symm) (fun k hk => (eB k (by omega)).symm) (fun k hk => (eL k).symm) a1
            · rintro ⟨a1, a2⟩
              refine ⟨a1, ?_⟩
              rw [← a2]
              unfold gW
              rw [eo 0 (by omega)]
              exact (gt_cg ho2 (fun k hk => (eT k (by omega)).symm) (fun k hk => (eB k (by omega)).symm) (fun k hk => (eL k).symm) a1).symm
          exact ⟨fun z q hq => (one q hq).mp (z q hq), fun z q hq => (one q hq).mpr (z q hq)⟩
        have hsn := hK.1.2.2.2.2.2.1
        refine ok_m (mallSeen J2 ho3 ⟨by rw [eo 17 (by omega)]; exact k17, fun z hz => by rw [eo 17 (by omega)] at hz; rw [eo (18 + 2 * z) (by omega), eo (19 + 2 * z) (by omega)]; exact hsn z hz⟩ hF) (fun r hr => ?_)
        obtain ⟨v, J4, f4⟩ := hr
        have fr4 := fr2.tr f4
        by_cases q : ∀ z, z < w 17 → snP w (upN (rL w) j (i + 1)) z
        · have eb : snB w j i = true := @decide_eq_true _ (Classical.propDecidable _) q
          rw [if_pos (esn.mpr q)] at v
          refine ok_f (by rw [v]; decide) ?_
          have ec : nI (fb_ct (snB w j) i) + 1 = nI (fb_ct (snB w j) (i + 1)) := by rw [fb_ct_succ, eb, e1]; rfl
          have hlt := ltI_0 (w := w) (a := j) (i := i) (by omega)
          have hcl := fb_ct_le (snB w j) i
          by_cases q5 : fb_ct (snB w j) i = 0
          · refine ok_t (by rw [q5]; rfl) (hk _ ⟨ec, ?_, e1 _, ⟨_, J4⟩, fr4⟩)
            simp only [ltI]; rw [if_pos ⟨eb, hlt.mpr q5⟩]
          · refine ok_f (nI_ne0 (by omega) (by omega)) (hk _ ⟨ec, ?_, e1 _, ⟨_, J4⟩, fr4⟩)
            simp only [ltI]; rw [if_neg (fun z => q5 (hlt.mp z.2))]
        · have eb : snB w j i = false := @decide_eq_false _ (Classical.propDecidable _) q
          rw [if_neg (fun z => q (esn.mp z))] at v
          refine ok_t v (hk _ ⟨?_, ?_, e1 _, ⟨_, J4⟩, fr4⟩)
          · rw [fb_ct_succ, eb]; rfl
          · simp only [ltI]; rw [if_neg (fun z => by rw [eb] at z; exact absurd z.1 (by decide))]
      · rintro k ⟨q1, q2, q3, q4⟩ ⟨g1, g2, g3, ⟨x, gJ⟩, fr⟩
        dsimp only at g1 g2 g3 gJ fr
        subst g1 g2 g3
        obtain ⟨⟨cm2, c2⟩, -⟩ := id gJ
        unfold b_X9_fits_40
        dsimp only
        refine ok_t (by decide) (ok_b (gR_of c2 rfl) ?_)
        refine ok_m (gJ.nw.wr (12 + j) (w (12 + j)) (nI_add 12 j) rfl (by omega)) (fun M2 hM2 => ?_)
        have J2 : MJ M2 y pc ft w hi wi dm dd tl tx so si it := gJ.now (hM2.1.cg (fun k _ => by simp only [upN]; by_cases z : k = 12 + j <;> simp [z])) hM2.2
        have fr2 : Fr M M2 y (y + 17) := fun q hq => (hM2.2 q (by omega)).trans (fr q hq)
        rw [es2]
        by_cases q : nI u = 0
        · exact ok_t q (ok_v ⟨(if_pos q).symm, J2, fr2⟩)
        · exact ok_f q (ok_v ⟨(if_neg q).symm, J2, fr2⟩)
      · simp only [upN]
        by_cases z : k = 12 + j
        · rw [if_pos z, z]
        · rw [if_neg z]
    · refine ok_b (in_NL (n := 2) (by decide) (by decide) rfl qb) (ok_t rfl (ok_v ⟨?_, h, Fr.rf⟩))
      rw [es]
      by_cases q0 : b < 0
      · rw [if_pos q0]
      · rw [if_neg q0, if_neg (fun z => qb ?_)]
        obtain ⟨m, -, hm, e⟩ := rngN (a := b) 0 1 (by decide) (by decide) q0 z
        exact ⟨m, by omega, e⟩
  · rw [show aFit a b w = -1 from if_neg qa]
    exact ok_b (isLetter_out h.nw (by omega) h5 qa) (ok_t rfl (ok_v ⟨rfl, h, Fr.rf⟩))
end MFITS
