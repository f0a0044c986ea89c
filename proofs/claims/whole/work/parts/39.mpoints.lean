-- THE REFERENCE: POINTS
def GP (M : XM) (y : Nat) (w : Nat → Nat) : Prop := (∃ t, JA M (y + 7) 500 t ∧ ∀ p, p < ptW w → t p = nI (gW w p)) ∧ (∃ t, JA M (y + 8) 500 t ∧ ∀ p, p < ptW w → t p = nI (rT w (kf (rT w) (rL w) p (w 0)))) ∧ ∃ t, JA M (y + 9) 5 t
section MPOINTS
variable {M : XM} {F y : Nat} {pc ft : Int32} {w : Nat → Nat}
theorem finds_ok (h : NW M y w) (h7 : ∃ t, JA M (y + 7) 500 t) (h8 : ∃ t, JA M (y + 8) 500 t) (h9 : ∃ t, JA M (y + 9) 5 t) (ho : ORw w) (hF : 1000 ≤ F) : Ok (f_X9_findsPoints F y M) (fun r => r.1 = nI (ptW w) ∧ GP r.2 y w ∧ ∀ q, q ≠ y + 7 → q ≠ y + 8 → q ≠ y + 9 → r.2 q = M q) := by
  have hh := h
  obtain ⟨⟨o1, o2, o3, o4, o5, o6, c⟩, hW⟩ := h
  obtain ⟨h2, h5, ht, hb, hl⟩ := id ho
  have hto : ptW w ≤ 495 := (tot_le ho).1
  have hbb : ∀ k, k < w 0 → rB w k < 5 := fun k hk => by have := hb.1 k hk; omega
  have htb : ∀ k, k < w 0 → rT w k < 5 := fun k hk => by have := ht.1 k hk; omega
  unfold f_X9_findsPoints
  refine ok_loop (I := fun i q => q.1 = nI (ps (rB w) (rL w) i) ∧ q.2.1 = nI i ∧ (∃ t, JA q.2.2 (y + 9) 5 t ∧ ∀ k, k < i → t (rB w k) = nI (ps (rB w) (rL w) k)) ∧ ∀ z, z ≠ y + 9 → q.2.2 z = M z) (w 0) ?_ ?_ (w 0) 0 F _ (by omega) (by omega) ⟨rfl, rfl, (by obtain ⟨t, z⟩ := h9; exact ⟨t, z, fun k hk => absurd hk (Nat.not_lt_zero k)⟩), fun _ _ => rfl⟩
  · rintro k i ⟨q1, q2, q3⟩ hi ⟨g1, g2, ⟨t, ht9, htk⟩, fr⟩ hk
    dsimp only at g1 g2 ht9 fr
    subst g1 g2
    have o : q3 y = _ := (fr y (by omega)).trans c
    have W3 : IA q3 (y + 1) 60 w := hW.fr (fr _ (by omega))
    unfold b_X9_findsPoints_4
    dsimp only
    refine ok_b (gR_of o rfl) (ok_b (W3.rd 0 rfl (by omega) (by decide)) (ok_f (nI_ge hi (by omega)) ?_))
    refine ok_b (gR_of o rfl) (ok_b (gR_of o rfl) (ok_b (W3.rd (7 + i) (nI_add 7 i) (by omega) (by decide)) ?_))
    refine ok_m (ht9.wr (rB w i) (nI (ps (rB w) (rL w) i)) rfl (hbb i hi) (by decide)) (fun M1 hM1 => ?_)
    have o1 : M1 y = _ := (hM1.2 y (by omega)).trans o
    have W4 : IA M1 (y + 1) 60 w := W3.fr (hM1.2 _ (by omega))
    refine ok_b (gR_of o1 rfl) (ok_b (gR_of o1 rfl) (ok_b (W4.rd (7 + i) (nI_add 7 i) (by omega) (by decide)) ?_))
    refine ok_b (W4.rd (12 + rB w i) (nI_add 12 _) (by have := hbb i hi; omega) (by decide)) ?_
    refine hk _ ⟨?_, e1 i, ⟨_, hM1.1, fun k hk => ?_⟩, fun z hz => (hM1.2 z hz).trans (fr z hz)⟩
    · show nI _ + nI (rL w (rB w i)) = _
      rw [nI_add, ps_s]
    · simp only [upJ]
      by_cases z : k = i
      · rw [z, if_pos rfl]
      · rw [if_neg (fun e => z (hb.uq (by omega) hi e))]; exact htk k (by omega)
  · rintro k ⟨q1, q2, q3⟩ ⟨g1, g2, ⟨t9, ht9, htk⟩, fr⟩
    dsimp only at g1 g2 ht9 fr
    subst g1 g2
    have o : q3 y = _ := (fr y (by omega)).trans c
    have W3 : IA q3 (y + 1) 60 w := hW.fr (fr _ (by omega))
    unfold b_X9_findsPoints_4
    dsimp only
    refine ok_b (gR_of o rfl) (ok_b (W3.rd 0 rfl (by omega) (by decide)) (ok_t (nI_le (Nat.le_refl _) (by omega)) ?_))
    -- what stands in the rows
    have hm : ∀ i, i ≤ w 0 → ps (rT w) (rL w) i ≤ ptW w := fun i hi => by
      have := ps_le (rT w) (rL w) hi
      rw [ht.sum (rL w)] at this
      exact this
    let A : Nat → XM → Prop := fun m Q => (∃ t, JA Q (y + 7) 500 t ∧ ∀ p, p < m → t p = nI (gW w p)) ∧ (∃ t, JA Q (y + 8) 500 t ∧ ∀ p, p < m → t p = nI (rT w (kf (rT w) (rL w) p (w 0)))) ∧ ∀ z, z ≠ y + 7 → z ≠ y + 8 → Q z = q3 z
    refine ok_loop (I := fun i q => q.1 = nI (ps (rT w) (rL w) i) ∧ q.2.1 = nI i ∧ A (ps (rT w) (rL w) i) q.2.2) (w 0) ?_ ?_ (w 0) 0 F _ (by omega) (by omega) ⟨rfl, rfl, ?_⟩
    · rintro k59 i ⟨p1, p2, p3⟩ hi ⟨g1, g2, gA⟩ hk
      dsimp only at g1 g2 gA
      subst g1 g2
      have o1 : p3 y = _ := (gA.2.2 y (by omega) (by omega)).trans o
      have W4 : IA p3 (y + 1) 60 w := W3.fr (gA.2.2 _ (by omega) (by omega))
      have hti := ht.1 i hi
      have hli := hl _ hti
      have hsum := hm (i + 1) (by omega)
      rw [ps_s] at hsum
      unfold b_X9_findsPoints_59
      dsimp only
      refine ok_b (gR_of o1 rfl) (ok_b (W4.rd 0 rfl (by omega) (by decide)) (ok_f (nI_ge hi (by omega)) ?_))
      refine ok_b (gR_of o1 rfl) (ok_b (W4.rd (2 + i) (nI_add 2 i) (by omega) (by decide)) ?_)
      have hpl := hb.pls hti
      have e9 : t9 (rT w i) = nI (ps (rB w) (rL w) (pl (rB w) (rT w i) (w 0))) := by
        have := htk _ hpl.1
        rw [hpl.2] at this
        exact this
      refine ok_loop (I := fun d q => q.1 = nI (ps (rT w) (rL w) i + d) ∧ q.2.1 = nI d ∧ A (ps (rT w) (rL w) i + d) q.2.2) (rL w (rT w i)) ?_ ?_ (rL w (rT w i)) 0 F _ (by omega) (by omega) ⟨rfl, rfl, gA⟩
      · rintro k81 d ⟨u1, u2, u3⟩ hd ⟨x1, x2, ⟨⟨t7, a7, b7⟩, ⟨t8, a8, b8⟩, xf⟩⟩ hk81
        dsimp only at x1 x2 a7 a8 xf
        subst x1 x2
        have o2 : u3 y = _ := (xf y (by omega) (by omega)).trans o
        have W5 : IA u3 (y + 1) 60 w := W3.fr (xf _ (by omega) (by omega))
        have J9 : JA u3 (y + 9) 5 t9 := ht9.fr (xf _ (by omega) (by omega))
        unfold b_X9_findsPoints_81
        dsimp only
        refine ok_b (gR_of o2 rfl) (ok_b (W5.rd (12 + rT w i) (nI_add 12 _) (by omega) (by decide)) (ok_f (nI_ge hd (by show rL w (rT w i) < _; omega)) ?_))
        refine ok_b (gR_of o2 rfl) ?_
        refine ok_m (a8.wr (ps (rT w) (rL w) i + d) (nI (rT w i)) rfl (by omega) (by decide)) (fun M1 hM1 => ?_)
        have o3 : M1 y = _ := (hM1.2 y (by omega)).trans o2
        refine ok_b (gR_of o3 rfl) (ok_b (gR_of o3 rfl) ?_)
        refine ok_b (JA.rd (J9.fr (hM1.2 _ (by omega))) (rT w i) rfl (by omega) (by decide)) ?_
        rw [e9, nI_add]
        refine ok_m (JA.wr (a7.fr (hM1.2 _ (by omega))) (ps (rT w) (rL w) i + d) (nI (ps (rB w) (rL w) (pl (rB w) (rT w i) (w 0)) + d)) rfl (by omega) (by decide)) (fun M2 hM2 => ?_)
        refine hk81 _ ⟨e1 _, e1 _, ⟨_, hM2.1, fun p hp => ?_⟩, ⟨_, hM1.1.fr (hM2.2 _ (by omega)), fun p hp => ?_⟩, fun z z1 z2 => (hM2.2 z z1).trans ((hM1.2 z z2).trans (xf z z1 z2))⟩
        · simp only [upJ]
          by_cases z : p = ps (rT w) (rL w) i + d
          · rw [if_pos z, z]
            unfold gW
            rw [gt_at hi hd]
          · rw [if_neg z]; exact b7 p (by omega)
        · simp only [upJ]
          by_cases z : p = ps (rT w) (rL w) i + d
          · rw [if_pos z, z, kf_eq hi (by omega) (by rw [ps_s]; omega)]
          · rw [if_neg z]; exact b8 p (by omega)
      · rintro k81 ⟨u1, u2, u3⟩ ⟨x1, x2, xA⟩
        dsimp only at x1 x2 xA
        subst x1 x2
        have o2 : u3 y = _ := (xA.2.2 y (by omega) (by omega)).trans o
        have W5 : IA u3 (y + 1) 60 w := W3.fr (xA.2.2 _ (by omega) (by omega))
        unfold b_X9_findsPoints_81
        dsimp only
        refine ok_b (gR_of o2 rfl) (ok_b (W5.rd (12 + rT w i) (nI_add 12 _) (by omega) (by decide)) (ok_t (nI_le (Nat.le_refl _) (by show rL w (rT w i) < _; omega)) ?_))
        exact hk _ ⟨by rw [ps_s], e1 i, by rw [ps_s]; exact xA⟩
    · rintro k59 ⟨p1, p2, p3⟩ ⟨g1, g2, gA⟩
      dsimp only at g1 g2 gA
      subst g1 g2
      have o1 : p3 y = _ := (gA.2.2 y (by omega) (by omega)).trans o
      have W4 : IA p3 (y + 1) 60 w := W3.fr (gA.2.2 _ (by omega) (by omega))
      unfold b_X9_findsPoints_59
      dsimp only
      refine ok_b (gR_of o1 rfl) (ok_b (W4.rd 0 rfl (by omega) (by decide)) (ok_t (nI_le (Nat.le_refl _) (by omega)) ?_))
      rw [ht.sum (rL w)] at gA ⊢
      exact ok_v ⟨rfl, ⟨gA.1, gA.2.1, t9, ht9.fr (gA.2.2 _ (by omega) (by omega))⟩, fun q z1 z2 z3 => (gA.2.2 q z1 z2).trans (fr q z3)⟩
    · obtain ⟨t7, a7⟩ := h7
      obtain ⟨t8, a8⟩ := h8
      exact ⟨⟨t7, a7.fr (fr _ (by omega)), fun p hp => absurd hp (Nat.not_lt_zero p)⟩, ⟨t8, a8.fr (fr _ (by omega)), fun p hp => absurd hp (Nat.not_lt_zero p)⟩, fun _ _ _ => rfl⟩
end MPOINTS
section MPOINTS2
variable {M : XM} {F y : Nat} {pc ft : Int32} {w wi dd tx si : Nat → Nat} {hi : Bool} {dm tl : Nat} {so : Nat → Int32} {it : Nat → Int64}
theorem MS.at {k : Nat} (h : MS M y) (h1 : 4 ≤ k) (h2 : k < 14) (h3 : k ≠ 5) (h4 : k ≠ 10) : ∃ t, JA M (y + k) (sl k) t := h.1 k h1 h2 h3 h4
theorem MJ.sc {M' : XM} (h : MJ M y pc ft w hi wi dm dd tl tx so si it) (hc : M' y = M y) (h1 : M' (y + 1) = M (y + 1)) (h2 : M' (y + 2) = M (y + 2)) (h3 : M' (y + 3) = M (y + 3)) (h5 : M' (y + 5) = M (y + 5)) (h14 : M' (y + 14) = M (y + 14)) (h15 : M' (y + 15) = M (y + 15)) (h16 : M' (y + 16) = M (y + 16)) (hS : MS M' y) : MJ M' y pc ft w hi wi dm dd tl tx so si it := by
  obtain ⟨⟨cm, c⟩, hW, hK, -⟩ := h
  exact ⟨⟨cm, hc.trans c⟩, hW.fr h1, hK.fr h2 h3 h5 h14 h15 h16, hS⟩
theorem MS.gp {M' : XM} (h : MS M y) (hg : GP M' y w) (fr : ∀ q, q ≠ y + 7 → q ≠ y + 8 → q ≠ y + 9 → M' q = M q) : MS M' y := by
  refine h.of (fun k a b c d => ?_) (Or.inl (fr _ (by omega) (by omega) (by omega)))
  by_cases z7 : k = 7
  · subst z7; obtain ⟨⟨t, a, -⟩, -⟩ := hg; exact Or.inr ⟨t, a⟩
  · by_cases z8 : k = 8
    · subst z8; obtain ⟨-, ⟨t, a, -⟩, -⟩ := hg; exact Or.inr ⟨t, a⟩
    · by_cases z9 : k = 9
      · subst z9; exact Or.inr hg.2.2
      · exact Or.inl (fr _ (by omega) (by omega) (by omega))
theorem mfinds (h : MJ M y pc ft w hi wi dm dd tl tx so si it) (hK : KS w hi wi dm dd tl tx so si it) (hF : 1000 ≤ F) : Ok (f_X9_findsPoints F y M) (fun r => r.1 = nI (ptW w) ∧ GP r.2 y w ∧ MJ r.2 y pc ft w hi wi dm dd tl tx so si it ∧ Fr M r.2 y (y + 17)) := by
  have hS := h.2.2.2
  refine ok_w (finds_ok h.nw (hS.1 7 (by omega) (by omega) (by omega) (by omega)) (hS.1 8 (by omega) (by omega) (by omega) (by omega)) (hS.1 9 (by omega) (by omega) (by omega) (by omega)) hK.1.1 hF) (fun r hr => ?_)
  obtain ⟨v, g, fr⟩ := hr
  exact ⟨v, g, h.sc (fr _ (by omega) (by omega) (by omega)) (fr _ (by omega) (by omega) (by omega)) (fr _ (by omega) (by omega) (by omega)) (fr _ (by omega) (by omega) (by omega)) (fr _ (by omega) (by omega) (by omega)) (fr _ (by omega) (by omega) (by omega)) (fr _ (by omega) (by omega) (by omega)) (fr _ (by omega) (by omega) (by omega)) (hS.gp g fr), fun q hq => fr q (by omega) (by omega) (by omega)⟩
theorem in_pt {a : Int32} (ho : ORw w) (h : isL (ptW w) a) : f_X9_in a.toInt64 0 ((nI (ptW w) - 1).toInt64) M = some 1 := by
  have ht : ptW w ≤ 495 ∧ 2 ≤ ptW w := tot_le ho
  rw [e_pred (by omega)]
  exact in_L (by omega) rfl h
theorem in_npt {a : Int32} (ho : ORw w) (h : ¬ isL (ptW w) a) : f_X9_in a.toInt64 0 ((nI (ptW w) - 1).toInt64) M = some 0 := by
  have ht : ptW w ≤ 495 ∧ 2 ≤ ptW w := tot_le ho
  rw [e_pred (by omega)]
  exact in_NL (by omega) (by omega) rfl h
theorem m_point (h : MJ M y pc ft w hi wi dm dd tl tx so si it) (hK : KS w hi wi dm dd tl tx so si it) (a b : Int32) (hF : 1000 ≤ F) : Ok (f_X9_point F y a b M) (fun r => r.1 = aPnt a b w ∧ MJ r.2 y pc ft w hi wi dm dd tl tx so si it ∧ Fr M r.2 y (y + 17)) := by
  obtain ⟨⟨cm, c⟩, hW, hKp, hS⟩ := id h
  have ho := hK.1.1
  have ht : ptW w ≤ 495 ∧ 2 ≤ ptW w := tot_le ho
  unfold f_X9_point
  refine ok_b (ob_of c) (ok_b (mpoints_ok h.nw ho.2.1 (by omega)) ?_)
  by_cases qa : isL (ptW w) a
  · refine ok_b (in_pt ho qa) (ok_f (by decide) ?_)
    obtain ⟨p, hp, rfl⟩ := id qa
    have es : aPnt (nI p) b w = (if b = 0 then nI (gW w p) else if b = 1 then nI (rT w (kf (rT w) (rL w) p (w 0))) else if b = 2 then nI (perG (gW w) (ptW w) p) else -1) := by
      unfold aPnt; rw [if_pos qa, nIc (by omega)]
    by_cases qb : isL 3 b
    · refine ok_b (in_L (n := 3) (by decide) rfl qb) (ok_f (by decide) (ok_b (ob_of c) ?_))
      refine ok_m (mfinds h hK hF) (fun r hr => ?_)
      obtain ⟨-, ⟨⟨t7, a7, b7⟩, ⟨t8, a8, b8⟩, -⟩, J1, f1⟩ := hr
      obtain ⟨⟨cm1, c1⟩, -⟩ := id J1
      obtain ⟨v, hv, rfl⟩ := qb
      rcases (show v = 0 ∨ v = 1 ∨ v = 2 by omega) with rfl | rfl | rfl
      · refine ok_f (by decide) (ok_t rfl (ok_b (gR_of c1 rfl) (ok_b (a7.rd p rfl (by omega) (by decide)) (ok_v ⟨?_, J1, f1⟩))))
        rw [es, b7 p hp]; rfl
      · refine ok_f (by decide) (ok_f (by decide) (ok_b (gR_of c1 rfl) (ok_b (a8.rd p rfl (by omega) (by decide)) (ok_v ⟨?_, J1, f1⟩))))
        rw [es, b8 p hp]; rfl
      · refine ok_t (by decide) (ok_b (gR_of c1 rfl) (ok_b (a7.rd p rfl (by omega) (by decide)) ?_))
        rw [b7 p hp]
        obtain ⟨k, k1, k2, k3, k4⟩ := period_ex (gW_lt ho) (gW_in ho) hp
        have e : aPnt (nI p) (nI 2) w = nI k := by rw [es]; show nI (perG (gW w) (ptW w) p) = _; rw [perG_eq k1 k2 k3 k4]
        rw [e]
        refine ok_loop (I := fun i q => q = (nI (i + 1), nI (itr (gW w) (i + 1) p))) (k - 1) ?_ ?_ (k - 1) 0 F _ (by omega) (by omega) rfl
        · rintro k70 i q hi rfl hk
          have hb := itr_lt (gW_lt ho) (i + 1) hp
          unfold b_X9_point_70
          refine ok_f (fun e => k4 (i + 1) (by omega) (by omega) (nI_inj (by omega) (by omega) e)) (ok_b (gR_of c1 rfl) (ok_b (a7.rd (itr (gW w) (i + 1) p) rfl (by omega) (by decide)) ?_))
          rw [b7 _ hb]
          exact hk _ (by rw [e1]; rfl)
        · rintro k70 q rfl
          rw [show k - 1 + 1 = k by omega, k3]
          unfold b_X9_point_70
          exact ok_t rfl (ok_v ⟨rfl, J1, f1⟩)
    · refine ok_b (in_NL (n := 3) (by decide) (by decide) rfl qb) (ok_t rfl (ok_v ⟨?_, h, Fr.rf⟩))
      rw [es]
      exact Eq.symm (cf (fun e => qb ⟨0, by decide, e⟩) (cf (fun e => qb ⟨1, by decide, e⟩) (cf (fun e => qb ⟨2, by decide, e⟩) rfl)))
  · rw [show aPnt a b w = -1 from if_neg qa]
    exact ok_b (in_npt ho qa) (ok_t rfl (ok_v ⟨rfl, h, Fr.rf⟩))
theorem m_gone (h : MJ M y pc ft w hi wi dm dd tl tx so si it) (hK : KS w hi wi dm dd tl tx so si it) (a b : Int32) (hF : 20000 ≤ F) : Ok (f_X9_gone F y a b M) (fun r => r.1 = aGon a b w ∧ MJ r.2 y pc ft w hi wi dm dd tl tx so si it ∧ Fr M r.2 y (y + 17)) := by
  obtain ⟨⟨cm, c⟩, hW, hKp, hS⟩ := id h
  have ho := hK.1.1
  have ht : ptW w ≤ 495 ∧ 2 ≤ ptW w := tot_le ho
  unfold f_X9_gone
  refine ok_b (ob_of c) (ok_b (mpoints_ok h.nw ho.2.1 (by omega)) ?_)
  by_cases qa : isL (ptW w) a
  · refine ok_b (in_pt ho qa) (ok_f (by decide) ?_)
    obtain ⟨p, hp, rfl⟩ := id qa
    have es : aGon (nI p) b w = (if b < 0 then -2 else if b ≤ 9999 then nI (itr (gW w) b.toNatClampNeg p) else -2) := by
      unfold aGon; rw [if_pos qa, nIc (n := p) (by omega)]
    by_cases q0 : b < 0
    · rw [es.trans (if_pos q0)]
      exact ok_b (in_n (lo := 0) (hi := 9999) rfl rfl (Or.inl q0)) (ok_t rfl (ok_v ⟨rfl, h, Fr.rf⟩))
    · rw [if_neg q0] at es
      by_cases q1 : b ≤ 9999
      · rw [es.trans (if_pos q1)]
        refine ok_b (in_y (lo := 0) (hi := 9999) rfl rfl q0 (Int32.not_lt.mpr q1)) (ok_f (by decide) (ok_b (ob_of c) ?_))
        obtain ⟨T, -, hT, rfl⟩ := rngN (a := b) 0 9999 (by decide) (by decide) q0 q1
        rw [nIc (by omega)]
        refine ok_m (mfinds h hK (by omega)) (fun r hr => ?_)
        obtain ⟨-, ⟨⟨t7, a7, b7⟩, -, -⟩, J1, f1⟩ := hr
        obtain ⟨⟨cm1, c1⟩, -⟩ := id J1
        refine ok_loop (I := fun i q => q = (nI (itr (gW w) i p), nI i)) T ?_ ?_ T 0 F _ (by omega) (by omega) rfl
        · rintro k43 i q hi rfl hk
          have hb := itr_lt (gW_lt ho) i hp
          unfold b_X9_gone_43
          refine ok_f (nI_ge hi (by omega)) (ok_b (gR_of c1 rfl) (ok_b (a7.rd (itr (gW w) i p) rfl (by omega) (by decide)) ?_))
          rw [b7 _ hb]
          exact hk _ (by rw [e1]; rfl)
        · rintro k43 q rfl
          unfold b_X9_gone_43
          exact ok_t (nI_le (Nat.le_refl _) (by omega)) (ok_v ⟨rfl, J1, f1⟩)
      · rw [es.trans (if_neg q1)]
        exact ok_b (in_n (lo := 0) (hi := 9999) rfl rfl (Or.inr (fa_of_nle q1))) (ok_t rfl (ok_v ⟨rfl, h, Fr.rf⟩))
  · rw [show aGon a b w = -1 from if_neg qa]
    exact ok_b (in_npt ho qa) (ok_t rfl (ok_v ⟨rfl, h, Fr.rf⟩))
end MPOINTS2
