-- THE REFERENCE: THE EIGHT DEEDS
section MDEEDS
variable {M : XM} {F y : Nat} {pc ft : Int32} {w wi dd tx si : Nat → Nat} {hi : Bool} {dm tl : Nat} {so : Nat → Int32} {it : Nat → Int64}
theorem MJ.now {M' : XM} {w' : Nat → Nat} (h : MJ M y pc ft w hi wi dm dd tl tx so si it) (hN : NW M' y w') (fr : ∀ q, q ≠ y + 1 → M' q = M q) : MJ M' y pc ft w' hi wi dm dd tl tx so si it := by
  obtain ⟨⟨cm, c⟩, hW0, hK, hS⟩ := h
  exact ⟨⟨cm, (fr y (by omega)).trans c⟩, hN.2, hK.fr (fr _ (by omega)) (fr _ (by omega)) (fr _ (by omega)) (fr _ (by omega)) (fr _ (by omega)) (fr _ (by omega)), hS.of (fun k a b c d => Or.inl (fr _ (by omega))) (Or.inl (fr _ (by omega)))⟩
theorem m_letters (h : MJ M y pc ft w hi wi dm dd tl tx so si it) (hK : KS w hi wi dm dd tl tx so si it) (a : Int32) (hF : 1000 ≤ F) : Ok (f_X9_letters F y a M) (fun r => r.1 = (sLet a w dm dd).1 ∧ MJ r.2 y pc ft (sLet a w dm dd).2.1 hi wi (sLet a w dm dd).2.2.1 (sLet a w dm dd).2.2.2 tl tx so si it ∧ Fr M r.2 y (y + 17)) := by
  obtain ⟨⟨cm, c⟩, hW, hKp, hS⟩ := id h
  unfold f_X9_letters sLet
  by_cases q1 : a < 2
  · simp only [if_pos q1]
    exact ok_b (in_n (lo := 2) (hi := 5) rfl rfl (Or.inl q1)) (ok_t rfl (ok_v ⟨rfl, h, Fr.rf⟩))
  · simp only [if_neg q1]
    by_cases q2 : a ≤ 5
    · simp only [if_pos q2]
      refine ok_b (in_y (lo := 2) (hi := 5) rfl rfl q1 (Int32.not_lt.mpr q2)) (ok_f (by decide) ?_)
      obtain ⟨m, h2, h5, rfl⟩ := rngN (a := a) 2 5 (by decide) (by decide) q1 q2
      rw [nIc (by omega)]
      refine ok_b (gR_of c rfl) (ok_b (hW.rd 0 rfl (by omega) (by decide)) (ok_b (ob_of c) ?_))
      refine ok_m (mbegins_ok c hW h2 h5 (by omega)) (fun M1 hM1 => ?_)
      obtain ⟨c1, W1, f1⟩ := hM1
      refine ok_v ⟨rfl, h.set (cm' := cm) c1 W1 ?_ (fun q q1 q2 _ _ => f1 q q1 q2) ?_, fun q hq => f1 q (by omega) (by omega)⟩
      · obtain ⟨-, ⟨v, b1, b2⟩, -⟩ := hKp
        exact ⟨v, b1.fr (f1 _ (by omega) (by omega)), fun k hk => absurd hk (Nat.not_lt_zero k)⟩
      · obtain ⟨t, ht⟩ := hS.1 4 (by omega) (by omega) (by omega) (by omega)
        exact ⟨t, ht.fr (f1 _ (by omega) (by omega))⟩
    · simp only [if_neg q2]
      exact ok_b (in_n (lo := 2) (hi := 5) rfl rfl (Or.inr (fa_of_nle q2))) (ok_t rfl (ok_v ⟨rfl, h, Fr.rf⟩))
theorem m_bottom (h : MJ M y pc ft w hi wi dm dd tl tx so si it) (hK : KS w hi wi dm dd tl tx so si it) (a : Int32) (hF : 1000 ≤ F) : Ok (f_X9_bottom F y a M) (fun r => r.1 = (sBot a w dm dd).1 ∧ MJ r.2 y pc ft (sBot a w dm dd).2.1 hi wi (sBot a w dm dd).2.2.1 (sBot a w dm dd).2.2.2 tl tx so si it ∧ Fr M r.2 y (y + 17)) := by
  obtain ⟨⟨cm, c⟩, hW, hKp, hS⟩ := id h
  have ho := hK.1.1
  have h2 := ho.1
  have h5 := ho.2.1
  unfold f_X9_bottom
  refine ok_b (ob_of c) ?_
  refine ok_m (misCode_ok h.nw (hS.1 4 (by omega) (by omega) (by omega) (by omega)) h2 h5 a (by omega)) (fun r hr => ?_)
  obtain ⟨hr1, f1⟩ := hr
  have c1 : r.2 y = _ := (f1 y (by omega)).trans c
  rcases hr1 with ⟨hc, v, t, ht, htk⟩ | ⟨hc, v, t, ht⟩
  · rw [show sBot a w dm dd = _ from if_pos hc]
    refine ok_f (by rw [v]; decide) ?_
    refine ok_loop (I := fun i q => q.1 = nI i ∧ IA q.2 (y + 1) 60 (wR w (ovF i (fun k => k) (rT w)) (ovF i (dg (w 0) a.toNatClampNeg) (rB w)) (rL w)) ∧ ∀ z, z ≠ y + 1 → q.2 z = r.2 z) (w 0) ?_ ?_ (w 0) 0 F _ (by omega) (by omega) ⟨rfl, (hW.fr (f1 _ (by omega))).cg (fun k hk => ?_), fun _ _ => rfl⟩
    · rintro k i ⟨q1, q2⟩ hi ⟨rfl, g, fr⟩ hk
      dsimp only at g fr
      have o : q2 y = _ := (fr y (by omega)).trans c1
      unfold b_X9_bottom_13
      refine ok_b (gR_of o rfl) (ok_b (g.rd 0 rfl (by omega) (by decide)) ?_)
      refine ok_f (by rw [wR_o (by omega)]; exact nI_ge hi (by omega)) ?_
      refine ok_b (gR_of o rfl) ?_
      refine ok_m (IA.wr g (2 + i) i (nI_add 2 i) rfl (by omega) (by decide)) (fun M3 hM3 => ?_)
      have o3 : M3 y = _ := (hM3.2 y (by omega)).trans o
      have hd3 : JA M3 (y + 4) 5 t := (ht.fr (fr _ (by omega))).fr (hM3.2 _ (by omega))
      refine ok_b (gR_of o3 rfl) (ok_b (gR_of o3 rfl) (ok_b (hd3.rd i rfl (by omega) (by decide)) ?_))
      refine ok_m (IA.wr hM3.1 (7 + i) (dg (w 0) a.toNatClampNeg i) (nI_add 7 i) (htk i hi) (by omega) (by decide)) (fun M4 hM4 => ?_)
      refine hk _ ⟨e1 i, hM4.1.cg (fun k hk => ?_), fun z hz => (hM4.2 z hz).trans ((hM3.2 z hz).trans (fr z hz))⟩
      congr 1
      simp only [upN]
      unfold wR
      by_cases b0 : k < 2
      · rw [if_neg (by omega), if_neg (by omega), if_pos b0, if_pos b0]
      · rw [if_neg b0, if_neg b0]
        by_cases b1 : k < 7
        · rw [if_neg (show ¬ k = 7 + i by omega), if_pos b1, if_pos b1]
          unfold ovF
          by_cases b2 : k = 2 + i
          · rw [if_pos b2, if_pos (by omega)]
            show i = k - 2
            omega
          · rw [if_neg b2]
            by_cases b3 : k - 2 < i
            · rw [if_pos b3, if_pos (by omega)]
            · rw [if_neg b3, if_neg (by omega)]
        · rw [if_neg b1, if_neg b1, if_neg (show ¬ k = 2 + i by omega)]
          by_cases b4 : k < 12
          · rw [if_pos b4, if_pos b4]
            unfold ovF
            by_cases b2 : k = 7 + i
            · rw [if_pos b2, if_pos (by omega), show k - 7 = i by omega]
            · rw [if_neg b2]
              by_cases b3 : k - 7 < i
              · rw [if_pos b3, if_pos (by omega)]
              · rw [if_neg b3, if_neg (by omega)]
          · rw [if_neg b4, if_neg b4, if_neg (by omega)]
    · rintro k ⟨q1, q2⟩ ⟨rfl, g, fr⟩
      dsimp only at g fr
      have o : q2 y = _ := (fr y (by omega)).trans c1
      unfold b_X9_bottom_13
      refine ok_b (gR_of o rfl) (ok_b (g.rd 0 rfl (by omega) (by decide)) ?_)
      refine ok_t (by rw [wR_o (by omega)]; exact nI_le (Nat.le_refl _) (by omega)) ?_
      refine ok_b (put_of o (by simp [MOb])) ?_
      refine ok_v ⟨rfl, h.set (cm' := cm) up_s (g.fr (up_n (by omega))) ?_ (fun q z1 z2 z3 z4 => (up_n z1).trans ((fr q z2).trans (f1 q z4))) ⟨t, (ht.fr (fr _ (by omega))).fr (up_n (by omega))⟩, fun q hq => (up_n (by omega)).trans ((fr q (by omega)).trans (f1 q (by omega)))⟩
      obtain ⟨-, ⟨v, b1, b2⟩, -⟩ := hKp
      exact ⟨v, ((b1.fr (f1 _ (by omega))).fr (fr _ (by omega))).fr (up_n (by omega)), fun k hk => absurd hk (Nat.not_lt_zero k)⟩
    · congr 1
      have := rowU7 w (rB w) k
      unfold rowU at this
      rw [show wR w (ovF 0 (fun k => k) (rT w)) (ovF 0 (dg (w 0) a.toNatClampNeg) (rB w)) (rL w) k = wR w (rT w) (rB w) (rL w) k from wR_cg (fun _ _ => rfl) (fun _ _ => by simp [ovF]) (fun _ _ => by simp [ovF]) (fun _ _ => rfl) k, ← this]
      split
      · show w k = w (7 + (k - 7))
        congr 1; omega
      · rfl
  · rw [show sBot a w dm dd = (-2, w, dm, dd) from if_neg hc]
    refine ok_t v (ok_v ⟨rfl, h.set (cm' := cm) c1 (hW.fr (f1 _ (by omega))) ?_ (fun q z1 z2 z3 z4 => f1 q z4) ⟨t, ht⟩, fun q hq => f1 q (by omega)⟩)
    obtain ⟨-, ⟨v, b1, b2⟩, -⟩ := hKp
    exact ⟨v, b1.fr (f1 _ (by omega)), b2⟩
theorem m_length (h : MJ M y pc ft w hi wi dm dd tl tx so si it) (hK : KS w hi wi dm dd tl tx so si it) (a v : Int32) : Ok (f_X9_length y a v M) (fun r => r.1 = (sLen a v w dm dd).1 ∧ MJ r.2 y pc ft (sLen a v w dm dd).2.1 hi wi (sLen a v w dm dd).2.2.1 (sLen a v w dm dd).2.2.2 tl tx so si it ∧ Fr M r.2 y (y + 17)) := by
  obtain ⟨⟨cm, c⟩, hW, hKp, hS⟩ := id h
  have ho := hK.1.1
  have h2 := ho.1
  have h5 := ho.2.1
  unfold f_X9_length
  refine ok_b (ob_of c) ?_
  by_cases hc : isL (w 0) a
  · have es : sLen a v w dm dd = (if v < 1 then (-2, w, dm, dd) else if 99 < v then (-2, w, dm, dd) else (nI (rL w a.toNatClampNeg), rows3 w (rT w) (rB w) (upN (rL w) a.toNatClampNeg v.toNatClampNeg) dm dd)) := if_pos hc
    refine ok_b (isLetter_in h.nw h5 hc) (ok_f (by decide) ?_)
    by_cases q1 : v < 1
    · rw [es.trans (if_pos q1)]
      exact ok_b (in_n (lo := 1) (hi := 99) rfl rfl (Or.inl q1)) (ok_t rfl (ok_v ⟨rfl, h, Fr.rf⟩))
    · rw [if_neg q1] at es
      by_cases q2 : 99 < v
      · rw [es.trans (if_pos q2)]
        exact ok_b (in_n (lo := 1) (hi := 99) rfl rfl (Or.inr q2)) (ok_t rfl (ok_v ⟨rfl, h, Fr.rf⟩))
      · rw [es.trans (if_neg q2)]
        refine ok_b (in_y (lo := 1) (hi := 99) rfl rfl q1 q2) (ok_f (by decide) (ok_b (ob_of c) ?_))
        obtain ⟨m, hm1, hm2, rfl⟩ := rngN (a := v) 1 99 (by decide) (by decide) q1 (fa_of_nlt q2)
        obtain ⟨j, hj, rfl⟩ := hc
        rw [nIc (by omega), nIc (by omega)]
        refine ok_m (mkeeps_ok h hK.2.2.1.1) (fun M1 hM1 => ?_)
        obtain ⟨J1, f1⟩ := hM1
        obtain ⟨⟨cm1, c1⟩, W1, -⟩ := id J1
        refine ok_b (gR_of c1 rfl) (ok_b (W1.rd (12 + j) (nI_add 12 j) (by omega) (by decide)) (ok_b (gR_of c1 rfl) ?_))
        refine ok_m (J1.nw.wr (12 + j) m (nI_add 12 j) rfl (by omega)) (fun M2 hM2 => ?_)
        exact ok_v ⟨rfl, J1.now (hM2.1.cg (fun k _ => row12 w (by omega) m k)) hM2.2, fun q hq => (hM2.2 q (by omega)).trans (f1 q hq)⟩
  · rw [show sLen a v w dm dd = (-1, w, dm, dd) from if_neg hc]
    exact ok_b (isLetter_out h.nw (by omega) h5 hc) (ok_t rfl (ok_v ⟨rfl, h, Fr.rf⟩))
theorem m_swap (h : MJ M y pc ft w hi wi dm dd tl tx so si it) (hK : KS w hi wi dm dd tl tx so si it) (a v : Int32) (hF : 1000 ≤ F) : Ok (f_X9_swap F y a v M) (fun r => r.1 = (sSwp a v w dm dd).1 ∧ MJ r.2 y pc ft (sSwp a v w dm dd).2.1 hi wi (sSwp a v w dm dd).2.2.1 (sSwp a v w dm dd).2.2.2 tl tx so si it ∧ Fr M r.2 y (y + 17)) := by
  obtain ⟨⟨cm, c⟩, hW, hKp, hS⟩ := id h
  have ho := hK.1.1
  have h2 := ho.1
  have h5 := ho.2.1
  unfold f_X9_swap
  refine ok_b (ob_of c) ?_
  by_cases hc : isL (w 0) a
  · refine ok_b (isLetter_in h.nw h5 hc) (ok_f (by decide) (ok_b (ob_of c) ?_))
    by_cases hv : isL (w 0) v
    · refine ok_b (isLetter_in h.nw h5 hv) (ok_f (by decide) ?_)
      by_cases q : a = v
      · rw [show sSwp a v w dm dd = (-1, w, dm, dd) from if_neg (fun z => z.2.2 q)]
        exact ok_t q (ok_v ⟨rfl, h, Fr.rf⟩)
      · rw [show sSwp a v w dm dd = _ from if_pos ⟨hc, hv, q⟩]
        refine ok_f q (ok_b (ob_of c) ?_)
        obtain ⟨j, hj, rfl⟩ := hc
        obtain ⟨m, hm, rfl⟩ := hv
        have hjm : j ≠ m := fun e => q (by rw [e])
        rw [nIc (by omega), nIc (by omega)]
        refine ok_m (mkeeps_ok h hK.2.2.1.1) (fun M1 hM1 => ?_)
        obtain ⟨J1, f1⟩ := hM1
        obtain ⟨⟨cm1, c1⟩, W1, -⟩ := id J1
        have hb := ho.2.2.2.1
        have p1 := hb.pls hj
        have p2 := hb.pls hm
        refine ok_b (ob_of c1) (ok_b (mplace_ok J1.nw (b := 7) (n := w 0) (by omega) h5 hb hj (by omega)) (ok_b (ob_of c1) (ok_b (mplace_ok J1.nw (b := 7) (n := w 0) (by omega) h5 hb hm (by omega)) (ok_b (gR_of c1 rfl) ?_))))
        refine ok_m (J1.nw.wr (7 + pl (rB w) j (w 0)) m (nI_add 7 _) rfl (by omega)) (fun M2 hM2 => ?_)
        have c2 : M2 y = _ := (hM2.2 y (by omega)).trans c1
        refine ok_b (gR_of c2 rfl) ?_
        refine ok_m (hM2.1.wr (7 + pl (rB w) m (w 0)) j (nI_add 7 _) rfl (by omega)) (fun M3 hM3 => ?_)
        refine ok_v ⟨rfl, J1.now (hM3.1.cg (fun k hk => ?_)) (fun q hq => (hM3.2 q hq).trans (hM2.2 q hq)), fun q hq => (hM3.2 q (by omega)).trans ((hM2.2 q (by omega)).trans (f1 q hq))⟩
        show _ = wR w (rT w) (swF (rB w) (w 0) j m) (rL w) k
        rw [← rowU7]
        simp only [upN, rowU, swF]
        have hne : pl (rB w) j (w 0) ≠ pl (rB w) m (w 0) := fun e => by rw [e] at p1; exact hjm (p1.2.symm.trans p2.2)
        by_cases b1 : k = 7 + pl (rB w) m (w 0)
        · rw [if_pos b1, if_pos (by omega), if_pos (by omega), show k - 7 = pl (rB w) m (w 0) by omega, p2.2, if_neg (Ne.symm hjm), if_pos rfl]
        · rw [if_neg b1]
          by_cases b2 : k = 7 + pl (rB w) j (w 0)
          · rw [if_pos b2, if_pos (by omega), if_pos (by omega), show k - 7 = pl (rB w) j (w 0) by omega, p1.2, if_pos rfl]
          · rw [if_neg b2]
            by_cases b3 : 7 ≤ k ∧ k < 7 + 5
            · rw [if_pos b3]
              have ek : w k = rB w (k - 7) := by show w k = w (7 + (k - 7)); congr 1; omega
              by_cases b4 : k - 7 < w 0
              · rw [if_pos b4, if_neg, if_neg]
                · exact ek
                · intro e; have := hb.uq b4 p2.1 (e.trans p2.2.symm); omega
                · intro e; have := hb.uq b4 p1.1 (e.trans p1.2.symm); omega
              · rw [if_neg b4]; exact ek
            · rw [if_neg b3]
    · rw [show sSwp a v w dm dd = (-1, w, dm, dd) from if_neg (fun z => hv z.2.1)]
      exact ok_b (isLetter_out h.nw (by omega) h5 hv) (ok_t rfl (ok_v ⟨rfl, h, Fr.rf⟩))
  · rw [show sSwp a v w dm dd = (-1, w, dm, dd) from if_neg (fun z => hc z.1)]
    exact ok_b (isLetter_out h.nw (by omega) h5 hc) (ok_t rfl (ok_v ⟨rfl, h, Fr.rf⟩))
theorem m_step (h : MJ M y pc ft w hi wi dm dd tl tx so si it) (hK : KS w hi wi dm dd tl tx so si it) (hF : 1000 ≤ F) : Ok (f_X9_step F y M) (fun r => r.1 = (sStp w dm dd).1 ∧ MJ r.2 y pc ft (sStp w dm dd).2.1 hi wi (sStp w dm dd).2.2.1 (sStp w dm dd).2.2.2 tl tx so si it ∧ Fr M r.2 y (y + 17)) := by
  obtain ⟨⟨cm, c⟩, hW, hKp, hS⟩ := id h
  have ho := hK.1.1
  unfold f_X9_step
  refine ok_b (ob_of c) (ok_b (mkind_ok h.nw ho) ?_)
  rcases kd_c ho with ⟨e, -⟩ | ⟨e, hk, hlt⟩
  · rw [show sStp w dm dd = (-3, w, dm, dd) from if_pos e]
    exact ok_t e (ok_v ⟨rfl, h, Fr.rf⟩)
  · have hne : kdW w ≠ -1 := by rw [e]; exact nI_m1 (by omega)
    rw [show sStp w dm dd = (kdW w, stW w dm dd) from if_neg hne]
    refine ok_f hne (ok_b (ob_of c) ?_)
    refine ok_m (mkeeps_ok h hK.2.2.1.1) (fun M1 hM1 => ?_)
    obtain ⟨J1, f1⟩ := hM1
    obtain ⟨⟨cm1, c1⟩, W1, -⟩ := id J1
    refine ok_b (ob_of c1) ?_
    have hs := msteps_ok (F := F) J1.nw ho hk hlt (by omega)
    rw [← e] at hs
    refine ok_m hs (fun M2 hM2 => ?_)
    exact ok_v ⟨rfl, J1.now hM2.1 hM2.2, fun q hq => (hM2.2 q (by omega)).trans (f1 q hq)⟩
theorem mrow {k : Nat} (hk : k < 2) : (fun i => w ((if k = 0 then 7 else 2) + i)) = mF k (rT w) (rB w) := by
  rcases k01 hk with rfl | rfl <;> rfl
theorem m_back (h : MJ M y pc ft w hi wi dm dd tl tx so si it) (hK : KS w hi wi dm dd tl tx so si it) (a : Int32) (hF : 1000 ≤ F) : Ok (f_X9_back F y a M) (fun r => r.1 = (sBck a w dm dd).1 ∧ MJ r.2 y pc ft (sBck a w dm dd).2.1 hi wi (sBck a w dm dd).2.2.1 (sBck a w dm dd).2.2.2 tl tx so si it ∧ Fr M r.2 y (y + 17)) := by
  obtain ⟨⟨cm, c⟩, hW, hKp, hS⟩ := id h
  have ho := hK.1.1
  have h2 := ho.1
  have h5 := ho.2.1
  unfold f_X9_back
  by_cases hc : isL 2 a
  · obtain ⟨k, hk, rfl⟩ := id hc
    refine ok_b (in_L (n := 2) (by decide) rfl hc) (ok_f (by decide) ?_)
    have es : sBck (nI k) w dm dd = if 0 ≤ rfI k (rT w) (rB w) (rL w) (w 0) then (nI (fb_sm (bcW k w) (w 0)), rows3 w (bcT k (rT w) (rB w) (w 0)) (bcB k (rT w) (rB w) (w 0)) (bcW k w) dm dd) else (rfI k (rT w) (rB w) (rL w) (w 0), w, dm, dd) := by
      unfold sBck; rw [if_pos hc, nIc (by omega)]
    obtain ⟨hm, hx, hp, hpx⟩ := bk_f ho hk
    -- what both ways come to
    have key : ∀ b, b = (if k = 0 then 7 else 2) → Ok (j_X9_back_37 F y (nI k) (nI (bkX k (rT w) (rB w) (w 0))) (nI b) M) (fun r => r.1 = (sBck (nI k) w dm dd).1 ∧ MJ r.2 y pc ft (sBck (nI k) w dm dd).2.1 hi wi (sBck (nI k) w dm dd).2.2.1 (sBck (nI k) w dm dd).2.2.2 tl tx so si it ∧ Fr M r.2 y (y + 17)) := by
      intro b hb
      have hb7 : 2 ≤ b ∧ b ≤ 7 := by rw [hb]; split <;> omega
      have er : (fun i => w (b + i)) = mF k (rT w) (rB w) := by rw [hb]; exact mrow hk
      have hpm : PM (w 0) (fun i => w (b + i)) := by rw [er]; exact hm
      have hpl := mplace_ok (F := F) h.nw (b := b) (n := w 0) (by omega) h5 hpm hx (by omega)
      rw [er] at hpl
      unfold j_X9_back_37
      refine ok_b (ob_of c) (ok_b hpl (ok_b (gR_of c rfl) (ok_b (hW.rd 0 rfl (by omega) (by decide)) ?_)))
      show Ok (if nI (bkP k (rT w) (rB w) (w 0)) + 1 = nI (w 0) then _ else _) _
      by_cases c1 : bkP k (rT w) (rB w) (w 0) + 1 < w 0
      · rw [e1]
        refine ok_f (fun e => by have := nI_inj (by omega) (by omega) e; omega) ?_
        have hy : bkY k (rT w) (rB w) (w 0) < w 0 := hm.1 _ c1
        have ey : w (b + (bkP k (rT w) (rB w) (w 0) + 1)) = bkY k (rT w) (rB w) (w 0) := congrFun er _
        have l1 := ho.2.2.2.2 _ hx
        have l2 := ho.2.2.2.2 _ hy
        refine ok_b (gR_of c rfl) (ok_b (hW.rd (12 + bkX k (rT w) (rB w) (w 0)) (nI_add 12 _) (by omega) (by decide)) (ok_b (gR_of c rfl) (ok_b (gR_of c rfl) ?_)))
        have ei : (nI b + nI (pl (mF k (rT w) (rB w)) (bkX k (rT w) (rB w) (w 0)) (w 0)) + 1 : Int32) = nI (b + (bkP k (rT w) (rB w) (w 0) + 1)) := by rw [nI_add, e1]; rfl
        refine ok_b (hW.rd _ ei (by omega) (by decide)) ?_
        rw [ey]
        refine ok_b (hW.rd (12 + bkY k (rT w) (rB w) (w 0)) (nI_add 12 _) (by omega) (by decide)) ?_
        show Ok (if nI (rL w (bkX k (rT w) (rB w) (w 0))) + nI (rL w (bkY k (rT w) (rB w) (w 0))) ≤ 99 then _ else _) _
        rw [nI_add]
        by_cases c2 : rL w (bkX k (rT w) (rB w) (w 0)) + rL w (bkY k (rT w) (rB w) (w 0)) ≤ 99
        · have e0 : 0 ≤ rfI k (rT w) (rB w) (rL w) (w 0) := by unfold rfI; rw [if_pos c1, if_pos c2]; decide
          rw [es.trans (if_pos e0)]
          refine ok_t (nI_le (b := 99) c2 (by omega)) (ok_b (ob_of c) ?_)
          refine ok_m (mkeeps_ok h hK.2.2.1.1) (fun M1 hM1 => ?_)
          obtain ⟨J1, f1⟩ := hM1
          obtain ⟨⟨cm1, c3⟩, W1, -⟩ := id J1
          refine ok_b (ob_of c3) ?_
          refine ok_m (mstepsBack_ok J1.nw ho hk c1 (by omega)) (fun r2 hr2 => ?_)
          refine ok_b (ob_of (ci := 9) ((hr2.2 y (by omega)).trans c3)) ?_
          have e6 : wR w (bcT k (rT w) (rB w) (w 0)) (bcB k (rT w) (rB w) (w 0)) (bcW k w) 0 = w 0 := wR_o (by omega)
          refine ok_b (mpoints_ok hr2.1 (by rw [e6]; exact h5) (by omega)) ?_
          refine ok_v ⟨?_, J1.now hr2.1 hr2.2, fun q hq => (hr2.2 q (by omega)).trans (f1 q hq)⟩
          show nI (ptW _) = nI _
          unfold ptW
          rw [e6]
          congr 1
          exact fb_sm_cong (fun i hi => wR_L (by omega))
        · have e0 : rfI k (rT w) (rB w) (rL w) (w 0) = -2 := by unfold rfI; rw [if_pos c1, if_neg c2]
          rw [es.trans (if_neg (by rw [e0]; decide)), e0]
          exact ok_f (nI_ge (a := 99) (by omega) (by omega)) (ok_v ⟨rfl, h, Fr.rf⟩)
      · have e0 : rfI k (rT w) (rB w) (rL w) (w 0) = -3 := by unfold rfI; rw [if_neg c1]
        rw [es.trans (if_neg (by rw [e0]; decide)), e0]
        refine ok_t ?_ (ok_v ⟨rfl, h, Fr.rf⟩)
        rw [e1, show bkP k (rT w) (rB w) (w 0) + 1 = w 0 by omega]
    rcases k01 hk with rfl | rfl
    · refine ok_t rfl ?_
      unfold j_X9_back_23
      refine ok_b (ob_of c) (ok_b (lastIn_ok h.nw (b := 2) (by omega) (by omega) h5) (ok_t rfl ?_))
      exact key 7 rfl
    · refine ok_f (by decide) ?_
      unfold j_X9_back_23
      refine ok_b (ob_of c) (ok_b (lastIn_ok h.nw (b := 7) (by omega) (by omega) h5) (ok_f (by decide) ?_))
      exact key 2 rfl
  · rw [show sBck a w dm dd = (-1, w, dm, dd) from if_neg hc]
    exact ok_b (in_NL (n := 2) (by decide) (by decide) rfl hc) (ok_t rfl (ok_v ⟨rfl, h, Fr.rf⟩))
theorem m_takeBack (h : MJ M y pc ft w hi wi dm dd tl tx so si it) (hK : KS w hi wi dm dd tl tx so si it) : Ok (f_X9_takeBack y M) (fun r => r.1 = (sTak w dm dd).1 ∧ MJ r.2 y pc ft (sTak w dm dd).2.1 hi wi (sTak w dm dd).2.2.1 (sTak w dm dd).2.2.2 tl tx so si it ∧ Fr M r.2 y (y + 17)) := by
  obtain ⟨⟨cm, c⟩, hW, hKp, hS⟩ := id h
  have hd := hK.2.2.1.1
  unfold f_X9_takeBack
  refine ok_b (gI_of c rfl) ?_
  by_cases q : dm = 0
  · rw [show sTak w dm dd = (-3, w, dm, dd) from if_pos q]
    exact ok_t (by rw [q]; rfl) (ok_v ⟨rfl, h, Fr.rf⟩)
  · rw [show sTak w dm dd = _ from if_neg q]
    refine ok_f (nI_ne0 (by omega) (by omega)) (ok_b (ob_of c) ?_)
    unfold f_X9_undoes
    obtain ⟨-, ⟨v, b1, b2⟩, -⟩ := hKp
    refine ok_m (P := fun M' => M' y = some (.inr (9, MOb y (bz hi) (nI (dm - 1)) (nI tl) pc ft cm)) ∧ IA M' (y + 1) 60 (wR w (fun k => dd (15 * (dm - 1) + k)) (fun k => dd (15 * (dm - 1) + 5 + k)) (fun k => dd (15 * (dm - 1) + 10 + k))) ∧ ∀ z, z ≠ y → z ≠ y + 1 → M' z = M z) ?_ ?_
    · refine ok_b (gI_of c rfl) ?_
      rw [e_pred (by omega)]
      refine ok_b (put_of c (by simp [MOb])) ?_
      generalize hm : x_up M y _ = M1
      have f1 : ∀ q, q ≠ y → M1 q = M q := fun q hq => by subst hm; exact up_n hq
      have c1 : M1 y = some (.inr (9, MOb y (bz hi) (nI (dm - 1)) (nI tl) pc ft cm)) := by subst hm; rw [up_s]; rfl
      refine ok_b (gR_of c1 rfl) (ok_b (gI_of c1 rfl) (ok_b (gR_of c1 rfl) ?_))
      refine ok_m (cpI_ok (b1.fr (f1 _ (by omega))) (hW.fr (f1 _ (by omega))) (s := 15 * (dm - 1)) (d := 2) (n := 15) (by omega) (by omega) (by omega) (pk_mul 15 _) rfl rfl) (fun M2 hM2 => ?_)
      refine ok_v ⟨(hM2.2 y (by omega)).trans c1, hM2.1.cg (fun k hk => ?_), fun z z1 z2 => (hM2.2 z z2).trans (f1 z z1)⟩
      congr 1
      dsimp only
      unfold wR
      by_cases k0 : k < 2
      · rw [if_neg (by omega), if_pos k0]
      · rw [if_neg k0]
        by_cases k1 : k < 7
        · rw [if_pos (by omega), if_pos k1, b2 _ (by omega)]
        · rw [if_neg k1]
          by_cases k2 : k < 12
          · rw [if_pos (by omega), if_pos k2, b2 _ (by omega)]; congr 1; omega
          · rw [if_neg k2]
            by_cases k3 : k < 17
            · rw [if_pos (by omega), if_pos k3, b2 _ (by omega)]; congr 1; omega
            · rw [if_neg (by omega), if_neg k3]
    · rintro M1 ⟨c1, W1, f1⟩
      refine ok_b (gI_of c1 rfl) ?_
      refine ok_v ⟨rfl, h.set (cm' := cm) c1 W1 ⟨v, b1.fr (f1 _ (by omega) (by omega)), fun k (hk : k < 15 * (dm - 1)) => b2 k (by omega)⟩ (fun q z1 z2 _ _ => f1 q z1 z2) ?_, fun q hq => f1 q (by omega) (by omega)⟩
      obtain ⟨t, ht⟩ := hS.1 4 (by omega) (by omega) (by omega) (by omega)
      exact ⟨t, ht.fr (f1 _ (by omega) (by omega))⟩
theorem m_keep (h : MJ M y pc ft w hi wi dm dd tl tx so si it) (hK : KS w hi wi dm dd tl tx so si it) (hF : 1000 ≤ F) : Ok (f_X9_keep F y M) (fun r => r.1 = (sKep w dm dd).1 ∧ MJ r.2 y pc ft (sKep w dm dd).2.1 hi wi (sKep w dm dd).2.2.1 (sKep w dm dd).2.2.2 tl tx so si it ∧ Fr M r.2 y (y + 17)) := by
  obtain ⟨⟨cm, c⟩, hW, hKp, hS⟩ := id h
  unfold f_X9_keep sKep
  refine ok_b (gR_of c rfl) (ok_b (ob_of c) (ok_b (mcode_ok h.nw hK.1.1 (by omega)) ?_))
  refine ok_m (h.nw.wr 1 (cdW w) rfl rfl (by omega)) (fun M1 hM1 => ?_)
  have c1 : M1 y = _ := (hM1.2 y (by omega)).trans c
  refine ok_b (gR_of c1 rfl) (ok_b (hM1.1.2.rd 1 rfl (by omega) (by decide)) ?_)
  refine ok_v ⟨?_, h.now hM1.1 hM1.2, fun q hq => hM1.2 q (by omega)⟩
  show nI (upN w 1 (cdW w) 1) = _
  rw [upN_s]
end MDEEDS
