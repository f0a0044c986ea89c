-- READING
noncomputable def sDo (c : Nat) (a v : Int32) (w : Nat → Nat) (dm : Nat) (dd : Nat → Nat) : Int32 × T3 := if c = 98 then sBck a w dm dd else if c = 107 then sKep w dm dd else if c = 108 then sLen a v w dm dd else if c = 110 then sLet a w dm dd else if c = 114 then sBot a w dm dd else if c = 115 then sStp w dm dd else if c = 117 then sTak w dm dd else sSwp a v w dm dd
noncomputable def rdS (tl : Nat) (tx : Nat → Nat) (w : Nat → Nat) (dm : Nat) (dd : Nat → Nat) : Nat → Nat × T3
  | 0 => (0, w, dm, dd)
  | j + 1 => let s := rdS tl tx w dm dd j
    let r := sDo (tx (pp tl tx j)) (nI (clA tl tx (pp tl tx j))) (nI (clB tl tx (pp tl tx j))) s.2.1 s.2.2.1 s.2.2.2
    (if r.1 < 0 then s.1 else s.1 + 1, r.2)
section READ
variable {M : XM} {F x : Nat} {w wi dd tx si : Nat → Nat} {hi : Bool} {dm tl : Nat} {so : Nat → Int32} {it : Nat → Int64}
theorem c_do (h : CI M x w hi wi dm dd tl tx so si it) {c : Nat} (hc : kn c) (a v : Int32) (hF : 1000 ≤ F) : Ok (f_X8_doClause F x (nI c) a v M) (fun r => r.1 = (sDo c a v w dm dd).1 ∧ CI r.2 x (sDo c a v w dm dd).2.1 hi wi (sDo c a v w dm dd).2.2.1 (sDo c a v w dm dd).2.2.2 tl tx so si it ∧ Fr M r.2 (x + 1) (x + 79)) := by
  have c0 := h.1
  unfold CO at c0
  unfold f_X8_doClause
  have key : ∀ {y : Option (Int32 × XM)} {P : Int32 × XM → Prop}, Ok y P → Ok (y.bind fun p => some (p.1, p.2)) P := fun {y P} hy => ok_m hy (fun v hv => ok_v hv)
  rcases hc with rfl | rfl | rfl | rfl | rfl | rfl | rfl | rfl
  · exact ok_t rfl (ok_b (ob_of c0) (key (c_back h a hF)))
  · exact ok_f (by decide) (ok_t rfl (ok_b (ob_of c0) (key (c_keep h hF))))
  · exact ok_f (by decide) (ok_f (by decide) (ok_t rfl (ok_b (ob_of c0) (key (c_length h a v hF)))))
  · exact ok_f (by decide) (ok_f (by decide) (ok_f (by decide) (ok_t rfl (ok_b (ob_of c0) (key (c_letters h a hF))))))
  · exact ok_f (by decide) (ok_f (by decide) (ok_f (by decide) (ok_f (by decide) (ok_t rfl (ok_b (ob_of c0) (key (c_bottom h a hF)))))))
  · exact ok_f (by decide) (ok_f (by decide) (ok_f (by decide) (ok_f (by decide) (ok_f (by decide) (ok_t rfl (ok_b (ob_of c0) (key (c_step h hF))))))))
  · exact ok_f (by decide) (ok_f (by decide) (ok_f (by decide) (ok_f (by decide) (ok_f (by decide) (ok_f (by decide) (ok_t rfl (ok_b (ob_of c0) (key (c_takeBack h hF)))))))))
  · exact ok_f (by decide) (ok_f (by decide) (ok_f (by decide) (ok_f (by decide) (ok_f (by decide) (ok_f (by decide) (ok_f (by decide) (ok_t rfl (ok_b (ob_of c0) (key (c_swap h a v hF))))))))))
theorem CI.text {M' : XM} {tl' : Nat} {tx' : Nat → Nat} (h : CI M x w hi wi dm dd tl tx so si it) (hT : TX M' (x + 79) tl' tx') (fr : Fr M M' (x + 79) (x + 84)) (hk : tl' ≤ 100 ∧ ∀ k, k < tl' → tx' k < 128) : CI M' x w hi wi dm dd tl' tx' so si it := by
  obtain ⟨h0, h1, h3, h4, h5, h6, h7, h8⟩ := h
  exact ⟨(fr x (by omega)).trans h0, h1.fr (fun q a1 a2 => fr q (by omega)), h3.fr (fun q a1 a2 => fr q (by omega)), h4.fr (fun q a1 a2 => fr q (by omega)), hT, h6.fr (fun q a1 a2 => fr q (by omega)), h7.fr (fun q a1 a2 => fr q (by omega)), h8.1, h8.2.1, h8.2.2.1, hk, h8.2.2.2.2⟩
noncomputable def sRd (w : Nat → Nat) (dm : Nat) (dd : Nat → Nat) (tl : Nat) (tx : Nat → Nat) : Int32 × T3 := @ite _ (good tl tx) (Classical.propDecidable _) (nI (rdS tl tx w dm dd (lastC tl tx + 1)).1, (rdS tl tx w dm dd (lastC tl tx + 1)).2) (-10 - nI (fault tl tx), w, dm, dd)
theorem last_G {j : Nat} (hg : good tl tx) (hj : j < lastC tl tx + 1) : clG tl tx (pp tl tx j) := by
  rcases Nat.lt_or_ge j (lastC tl tx) with q | q
  · exact (last_more q).1
  · rw [show j = lastC tl tx by omega]; exact hg.1
theorem c_read (h : CI M x w hi wi dm dd tl tx so si it) (hF : 1000 ≤ F) : Ok (f_X8_read F x M) (fun r => r.1 = (sRd w dm dd tl tx).1 ∧ CI r.2 x (sRd w dm dd tl tx).2.1 hi wi (sRd w dm dd tl tx).2.2.1 (sRd w dm dd tl tx).2.2.2 0 tx so si it ∧ Fr M r.2 x (x + 111)) := by
  obtain ⟨h0, h1, h3, h4, h5, h6, h7, h8⟩ := id h
  have c0 := h0
  unfold CO at c0
  obtain ⟨p0, m0, K0, A0, B0, hQ0⟩ := h5.toTQ
  have c5 := hQ0.1
  unfold f_X8_read
  repeat (first | refine ok_b (gR_of (by assumption) (by rfl)) ?_ | refine ok_b (gI_of (by assumption) (by rfl)) ?_ | refine ok_b (ob_of (by assumption)) ?_)
  refine ok_m (findFault_ok h5 h8.2.2.2.1.1 h8.2.2.2.1.2 hF) (fun r hr => ?_)
  obtain ⟨hr1, f1⟩ := hr
  have d0 : r.2 x = _ := (f1 x (by omega)).trans c0
  have clr : ∀ {p m : Int32} {K A B : Nat → Int32}, TQ r.2 (x + 79) tl tx p m K A B → Ok (f_X7_clear (x + 79) r.2) (fun M2 => TQ M2 (x + 79) 0 tx p m K A B ∧ Fr r.2 M2 (x + 79) (x + 84)) := by
    intro p m K A B hq
    unfold f_X7_clear
    refine ok_b (put_of hq.1 (by simp)) ?_
    obtain ⟨q0, ⟨t, q1, q1'⟩, q2, q3, q4⟩ := hq
    exact ok_v ⟨⟨up_s, ⟨t, q1.fr (up_n (by omega)), fun k hk => absurd hk (Nat.not_lt_zero k)⟩, q2.fr (up_n (by omega)), q3.fr (up_n (by omega)), q4.fr (up_n (by omega))⟩, Fr.up (by omega) (by omega)⟩
  rcases hr1 with ⟨hg, v, p, K, A, B, hQ, hT⟩ | ⟨hg, v, hX⟩
  · rw [show sRd w dm dd tl tx = _ from if_pos hg]
    have d5 := hQ.1
    repeat (first | refine ok_b (gR_of (by assumption) (by rfl)) ?_ | refine ok_b (gI_of (by assumption) (by rfl)) ?_ | refine ok_b (ob_of (by assumption)) ?_)
    refine ok_m (clr hQ) (fun M2 hM2 => ?_)
    have f2 := f1.tr hM2.2
    have hC2 := h.text (tl' := 0) (tx' := tx) hM2.1.toTX f2 ⟨by omega, fun k hk => absurd hk (Nat.not_lt_zero k)⟩
    refine ok_t v ?_
    have hN := last_lt (tl := tl) (tx := tx)
    refine ok_loop (I := fun j q => q.1 = nI (rdS tl tx w dm dd j).1 ∧ q.2.1 = nI j ∧ CI q.2.2 x (rdS tl tx w dm dd j).2.1 hi wi (rdS tl tx w dm dd j).2.2.1 (rdS tl tx w dm dd j).2.2.2 0 tx so si it ∧ TQ q.2.2 (x + 79) 0 tx p (nI (lastC tl tx + 1)) K A B ∧ Fr M q.2.2 (x + 1) (x + 84)) (lastC tl tx + 1) ?_ ?_ (lastC tl tx + 1) 0 F _ (by omega) (by omega) ⟨rfl, rfl, hC2, hM2.1, f2.mono _ _ (by omega) (by omega)⟩
    · rintro k j ⟨q1, q2, q3⟩ hj ⟨g1, g2, gC, gQ, fr⟩ hk
      dsimp only at g1 g2 gC gQ fr
      subst g1 g2
      have e0 := gC.1
      have e5 := gQ.1
      unfold CO at e0
      unfold b_X8_read_29
      dsimp only
      iterate 2 (first | refine ok_b (gR_of (by assumption) (by rfl)) ?_ | refine ok_b (gI_of (by assumption) (by rfl)) ?_ | refine ok_b (ob_of (by assumption)) ?_)
      refine ok_f (nI_ge hj (by omega)) ?_
      repeat (first | refine ok_b (gR_of (by assumption) (by rfl)) ?_ | refine ok_b (gI_of (by assumption) (by rfl)) ?_ | refine ok_b (ob_of (by assumption)) ?_)
      obtain ⟨tK, tA, tB⟩ := hT j hj
      refine ok_b (gQ.2.2.1.rd j rfl (by omega) (by decide)) ?_
      repeat (first | refine ok_b (gR_of (by assumption) (by rfl)) ?_ | refine ok_b (gI_of (by assumption) (by rfl)) ?_ | refine ok_b (ob_of (by assumption)) ?_)
      refine ok_b (gQ.2.2.2.1.rd j rfl (by omega) (by decide)) ?_
      repeat (first | refine ok_b (gR_of (by assumption) (by rfl)) ?_ | refine ok_b (gI_of (by assumption) (by rfl)) ?_ | refine ok_b (ob_of (by assumption)) ?_)
      refine ok_b (gQ.2.2.2.2.rd j rfl (by omega) (by decide)) ?_
      repeat (first | refine ok_b (gR_of (by assumption) (by rfl)) ?_ | refine ok_b (gI_of (by assumption) (by rfl)) ?_ | refine ok_b (ob_of (by assumption)) ?_)
      rw [tK, tA, tB]
      refine ok_m (c_do gC (last_G hg hj).2.1 _ _ hF) (fun r3 hr3 => ?_)
      obtain ⟨v3, C3, f3⟩ := hr3
      have Q3 : TQ r3.2 (x + 79) 0 tx p (nI (lastC tl tx + 1)) K A B := by
        obtain ⟨q0, ⟨t, q1, q1'⟩, q2, q3, q4⟩ := gQ
        exact ⟨(f3 _ (by omega)).trans q0, ⟨t, q1.fr (f3 _ (by omega)), q1'⟩, q2.fr (f3 _ (by omega)), q3.fr (f3 _ (by omega)), q4.fr (f3 _ (by omega))⟩
      have fr3 : Fr M r3.2 (x + 1) (x + 84) := fun q hq => (f3 q (by omega)).trans (fr q hq)
      by_cases c : r3.1 < 0
      · refine ok_t c (hk _ ⟨?_, e1 j, C3, Q3, fr3⟩)
        rw [v3] at c
        simp only [rdS, if_pos c]
      · refine ok_f c (hk _ ⟨?_, e1 j, C3, Q3, fr3⟩)
        rw [v3] at c
        simp only [rdS, if_neg c]
        exact e1 _
    · rintro k ⟨q1, q2, q3⟩ ⟨g1, g2, gC, gQ, fr⟩
      dsimp only at g1 g2 gC gQ fr
      subst g1 g2
      have e0 := gC.1
      have e5 := gQ.1
      unfold CO at e0
      unfold b_X8_read_29
      dsimp only
      iterate 2 (first | refine ok_b (gR_of (by assumption) (by rfl)) ?_ | refine ok_b (gI_of (by assumption) (by rfl)) ?_ | refine ok_b (ob_of (by assumption)) ?_)
      refine ok_t (nI_le (Nat.le_refl _) (by omega)) ?_
      exact ok_v ⟨rfl, gC, fr.mono _ _ (by omega) (by omega)⟩
  · rw [show sRd w dm dd tl tx = _ from if_neg hg]
    obtain ⟨p, m, K, A, B, hQ⟩ := hX.toTQ
    have d5 := hQ.1
    repeat (first | refine ok_b (gR_of (by assumption) (by rfl)) ?_ | refine ok_b (gI_of (by assumption) (by rfl)) ?_ | refine ok_b (ob_of (by assumption)) ?_)
    refine ok_m (clr hQ) (fun M2 hM2 => ?_)
    have f2 := f1.tr hM2.2
    have hC2 := h.text (tl' := 0) (tx' := tx) hM2.1.toTX f2 ⟨by omega, fun k hk => absurd hk (Nat.not_lt_zero k)⟩
    have hb : fault tl tx < 2147483648 := by
      have h100 := h8.2.2.2.1.1
      have hp := pp_le (tl := tl) (tx := tx) (Nat.le_refl _)
      unfold fault
      split
      · rename_i g; have := e2p_le (tx := tx) g.1; omega
      · unfold clF
        split
        · rename_i z; have := e1p_le (tx := tx) z.1
          split <;> omega
        · omega
    refine ok_f (by rw [v]; exact nI_m1 hb) ?_
    exact ok_v ⟨by rw [v], hC2, f2.mono _ _ (by omega) (by omega)⟩
def sFd (a : Int32) (tl : Nat) (tx : Nat → Nat) : Int32 × Nat × (Nat → Nat) := if a < 0 then (-2, tl, tx) else if a ≤ 127 then (if tl < 100 then (nI (tl + 1), tl + 1, upN tx tl a.toNatClampNeg) else (-4, tl, tx)) else (-2, tl, tx)
theorem c_feed (h : CI M x w hi wi dm dd tl tx so si it) (a : Int32) : Ok (f_X8_feed x a M) (fun r => r.1 = (sFd a tl tx).1 ∧ CI r.2 x w hi wi dm dd (sFd a tl tx).2.1 (sFd a tl tx).2.2 so si it ∧ Fr M r.2 x (x + 111)) := by
  unfold f_X8_feed
  by_cases q1 : a < 0
  · rw [show sFd a tl tx = (-2, tl, tx) from if_pos q1]
    exact ok_t q1 (ok_v ⟨rfl, h, Fr.rf⟩)
  · refine ok_f q1 ?_
    by_cases q2 : a ≤ 127
    · refine ok_t q2 ?_
      obtain ⟨m, hm1, hm2, rfl⟩ := rngN (a := a) 0 127 (by decide) (by decide) q1 q2
      obtain ⟨h0, h1, h3, h4, h5, h6, h7, h8⟩ := id h
      have c0 := h0
      unfold CO at c0
      obtain ⟨⟨p, m', o⟩, ⟨t, b1, b1'⟩, k1, k2, k3⟩ := id h5
      have h100 := h8.2.2.2.1.1
      repeat (first | refine ok_b (gR_of (by assumption) (by rfl)) ?_ | refine ok_b (gI_of (by assumption) (by rfl)) ?_ | refine ok_b (ob_of (by assumption)) ?_)
      unfold f_X7_add
      by_cases q3 : tl < 100
      · have es : sFd (nI m) tl tx = (nI (tl + 1), tl + 1, upN tx tl m) := by
          unfold sFd; rw [if_neg q1, if_pos q2, if_pos q3, nIc (by omega)]
        rw [es]
        refine ok_m (P := fun r => r.1 = nI (tl + 1) ∧ CI r.2 x w hi wi dm dd (tl + 1) (upN tx tl m) so si it ∧ Fr M r.2 x (x + 111)) ?_ (fun r hr => ok_v hr)
        repeat (first | refine ok_b (gR_of (by assumption) (by rfl)) ?_ | refine ok_b (gI_of (by assumption) (by rfl)) ?_ | refine ok_b (ob_of (by assumption)) ?_)
        refine ok_t (nI_lt (b := 100) q3 (by omega)) ?_
        repeat (first | refine ok_b (gR_of (by assumption) (by rfl)) ?_ | refine ok_b (gI_of (by assumption) (by rfl)) ?_ | refine ok_b (ob_of (by assumption)) ?_)
        refine ok_m (b1.wr tl (vp_nar .byte (nI m).toInt8.toInt32) rfl (by omega) (by decide)) (fun M1 hM1 => ?_)
        have o1 : M1 (x + 79) = _ := (hM1.2 _ (by omega)).trans o
        repeat (first | refine ok_b (gR_of (by assumption) (by rfl)) ?_ | refine ok_b (gI_of (by assumption) (by rfl)) ?_ | refine ok_b (ob_of (by assumption)) ?_)
        refine ok_b (put_of o1 (by simp)) ?_
        refine ok_b (gI_of up_s rfl) ?_
        refine ok_v ⟨e1 tl, ?_, fun q hq => (up_n (by omega)).trans (hM1.2 q (by omega))⟩
        refine h.text ⟨⟨p, m', ?_⟩, ⟨_, hM1.1.fr (up_n (by omega)), fun k hk => ?_⟩, ?_, ?_, ?_⟩ (fun q hq => (up_n (by omega)).trans (hM1.2 q (by omega))) ⟨by omega, fun k hk => ?_⟩
        · show x_up _ _ _ _ = _
          rw [up_s, e1]; rfl
        · simp only [upJ, upN]
          by_cases c : k = tl
          · rw [if_pos c, if_pos c, pk_vb, fa_byte_small (by omega)]
          · rw [if_neg c, if_neg c]; exact b1' k (by omega)
        · obtain ⟨t, z⟩ := k1; exact ⟨t, z.fr ((up_n (by omega)).trans (hM1.2 _ (by omega)))⟩
        · obtain ⟨t, z⟩ := k2; exact ⟨t, z.fr ((up_n (by omega)).trans (hM1.2 _ (by omega)))⟩
        · obtain ⟨t, z⟩ := k3; exact ⟨t, z.fr ((up_n (by omega)).trans (hM1.2 _ (by omega)))⟩
        · simp only [upN]
          by_cases c : k = tl
          · rw [if_pos c]; omega
          · rw [if_neg c]; exact h8.2.2.2.1.2 k (by omega)
      · have es : sFd (nI m) tl tx = (-4, tl, tx) := by
          unfold sFd; rw [if_neg q1, if_pos q2, if_neg q3]
        rw [es]
        refine ok_b (v := (-4, M)) (bs (gI_of o rfl) (cf (nI_nlt (b := 100) (a := tl) (by omega) (by omega)) rfl)) ?_
        exact ok_v ⟨rfl, h, Fr.rf⟩
    · have es : sFd a tl tx = (-2, tl, tx) := by unfold sFd; rw [if_neg q1, if_neg q2]
      rw [es]
      exact ok_f q2 (ok_v ⟨rfl, h, Fr.rf⟩)
end READ
