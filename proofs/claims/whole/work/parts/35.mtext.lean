-- THE REFERENCE: TEXTS
section MTEXT
variable {M : XM} {F y : Nat} {pc ft : Int32} {w wi dd tx si : Nat → Nat} {hi : Bool} {dm tl : Nat} {so : Nat → Int32} {it : Nat → Int64}
theorem MJ.pf {M' : XM} {pc' ft' cm' : Int32} (h : MJ M y pc ft w hi wi dm dd tl tx so si it) (hc : M' y = some (.inr (9, MOb y (bz hi) (nI dm) (nI tl) pc' ft' cm'))) (fr : ∀ q, q ≠ y → M' q = M q) : MJ M' y pc' ft' w hi wi dm dd tl tx so si it := by
  obtain ⟨⟨cm, c⟩, hW0, hK, hS⟩ := h
  exact ⟨⟨cm', hc⟩, hW0.fr (fr _ (by omega)), hK.fr (fr _ (by omega)) (fr _ (by omega)) (fr _ (by omega)) (fr _ (by omega)) (fr _ (by omega)) (fr _ (by omega)), hS.of (fun k a b c d => Or.inl (fr _ (by omega))) (Or.inl (fr _ (by omega)))⟩
theorem mput8 (h : MJ M y pc ft w hi wi dm dd tl tx so si it) (v : Int32) : Ok (x_put M y 9 8 (.int v)) (fun M' => MJ M' y v ft w hi wi dm dd tl tx so si it ∧ ∀ q, q ≠ y → M' q = M q) := by
  obtain ⟨⟨cm, c⟩, -⟩ := id h
  exact ⟨_, put_of c (by simp [MOb]), h.pf (cm' := cm) up_s (fun q hq => up_n hq), fun q hq => up_n hq⟩
theorem mput9 (h : MJ M y pc ft w hi wi dm dd tl tx so si it) (v : Int32) : Ok (x_put M y 9 9 (.int v)) (fun M' => MJ M' y pc v w hi wi dm dd tl tx so si it ∧ ∀ q, q ≠ y → M' q = M q) := by
  obtain ⟨⟨cm, c⟩, -⟩ := id h
  exact ⟨_, put_of c (by simp [MOb]), h.pf (cm' := cm) up_s (fun q hq => up_n hq), fun q hq => up_n hq⟩
theorem MJ.told6 {M' : XM} (h : MJ M y pc ft w hi wi dm dd tl tx so si it) {t : Nat → Int32} (ht : JA M' (y + 6) 2 t) (fr : ∀ q, q ≠ y + 6 → M' q = M q) : MJ M' y pc ft w hi wi dm dd tl tx so si it := by
  obtain ⟨⟨cm, c⟩, hW0, hK, hS⟩ := h
  refine ⟨⟨cm, (fr _ (by omega)).trans c⟩, hW0.fr (fr _ (by omega)), hK.fr (fr _ (by omega)) (fr _ (by omega)) (fr _ (by omega)) (fr _ (by omega)) (fr _ (by omega)) (fr _ (by omega)), hS.of (fun k a b c d => ?_) (Or.inl (fr _ (by omega)))⟩
  by_cases q : k = 6
  · subst q; exact Or.inr ⟨t, ht⟩
  · exact Or.inl (fr _ (by omega))
theorem m_feed (h : MJ M y pc ft w hi wi dm dd tl tx so si it) (hK : KS w hi wi dm dd tl tx so si it) (a : Int32) : Ok (f_X9_feed y a M) (fun r => r.1 = (sFd a tl tx).1 ∧ MJ r.2 y pc ft w hi wi dm dd (sFd a tl tx).2.1 (sFd a tl tx).2.2 so si it ∧ Fr M r.2 y (y + 17)) := by
  obtain ⟨⟨cm, c⟩, hW, hKp, hS⟩ := id h
  have h100 := hK.2.2.2.1.1
  unfold f_X9_feed
  by_cases q1 : a < 0
  · rw [show sFd a tl tx = (-2, tl, tx) from if_pos q1]
    exact ok_b (in_n (lo := 0) (hi := 127) rfl rfl (Or.inl q1)) (ok_t rfl (ok_v ⟨rfl, h, Fr.rf⟩))
  · by_cases q2 : a ≤ 127
    · refine ok_b (in_y (lo := 0) (hi := 127) rfl rfl q1 (Int32.not_lt.mpr q2)) (ok_f (by decide) ?_)
      obtain ⟨m, hm1, hm2, rfl⟩ := rngN (a := a) 0 127 (by decide) (by decide) q1 q2
      refine ok_b (gI_of c rfl) ?_
      by_cases q3 : tl < 100
      · have es : sFd (nI m) tl tx = (nI (tl + 1), tl + 1, upN tx tl m) := by
          unfold sFd; rw [if_neg q1, if_pos q2, if_pos q3, nIc (by omega)]
        rw [es]
        refine ok_f (fun e => by have := nI_inj (b := 100) (by omega) (by decide) e; omega) ?_
        obtain ⟨hI, hD, ⟨t, c1, c2⟩, d1, d2, d3⟩ := hKp
        refine ok_b (gR_of c rfl) (ok_b (gI_of c rfl) ?_)
        refine ok_m (c1.wr tl m rfl rfl (by omega) (by decide)) (fun M1 hM1 => ?_)
        have o1 : M1 y = _ := (hM1.2 y (by omega)).trans c
        refine ok_b (gI_of o1 rfl) (ok_b (put_of o1 (by simp [MOb])) ?_)
        rw [e1]
        generalize hm : x_up M1 y _ = M2
        have f2 : ∀ q, q ≠ y → q ≠ y + 5 → M2 q = M q := fun q z1 z2 => by subst hm; exact (up_n z1).trans (hM1.2 q z2)
        have o2 : M2 y = some (.inr (9, MOb y (bz hi) (nI dm) (nI (tl + 1)) pc ft cm)) := by subst hm; rw [up_s]; rfl
        refine ok_b (gI_of o2 rfl) ?_
        refine ok_v ⟨rfl, ⟨⟨cm, o2⟩, hW.fr (f2 _ (by omega) (by omega)), ⟨?_, ?_, ⟨upN t tl m, ?_, fun k hk => ?_⟩, d1.fr (f2 _ (by omega) (by omega)), d2.fr (f2 _ (by omega) (by omega)), d3.fr (f2 _ (by omega) (by omega))⟩, hS.of (fun k a b c d => Or.inl (f2 _ (by omega) (by omega))) (Or.inl (f2 _ (by omega) (by omega)))⟩, fun q hq => f2 q (by omega) (by omega)⟩
        · obtain ⟨v, a1, a2⟩ := hI; exact ⟨v, a1.fr (f2 _ (by omega) (by omega)), a2⟩
        · obtain ⟨v, a1, a2⟩ := hD; exact ⟨v, a1.fr (f2 _ (by omega) (by omega)), a2⟩
        · subst hm; exact hM1.1.fr (up_n (by omega))
        · show upN t tl m k = upN tx tl m k
          have hk' : k < tl + 1 := hk
          simp only [upN]
          by_cases z : k = tl
          · rw [if_pos z, if_pos z]
          · rw [if_neg z, if_neg z]; exact c2 k (by omega)
      · have es : sFd (nI m) tl tx = (-4, tl, tx) := by
          unfold sFd; rw [if_neg q1, if_pos q2, if_neg q3]
        rw [es]
        refine ok_t ?_ (ok_v ⟨rfl, h, Fr.rf⟩)
        rw [show tl = 100 by omega]; rfl
    · have es : sFd a tl tx = (-2, tl, tx) := by unfold sFd; rw [if_neg q1, if_neg q2]
      rw [es]
      exact ok_b (in_n (lo := 0) (hi := 127) rfl rfl (Or.inr (fa_of_nle q2))) (ok_t rfl (ok_v ⟨rfl, h, Fr.rf⟩))
theorem MJ.sign {p : Nat} (h : MJ M y pc ft w hi wi dm dd tl tx so si it) (ht : tl ≤ 100) (hp : p < tl) : x_a32 .int M (y + 5) (nI p) = some (nI (tx p)) := by
  obtain ⟨-, -, ⟨-, -, ⟨t, c1, c2⟩, -⟩, -⟩ := h
  rw [c1.rd p rfl (by omega) (by decide), c2 p hp]
theorem isDigit_y {p : Nat} (h : MJ M y (nI p) ft w hi wi dm dd tl tx so si it) (ht : tl ≤ 100) (hp : p < tl) (h1 : 48 ≤ tx p) (h2 : tx p ≤ 57) : f_X9_isDigit y M = some 1 := by
  obtain ⟨⟨cm, c⟩, -⟩ := id h
  unfold f_X9_isDigit
  refine bs (gI_of c rfl) (bs (gI_of c rfl) (cf (nI_ge hp (by omega)) (bs (gR_of c rfl) (bs (gI_of c rfl) (bs (h.sign ht hp) (bs (in_y (lo := 48) (hi := 57) rfl rfl (nI_nlt (b := 48) h1 (by omega)) (nI_nlt (a := 57) h2 (by omega))) (cf (by decide) rfl)))))))
theorem isDigit_n {p : Nat} (h : MJ M y (nI p) ft w hi wi dm dd tl tx so si it) (ht : tl ≤ 100) (hx : ∀ k, k < tl → tx k < 128) (hp : p ≤ 1000) (hn : ¬ (p < tl ∧ 48 ≤ tx p ∧ tx p ≤ 57)) : f_X9_isDigit y M = some 0 := by
  obtain ⟨⟨cm, c⟩, -⟩ := id h
  unfold f_X9_isDigit
  refine bs (gI_of c rfl) (bs (gI_of c rfl) ?_)
  by_cases q : p < tl
  · have hb := hx p q
    refine cf (nI_ge q (by omega)) (bs (gR_of c rfl) (bs (gI_of c rfl) (bs (h.sign ht q) (bs (in_n (lo := 48) (hi := 57) rfl rfl ?_) (ct rfl rfl)))))
    by_cases z : tx p < 48
    · exact Or.inl (nI_lt (b := 48) z (by omega))
    · exact Or.inr (nI_lt (a := 57) (by omega) (by omega))
  · exact ct (nI_le (by omega) (by omega)) rfl
theorem digits_ok {p mx : Nat} (h : MJ M y (nI p) (-1) w hi wi dm dd tl tx so si it) (ht : tl ≤ 100) (hx : ∀ k, k < tl → tx k < 128) (hp : p ≤ 100) (hm : mx ≤ 5) (h0 : 0 < mx) (hF : 1000 ≤ F) : Ok (f_X9_digitsTold F y (nI mx) M) (fun r => r.1 = nI (dgV tx p (dgC tl tx p mx)) ∧ MJ r.2 y (nI (p + dgC tl tx p mx)) (if dgC tl tx p mx = 0 then nI p else -1) w hi wi dm dd tl tx so si it ∧ ∀ q, q ≠ y → r.2 q = M q) := by
  have hle := dgC_le (tl := tl) (tx := tx) p mx
  obtain ⟨⟨cm, c⟩, -⟩ := id h
  unfold f_X9_digitsTold
  refine ok_b (gI_of c rfl) ?_
  refine ok_loop (I := fun i q => q.1 = nI (dgV tx p i) ∧ MJ q.2 y (nI (p + i)) (-1) w hi wi dm dd tl tx so si it ∧ ∀ z, z ≠ y → q.2 z = M z) (dgC tl tx p mx) ?_ ?_ (dgC tl tx p mx) 0 F _ (by omega) (by omega) ⟨rfl, h, fun _ _ => rfl⟩
  · rintro k i ⟨q1, q2⟩ hi ⟨g1, g2, g3⟩ hk
    dsimp only at g1 g2 g3
    subst g1
    have hin := dgC_in p mx hi
    obtain ⟨⟨cm2, c2⟩, -⟩ := id g2
    unfold b_X9_digitsTold_7
    dsimp only
    refine ok_b (ob_of c2) (ok_b (isDigit_y g2 ht hin.1 hin.2.1 hin.2.2) (ok_f (by decide) ?_))
    refine ok_b (gI_of c2 rfl) (ok_f (by rw [nI_add]; exact nI_ge (by omega) (by omega)) ?_)
    refine ok_b (gR_of c2 rfl) (ok_b (gI_of c2 rfl) (ok_b (g2.sign ht hin.1) (ok_b (gI_of c2 rfl) ?_)))
    refine ok_m (mput8 g2 _) (fun M1 hM1 => ?_)
    rw [e1] at hM1
    refine hk _ ⟨?_, hM1.1, fun z hz => (hM1.2 z hz).trans (g3 z hz)⟩
    show nI 10 * nI (dgV tx p i) + nI (tx (p + i)) - nI 48 = _
    rw [pk_mul, nI_add, pk_sub (by omega)]
    congr 1
    simp only [dgV]
    omega
  · rintro k ⟨q1, q2⟩ ⟨g1, g2, g3⟩
    dsimp only at g1 g2 g3
    subst g1
    obtain ⟨⟨cm2, c2⟩, -⟩ := id g2
    have fin : Ok (j_X9_digitsTold_55 F y (nI p) (nI (dgV tx p (dgC tl tx p mx))) q2) (fun r => r.1 = nI (dgV tx p (dgC tl tx p mx)) ∧ MJ r.2 y (nI (p + dgC tl tx p mx)) (if dgC tl tx p mx = 0 then nI p else -1) w hi wi dm dd tl tx so si it ∧ ∀ q, q ≠ y → r.2 q = M q) := by
      unfold j_X9_digitsTold_55
      refine ok_b (gI_of c2 rfl) ?_
      by_cases z : dgC tl tx p mx = 0
      · rw [if_pos z]
        rw [z] at g2 c2 ⊢
        refine ok_t rfl (ok_b (gI_of c2 rfl) (ok_f (by decide) (ok_b (gI_of c2 rfl) ?_)))
        refine ok_m (mput9 g2 _) (fun M1 hM1 => ?_)
        exact ok_v ⟨rfl, hM1.1, fun q hq => (hM1.2 q hq).trans (g3 q hq)⟩
      · rw [if_neg z]
        exact ok_f (fun e => by have := nI_inj (by omega) (by omega) e; omega) (ok_v ⟨rfl, g2, g3⟩)
    unfold b_X9_digitsTold_7
    dsimp only
    refine ok_b (ob_of c2) ?_
    by_cases z : dgC tl tx p mx < mx
    · exact ok_b (isDigit_n g2 ht hx (by omega) (dgC_out p mx z)) (ok_t rfl fin)
    · by_cases z2 : p + dgC tl tx p mx < tl ∧ 48 ≤ tx (p + dgC tl tx p mx) ∧ tx (p + dgC tl tx p mx) ≤ 57
      · refine ok_b (isDigit_y g2 ht z2.1 z2.2.1 z2.2.2) (ok_f (by decide) (ok_b (gI_of c2 rfl) (ok_t (by rw [nI_add]; exact nI_le (by omega) (by omega)) fin)))
      · exact ok_b (isDigit_n g2 ht hx (by omega) z2) (ok_t rfl fin)
end MTEXT
