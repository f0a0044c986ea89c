-- THE REFERENCE: CODES, THE EIGHT DEEDS
section MCODES
variable {M : XM} {F y : Nat} {w : Nat → Nat}
theorem notL_m1 {n : Nat} (hn : n < 2147483648) : ¬ isL n (-1) := by
  rintro ⟨j, hj, e⟩
  exact nI_m1 (by omega) e.symm
theorem misCode_ok (h : NW M y w) (h4 : ∃ t, JA M (y + 4) 5 t) (h2 : 2 ≤ w 0) (h5 : w 0 ≤ 5) (a : Int32) (hF : 10 ≤ F) : Ok (f_X9_isCode F y a M) (fun r => ((isC (w 0) a ∧ r.1 = 1 ∧ ∃ t, JA r.2 (y + 4) 5 t ∧ ∀ k, k < w 0 → t k = nI (dg (w 0) a.toNatClampNeg k)) ∨ (¬ isC (w 0) a ∧ r.1 = 0 ∧ ∃ t, JA r.2 (y + 4) 5 t)) ∧ ∀ q, q ≠ y + 4 → r.2 q = M q) := by
  have hh := h
  obtain ⟨⟨o1, o2, o3, o4, o5, o6, c⟩, hW⟩ := h
  unfold f_X9_isCode
  refine ok_b (gR_of c rfl) (ok_b (hW.rd 0 rfl (by omega) (by decide)) ?_)
  by_cases hc : a ≤ 0
  · have hnc := isC_neg h2 h5 hc
    obtain ⟨G, rfl⟩ : ∃ G, F = G + 1 := ⟨F - 1, by omega⟩
    show Ok (b_X9_isCode_14 _ _ _ _ _) _
    unfold b_X9_isCode_14
    dsimp only
    rw [e_pred (i := w 0) (by omega)]
    refine ok_f (nI_pos (by omega)) ?_
    refine ok_b (gR_of c rfl) ?_
    obtain ⟨t, ht⟩ := h4
    refine ok_m (ht.wr (w 0 - 1) _ rfl (by omega) (by decide)) (fun M1 hM1 => ?_)
    have c1 : M1 y = _ := (hM1.2 y (by omega)).trans c
    refine ok_b (gR_of c1 rfl) (ok_b (hM1.1.rd (w 0 - 1) rfl (by omega) (by decide)) (ok_b (ob_of c1) ?_))
    have eu : upJ t (w 0 - 1) (a - a / 10 * 10 - 1) (w 0 - 1) = a - a / 10 * 10 - 1 := if_pos rfl
    rw [eu]
    refine ok_b (isLetter_out (hh.fr (hM1.2 _ (by omega)) (hM1.2 _ (by omega))) (by omega) h5 ?_) (ok_t rfl (ok_v ⟨Or.inr ⟨hnc, rfl, _, hM1.1⟩, fun q hq => hM1.2 q hq⟩))
    rintro ⟨j, hj, e⟩
    have hr := rem10_neg hc
    have e3 : a - a / 10 * 10 = nI j + 1 := by rw [← e, Int32.sub_add_cancel]
    rw [e3, e1] at hr
    exact nI_nlt (a := j + 1) (b := 1) (by omega) (by omega) hr
  · obtain ⟨C, hC0, hC, rfl⟩ := pos_N hc
    rw [nIc (by omega)]
    generalize hn : w 0 = n at *
    refine ok_loop (I := fun d q => q.1 = nI (C / 10 ^ d) ∧ q.2.1 = nI (msk (fun j => C / 10 ^ j % 10 - 1) d) ∧ q.2.2.1 = nI (n - d) - 1 ∧ (∀ j, j < d → 1 ≤ C / 10 ^ j % 10 ∧ C / 10 ^ j % 10 ≤ n) ∧ (∃ t, JA q.2.2.2 (y + 4) 5 t ∧ ∀ j, j < d → t (n - 1 - j) = nI (C / 10 ^ j % 10 - 1)) ∧ ∀ z, z ≠ y + 4 → q.2.2.2 z = M z) n ?_ ?_ n 0 F _ (by omega) (by omega) ⟨by simp, by simp [msk]; rfl, rfl, fun j hj => absurd hj (Nat.not_lt_zero j), (by obtain ⟨t, ht⟩ := h4; exact ⟨t, ht, fun j hj => absurd hj (Nat.not_lt_zero j)⟩), fun _ _ => rfl⟩
    · rintro k d ⟨q1, q2, q3, q4⟩ hd ⟨g1, g2, g3, gd, ⟨t, ht, htk⟩, fr⟩ hk
      dsimp only at g1 g2 g3 ht fr
      subst g1 g2 g3
      have hCd : C / 10 ^ d < 2147483648 := Nat.lt_of_le_of_lt (Nat.div_le_self _ _) hC
      have cq : q4 y = _ := (fr y (by omega)).trans c
      have hnw : NW q4 y w := hh.fr (fr _ (by omega)) (fr _ (by omega))
      unfold b_X9_isCode_14
      dsimp only
      rw [e_pred (i := n - d) (by omega)]
      refine ok_f (nI_pos (by omega)) ?_
      refine ok_b (gR_of cq rfl) ?_
      rw [rem10_N hCd, div10_N hCd]
      refine ok_m (ht.wr (n - d - 1) _ rfl (by omega) (by decide)) (fun M1 hM1 => ?_)
      have c1 : M1 y = _ := (hM1.2 y (by omega)).trans cq
      have hnw1 : NW M1 y w := hnw.fr (hM1.2 _ (by omega)) (hM1.2 _ (by omega))
      have fr1 : ∀ z, z ≠ y + 4 → M1 z = M z := fun z hz => (hM1.2 z hz).trans (fr z hz)
      refine ok_b (gR_of c1 rfl) (ok_b (hM1.1.rd (n - d - 1) rfl (by omega) (by decide)) (ok_b (ob_of c1) ?_))
      have eu : upJ t (n - d - 1) (nI (C / 10 ^ d % 10) - 1) (n - d - 1) = nI (C / 10 ^ d % 10) - 1 := if_pos rfl
      rw [eu]
      have bad : ¬ isL n (nI (C / 10 ^ d % 10) - 1) → ¬ okD n C → Ok (Option.bind (f_X9_isLetter y (nI (C / 10 ^ d % 10) - 1) M1) (fun p14 => if p14 = 0 then some ((0 : Int32), M1) else (x_gR M1 y 9 5).bind fun v16 => (x_a32 .int M1 v16 (nI (n - d - 1))).bind fun v17 => k (nI (C / 10 ^ d / 10), nI (msk (fun j => C / 10 ^ j % 10 - 1) d) ||| 1 <<< (v17 &&& 31), nI (n - d - 1) + -1, M1))) (fun r => ((isC n (nI C) ∧ r.1 = 1 ∧ ∃ t, JA r.2 (y + 4) 5 t ∧ ∀ k, k < n → t k = nI (dg n C k)) ∨ (¬ isC n (nI C) ∧ r.1 = 0 ∧ ∃ t, JA r.2 (y + 4) 5 t)) ∧ ∀ q, q ≠ y + 4 → r.2 q = M q) := by
        intro hl hno
        refine ok_b (isLetter_out hnw1 (by omega) (by omega) (by rw [hn]; exact hl)) (ok_t rfl (ok_v ⟨Or.inr ⟨fun z => hno ((isC_pos h2 h5 hC).mp z), rfl, _, hM1.1⟩, fr1⟩))
      by_cases c0 : C / 10 ^ d % 10 = 0
      · refine bad ?_ (fun z => by have := z.1 d hd; omega)
        rw [c0]
        exact notL_m1 (by omega)
      · by_cases cn : C / 10 ^ d % 10 ≤ n
        · rw [e_pred (by omega)]
          refine ok_b (isLetter_in hnw1 (by omega) (by rw [hn]; exact ⟨C / 10 ^ d % 10 - 1, by omega, rfl⟩)) (ok_f (by decide) ?_)
          refine ok_b (gR_of c1 rfl) (ok_b (hM1.1.rd (n - d - 1) rfl (by omega) (by decide)) ?_)
          have eu2 : upJ t (n - d - 1) (nI (C / 10 ^ d % 10) - 1) (n - d - 1) = nI (C / 10 ^ d % 10 - 1) := by rw [eu, e_pred (by omega)]
          rw [eu2, shl1 (by omega), fa_or]
          refine hk _ ⟨?_, rfl, ?_, fun j hj => ?_, ⟨_, hM1.1, fun j hj => ?_⟩, fr1⟩
          · show nI (C / 10 ^ d / 10) = _
            rw [Nat.div_div_eq_div_mul, ← Nat.pow_succ]
          · show nI (n - d - 1) + (-1) = nI (n - (d + 1)) - 1
            rw [show n - (d + 1) = n - d - 1 by omega]
            rcases Nat.eq_zero_or_pos (n - d - 1) with q | q
            · rw [q]; decide
            · rw [e_m1 q, e_pred q]
          · rcases Nat.lt_or_ge j d with q | q
            · exact gd j q
            · rw [show j = d by omega]; omega
          · simp only [upJ]
            rcases Nat.lt_or_ge j d with q | q
            · rw [if_neg (by omega)]; exact htk j q
            · rw [if_pos (by omega), show j = d by omega, e_pred (by omega)]
        · refine bad ?_ (fun z => by have := z.1 d hd; omega)
          rw [e_pred (by omega)]
          rintro ⟨j, hj, e⟩
          have := nI_inj (by omega) (by omega) e
          omega
    · rintro k ⟨q1, q2, q3, q4⟩ ⟨g1, g2, g3, gd, ⟨t, ht, htk⟩, fr⟩
      dsimp only at g1 g2 g3 ht fr
      rw [show n - n = 0 by omega] at g3
      subst g1 g2 g3
      have hCd : C / 10 ^ n < 2147483648 := Nat.lt_of_le_of_lt (Nat.div_le_self _ _) hC
      have cq : q4 y = _ := (fr y (by omega)).trans c
      have hnw : NW q4 y w := hh.fr (fr _ (by omega)) (fr _ (by omega))
      have hg : ∀ j, j < n → C / 10 ^ j % 10 - 1 < n := fun j hj => by have := gd j hj; omega
      have hm : msk (fun j => C / 10 ^ j % 10 - 1) n < 64 := msk_lt (fun j hj => by have := gd j hj; omega)
      have hmf := msk_full0 (g := fun j => C / 10 ^ j % 10 - 1) h2 h5 hg
      unfold b_X9_isCode_14
      dsimp only
      refine ok_t (by decide) ?_
      have no : ¬ okD n C → Ok (some ((0 : Int32), q4)) (fun r => ((isC n (nI C) ∧ r.1 = 1 ∧ ∃ t, JA r.2 (y + 4) 5 t ∧ ∀ k, k < n → t k = nI (dg n C k)) ∨ (¬ isC n (nI C) ∧ r.1 = 0 ∧ ∃ t, JA r.2 (y + 4) 5 t)) ∧ ∀ q, q ≠ y + 4 → r.2 q = M q) := fun z => ok_v ⟨Or.inr ⟨fun z2 => z ((isC_pos h2 h5 hC).mp z2), rfl, t, ht⟩, fr⟩
      by_cases c0 : C / 10 ^ n = 0
      · refine ok_t (by rw [c0]; rfl) (ok_f hc ?_)
        refine ok_b (gR_of cq rfl) (ok_b (hnw.2.rd 0 rfl (by omega) (by decide)) ?_)
        have e2 : (1 : Int32) <<< (nI (w 0) &&& 31) - 1 = nI (2 ^ n - 1) := by
          rw [hn]
          rcases (show n = 2 ∨ n = 3 ∨ n = 4 ∨ n = 5 by omega) with rfl | rfl | rfl | rfl <;> decide
        rw [e2]
        have hpn : 2 ^ n - 1 < 2147483648 := by
          have : 2 ^ n ≤ 2 ^ 5 := Nat.pow_le_pow_right (by decide) h5
          omega
        by_cases cm : msk (fun j => C / 10 ^ j % 10 - 1) n = 2 ^ n - 1
        · have hok : okD n C := ⟨gd, c0, fun i j hij hj e => by
            exact hmf.mp cm i j hij hj (by rw [e])⟩
          refine ok_t (by rw [cm]) (ok_v ⟨Or.inl ⟨(isC_pos h2 h5 hC).mpr hok, rfl, t, ht, fun k hk => ?_⟩, fr⟩)
          have := htk (n - 1 - k) (by omega)
          rw [show n - 1 - (n - 1 - k) = k by omega] at this
          rw [this]; rfl
        · refine ok_f (fun e => cm (nI_inj (by omega) hpn e)) (no (fun z => cm (hmf.mpr (fun i j hij hj e => z.2.2 i j hij hj ?_))))
          have a1 := gd i (by omega); have a2 := gd j hj
          omega
      · exact ok_f (fun e => c0 (nI_inj (b := 0) hCd (by decide) e)) (no (fun z => c0 z.2.1))
end MCODES
