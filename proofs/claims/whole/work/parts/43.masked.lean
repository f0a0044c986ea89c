-- THE REFERENCE: EVENTS, FITS, ODDS, WHAT IS TOLD
theorem kf_cg {u u' l l' : Nat → Nat} {p : Nat} : ∀ {n : Nat}, (∀ k, k < n → l (u k) = l' (u' k)) → kf u l p n = kf u' l' p n
  | 0, _ => rfl
  | n + 1, h => by
    have e : ps u l n = ps u' l' n := fb_sm_cong (fun k hk => h k (by omega))
    simp only [kf]
    rw [e, kf_cg (fun k hk => h k (by omega))]
theorem gt_cg {n : Nat} {t t' b b' l l' : Nat → Nat} (ho : OR n t b l) (h1 : ∀ k, k < n → t k = t' k) (h2 : ∀ k, k < n → b k = b' k) (h3 : ∀ k, k < n → l k = l' k) {p : Nat} (hp : p < fb_sm l n) : gt n t b l p = gt n t' b' l' p := by
  obtain ⟨-, -, ht, hb, -⟩ := ho
  have e1 : ∀ k, k < n → l (t k) = l' (t' k) := fun k hk => by rw [← h1 k hk]; exact h3 _ (ht.1 k hk)
  have e2 : ∀ k, k < n → l (b k) = l' (b' k) := fun k hk => by rw [← h2 k hk]; exact h3 _ (hb.1 k hk)
  have hkf : kf t l p n < n := (kf_sp (by rw [ht.sum l]; exact hp)).1
  unfold gt
  rw [← kf_cg e1, ← h1 _ hkf, ← pl_cg h2]
  have hpl := (hb.pls (ht.1 _ hkf)).1
  have a1 : ps b l (pl b (t (kf t l p n)) n) = ps b' l' (pl b (t (kf t l p n)) n) := fb_sm_cong (fun k hk => e2 k (by omega))
  have a2 : ps t l (kf t l p n) = ps t' l' (kf t l p n) := fb_sm_cong (fun k hk => e1 k (by omega))
  rw [a1, a2]
theorem ltI_0 {w : Nat → Nat} {a : Nat} : ∀ {i : Nat}, i ≤ 40 → (ltI w a i = -5 ↔ fb_ct (snB w a) i = 0)
  | 0, _ => by simp [ltI, fb_ct]
  | i + 1, hi => by
    have ih := ltI_0 (w := w) (a := a) (i := i) (by omega)
    have hn : nI (i + 1) ≠ -5 := fun e => by
      have e2 := congrArg Int32.toInt e
      rw [nI_toInt (by omega), show ((-5 : Int32).toInt) = -5 from rfl] at e2
      omega
    simp only [ltI, fb_ct_succ]
    cases hs : snB w a i with
    | true =>
      simp only [if_true, true_and]
      by_cases q : ltI w a i = -5
      · rw [if_pos q]
        exact ⟨fun e => absurd e hn, fun e => by omega⟩
      · rw [if_neg q]
        exact ⟨fun e => absurd e q, fun e => by omega⟩
    | false =>
      simp only [Bool.false_eq_true, false_and, if_false, Nat.add_zero]
      exact ih
theorem aFr_told {F x m : Nat} {M : XM} (hx : x < 2147483648) (h0 : 0 < m) (hm : m < 1024) {k : Nat} (hk : k < 2) (hF : 1000 ≤ F) : f_X9_told_ F (nI x).toInt64 (nI m).toInt64 (nI k) M = some (aFr (nI k) x m) := by
  have hg := Nat.gcd_pos_of_pos_right x h0
  have hgm : Nat.gcd x m ≤ m := Nat.gcd_le_right x h0
  rw [nI_l (by omega), nI_l (by omega)]
  obtain ⟨j, hj, hP⟩ := gcd_steps 10 x m (by omega)
  unfold f_X9_told_
  have h := hP (fun i u v => i ≤ j → u < 2147483648 ∧ v < 2147483648 ∧ ∀ r, (∀ G, j - i < G → x_it (b_X9_told__6 F (lN x) (lN m) (nI k) M) G (lN u, lN v) = some r) → ∀ G, j < G → x_it (b_X9_told__6 F (lN x) (lN m) (nI k) M) G (lN x, lN m) = some r) ?_ (fun _ => ⟨hx, by omega, fun r hr G hG => hr G (by omega)⟩)
  · obtain ⟨-, -, h3⟩ := h (Nat.le_refl j)
    refine h3 _ (fun G hG => ?_) F (by omega)
    obtain ⟨G', rfl⟩ : ∃ G', G = G' + 1 := ⟨G - 1, by omega⟩
    show b_X9_told__6 _ _ _ _ _ _ _ = _
    unfold b_X9_told__6
    have n0 : x_n0L (lN (Nat.gcd x m)) = some () := by
      unfold x_n0L
      rw [if_neg]
      intro e
      have := (pk_lEQ (a := Nat.gcd x m) (b := 0) (by omega) (by omega)).mp e
      omega
    refine ct ((lg_cmp_eq _ _).mpr rfl) ?_
    rcases k01 hk with rfl | rfl
    · refine ct rfl (bs n0 ?_)
      show some (lN x / lN (Nat.gcd x m)) = some (lN (x / Nat.gcd x m))
      rw [pk_lDiv (by omega) hg (by omega)]
    · refine cf (by decide) (bs n0 ?_)
      show some (lN m / lN (Nat.gcd x m)) = some (lN (m / Nat.gcd x m))
      rw [pk_lDiv (by omega) hg (by omega)]
  · intro i u v hv hp hi
    obtain ⟨h1, h2, h3⟩ := hp (by omega)
    refine ⟨h2, Nat.lt_of_le_of_lt (Nat.mod_le _ _) h1, fun r hr => h3 r (fun G hG => ?_)⟩
    obtain ⟨G', rfl⟩ : ∃ G', G = G' + 1 := ⟨G - 1, by omega⟩
    show b_X9_told__6 _ _ _ _ _ _ _ = _
    unfold b_X9_told__6
    have hv0 : lN v ≠ 0 := fun e => hv ((pk_lEQ (a := v) (b := 0) (by omega) (by omega)).mp e)
    refine cf (fun e => hv0 ((lg_cmp_eq _ _).mp e)) (bs (v := ()) (by unfold x_n0L; rw [if_neg hv0]) ?_)
    dsimp only
    rw [pk_lRem (by omega) (by omega) (by omega)]
    exact hr G' (by omega)
section MASKED
variable {M : XM} {F y : Nat} {pc ft : Int32} {w wi dd tx si : Nat → Nat} {hi : Bool} {dm tl : Nat} {so : Nat → Int32} {it : Nat → Int64}
theorem m_after (h : MJ M y pc ft w hi wi dm dd tl tx so si it) (hK : KS w hi wi dm dd tl tx so si it) (a : Int32) (hF : 1000 ≤ F) : Ok (f_X9_after F y a M) (fun r => r.1 = aAft a w ∧ MJ r.2 y pc ft w hi wi dm dd tl tx so si it ∧ Fr M r.2 y (y + 17)) := by
  obtain ⟨⟨cm, c⟩, hW, hKp, hS⟩ := id h
  have k26 := hK.1.2.2.2.1
  unfold f_X9_after
  by_cases qa : isL 3 a
  · refine ok_b (in_L (n := 3) (by decide) rfl qa) (ok_f (by decide) (ok_b (gR_of c rfl) (ok_b (gR_of c rfl) ?_)))
    obtain ⟨u, hu, rfl⟩ := qa
    have es : aAft (nI u) w = (if nI u = 0 then nI (ptW (evW w (w 26))) else if nI u = 1 then nI (cdW (evW w (w 26))) else if whW (evW w (w 26)) = 0 then 0 else 1) := by
      unfold aAft; exact cf (nI_pos (by omega)) (ct (nI_le (a := u) (b := 2) (by omega) (by omega)) rfl)
    refine ok_m (mspare_in h) (fun M1 hM1 => ?_)
    have nw1 : NW M1 y w := h.nw.fr (hM1.2 _ (by omega)) (hM1.2 _ (by omega))
    have out : ∀ (v : Int32) (Q2 : XM) (u : Nat → Nat), NW Q2 y u → (∀ q, q ≠ y + 1 → Q2 q = M1 q) → Ok (j_X9_after_106 F y v Q2) (fun r => r.1 = v ∧ MJ r.2 y pc ft w hi wi dm dd tl tx so si it ∧ Fr M r.2 y (y + 17)) := by
      intro v Q2 u gN fr
      obtain ⟨⟨_, _, _, _, _, _, c2⟩, W2⟩ := id gN
      have s2 : IA Q2 (y + 11) 60 w := hM1.1.fr (fr _ (by omega))
      unfold j_X9_after_106
      refine ok_b (gR_of c2 rfl) (ok_b (gR_of c2 rfl) ?_)
      refine ok_m (mspare_out (u := w) s2 W2) (fun M3 hM3 => ?_)
      exact ok_v ⟨rfl, h.spare hM3.1 (s2.fr (hM3.2 _ (by omega))) (fun q q1 q2 => (hM3.2 q q1).trans ((fr q q1).trans (hM1.2 q q2))), fun q hq => (hM3.2 q (by omega)).trans ((fr q (by omega)).trans (hM1.2 q (by omega)))⟩
    refine ok_loop (I := fun i q => q.1 = nI i ∧ NW q.2 y (evW w i) ∧ ∀ z, z ≠ y + 1 → q.2 z = M1 z) (w 26) ?_ ?_ (w 26) 0 F _ (by omega) (by omega) ⟨rfl, nw1, fun _ _ => rfl⟩
    · rintro k i ⟨q1, q2⟩ hi2 ⟨rfl, gN, fr⟩ hk
      dsimp only at gN fr
      have hO := evW_OR hK.1 (j := i) (by omega)
      have hE := hK.1.2.2.2.2.2.2.1 i hi2
      obtain ⟨⟨_, _, _, _, _, _, c2⟩, W2⟩ := id gN
      have s2 : IA q2 (y + 11) 60 w := hM1.1.fr (fr _ (by omega))
      unfold b_X9_after_31
      refine ok_b (gR_of c2 rfl) (ok_b (s2.rd 26 rfl (by omega) (by decide)) (ok_f (nI_ge hi2 (by omega)) ?_))
      refine ok_b (gR_of c2 rfl) (ok_b (s2.rd (27 + 2 * i) (by show nI 27 + nI 2 * nI i = _; rw [pk_mul, nI_add]) (by omega) (by decide)) ?_)
      refine ok_b (gR_of c2 rfl) (ok_b (s2.rd (28 + 2 * i) (by show nI 27 + nI 2 * nI i + 1 = _; rw [pk_mul, nI_add, e1]; congr 1; omega) (by omega) (by decide)) (ok_b (ob_of c2) ?_))
      refine ok_m (mhappens_ok gN hO.1 hE (by omega)) (fun M3 hM3 => ?_)
      exact hk _ ⟨e1 i, hM3.1, fun z hz => (hM3.2 z hz).trans (fr z hz)⟩
    · rintro k ⟨q1, q2⟩ ⟨rfl, gN, fr⟩
      dsimp only at gN fr
      have hO := (evW_OR hK.1 (Nat.le_refl _)).1
      obtain ⟨⟨_, _, _, _, _, _, c2⟩, W2⟩ := id gN
      have s2 : IA q2 (y + 11) 60 w := hM1.1.fr (fr _ (by omega))
      unfold b_X9_after_31
      refine ok_b (gR_of c2 rfl) (ok_b (s2.rd 26 rfl (by omega) (by decide)) (ok_t (nI_le (Nat.le_refl _) (by omega)) ?_))
      rw [es]
      rcases (show u = 0 ∨ u = 1 ∨ u = 2 by omega) with rfl | rfl | rfl
      · exact ok_t rfl (ok_b (ob_of c2) (ok_b (mpoints_ok gN hO.2.1 (by omega)) (out _ _ _ gN fr)))
      · exact ok_f (by decide) (ok_t rfl (ok_b (ob_of c2) (ok_b (mcode_ok gN hO (by omega)) (out _ _ _ gN fr))))
      · refine ok_f (by decide) (ok_f (by decide) (ok_b (ob_of c2) (ok_b (mwhole_ok gN (by have := hO.1; omega) hO.2.1 (by omega)) ?_)))
        have eb : f_X9_bit (whW (evW w (w 26))) q2 = some (if whW (evW w (w 26)) = 0 then 0 else 1) := by
          unfold f_X9_bit
          by_cases z : whW (evW w (w 26)) = 0
          · rw [if_pos z, if_pos z]
          · rw [if_neg z, if_neg z]
        exact ok_b eb (out _ _ _ gN fr)
  · refine ok_b (in_NL (n := 3) (by decide) (by decide) rfl qa) (ok_t rfl (ok_v ⟨?_, h, Fr.rf⟩))
    unfold aAft
    by_cases q0 : a < 0
    · rw [if_pos q0]
    · rw [if_neg q0, if_neg (fun z => qa ?_)]
      obtain ⟨m, -, hm, e⟩ := rngN (a := a) 0 2 (by decide) (by decide) q0 z
      exact ⟨m, by omega, e⟩
theorem m_odds (h : MJ M y pc ft w hi wi dm dd tl tx so si it) (hK : KS w hi wi dm dd tl tx so si it) (a : Int32) (hF : 1000 ≤ F) : Ok (f_X9_odds F y a M) (fun r => r.1 = aFr a (dnW w) (ptW w) ∧ MJ r.2 y pc ft w hi wi dm dd tl tx so si it ∧ Fr M r.2 y (y + 17)) := by
  obtain ⟨⟨cm, c⟩, hW, hKp, hS⟩ := id h
  have ho := hK.1.1
  have ht : ptW w ≤ 495 ∧ 2 ≤ ptW w := tot_le ho
  unfold f_X9_odds
  by_cases qa : isL 2 a
  · refine ok_b (in_L (n := 2) (by decide) rfl qa) (ok_f (by decide) (ok_b (ob_of c) ?_))
    obtain ⟨u, hu, rfl⟩ := qa
    refine ok_m (mfinds h hK hF) (fun r hr => ?_)
    obtain ⟨v, ⟨⟨t7, a7, b7⟩, -, -⟩, J1, f1⟩ := hr
    obtain ⟨⟨cm1, c1⟩, -⟩ := id J1
    rw [v]
    refine ok_loop (I := fun i q => q = (nI (fb_ct (fun p => decide (gW w p < p)) i), nI i)) (ptW w) ?_ ?_ (ptW w) 0 F _ (by omega) (by omega) rfl
    · rintro k i q hi2 rfl hk
      have hb := gW_lt ho i hi2
      unfold b_X9_odds_24
      dsimp only
      refine ok_f (nI_ge hi2 (by omega)) (ok_b (gR_of c1 rfl) (ok_b (a7.rd i rfl (by omega) (by decide)) ?_))
      rw [b7 i hi2]
      by_cases z : i ≤ gW w i
      · refine ok_t (nI_le z (by omega)) ?_
        unfold j_X9_odds_48
        refine ok_b (v := 0) rfl (hk _ ?_)
        rw [e1, fb_ct_succ, if_neg (by simp; omega), Int32.add_zero]; rfl
      · refine ok_f (nI_ge (by omega) (by omega)) ?_
        unfold j_X9_odds_48
        refine ok_b (v := 1) rfl (hk _ ?_)
        rw [e1, e1, fb_ct_succ, if_pos (by simp; omega)]
    · rintro k q rfl
      unfold b_X9_odds_24
      dsimp only
      have hd : dnW w ≤ ptW w := fb_ct_le _ _
      refine ok_t (nI_le (Nat.le_refl _) (by omega)) (ok_b (aFr_told (x := dnW w) (by omega) (by omega) (by omega) hu hF) (ok_v ⟨rfl, J1, f1⟩))
  · refine ok_b (in_NL (n := 2) (by decide) (by decide) rfl qa) (ok_t rfl (ok_v ⟨?_, h, Fr.rf⟩))
    unfold aFr
    exact Eq.symm (cf (fun e => qa ⟨0, by decide, e⟩) (cf (fun e => qa ⟨1, by decide, e⟩) rfl))
theorem m_mean (h : MJ M y pc ft w hi wi dm dd tl tx so si it) (hK : KS w hi wi dm dd tl tx so si it) (a : Int32) (hF : 1000 ≤ F) : Ok (f_X9_mean F y a M) (fun r => r.1 = aFr a (wyW w) (ptW w) ∧ MJ r.2 y pc ft w hi wi dm dd tl tx so si it ∧ Fr M r.2 y (y + 17)) := by
  obtain ⟨⟨cm, c⟩, hW, hKp, hS⟩ := id h
  have ho := hK.1.1
  have ht : ptW w ≤ 495 ∧ 2 ≤ ptW w := tot_le ho
  unfold f_X9_mean
  by_cases qa : isL 2 a
  · refine ok_b (in_L (n := 2) (by decide) rfl qa) (ok_f (by decide) (ok_b (ob_of c) ?_))
    obtain ⟨u, hu, rfl⟩ := qa
    refine ok_m (mfinds h hK hF) (fun r hr => ?_)
    obtain ⟨v, ⟨⟨t7, a7, b7⟩, -, -⟩, J1, f1⟩ := hr
    obtain ⟨⟨cm1, c1⟩, -⟩ := id J1
    rw [v]
    refine ok_loop (I := fun i q => q = (nI (fb_sm (lss (gW w)) i), nI i)) (ptW w) ?_ ?_ (ptW w) 0 F _ (by omega) (by omega) rfl
    · rintro k i q hi2 rfl hk
      have hb := gW_lt ho i hi2
      unfold b_X9_mean_24
      dsimp only
      refine ok_f (nI_ge hi2 (by omega)) (ok_b (gR_of c1 rfl) (ok_b (a7.rd i rfl (by omega) (by decide)) ?_))
      rw [b7 i hi2]
      by_cases z : i ≤ gW w i
      · refine ok_t (nI_le z (by omega)) (ok_b (gR_of c1 rfl) (ok_b (a7.rd i rfl (by omega) (by decide)) ?_))
        rw [b7 i hi2, pk_sub z, nI_add, e1]
        refine hk _ ?_
        rw [fb_sm_succ]
        unfold lss
        rw [if_neg (by omega)]
      · refine ok_f (nI_ge (by omega) (by omega)) (ok_b (gR_of c1 rfl) (ok_b (a7.rd i rfl (by omega) (by decide)) ?_))
        rw [b7 i hi2, pk_sub (by omega), nI_add, e1]
        refine hk _ ?_
        rw [fb_sm_succ]
        congr 2
        unfold lss
        rw [if_pos (by omega)]
    · rintro k q rfl
      unfold b_X9_mean_24
      dsimp only
      have hd := wy_le ho
      refine ok_t (nI_le (Nat.le_refl _) (by omega)) (ok_b (aFr_told (x := wyW w) (by omega) (by omega) (by omega) hu hF) (ok_v ⟨rfl, J1, f1⟩))
  · refine ok_b (in_NL (n := 2) (by decide) (by decide) rfl qa) (ok_t rfl (ok_v ⟨?_, h, Fr.rf⟩))
    unfold aFr
    exact Eq.symm (cf (fun e => qa ⟨0, by decide, e⟩) (cf (fun e => qa ⟨1, by decide, e⟩) rfl))
theorem m_told (h : MJ M y pc ft w hi wi dm dd tl tx so si it) (hK : KS w hi wi dm dd tl tx so si it) (a : Int32) (hF : 20000 ≤ F) : Ok (f_X9_told F y a M) (fun r => r.1 = aTld a w ∧ MJ r.2 y pc ft w hi wi dm dd tl tx so si it ∧ Fr M r.2 y (y + 17)) := by
  obtain ⟨⟨cm, c⟩, hW, hKp, hS⟩ := id h
  have ho := hK.1.1
  unfold f_X9_told
  by_cases qa : isL 11 a
  · rw [show aTld a w = _ from if_pos qa]
    obtain ⟨j, hj, rfl⟩ := qa
    rw [nIc (by omega)]
    have hp2 : ∀ {y : Option (Int32 × XM)} {P : Int32 × XM → Prop}, Ok y P → Ok (y.bind fun p => some (p.1, p.2)) P := fun {y P} hy => ok_m hy (fun v hv => ok_v hv)
    have wb : f_X9_bit (whW w) M = some (if whW w = 0 then 0 else 1) := by
      unfold f_X9_bit
      by_cases z : whW w = 0
      · rw [if_pos z, if_pos z]
      · rw [if_neg z, if_neg z]
    have hwh := mwhole_ok (F := F) h.nw (by have := ho.1; omega) ho.2.1 (by omega)
    rcases (show j = 0 ∨ j = 1 ∨ j = 2 ∨ j = 3 ∨ j = 4 ∨ j = 5 ∨ j = 6 ∨ j = 7 ∨ j = 8 ∨ j = 9 ∨ j = 10 by omega) with rfl | rfl | rfl | rfl | rfl | rfl | rfl | rfl | rfl | rfl | rfl
    · exact ok_t rfl (ok_b (gR_of c rfl) (ok_b (hW.rd 0 rfl (by omega) (by decide)) (ok_v ⟨rfl, h, Fr.rf⟩)))
    · exact ok_f (by decide) (ok_t rfl (ok_b (ob_of c) (ok_b (mpoints_ok h.nw ho.2.1 (by omega)) (ok_v ⟨rfl, h, Fr.rf⟩))))
    · exact ok_f (by decide) (ok_f (by decide) (ok_t rfl (ok_b (ob_of c) (ok_b (mcode_ok h.nw ho (by omega)) (ok_v ⟨rfl, h, Fr.rf⟩)))))
    · exact ok_f (by decide) (ok_f (by decide) (ok_f (by decide) (ok_t rfl (ok_b (gR_of c rfl) (ok_b (hW.rd 1 rfl (by omega) (by decide)) (ok_v ⟨rfl, h, Fr.rf⟩))))))
    · exact ok_f (by decide) (ok_f (by decide) (ok_f (by decide) (ok_f (by decide) (ok_t rfl (ok_b (ob_of c) (ok_b hwh (ok_b wb (ok_v ⟨rfl, h, Fr.rf⟩))))))))
    · refine ok_f (by decide) (ok_f (by decide) (ok_f (by decide) (ok_f (by decide) (ok_f (by decide) (ok_t rfl (ok_b (ob_of c) ?_))))))
      refine ok_m (mclass_ok h hK (by omega)) (fun M1 hM1 => ?_)
      exact ok_b (gI_of hM1.1.1 rfl) (ok_v ⟨rfl, hM1.2⟩)
    · refine ok_f (by decide) (ok_f (by decide) (ok_f (by decide) (ok_f (by decide) (ok_f (by decide) (ok_f (by decide) (ok_t rfl (ok_b (ob_of c) ?_)))))))
      refine ok_m (mclass_ok h hK (by omega)) (fun M1 hM1 => ?_)
      obtain ⟨hC, J1, f1⟩ := hM1
      obtain ⟨hB, hc⟩ := bfW_ok ho
      refine ok_b (gR_of hC.1 rfl) (ok_b (hC.2.1.rd 1 rfl (by omega) (by decide)) (ok_b (ob_of hC.1) ?_))
      refine ok_b (number_ok hC hc (fun i hi => vC_lt ho.2.1 (hB.2.1 i hi)) hK.1.2.1 (by omega)) ?_
      show Ok _ (fun (r : Int32 × XM) => r.1 = aStp w ∧ MJ r.2 y pc ft w hi wi dm dd tl tx so si it ∧ Fr M r.2 y (y + 17))
      unfold aStp
      by_cases z : fx (bfW w).1 (w 1) (bfW w).2.2 < (bfW w).2.2
      · rw [if_pos z, if_pos z]
        obtain ⟨t, ht, htk⟩ := hC.2.2.2.2
        refine ok_f (nI_m1 (by omega)) (ok_b (gR_of hC.1 rfl) (ok_b (ht.rd _ rfl (show fx (bfW w).1 (w 1) (bfW w).2.2 < 120 by omega) (by decide)) ?_))
        rw [htk _ z]
        exact ok_v ⟨rfl, J1, f1⟩
      · rw [if_neg z, if_neg z]
        exact ok_t rfl (ok_v ⟨rfl, J1, f1⟩)
    · exact ok_f (by decide) (ok_f (by decide) (ok_f (by decide) (ok_f (by decide) (ok_f (by decide) (ok_f (by decide) (ok_f (by decide) (ok_t rfl (ok_b (ob_of c) (ok_b (m_corners h.nw ho (by omega)) (ok_v ⟨rfl, h, Fr.rf⟩))))))))))
    · refine ok_f (by decide) (ok_f (by decide) (ok_f (by decide) (ok_f (by decide) (ok_f (by decide) (ok_f (by decide) (ok_f (by decide) (ok_f (by decide) (ok_t rfl (ok_b (ob_of c) (ok_b hwh ?_))))))))))
      show Ok _ (fun (r : Int32 × XM) => r.1 = (if whW w = 0 then -5 else (nI (w 0) + 1 - nI (crW w)) / 2) ∧ MJ r.2 y pc ft w hi wi dm dd tl tx so si it ∧ Fr M r.2 y (y + 17))
      by_cases z : whW w = 0
      · refine ok_t z (ok_v ⟨(if_pos z).symm, h, Fr.rf⟩)
      · exact ok_f z (ok_b (gR_of c rfl) (ok_b (hW.rd 0 rfl (by omega) (by decide)) (ok_b (ob_of c) (ok_b (m_corners h.nw ho (by omega)) (ok_v ⟨(if_neg z).symm, h, Fr.rf⟩)))))
    · exact ok_f (by decide) (ok_f (by decide) (ok_f (by decide) (ok_f (by decide) (ok_f (by decide) (ok_f (by decide) (ok_f (by decide) (ok_f (by decide) (ok_f (by decide) (ok_t rfl (ok_b (ob_of c) (hp2 (m_rounds h hK (by omega)))))))))))))
    · exact ok_f (by decide) (ok_f (by decide) (ok_f (by decide) (ok_f (by decide) (ok_f (by decide) (ok_f (by decide) (ok_f (by decide) (ok_f (by decide) (ok_f (by decide) (ok_f (by decide) (ok_t rfl (ok_b (ob_of c) (hp2 (m_ends h hK hF)))))))))))))
  · rw [show aTld a w = _ from if_neg qa]
    have hn : ∀ k, k < 11 → a ≠ nI k := fun k hk e => qa ⟨k, hk, e⟩
    exact ok_f (hn 0 (by omega)) (ok_f (hn 1 (by omega)) (ok_f (hn 2 (by omega)) (ok_f (hn 3 (by omega)) (ok_f (hn 4 (by omega)) (ok_f (hn 5 (by omega)) (ok_f (hn 6 (by omega)) (ok_f (hn 7 (by omega)) (ok_f (hn 8 (by omega)) (ok_f (hn 9 (by omega)) (ok_f (hn 10 (by omega)) (ok_v ⟨rfl, h, Fr.rf⟩)))))))))))
end MASKED
