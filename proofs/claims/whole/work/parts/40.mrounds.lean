-- THE REFERENCE: ROUNDS, MEETINGS
theorem ch_on {g : Nat → Nat} {f : Nat} {s : Nat → Bool} {q : Nat} (h : s q = true) : ch g f s q = s := by
  cases f with
  | zero => rfl
  | succ f => simp only [ch, h, if_true]
theorem ch_st {g : Nat → Nat} {f : Nat} {s : Nat → Bool} {q : Nat} (h : s q = false) : ch g (f + 1) s q = ch g f (fun x => if x = q then true else s x) (g q) := by
  simp only [ch, h, Bool.false_eq_true, if_false]
section MROUNDS
variable {M : XM} {F y : Nat} {pc ft : Int32} {w wi dd tx si : Nat → Nat} {hi : Bool} {dm tl : Nat} {so : Nat → Int32} {it : Nat → Int64}
/-- the chase of one round -/
theorem mchase {m : Nat} {g : Nat → Nat} (hm : m ≤ 495) (hg : ∀ p, p < m → g p < m) {t7 : Nat → Int32} {hi' dm' tl' pc' ft' cm' : Int32} {M0 : XM} (c : M0 y = some (.inr (9, MOb y hi' dm' tl' pc' ft' cm'))) (a7 : JA M0 (y + 7) 500 t7) (b7 : ∀ p, p < m → t7 p = nI (g p)) {s : Nat → Bool} {z : Nat → Int32} {M1 : XM} (hz : ZA M1 (y + 10) 500 z) (hmk : MK z m s) (fr : ∀ q, q ≠ y + 10 → M1 q = M0 q) {p : Nat} (hp : p < m) {a1 cnt : Int32} {i : Int32} {k29 : (Int32 × Int32 × XM) → Option (Int32 × XM)} {Q : Int32 × XM → Prop} (hF : 1000 ≤ F)
    (hk : ∀ M2 z', ZA M2 (y + 10) 500 z' → MK z' m (ch g m s p) → (∀ q, q ≠ y + 10 → M2 q = M0 q) → Ok (k29 (cnt, i + 1, M2)) Q) : Ok (x_it (b_X9_rounds_57 F y a1 cnt i k29) F (nI p, M1)) Q := by
  refine ok_loop (I := fun d q => ∃ (p' : Nat) (s' : Nat → Bool) (z' : Nat → Int32), p' < m ∧ q.1 = nI p' ∧ ZA q.2 (y + 10) 500 z' ∧ MK z' m s' ∧ ch g (m - d) s' p' = ch g m s p ∧ fb_ct (fun x => !s' x) m + d ≤ m ∧ ∀ x, x ≠ y + 10 → q.2 x = M0 x) m ?_ ?_ m 0 F _ (by omega) (by omega) ⟨p, s, z, hp, rfl, hz, hmk, rfl, fb_ct_le _ _, fr⟩
  · rintro k d ⟨q1, q2⟩ hd ⟨p', s', z', hp', rfl, gz, gk, ge, gc, gf⟩ hk2
    dsimp only at gz gf
    have o : q2 y = _ := (gf y (by omega)).trans c
    unfold b_X9_rounds_57
    dsimp only
    refine ok_b (gR_of o rfl) (ok_b (gz.rd p' rfl (by omega) (by decide)) ?_)
    rw [gk p' hp']
    cases hs : s' p' with
    | true =>
      refine ok_f (by decide) ?_
      rw [ch_on hs] at ge
      exact hk q2 z' gz (by rw [← ge]; exact gk) gf
    | false =>
      refine ok_t (by decide) (ok_b (gR_of o rfl) ?_)
      refine ok_m (gz.wr p' (vp_nar .boolean 1) rfl (by omega) (by decide)) (fun M3 hM3 => ?_)
      have o3 : M3 y = _ := (hM3.2 y (by omega)).trans o
      have a3 : JA M3 (y + 7) 500 t7 := (a7.fr (gf _ (by omega))).fr (hM3.2 _ (by omega))
      refine ok_b (gR_of o3 rfl) (ok_b (a3.rd p' rfl (by omega) (by decide)) ?_)
      rw [b7 p' hp']
      have hct := ct_dn (s := s') hp' hs
      obtain ⟨e, he⟩ : ∃ e, m - d = e + 1 := ⟨m - d - 1, by omega⟩
      rw [he, ch_st (f := e) hs] at ge
      refine hk2 _ ⟨g p', (fun x => if x = p' then true else s' x), _, hg p' hp', rfl, hM3.1, fun x hx => ?_, by rw [← ge]; congr 1; omega, (show fb_ct (fun x => !(if x = p' then true else s' x)) m + (d + 1) ≤ m by omega), fun x hx => (hM3.2 x hx).trans (gf x hx)⟩
      simp only [upJ]
      by_cases z2 : x = p'
      · rw [if_pos z2, if_pos z2]; rfl
      · rw [if_neg z2, if_neg z2]; exact gk x hx
  · rintro k ⟨q1, q2⟩ ⟨p', s', z', hp', rfl, gz, gk, ge, gc, gf⟩
    dsimp only at gz gf
    have o : q2 y = _ := (gf y (by omega)).trans c
    unfold b_X9_rounds_57
    dsimp only
    refine ok_b (gR_of o rfl) (ok_b (gz.rd p' rfl (by omega) (by decide)) ?_)
    rw [gk p' hp']
    have hs : s' p' = true := by
      have := fb_ct_zero.mp (show fb_ct (fun x => !s' x) m = 0 by omega) p' hp'
      simpa using this
    rw [hs]
    refine ok_f (by decide) ?_
    rw [ch_on hs] at ge
    exact hk q2 z' gz (by rw [← ge]; exact gk) gf
theorem m_rounds (h : MJ M y pc ft w hi wi dm dd tl tx so si it) (hK : KS w hi wi dm dd tl tx so si it) (hF : 1000 ≤ F) : Ok (f_X9_rounds F y M) (fun r => r.1 = nI (rs (gW w) (ptW w) (ptW w)).2 ∧ MJ r.2 y pc ft w hi wi dm dd tl tx so si it ∧ Fr M r.2 y (y + 17)) := by
  obtain ⟨⟨cm, c⟩, hW, hKp, hS⟩ := id h
  have ho := hK.1.1
  have ht : ptW w ≤ 495 ∧ 2 ≤ ptW w := tot_le ho
  unfold f_X9_rounds
  refine ok_b (ob_of c) ?_
  refine ok_m (mfinds h hK hF) (fun r hr => ?_)
  obtain ⟨v, ⟨⟨t7, a7, b7⟩, -, -⟩, J1, f1⟩ := hr
  obtain ⟨⟨cm1, c1⟩, -, -, hS1⟩ := id J1
  rw [v]
  obtain ⟨z0, hz0⟩ := hS1.2
  have fin : ∀ (M2 : XM) (z' : Nat → Int32), ZA M2 (y + 10) 500 z' → (∀ q, q ≠ y + 10 → M2 q = r.2 q) → MJ M2 y pc ft w hi wi dm dd tl tx so si it ∧ Fr M M2 y (y + 17) := fun M2 z' gz gf => ⟨J1.sc (gf _ (by omega)) (gf _ (by omega)) (gf _ (by omega)) (gf _ (by omega)) (gf _ (by omega)) (gf _ (by omega)) (gf _ (by omega)) (gf _ (by omega)) (hS1.of (fun k a b c d => Or.inl (gf _ (by omega))) (Or.inr ⟨z', gz⟩)), fun q hq => (gf q (by omega)).trans (f1 q hq)⟩
  refine ok_loop (I := fun i q => q.1 = nI i ∧ (∃ z', ZA q.2 (y + 10) 500 z' ∧ ∀ k, k < i → z' k = 0) ∧ ∀ x, x ≠ y + 10 → q.2 x = r.2 x) (ptW w) ?_ ?_ (ptW w) 0 F _ (by omega) (by omega) ⟨rfl, ⟨z0, hz0, fun k hk => absurd hk (Nat.not_lt_zero k)⟩, fun _ _ => rfl⟩
  · rintro k i ⟨q1, q2⟩ hi2 ⟨rfl, ⟨z', gz, gk⟩, gf⟩ hk
    dsimp only at gz gf
    have o : q2 y = _ := (gf y (by omega)).trans c1
    unfold b_X9_rounds_7
    refine ok_f (nI_ge hi2 (by omega)) (ok_b (gR_of o rfl) ?_)
    refine ok_m (gz.wr i (vp_nar .boolean 0) rfl (by omega) (by decide)) (fun M3 hM3 => ?_)
    refine hk _ ⟨e1 i, ⟨_, hM3.1, fun k hk => ?_⟩, fun x hx => (hM3.2 x hx).trans (gf x hx)⟩
    simp only [upJ]
    by_cases z2 : k = i
    · rw [if_pos z2]; rfl
    · rw [if_neg z2]; exact gk k (by omega)
  · rintro k ⟨q1, q2⟩ ⟨rfl, ⟨z', gz, gk⟩, gf⟩
    dsimp only at gz gf
    unfold b_X9_rounds_7
    refine ok_t (nI_le (Nat.le_refl _) (by omega)) ?_
    refine ok_loop (I := fun i q => q.1 = nI (rs (gW w) (ptW w) i).2 ∧ q.2.1 = nI i ∧ (∃ z', ZA q.2.2 (y + 10) 500 z' ∧ MK z' (ptW w) (rs (gW w) (ptW w) i).1) ∧ ∀ x, x ≠ y + 10 → q.2.2 x = r.2 x) (ptW w) ?_ ?_ (ptW w) 0 F _ (by omega) (by omega) ⟨rfl, rfl, ⟨z', gz, fun k hk => gk k hk⟩, gf⟩
    · rintro k29 i ⟨u1, u2, u3⟩ hi2 ⟨g1, g2, ⟨z2, gz2, gk2⟩, gf2⟩ hk29
      dsimp only at g1 g2 gz2 gf2
      subst g1 g2
      have o : u3 y = _ := (gf2 y (by omega)).trans c1
      unfold b_X9_rounds_29
      dsimp only
      refine ok_f (nI_ge hi2 (by omega)) (ok_b (gR_of o rfl) (ok_b (gz2.rd i rfl (by omega) (by decide)) ?_))
      rw [gk2 i hi2]
      cases hs : (rs (gW w) (ptW w) i).1 i with
      | true =>
        refine ok_f (by decide) ?_
        unfold j_X9_rounds_49
        refine ok_b (v := 0) rfl ?_
        refine mchase ht.1 (gW_lt ho) c1 a7 b7 gz2 gk2 gf2 hi2 hF (fun M2 z3 gz3 gk3 gf3 => ?_)
        rw [ch_on hs] at gk3
        refine hk29 _ ?_
        simp only [rs, hs, if_true]
        exact ⟨Int32.add_zero _, e1 i, ⟨z3, gz3, gk3⟩, gf3⟩
      | false =>
        refine ok_t (by decide) ?_
        unfold j_X9_rounds_49
        refine ok_b (v := 1) rfl ?_
        refine mchase ht.1 (gW_lt ho) c1 a7 b7 gz2 gk2 gf2 hi2 hF (fun M2 z3 gz3 gk3 gf3 => ?_)
        refine hk29 _ ?_
        simp only [rs, hs, Bool.false_eq_true, if_false]
        exact ⟨e1 _, e1 i, ⟨z3, gz3, gk3⟩, gf3⟩
    · rintro k29 ⟨u1, u2, u3⟩ ⟨g1, g2, ⟨z2, gz2, gk2⟩, gf2⟩
      dsimp only at g1 g2 gz2 gf2
      subst g1 g2
      unfold b_X9_rounds_29
      dsimp only
      exact ok_t (nI_le (Nat.le_refl _) (by omega)) (ok_v ⟨rfl, fin _ _ gz2 gf2⟩)
theorem meetOf_ok (h : NW M y w) (ho : ORw w) {j : Nat} (hj : j < w 0 + 1) (hF : 10 ≤ F) : f_X9_meetingOf F y (nI j) M = some (nI (mtF (w 0) (rT w) (rB w) j)) := by
  have hh := h
  obtain ⟨⟨_, _, _, _, _, _, c⟩, hW⟩ := h
  obtain ⟨h2, h5, ht, hb, hl⟩ := ho
  unfold f_X9_meetingOf mtF
  by_cases q : j = 0
  · subst q
    rw [if_pos rfl]
    exact ct rfl (bs (gR_of c rfl) (bs (hW.rd 7 rfl (by omega) (by decide)) (bs (ob_of c) (bs (mplace_ok hh (b := 2) (n := w 0) (by omega) h5 ht (hb.1 0 (by omega)) hF) rfl))))
  · rw [if_neg q]
    have ht1 : rT w (j - 1) < w 0 := ht.1 (j - 1) (by omega)
    have hp := hb.pls ht1
    refine cf (nI_ne0 (by omega) (by omega)) (bs (gR_of c rfl) ?_)
    refine bs (hW.rd (2 + (j - 1)) (by show nI 2 + nI j - 1 = _; rw [nI_add, e_pred (by omega)]; congr 1; omega) (by omega) (by decide)) (bs (ob_of c) ?_)
    refine bs (mplace_ok hh (b := 7) (n := w 0) (by omega) h5 hb ht1 hF) (bs (gR_of c rfl) (bs (hW.rd 0 rfl (by omega) (by decide)) ?_))
    show (if nI (pl (rB w) (rT w (j - 1)) (w 0)) + 1 = nI (w 0) then _ else _) = _
    rw [e1]
    by_cases z : pl (rB w) (rT w (j - 1)) (w 0) + 1 < w 0
    · rw [if_pos z]
      refine cf (fun e => by have := nI_inj (by omega) (by omega) e; omega) (bs (gR_of c rfl) ?_)
      refine bs (hW.rd (7 + (pl (rB w) (rT w (j - 1)) (w 0) + 1)) (by show nI 7 + nI (pl (rB w) (rT w (j - 1)) (w 0)) + 1 = _; rw [nI_add, e1]; congr 1) (by omega) (by decide)) (bs (ob_of c) ?_)
      exact bs (mplace_ok hh (b := 2) (n := w 0) (by omega) h5 ht (hb.1 _ z) hF) rfl
    · rw [if_neg z]
      exact ct (by rw [show pl (rB w) (rT w (j - 1)) (w 0) + 1 = w 0 by omega]) (bs (gR_of c rfl) (bs (hW.rd 0 rfl (by omega) (by decide)) rfl))
theorem m_meeting (h : MJ M y pc ft w hi wi dm dd tl tx so si it) (hK : KS w hi wi dm dd tl tx so si it) (a : Int32) (hF : 1000 ≤ F) : f_X9_meeting F y a M = some (aMet a w) := by
  obtain ⟨⟨cm, c⟩, hW, hKp, hS⟩ := id h
  have ho := hK.1.1
  have h5 := ho.2.1
  unfold f_X9_meeting
  refine bs (gR_of c rfl) (bs (hW.rd 0 rfl (by omega) (by decide)) ?_)
  by_cases qa : isL (w 0 + 1) a
  · rw [show aMet a w = _ from if_pos qa]
    refine bs (in_L (n := w 0 + 1) (by omega) rfl qa) (cf (by decide) (bs (ob_of c) ?_))
    obtain ⟨j, hj, rfl⟩ := qa
    rw [nIc (by omega)]
    exact bs (meetOf_ok h.nw ho hj (by omega)) rfl
  · rw [show aMet a w = _ from if_neg qa]
    exact bs (in_NL (n := w 0 + 1) (by omega) (by omega) rfl qa) (ct rfl rfl)
theorem m_corners (h : NW M y w) (ho : ORw w) (hF : 1000 ≤ F) : f_X9_corners F y M = some (nI (crW w)) := by
  have hh := h
  obtain ⟨⟨_, _, _, _, _, _, c⟩, hW⟩ := h
  have h5 := ho.2.1
  have hg : ∀ x, x < w 0 + 1 → mtF (w 0) (rT w) (rB w) x < w 0 + 1 := fun x hx => mtF_lt ho hx
  unfold f_X9_corners crW crN
  generalize hG : mtF (w 0) (rT w) (rB w) = g at *
  have hmo : ∀ j, j < w 0 + 1 → f_X9_meetingOf F y (nI j) M = some (nI (g j)) := fun j hj => by rw [← hG]; exact meetOf_ok hh ho hj (by omega)
  -- the chase
  have chase : ∀ (m : Nat) (s : Nat → Bool) (p : Nat) (cnt i : Int32) (k6 : (Int32 × Int32 × Int32) → Option Int32) (Q : Int32 → Prop), RB m (w 0 + 1) s → p < w 0 + 1 → (∀ m', RB m' (w 0 + 1) (ch g (w 0 + 1) s p) → Ok (k6 (nI m', cnt, i + 1)) Q) → Ok (x_it (b_X9_corners_38 F y cnt i M k6) F (nI m, nI p)) Q := by
    intro m s p cnt i k6 Q hR hp hk
    refine ok_loop (I := fun d q => ∃ (m' p' : Nat) (s' : Nat → Bool), p' < w 0 + 1 ∧ q = (nI m', nI p') ∧ RB m' (w 0 + 1) s' ∧ ch g (w 0 + 1 - d) s' p' = ch g (w 0 + 1) s p ∧ fb_ct (fun x => !s' x) (w 0 + 1) + d ≤ w 0 + 1) (w 0 + 1) ?_ ?_ (w 0 + 1) 0 F _ (by omega) (by omega) ⟨m, p, s, hp, rfl, hR, rfl, fb_ct_le _ _⟩
    · rintro k38 d q hd ⟨m', p', s', hp', rfl, gR, ge, gc⟩ hk2
      unfold b_X9_corners_38
      dsimp only
      rw [shr_t gR.1 (by omega), gR.2 p' hp']
      cases hs : s' p' with
      | true =>
        refine ok_f (by decide) ?_
        rw [ch_on hs] at ge
        exact hk m' (by rw [← ge]; exact gR)
      | false =>
        refine ok_t (by decide) (ok_b (ob_of c) (ok_b (hmo p' hp') ?_))
        have hct := ct_dn (s := s') hp' hs
        obtain ⟨e, he⟩ : ∃ e, w 0 + 1 - d = e + 1 := ⟨w 0 - d, by omega⟩
        rw [he, ch_st (f := e) hs] at ge
        refine hk2 _ ⟨m' ||| 2 ^ p', g p', _, hg p' hp', by rw [shl1 (by omega), fa_or], gR.set (by omega), by rw [← ge]; congr 1; omega, (show fb_ct (fun x => !(if x = p' then true else s' x)) (w 0 + 1) + (d + 1) ≤ w 0 + 1 by omega)⟩
    · rintro k38 q ⟨m', p', s', hp', rfl, gR, ge, gc⟩
      unfold b_X9_corners_38
      dsimp only
      rw [shr_t gR.1 (by omega), gR.2 p' hp']
      have hs : s' p' = true := by
        have := fb_ct_zero.mp (show fb_ct (fun x => !s' x) (w 0 + 1) = 0 by omega) p' hp'
        simpa using this
      rw [hs]
      refine ok_f (by decide) ?_
      rw [ch_on hs] at ge
      exact hk m' (by rw [← ge]; exact gR)
  refine ok_e (ok_loop (I := fun i q => ∃ m, q = (nI m, nI (rs g (w 0 + 1) i).2, nI i) ∧ RB m (w 0 + 1) (rs g (w 0 + 1) i).1) (w 0 + 1) ?_ ?_ (w 0 + 1) 0 F _ (by omega) (by omega) ⟨0, rfl, by decide, fun k hk => by simp [rs]⟩)
  · rintro k i q hi2 ⟨m, rfl, hm⟩ hk
    unfold b_X9_corners_6
    dsimp only
    refine ok_b (gR_of c rfl) (ok_b (hW.rd 0 rfl (by omega) (by decide)) (ok_f (nI_nlt (by omega) (by omega)) ?_))
    rw [shr_t hm.1 (by omega), hm.2 i hi2]
    cases hs : (rs g (w 0 + 1) i).1 i with
    | true =>
      refine ok_f (by decide) ?_
      unfold j_X9_corners_30
      refine ok_b (v := 0) rfl ?_
      refine chase m _ i _ _ _ _ hm hi2 (fun m' hm' => ?_)
      rw [ch_on hs] at hm'
      refine hk _ ⟨m', ?_, ?_⟩
      · simp only [rs, hs, if_true]; rw [e1, Int32.add_zero]
      · simp only [rs, hs, if_true]; exact hm'
    | false =>
      refine ok_t (by decide) ?_
      unfold j_X9_corners_30
      refine ok_b (v := 1) rfl ?_
      refine chase m _ i _ _ _ _ hm hi2 (fun m' hm' => ?_)
      refine hk _ ⟨m', ?_, ?_⟩
      · simp only [rs, hs, Bool.false_eq_true, if_false]; rw [e1, e1]
      · simp only [rs, hs, Bool.false_eq_true, if_false]; exact hm'
  · rintro k q ⟨m, rfl, hm⟩
    unfold b_X9_corners_6
    dsimp only
    exact ok_b (gR_of c rfl) (ok_b (hW.rd 0 rfl (by omega) (by decide)) (ok_t (nI_lt (by omega) (by omega)) (ok_v rfl)))
end MROUNDS
