-- THE REFERENCE: CLASSES, ENDS
theorem cpJ_ok {M : XM} {a b n0 n1 s d n : Nat} {f g : Nat → Int32} (h1 : JA M a n0 f) (h2 : JA M b n1 g) (hs : s + n ≤ n0) (hd : d + n ≤ n1) (hn : n0 < 1000 ∧ n1 < 1000) {S D N : Int32} (eS : S = nI s) (eD : D = nI d) (eN : N = nI n) : Ok (x_cpI M a S b D N) (fun M' => JA M' b n1 (fun k => if d ≤ k ∧ k < d + n then f (s + (k - d)) else g k) ∧ ∀ q, q ≠ b → M' q = M q) := by
  subst eS eD eN
  obtain ⟨f', e1, e2⟩ := h1
  obtain ⟨g', e3, e4⟩ := h2
  refine ⟨x_up M b (.inl (.int, n1, .inl (va_cpy f' g' s d n))), ?_, ⟨_, up_s, fun k hk => ?_⟩, fun q hq => up_n hq⟩
  · simp only [x_cpI, e1, e3]
    rw [nIc (by omega), nIc (by omega), nIc (by omega), if_pos ⟨nI_pos (by omega), nI_pos (by omega), nI_pos (by omega), hs, hd⟩]
  · dsimp only
    by_cases c : d ≤ k ∧ k < d + n
    · rw [if_pos c, pk_cpy_in c.1 c.2]; exact e2 _ (by omega)
    · rw [if_neg c, pk_cpy_out (by omega)]; exact e4 k hk
section MCLASS2
variable {M : XM} {F y : Nat} {pc ft : Int32} {w wi dd tx si : Nat → Nat} {hi : Bool} {dm tl : Nat} {so : Nat → Int32} {it : Nat → Int64}
theorem mclass_ok (h : MJ M y pc ft w hi wi dm dd tl tx so si it) (hK : KS w hi wi dm dd tl tx so si it) (hF : 1000 ≤ F) : Ok (f_X9_findsClass F y M) (fun M' => CLS M' y (bz hi) (nI dm) (nI tl) pc ft w (bfW w) ∧ MJ M' y pc ft w hi wi dm dd tl tx so si it ∧ Fr M M' y (y + 17)) := by
  obtain ⟨⟨cm, c⟩, hW, hKp, hS⟩ := id h
  have ho := hK.1.1
  have h2 := ho.1
  have h5 := ho.2.1
  have hv := cdW_vC ho
  obtain ⟨t12, j12⟩ := hS.1 12 (by omega) (by omega) (by omega) (by omega)
  obtain ⟨t13, j13⟩ := hS.1 13 (by omega) (by omega) (by omega) (by omega)
  have h4 := hS.1 4 (by omega) (by omega) (by omega) (by omega)
  replace j12 : JA M (y + 12) 120 t12 := j12
  replace j13 : JA M (y + 13) 120 t13 := j13
  unfold f_X9_findsClass
  refine ok_b (gR_of c rfl) (ok_b (ob_of c) (ok_b (mcode_ok h.nw ho (by omega)) ?_))
  refine ok_m (j12.wr 0 (nI (cdW w)) rfl (by omega) (by decide)) (fun M1 hM1 => ?_)
  have c1 : M1 y = _ := (hM1.2 y (by omega)).trans c
  refine ok_b (gR_of c1 rfl) ?_
  refine ok_m (JA.wr (j13.fr (hM1.2 _ (by omega))) 0 0 rfl (by omega) (by decide)) (fun M2 hM2 => ?_)
  have c2 : M2 y = _ := (hM2.2 y (by omega)).trans c1
  refine ok_b (put_of c2 (by simp [MOb])) ?_
  generalize hm : x_up M2 y _ = M3
  have f3 : ∀ q, q ≠ y → q ≠ y + 12 → q ≠ y + 13 → M3 q = M q := fun q q1 q2 q3 => by subst hm; exact (up_n q1).trans ((hM2.2 q q3).trans (hM1.2 q q2))
  have C0 : CLS M3 y (bz hi) (nI dm) (nI tl) pc ft w (bf (w 0) (cdW w) 0) := by
    refine ⟨?_, hW.fr (f3 _ (by omega) (by omega) (by omega)), ?_, ⟨upJ t12 0 (nI (cdW w)), ?_, fun j hj => ?_⟩, ⟨upJ t13 0 0, ?_, fun j hj => ?_⟩⟩
    · subst hm; rw [up_s]; rfl
    · obtain ⟨t, z⟩ := h4; exact ⟨t, JA.fr (M' := M3) z (f3 _ (by omega) (by omega) (by omega))⟩
    · subst hm; exact (hM1.1.fr (hM2.2 _ (by omega))).fr (up_n (by omega))
    · have : j = 0 := by simp only [bf] at hj; omega
      subst this; rfl
    · subst hm; exact hM2.1.fr (up_n (by omega))
    · have : j = 0 := by simp only [bf] at hj; omega
      subst this; rfl
  have fin : ∀ M', CLS M' y (bz hi) (nI dm) (nI tl) pc ft w (bf (w 0) (cdW w) 120) → (∀ q, q ≠ y → q ≠ y + 4 → q ≠ y + 12 → q ≠ y + 13 → M' q = M q) → CLS M' y (bz hi) (nI dm) (nI tl) pc ft w (bfW w) ∧ MJ M' y pc ft w hi wi dm dd tl tx so si it ∧ Fr M M' y (y + 17) := by
    intro M' hC fr
    refine ⟨by rw [bfW_def]; exact hC, ?_, fun q hq => fr q (by omega) (by omega) (by omega) (by omega)⟩
    obtain ⟨o, W', z4, ⟨u12, z12, -⟩, ⟨u13, z13, -⟩⟩ := hC
    refine ⟨⟨_, o⟩, W', hKp.fr (fr _ (by omega) (by omega) (by omega) (by omega)) (fr _ (by omega) (by omega) (by omega) (by omega)) (fr _ (by omega) (by omega) (by omega) (by omega)) (fr _ (by omega) (by omega) (by omega) (by omega)) (fr _ (by omega) (by omega) (by omega) (by omega)) (fr _ (by omega) (by omega) (by omega) (by omega)), hS.of (fun k a b c d => ?_) (Or.inl (fr _ (by omega) (by omega) (by omega) (by omega)))⟩
    by_cases k4 : k = 4
    · subst k4; exact Or.inr z4
    · by_cases k12 : k = 12
      · subst k12; exact Or.inr ⟨u12, z12⟩
      · by_cases k13 : k = 13
        · subst k13; exact Or.inr ⟨u13, z13⟩
        · exact Or.inl (fr _ (by omega) (by omega) (by omega) (by omega))
  refine ok_loop (I := fun i q => q.1 = nI i ∧ CLS q.2 y (bz hi) (nI dm) (nI tl) pc ft w (bf (w 0) (cdW w) i) ∧ ∀ z, z ≠ y → z ≠ y + 4 → z ≠ y + 12 → z ≠ y + 13 → q.2 z = M z) 120 ?_ ?_ 120 0 F _ (by omega) (by omega) ⟨rfl, C0, fun z z1 _ z3 z4 => f3 z z1 z3 z4⟩
  · rintro k i ⟨q1, q2⟩ hi2 ⟨rfl, gC, fr⟩ hk
    dsimp only at gC fr
    obtain ⟨hB, hdep⟩ := bf_ok h2 h5 hv i (by omega)
    have hc := hB.c h2 h5
    unfold b_X9_findsClass_24
    refine ok_b (gI_of gC.1 rfl) ?_
    by_cases z : (bf (w 0) (cdW w) i).2.2 ≤ i
    · refine ok_t (nI_le z (by omega)) ?_
      have e := bf_end z (120 - i)
      rw [show i + (120 - i) = 120 by omega] at e
      exact ok_v (fin q2 (by rw [e]; exact gC) fr)
    · refine ok_f (nI_ge (by omega) (by omega)) ?_
      have hd1 := hdep i (by omega)
      obtain ⟨okC, hsame, hmono⟩ := okB.adk hB h2 h5 (x := nxN (w 0) ((bf (w 0) (cdW w) i).1 i) 0) (d := (bf (w 0) (cdW w) i).2.1 i + 1) (fun x e => vC_nx h2 h5 (hB.2.1 i (by omega)) (by omega) e) (by omega)
      have s1 := hsame i (by omega)
      obtain ⟨G, rfl⟩ : ∃ G, F = G + 3 := ⟨F - 3, by omega⟩
      show Ok (b_X9_findsClass_34 _ _ _ _ (x_it _ (G + 2)) _) _
      refine cls_step (k := 0) gC h2 h5 hB (by omega) (by omega) (by omega) hF (fun M4 hC4 f4 => ?_)
      show Ok (b_X9_findsClass_34 _ _ _ _ (x_it _ (G + 1)) _) _
      refine cls_step (k := 1) hC4 h2 h5 okC (by omega) (by rw [s1.2]; omega) (by omega) hF (fun M5 hC5 f5 => ?_)
      show Ok (b_X9_findsClass_34 _ _ _ _ (x_it _ G) _) _
      unfold b_X9_findsClass_34
      dsimp only
      refine ok_t (by decide) (hk _ ⟨e1 i, ?_, fun z z1 z2 z3 z4 => (f5 z z1 z2 z3 z4).trans ((f4 z z1 z2 z3 z4).trans (fr z z1 z2 z3 z4))⟩)
      simp only [bf]
      rw [if_pos (by omega)]
      rw [s1.1, s1.2] at hC5
      exact hC5
  · rintro k ⟨q1, q2⟩ ⟨rfl, gC, fr⟩
    dsimp only at gC fr
    have hc := (bf_ok h2 h5 hv 120 (by omega)).1.c h2 h5
    unfold b_X9_findsClass_24
    exact ok_b (gI_of gC.1 rfl) (ok_t (nI_le hc (by omega)) (ok_v (fin q2 gC fr)))
theorem m_code (h : MJ M y pc ft w hi wi dm dd tl tx so si it) (hK : KS w hi wi dm dd tl tx so si it) (a : Int32) (hF : 1000 ≤ F) : Ok (f_X9_code F y a M) (fun r => r.1 = aCod a w ∧ MJ r.2 y pc ft w hi wi dm dd tl tx so si it ∧ Fr M r.2 y (y + 17)) := by
  obtain ⟨⟨cm, c⟩, hW, hKp, hS⟩ := id h
  have ho := hK.1.1
  unfold f_X9_code
  by_cases q : 0 ≤ a
  · rw [show aCod a w = _ from if_pos q]
    refine ok_t q (ok_b (ob_of c) ?_)
    refine ok_m (mclass_ok h hK hF) (fun M1 hM1 => ?_)
    obtain ⟨hC, J1, f1⟩ := hM1
    obtain ⟨hB, hc⟩ := bfW_ok ho
    have hlt : ∀ i, i < (bfW w).2.2 → (bfW w).1 i < 100000 := fun i hi => vC_lt ho.2.1 (hB.2.1 i hi)
    obtain ⟨c1, -, -, ⟨t, ht, htk⟩, -⟩ := hC
    generalize hcs : (bfW w).1 = cs at *
    generalize hcc : (bfW w).2.2 = cc at *
    have hle : cr cs cc a ≤ cc := fa_first_le _ cc
    have rank : ∀ (k : Nat) (k12 : Int32 → Option (Int32 × XM)) (Q : Int32 × XM → Prop), k < cc → ((nI (rk cs cc (cs k)) = a → Ok (some (nI (cs k), M1)) Q) ∧ (nI (rk cs cc (cs k)) ≠ a → Ok (k12 (nI (k + 1))) Q)) → Ok (x_it (b_X9_code_25 F y a (nI k) M1 k12) F (0, 0)) Q := by
      intro k k12 Q hk hQ
      refine ok_loop (I := fun i q => q = (nI (fb_ct (fun j => decide (cs j < cs k)) i), nI i)) cc ?_ ?_ cc 0 F _ (by omega) (by omega) rfl
      · rintro k25 i q' hi2 rfl hk25
        have b1 := hlt i hi2
        have b2 := hlt k hk
        unfold b_X9_code_25
        dsimp only
        refine ok_b (gI_of c1 rfl) (ok_f (nI_ge hi2 (by omega)) (ok_b (gR_of c1 rfl) (ok_b (ht.rd i rfl (by omega) (by decide)) (ok_b (gR_of c1 rfl) (ok_b (ht.rd k rfl (by omega) (by decide)) ?_)))))
        rw [htk i hi2, htk k hk]
        by_cases e : cs k ≤ cs i
        · refine ok_t (nI_le e (by omega)) ?_
          unfold j_X9_code_56
          refine ok_b (v := 0) rfl (hk25 _ ?_)
          rw [e1, fb_ct_succ, if_neg (by simp; omega), Int32.add_zero]; rfl
        · refine ok_f (nI_ge (by omega) (by omega)) ?_
          unfold j_X9_code_56
          refine ok_b (v := 1) rfl (hk25 _ ?_)
          rw [e1, e1, fb_ct_succ, if_pos (by simp; omega)]
      · rintro k25 q' rfl
        unfold b_X9_code_25
        dsimp only
        refine ok_b (gI_of c1 rfl) (ok_t (nI_le (Nat.le_refl _) (by omega)) ?_)
        show Ok (if nI (rk cs cc (cs k)) = a then _ else _) _
        by_cases e : nI (rk cs cc (cs k)) = a
        · refine ok_t e (ok_b (gR_of c1 rfl) (ok_b (ht.rd k rfl (by omega) (by decide)) ?_))
          rw [htk k hk]
          exact hQ.1 e
        · refine ok_f e ?_
          rw [e1]
          exact hQ.2 e
    refine ok_loop (I := fun k q => q = nI k) (cr cs cc a) ?_ ?_ (cr cs cc a) 0 F _ (by omega) (by omega) rfl
    · rintro k12 k q' hk2 rfl hk12
      have hno := of_decide_eq_false (fa_first_no (fun k => decide (nI (rk cs cc (cs k)) = a)) cc k hk2)
      unfold b_X9_code_12
      refine ok_b (gI_of c1 rfl) (ok_f (nI_ge (by omega) (by omega)) ?_)
      exact rank k k12 _ (by omega) ⟨fun e => absurd e hno, fun _ => hk12 _ rfl⟩
    · rintro k12 q' rfl
      unfold b_X9_code_12 crI
      refine ok_b (gI_of c1 rfl) ?_
      by_cases e : cr cs cc a < cc
      · have hyes := of_decide_eq_true (fa_first_yes (fun k => decide (nI (rk cs cc (cs k)) = a)) cc e)
        rw [if_pos e]
        refine ok_f (nI_ge e (by omega)) ?_
        exact rank _ k12 _ e ⟨fun _ => ok_v ⟨rfl, J1, f1⟩, fun z => absurd hyes z⟩
      · rw [if_neg e]
        exact ok_t (nI_le (by omega) (by omega)) (ok_v ⟨rfl, J1, f1⟩)
  · rw [show aCod a w = _ from if_neg q]
    exact ok_f q (ok_v ⟨rfl, h, Fr.rf⟩)
theorem MJ.d4 {M' : XM} (h : MJ M y pc ft w hi wi dm dd tl tx so si it) (ht : ∃ t, JA M' (y + 4) 5 t) (fr : ∀ q, q ≠ y + 4 → M' q = M q) : MJ M' y pc ft w hi wi dm dd tl tx so si it := by
  refine h.sc (fr _ (by omega)) (fr _ (by omega)) (fr _ (by omega)) (fr _ (by omega)) (fr _ (by omega)) (fr _ (by omega)) (fr _ (by omega)) (fr _ (by omega)) (h.2.2.2.of (fun k a b c d => ?_) (Or.inl (fr _ (by omega))))
  by_cases k4 : k = 4
  · subst k4; exact Or.inr ht
  · exact Or.inl (fr _ (by omega))
theorem m_next (h : MJ M y pc ft w hi wi dm dd tl tx so si it) (hK : KS w hi wi dm dd tl tx so si it) (a b : Int32) (hF : 1000 ≤ F) : Ok (f_X9_next F y a b M) (fun r => r.1 = aNxt a b w ∧ MJ r.2 y pc ft w hi wi dm dd tl tx so si it ∧ Fr M r.2 y (y + 17)) := by
  obtain ⟨⟨cm, c⟩, hW, hKp, hS⟩ := id h
  have ho := hK.1.1
  unfold f_X9_next
  by_cases qb : isL 2 b
  · obtain ⟨k, hk, rfl⟩ := id qb
    refine ok_b (in_L (n := 2) (by decide) rfl qb) (ok_f (by decide) (ok_b (ob_of c) ?_))
    refine ok_m (misCode_ok h.nw (hS.1 4 (by omega) (by omega) (by omega) (by omega)) ho.1 ho.2.1 a (by omega)) (fun r hr => ?_)
    obtain ⟨hr1, f1⟩ := hr
    rcases hr1 with ⟨hc, v, t, ht, -⟩ | ⟨hc, v, t, ht⟩
    · have J1 := h.d4 ⟨t, ht⟩ f1
      obtain ⟨⟨cm1, c1⟩, -⟩ := id J1
      have es : aNxt a (nI k) w = oI (nxN (w 0) a.toNatClampNeg k) := by
        unfold aNxt; rw [if_pos qb, if_pos hc, nIc (n := k) (by omega)]
      rw [es]
      obtain ⟨hv, ev⟩ := isC_nI ho.2.1 hc
      refine ok_f (by rw [v]; decide) (ok_b (ob_of c1) ?_)
      have hn := mnext_ok (F := F) (k := k) J1.nw ⟨t, ht⟩ ho.1 ho.2.1 hv hk (by omega)
      rw [← ev] at hn
      refine ok_m hn (fun r2 hr2 => ?_)
      exact ok_v ⟨hr2.1, J1.d4 hr2.2.1 hr2.2.2, fun q hq => (hr2.2.2 q (by omega)).trans (f1 q (by omega))⟩
    · have es : aNxt a (nI k) w = -2 := by unfold aNxt; rw [if_pos qb, if_neg hc]
      rw [es]
      exact ok_t v (ok_v ⟨rfl, h.d4 ⟨t, ht⟩ f1, fun q hq => f1 q (by omega)⟩)
  · rw [show aNxt a b w = -1 from if_neg qb]
    exact ok_b (in_NL (n := 2) (by decide) (by decide) rfl qb) (ok_t rfl (ok_v ⟨rfl, h, Fr.rf⟩))
/-- the spare sixty hold what is so now, and now comes back from them -/
theorem MJ.spare {M' : XM} (h : MJ M y pc ft w hi wi dm dd tl tx so si it) (hW : IA M' (y + 1) 60 w) {t : Nat → Int32} (h11 : JA M' (y + 11) 60 t) (fr : ∀ q, q ≠ y + 1 → q ≠ y + 11 → M' q = M q) : MJ M' y pc ft w hi wi dm dd tl tx so si it := by
  obtain ⟨⟨cm, c⟩, -, hKp, hS⟩ := h
  refine ⟨⟨cm, (fr _ (by omega) (by omega)).trans c⟩, hW, hKp.fr (fr _ (by omega) (by omega)) (fr _ (by omega) (by omega)) (fr _ (by omega) (by omega)) (fr _ (by omega) (by omega)) (fr _ (by omega) (by omega)) (fr _ (by omega) (by omega)), hS.of (fun k a b c d => ?_) (Or.inl (fr _ (by omega) (by omega)))⟩
  by_cases k11 : k = 11
  · subst k11; exact Or.inr ⟨t, h11⟩
  · exact Or.inl (fr _ (by omega) (by omega))
theorem mspare_in (h : MJ M y pc ft w hi wi dm dd tl tx so si it) : Ok (x_cpI M (y + 1) 0 (y + 11) 0 60) (fun M' => IA M' (y + 11) 60 w ∧ ∀ q, q ≠ y + 11 → M' q = M q) := by
  obtain ⟨t, j⟩ := h.2.2.2.1 11 (by omega) (by omega) (by omega) (by omega)
  replace j : JA M (y + 11) 60 t := j
  refine ok_w (cpJ_ok h.2.1 j (s := 0) (d := 0) (n := 60) (by omega) (by omega) (by omega) rfl rfl rfl) (fun M' hM => ⟨hM.1.cg (fun k hk => ?_), hM.2⟩)
  rw [if_pos (by omega)]
  congr 2
  omega
theorem mspare_out {M1 : XM} {v u : Nat → Nat} (h1 : IA M1 (y + 11) 60 w) (h2 : IA M1 (y + 1) 60 v) : Ok (x_cpI M1 (y + 11) 0 (y + 1) 0 60) (fun M' => IA M' (y + 1) 60 w ∧ ∀ q, q ≠ y + 1 → M' q = M1 q) := by
  refine ok_w (cpI_ok h1 h2 (s := 0) (d := 0) (n := 60) (by omega) (by omega) (by omega) rfl rfl rfl) (fun M' hM => ⟨hM.1.cg (fun k hk => ?_), hM.2⟩)
  dsimp only
  rw [if_pos (by omega)]
  congr 2
  omega
theorem m_ends (h : MJ M y pc ft w hi wi dm dd tl tx so si it) (hK : KS w hi wi dm dd tl tx so si it) (hF : 20000 ≤ F) : Ok (f_X9_ends F y M) (fun r => r.1 = nI (enW w) ∧ MJ r.2 y pc ft w hi wi dm dd tl tx so si it ∧ Fr M r.2 y (y + 17)) := by
  obtain ⟨⟨cm, c⟩, hW, hKp, hS⟩ := id h
  have ho := hK.1.1
  have hle := enW_le w
  unfold f_X9_ends
  refine ok_b (gR_of c rfl) (ok_b (gR_of c rfl) ?_)
  refine ok_m (mspare_in h) (fun M1 hM1 => ?_)
  have nw1 : NW M1 y w := h.nw.fr (hM1.2 _ (by omega)) (hM1.2 _ (by omega))
  have out : ∀ (k : Nat) (Q2 : XM), NW Q2 y (ndW w k) → (∀ q, q ≠ y + 1 → Q2 q = M1 q) → Ok (j_X9_ends_46 F y (nI k) Q2) (fun r => r.1 = nI k ∧ MJ r.2 y pc ft w hi wi dm dd tl tx so si it ∧ Fr M r.2 y (y + 17)) := by
    intro k Q2 gN fr
    obtain ⟨⟨_, _, _, _, _, _, c2⟩, W2⟩ := id gN
    have s2 : IA Q2 (y + 11) 60 w := hM1.1.fr (fr _ (by omega))
    unfold j_X9_ends_46
    refine ok_b (gR_of c2 rfl) (ok_b (gR_of c2 rfl) ?_)
    refine ok_m (mspare_out (u := w) s2 W2) (fun M3 hM3 => ?_)
    refine ok_v ⟨rfl, h.spare hM3.1 (s2.fr (hM3.2 _ (by omega))) (fun q q1 q2 => (hM3.2 q q1).trans ((fr q q1).trans (hM1.2 q q2))), fun q hq => (hM3.2 q (by omega)).trans ((fr q (by omega)).trans (hM1.2 q (by omega)))⟩
  refine ok_loop (I := fun k q => q.1 = nI k ∧ NW q.2 y (ndW w k) ∧ ORw (ndW w k) ∧ ∀ z, z ≠ y + 1 → q.2 z = M1 z) (enW w) ?_ ?_ (enW w) 0 F _ (by omega) (by omega) ⟨rfl, nw1, ho, fun _ _ => rfl⟩
  · rintro k i ⟨q1, q2⟩ hi2 ⟨rfl, gN, gO, fr⟩ hk
    dsimp only at gN fr
    have hno := enW_no hi2
    obtain ⟨⟨_, _, _, _, _, _, c2⟩, W2⟩ := id gN
    unfold b_X9_ends_17
    refine ok_f (nI_ge (b := 9999) (by omega) (by omega)) (ok_b (ob_of c2) (ok_b (mkind_ok gN gO) (ok_f hno (ok_b (ob_of c2) (ok_b (mkind_ok gN gO) (ok_b (ob_of c2) ?_))))))
    rcases kd_c gO with ⟨e, -⟩ | ⟨e, hk2, hlt⟩
    · exact absurd e hno
    · rw [e]
      refine ok_m (msteps_ok gN gO hk2 hlt (by omega)) (fun M3 hM3 => ?_)
      exact hk _ ⟨e1 i, hM3.1, (stR_OR gO hno).1, fun z hz => (hM3.2 z hz).trans (fr z hz)⟩
  · rintro k ⟨q1, q2⟩ ⟨rfl, gN, gO, fr⟩
    dsimp only at gN fr
    obtain ⟨⟨_, _, _, _, _, _, c2⟩, W2⟩ := id gN
    unfold b_X9_ends_17
    by_cases z : enW w < 9999
    · exact ok_f (nI_ge (b := 9999) z (by omega)) (ok_b (ob_of c2) (ok_b (mkind_ok gN gO) (ok_t (enW_yes z) (out _ _ gN fr))))
    · exact ok_t (nI_le (a := 9999) (by omega) (by omega)) (out _ _ gN fr)
theorem mhappens_ok {v : Nat → Nat} (h : NW M y v) (ho : ORw v) {a n : Nat} (he : EV a n) (hF : 10 ≤ F) : Ok (f_X9_happens F y (nI a) (nI n) M) (fun M' => NW M' y (hpW a n v) ∧ ∀ q, q ≠ y + 1 → M' q = M q) := by
  obtain ⟨⟨o1, o2, o3, o4, o5, o6, c⟩, hW⟩ := id h
  have h2 := ho.1
  have h5 := ho.2.1
  unfold f_X9_happens hpW
  rcases he with ⟨rfl, rfl⟩ | ⟨rfl, hn⟩ | ⟨rfl, hn⟩
  · rw [if_pos rfl]
    refine ok_t rfl (ok_b (ob_of c) (ok_b (mkind_ok h ho) ?_))
    have tail : ∀ M1 : XM, j_X9_happens_20 F y (nI 0) (nI 0) M1 = some M1 := by
      intro M1
      unfold j_X9_happens_20 j_X9_happens_60
      exact cf (by decide) (cf (by decide) rfl)
    rcases kd_c ho with ⟨e, -⟩ | ⟨e, hk, hlt⟩
    · refine ok_t e ?_
      rw [if_pos e, tail]
      exact ok_v ⟨h, fun _ _ => rfl⟩
    · have hne : kdW v ≠ -1 := by rw [e]; exact nI_m1 (by omega)
      refine ok_f hne ?_
      rw [if_neg hne]
      refine (ok_b (ob_of c) (ok_b (mkind_ok h ho) (ok_b (ob_of c) ?_)))
      rw [e]
      refine ok_m (msteps_ok h ho hk hlt hF) (fun M2 hM2 => ?_)
      rw [tail]
      exact ok_v hM2
  · rw [if_neg (show ¬ (1 = 0) by decide), if_pos rfl]
    have tail : ∀ M1 : XM, j_X9_happens_60 F y (nI 1) (nI n) M1 = some M1 := by
      intro M1
      unfold j_X9_happens_60
      exact cf (by decide) rfl
    refine ok_f (by decide) ?_
    unfold j_X9_happens_20
    refine ok_t rfl (ok_b (ob_of c) ?_)
    by_cases q : n < v 0
    · rw [if_pos q]
      have hl := ho.2.2.2.2 n q
      refine ok_b (isLetter_in h h5 ⟨n, q, rfl⟩) (ok_f (by decide) (ok_b (gR_of c rfl) (ok_b (hW.rd (12 + n) (nI_add 12 n) (by omega) (by decide)) ?_)))
      by_cases q2 : 99 ≤ rL v n
      · refine ok_t (nI_le (a := 99) q2 (by show rL v n < _; omega)) ?_
        rw [tail, if_pos (by omega)]
        refine ok_v ⟨h.cg (fun k _ => ?_), fun _ _ => rfl⟩
        rw [← row12 v (by omega)]
        simp only [upN]
        by_cases z : k = 12 + n
        · rw [if_pos z, z]
          show rL v n = 99
          omega
        · rw [if_neg z]
      · refine ok_f (nI_ge (b := 99) (by show rL v n < 99; omega) (by omega)) (ok_b (gR_of c rfl) (ok_b (hW.rd (12 + n) (nI_add 12 n) (by omega) (by decide)) ?_))
        refine ok_m (h.wr (12 + n) (rL v n + 1) (nI_add 12 n) (e1 _) (by omega)) (fun M2 hM2 => ?_)
        rw [tail, if_neg (by omega)]
        exact ok_v ⟨hM2.1.cg (fun k _ => row12 v (by omega) _ k), hM2.2⟩
    · rw [if_neg q]
      refine ok_b (isLetter_out h (by omega) h5 (fun z => by obtain ⟨j, hj, e⟩ := z; have := nI_inj (by omega) (by omega) e; omega)) (ok_t rfl ?_)
      rw [tail]
      exact ok_v ⟨h, fun _ _ => rfl⟩
  · rw [if_neg (show ¬ (2 = 0) by decide), if_neg (show ¬ (2 = 1) by decide)]
    refine ok_f (by decide) ?_
    unfold j_X9_happens_20
    refine ok_f (by decide) ?_
    unfold j_X9_happens_60
    refine ok_t rfl ?_
    obtain ⟨hm, hx, hp, hpx⟩ := bk_f ho hn
    have key : ∀ b, b = (if n = 0 then 7 else 2) → Ok (j_X9_happens_90 F y (nI n) (nI (bkX n (rT v) (rB v) (v 0))) (nI b) M) (fun M' => NW M' y (if rfI n (rT v) (rB v) (rL v) (v 0) = 0 then wR v (bcT n (rT v) (rB v) (v 0)) (bcB n (rT v) (rB v) (v 0)) (bcW n v) else v) ∧ ∀ q, q ≠ y + 1 → M' q = M q) := by
      intro b hb
      have hb7 : 2 ≤ b ∧ b ≤ 7 := by rw [hb]; split <;> omega
      have er : (fun i => v (b + i)) = mF n (rT v) (rB v) := by rw [hb]; exact mrow hn
      have hpm : PM (v 0) (fun i => v (b + i)) := by rw [er]; exact hm
      have hpl := mplace_ok (F := F) h (b := b) (n := v 0) (by omega) h5 hpm hx (by omega)
      rw [er] at hpl
      unfold j_X9_happens_90
      refine ok_b (ob_of c) (ok_b hpl (ok_b (gR_of c rfl) (ok_b (hW.rd 0 rfl (by omega) (by decide)) ?_)))
      show Ok (if nI (v 0) ≤ nI (bkP n (rT v) (rB v) (v 0)) + 1 then _ else _) _
      by_cases c1 : bkP n (rT v) (rB v) (v 0) + 1 < v 0
      · rw [e1]
        refine ok_f (nI_ge c1 (by omega)) ?_
        have hy : bkY n (rT v) (rB v) (v 0) < v 0 := hm.1 _ c1
        have ey : v (b + (bkP n (rT v) (rB v) (v 0) + 1)) = bkY n (rT v) (rB v) (v 0) := congrFun er _
        have l1 := ho.2.2.2.2 _ hx
        have l2 := ho.2.2.2.2 _ hy
        refine ok_b (gR_of c rfl) (ok_b (hW.rd (12 + bkX n (rT v) (rB v) (v 0)) (nI_add 12 _) (by omega) (by decide)) (ok_b (gR_of c rfl) (ok_b (gR_of c rfl) ?_)))
        have ei : (nI b + nI (pl (mF n (rT v) (rB v)) (bkX n (rT v) (rB v) (v 0)) (v 0)) + 1 : Int32) = nI (b + (bkP n (rT v) (rB v) (v 0) + 1)) := by rw [nI_add, e1]; rfl
        refine ok_b (hW.rd _ ei (by omega) (by decide)) ?_
        rw [ey]
        refine ok_b (hW.rd (12 + bkY n (rT v) (rB v) (v 0)) (nI_add 12 _) (by omega) (by decide)) ?_
        show Ok (if (99 : Int32) < nI (rL v (bkX n (rT v) (rB v) (v 0))) + nI (rL v (bkY n (rT v) (rB v) (v 0))) then _ else _) _
        rw [nI_add]
        by_cases c2 : rL v (bkX n (rT v) (rB v) (v 0)) + rL v (bkY n (rT v) (rB v) (v 0)) ≤ 99
        · have e0 : rfI n (rT v) (rB v) (rL v) (v 0) = 0 := by unfold rfI; rw [if_pos c1, if_pos c2]
          rw [if_pos e0]
          refine ok_f (nI_nlt (a := 99) c2 (by omega)) (ok_b (ob_of c) ?_)
          refine ok_m (mstepsBack_ok h ho hn c1 (by omega)) (fun r2 hr2 => ?_)
          exact ok_v hr2
        · have e0 : rfI n (rT v) (rB v) (rL v) (v 0) ≠ 0 := by unfold rfI; rw [if_pos c1, if_neg c2]; decide
          rw [if_neg e0]
          exact ok_t (nI_lt (a := 99) (by omega) (by omega)) (ok_v ⟨h, fun _ _ => rfl⟩)
      · have e0 : rfI n (rT v) (rB v) (rL v) (v 0) ≠ 0 := by unfold rfI; rw [if_neg c1]; decide
        rw [if_neg e0]
        refine ok_t ?_ (ok_v ⟨h, fun _ _ => rfl⟩)
        rw [e1]; exact nI_le (by omega) (by omega)
    rcases k01 hn with rfl | rfl
    · refine ok_t rfl ?_
      unfold j_X9_happens_76
      refine ok_b (ob_of c) (ok_b (lastIn_ok h (b := 2) (by omega) (by omega) h5) (ok_t rfl ?_))
      exact key 7 rfl
    · refine ok_f (by decide) ?_
      unfold j_X9_happens_76
      refine ok_b (ob_of c) (ok_b (lastIn_ok h (b := 7) (by omega) (by omega) h5) (ok_f (by decide) ?_))
      exact key 2 rfl
end MCLASS2
