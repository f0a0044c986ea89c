-- THE REFERENCE: ITEMS, JUDGING
theorem in64_y {M : XM} {a lo hi : Int64} (h1 : lo.toInt ≤ a.toInt) (h2 : a.toInt ≤ hi.toInt) : f_X9_in a lo hi M = some 1 := by
  unfold f_X9_in
  exact cf (fun e => by have := (fa_lt64 _ _).mp ((lg_cmp_lt _ _).mp e); omega) (cf (fun e => by have := (fa_lt64 _ _).mp ((lg_cmp_gt _ _).mp e); omega) rfl)
theorem in64_n {M : XM} {a lo hi : Int64} (h : ¬ (lo.toInt ≤ a.toInt ∧ a.toInt ≤ hi.toInt)) : f_X9_in a lo hi M = some 0 := by
  unfold f_X9_in
  by_cases c : a.toInt < lo.toInt
  · exact ct ((lg_cmp_lt _ _).mpr ((fa_lt64 _ _).mpr c)) rfl
  · exact cf (fun e => c ((fa_lt64 _ _).mp ((lg_cmp_lt _ _).mp e))) (ct ((lg_cmp_gt _ _).mpr ((fa_lt64 _ _).mpr (by omega))) rfl)
theorem sz64 {s : Nat} (hs : s ≤ 60) : ((nI s).toInt64 - 1).toInt = (s : Int) - 1 := by
  have e : (nI s).toInt64.toInt = s := by rw [Int32.toInt_toInt64, nI_toInt (by omega)]
  rw [fb_subL]
  · rw [e]; rfl
  · rw [e, show ((1 : Int64).toInt) = 1 from rfl]; omega
  · rw [e, show ((1 : Int64).toInt) = 1 from rfl]; omega
theorem isL_iff {n : Nat} {a : Int32} (hn : n ≤ 60) : isL n a ↔ 0 ≤ a.toInt ∧ a.toInt < n := by
  constructor
  · rintro ⟨j, hj, rfl⟩
    rw [nI_toInt (by omega)]; omega
  · rintro ⟨h1, h2⟩
    obtain ⟨j, hj, rfl⟩ := nI_of (x := a) (fun z => by have := (fa_lt _ _).mp z; rw [show ((0 : Int32).toInt) = 0 from rfl] at this; omega)
    rw [nI_toInt (by omega)] at h2
    exact ⟨j, by omega, rfl⟩
section MTAPES
variable {M : XM} {F y : Nat} {pc ft : Int32} {w wi dd tx si : Nat → Nat} {hi : Bool} {dm tl : Nat} {so : Nat → Int32} {it : Nat → Int64}
theorem isItem_y (h : MJ M y pc ft w hi wi dm dd tl tx so si it) (hK : KS w hi wi dm dd tl tx so si it) {i : Nat} (h6 : i < 6) {L : Int64} (hs : so i ≠ -1) (hl : 0 ≤ L.toInt ∧ L.toInt < si i) : f_X9_isItem y (nI i) L M = some 1 := by
  obtain ⟨⟨cm, c⟩, hW, ⟨-, -, -, d1, d2, d3⟩, hS⟩ := id h
  have h60 := (hK.2.2.2.2 i h6).1
  unfold f_X9_isItem
  refine bs (gR_of c rfl) (bs (d1.rd i rfl h6 (by decide)) (cf hs (bs (gR_of c rfl) (bs (d2.rd i rfl h6 (by decide)) (bs (in64_y ?_ ?_) (cf (by decide) rfl))))))
  · exact hl.1
  · rw [sz64 h60]; omega
theorem isItem_m (h : MJ M y pc ft w hi wi dm dd tl tx so si it) {i : Nat} (h6 : i < 6) {L : Int64} (hs : so i = -1) : f_X9_isItem y (nI i) L M = some 0 := by
  obtain ⟨⟨cm, c⟩, hW, ⟨-, -, -, d1, d2, d3⟩, hS⟩ := id h
  unfold f_X9_isItem
  exact bs (gR_of c rfl) (bs (d1.rd i rfl h6 (by decide)) (ct hs rfl))
theorem isItem_n (h : MJ M y pc ft w hi wi dm dd tl tx so si it) (hK : KS w hi wi dm dd tl tx so si it) {i : Nat} (h6 : i < 6) {L : Int64} (hl : ¬ (0 ≤ L.toInt ∧ L.toInt < si i)) : f_X9_isItem y (nI i) L M = some 0 := by
  obtain ⟨⟨cm, c⟩, hW, ⟨-, -, -, d1, d2, d3⟩, hS⟩ := id h
  have h60 := (hK.2.2.2.2 i h6).1
  by_cases hs : so i = -1
  · exact isItem_m h h6 hs
  · unfold f_X9_isItem
    refine bs (gR_of c rfl) (bs (d1.rd i rfl h6 (by decide)) (cf hs (bs (gR_of c rfl) (bs (d2.rd i rfl h6 (by decide)) (bs (in64_n ?_) (ct rfl rfl))))))
    rw [sz64 h60, show ((0 : Int64).toInt) = 0 from rfl]; omega
theorem held_ok {s : Int32} {v : Int64} : f_X9_held s v M = some (hdV s v) := by
  unfold f_X9_held hdV
  by_cases s0 : s = 0
  · rw [if_pos s0, if_pos s0]
  · rw [if_neg s0, if_neg s0]
    by_cases s1 : s = 1
    · rw [if_pos s1, if_pos s1]
    · rw [if_neg s1, if_neg s1]
      by_cases s2 : s = 2
      · rw [if_pos s2, if_pos s2]
      · rw [if_neg s2, if_neg s2]
        by_cases s3 : s = 3
        · rw [if_pos s3, if_pos s3]
        · rw [if_neg s3, if_neg s3]
          by_cases s4 : lg_cmp v 0 = 0
          · rw [if_pos s4, if_pos s4]
          · rw [if_neg s4, if_neg s4]
theorem it_ix {i k : Nat} : (60 : Int32) * nI i + nI k = nI (60 * i + k) := by
  show nI 60 * nI i + nI k = _
  rw [pk_mul, nI_add]
theorem m_item (h : MJ M y pc ft w hi wi dm dd tl tx so si it) (hK : KS w hi wi dm dd tl tx so si it) (a b : Int32) (v : Int64) : Ok (f_X9_item y a b v M) (fun r => r.1 = (sItm a b v so si it).1 ∧ MJ r.2 y pc ft w hi wi dm dd tl tx so si (sItm a b v so si it).2 ∧ Fr M r.2 y (y + 17)) := by
  obtain ⟨⟨cm, c⟩, hW, ⟨-, -, -, d1, d2, d3⟩, hS⟩ := id h
  unfold f_X9_item
  by_cases qa : isL 6 a
  · obtain ⟨i, h6, rfl⟩ := id qa
    have h60 := (hK.2.2.2.2 i h6).1
    have es : sItm (nI i) b v so si it = (if so i = -1 then (-11, it) else @ite _ (isL (si i) b) (Classical.propDecidable _) (1, upL it (60 * i + b.toNatClampNeg) (hdV (so i) v)) (-13, it)) := by
      unfold sItm; rw [if_pos qa, nIc (by omega)]
    refine ok_b (mTape_in qa) (ok_f (by decide) (ok_b (gR_of c rfl) (ok_b (d1.rd i rfl h6 (by decide)) ?_)))
    by_cases q1 : so i = -1
    · rw [es.trans (if_pos q1)]
      exact ok_t q1 (ok_v ⟨rfl, h, Fr.rf⟩)
    · rw [if_neg q1] at es
      refine ok_f q1 (ok_b (ob_of c) ?_)
      by_cases q2 : isL (si i) b
      · rw [es.trans (if_pos q2)]
        refine ok_b (isItem_y h hK h6 q1 (by rw [Int32.toInt_toInt64]; exact (isL_iff h60).mp q2)) (ok_f (by decide) ?_)
        obtain ⟨k, hk2, rfl⟩ := q2
        rw [nIc (by omega)]
        refine ok_b (gR_of c rfl) (ok_b (gR_of c rfl) (ok_b (d1.rd i rfl h6 (by decide)) (ok_b held_ok ?_)))
        refine ok_m (d3.wr (60 * i + k) (hdV (so i) v) it_ix (by omega) (by decide)) (fun M1 hM1 => ?_)
        exact ok_v ⟨rfl, h.tape (d1.fr (hM1.2 _ (by omega))) (d2.fr (hM1.2 _ (by omega))) hM1.1 (fun q hq => hM1.2 q (by omega)), fun q hq => hM1.2 q (by omega)⟩
      · rw [es.trans (if_neg q2)]
        exact ok_b (isItem_n h hK h6 (by rw [Int32.toInt_toInt64]; exact fun z => q2 ((isL_iff h60).mpr z))) (ok_t rfl (ok_v ⟨rfl, h, Fr.rf⟩))
  · rw [show sItm a b v so si it = (-1, it) from if_neg qa]
    exact ok_b (mTape_out qa) (ok_t rfl (ok_v ⟨rfl, h, Fr.rf⟩))
theorem m_peek (h : MJ M y pc ft w hi wi dm dd tl tx so si it) (hK : KS w hi wi dm dd tl tx so si it) (a b : Int32) : f_X9_peek y a b M = some (aPek a b si it) := by
  obtain ⟨⟨cm, c⟩, hW, ⟨-, -, -, d1, d2, d3⟩, hS⟩ := id h
  unfold f_X9_peek
  by_cases qa : isL 6 a
  · obtain ⟨i, h6, rfl⟩ := id qa
    have h60 := (hK.2.2.2.2 i h6).1
    refine bs (mTape_in qa) (cf (by decide) (bs (ob_of c) ?_))
    by_cases q2 : isL (si i) b
    · have q1 : so i ≠ -1 := fun e => by
        rcases (hK.2.2.2.2 i h6).2 with ⟨-, z⟩ | ⟨k, hk, z⟩
        · obtain ⟨j, hj, -⟩ := q2; omega
        · rw [e] at z; exact nI_m1 (by omega) z.symm
      refine bs (isItem_y h hK h6 q1 (by rw [Int32.toInt_toInt64]; exact (isL_iff h60).mp q2)) (cf (by decide) ?_)
      obtain ⟨k, hk2, rfl⟩ := id q2
      have es : aPek (nI i) (nI k) si it = it (60 * i + k) := by
        unfold aPek; rw [if_pos ⟨qa, by rw [nIc (by omega)]; exact q2⟩, nIc (by omega), nIc (by omega)]
      rw [es]
      exact bs (gR_of c rfl) (bs (d3.rd (60 * i + k) it_ix (by omega) (by decide)) rfl)
    · have es : aPek (nI i) b si it = -9223372036854775808 := by
        unfold aPek; rw [if_neg (fun z => q2 (by have := z.2; rw [nIc (by omega)] at this; exact this))]
      rw [es]
      exact bs (isItem_n h hK h6 (by rw [Int32.toInt_toInt64]; exact fun z => q2 ((isL_iff h60).mpr z))) (ct rfl rfl)
  · rw [show aPek a b si it = _ from if_neg (fun z => qa z.1)]
    exact bs (mTape_out qa) (ct rfl rfl)
theorem m_shift (h : MJ M y pc ft w hi wi dm dd tl tx so si it) (hK : KS w hi wi dm dd tl tx so si it) (a b c' d n : Int32) : Ok (f_X9_shift y a b c' d n M) (fun r => r.1 = (sShf a b c' d n so si it).1 ∧ MJ r.2 y pc ft w hi wi dm dd tl tx so si (sShf a b c' d n so si it).2 ∧ Fr M r.2 y (y + 17)) := by
  obtain ⟨⟨cm, c⟩, hW, ⟨-, -, -, d1, d2, d3⟩, hS⟩ := id h
  unfold f_X9_shift
  by_cases qa : isL 6 a
  · obtain ⟨i, h6, rfl⟩ := id qa
    have h60 := (hK.2.2.2.2 i h6).1
    refine ok_b (mTape_in qa) (ok_f (by decide) ?_)
    by_cases qc : isL 6 c'
    · obtain ⟨j, hj, rfl⟩ := id qc
      have hj60 := (hK.2.2.2.2 j hj).1
      have es : sShf (nI i) b (nI j) d n so si it = (if so i = -1 ∨ so j = -1 then (-11, it) else if so i = so j then @ite _ (isRun (si i) b n ∧ isRun (si j) d n) (Classical.propDecidable _) (n, cpT it (60 * i + b.toNatClampNeg) (60 * j + d.toNatClampNeg) n.toNatClampNeg) (-13, it) else (-12, it)) := by
        unfold sShf; rw [if_pos ⟨qa, qc⟩, nIc (n := i) (by omega), nIc (n := j) (by omega)]
      refine ok_b (mTape_in qc) (ok_f (by decide) (ok_b (gR_of c rfl) (ok_b (d1.rd i rfl h6 (by decide)) ?_)))
      by_cases q1 : so i = -1
      · rw [es.trans (if_pos (Or.inl q1))]
        exact ok_t q1 (ok_v ⟨rfl, h, Fr.rf⟩)
      · refine ok_f q1 (ok_b (gR_of c rfl) (ok_b (d1.rd j rfl hj (by decide)) ?_))
        by_cases q2 : so j = -1
        · rw [es.trans (if_pos (Or.inr q2))]
          exact ok_t q2 (ok_v ⟨rfl, h, Fr.rf⟩)
        · rw [if_neg (fun z => z.elim q1 q2)] at es
          refine ok_f q2 (ok_b (gR_of c rfl) (ok_b (d1.rd i rfl h6 (by decide)) (ok_b (gR_of c rfl) (ok_b (d1.rd j rfl hj (by decide)) ?_))))
          by_cases q3 : so i = so j
          · rw [if_pos q3] at es
            refine ok_t q3 ?_
            have no : ¬ (isRun (si i) b n ∧ isRun (si j) d n) → Ok (some ((-13 : Int32), M)) (fun r => r.1 = (sShf (nI i) b (nI j) d n so si it).1 ∧ MJ r.2 y pc ft w hi wi dm dd tl tx so si (sShf (nI i) b (nI j) d n so si it).2 ∧ Fr M r.2 y (y + 17)) := by
              intro z
              rw [es.trans (if_neg z)]
              exact ok_v ⟨rfl, h, Fr.rf⟩
            by_cases z1 : n < 0
            · exact ok_t z1 (no (fun z => (run_yes h60 z.1).2.1 z1))
            · refine ok_f z1 ?_
              by_cases z2 : b < 0
              · exact ok_t z2 (no (fun z => (run_yes h60 z.1).1 z2))
              · refine ok_f z2 ?_
                by_cases z3 : d < 0
                · exact ok_t z3 (no (fun z => (run_yes hj60 z.2).1 z3))
                · refine ok_f z3 (ok_b (gR_of c rfl) (ok_b (d2.rd i rfl h6 (by decide)) ?_))
                  by_cases q4 : isRun (si i) b n
                  · refine ok_f (run_yes h60 q4).2.2 (ok_b (gR_of c rfl) (ok_b (d2.rd j rfl hj (by decide)) ?_))
                    by_cases q5 : isRun (si j) d n
                    · refine ok_t (fa_of_nlt (run_yes hj60 q5).2.2) ?_
                      rw [es.trans (if_pos ⟨q4, q5⟩)]
                      obtain ⟨s, m, rfl, rfl, hsm⟩ := q4
                      obtain ⟨u, m', rfl, em, hum⟩ := q5
                      have em' : m = m' := nI_inj (by omega) (by omega) em
                      subst em'
                      rw [nIc (n := s) (by omega), nIc (n := u) (by omega), nIc (n := m) (by omega)]
                      refine ok_b (gR_of c rfl) (ok_b (gR_of c rfl) ?_)
                      rw [it_ix, it_ix]
                      refine ok_m (cpL_ok d3 d3 (s := 60 * i + s) (d := 60 * j + u) (n := m) (by omega) (by omega) (by omega)) (fun M1 hM1 => ?_)
                      exact ok_v ⟨rfl, h.tape (d1.fr (hM1.2 _ (by omega))) (d2.fr (hM1.2 _ (by omega))) hM1.1 (fun q hq => hM1.2 q (by omega)), fun q hq => hM1.2 q (by omega)⟩
                    · exact ok_f (fun z => absurd (run_no hj60 q5 z3 z1) (Int32.not_lt.mpr z)) (no (fun z => q5 z.2))
                  · exact ok_t (run_no h60 q4 z2 z1) (no (fun z => q4 z.1))
          · rw [es.trans (if_neg q3)]
            exact ok_f q3 (ok_v ⟨rfl, h, Fr.rf⟩)
    · rw [show sShf (nI i) b c' d n so si it = (-1, it) from if_neg (fun z => qc z.2)]
      exact ok_b (mTape_out qc) (ok_t rfl (ok_v ⟨rfl, h, Fr.rf⟩))
  · rw [show sShf a b c' d n so si it = (-1, it) from if_neg (fun z => qa z.1)]
    exact ok_b (mTape_out qa) (ok_t rfl (ok_v ⟨rfl, h, Fr.rf⟩))
theorem l_add {p j : Nat} (hp : p < 2147483648) (hj : j < 100) : ((nI p).toInt64 + (nI j).toInt64).toInt = (p : Int) + j := by
  have e1 : (nI p).toInt64.toInt = p := by rw [Int32.toInt_toInt64, nI_toInt (by omega)]
  have e2 : (nI j).toInt64.toInt = j := by rw [Int32.toInt_toInt64, nI_toInt (by omega)]
  rw [fb_addL] <;> rw [e1, e2] <;> omega
theorem m_judge (h : MJ M y pc ft w hi wi dm dd tl tx so si it) (hK : KS w hi wi dm dd tl tx so si it) (a b : Int32) (hF : 1000 ≤ F) : f_X9_judge F y a b M = some (aJdg a b w so si it) := by
  obtain ⟨⟨cm, c⟩, hW, ⟨-, -, -, d1, d2, d3⟩, hS⟩ := id h
  have h2 := hK.1.1.1
  have h5 := hK.1.1.2.1
  unfold f_X9_judge
  by_cases qa : isL 6 a
  · obtain ⟨i, h6, rfl⟩ := id qa
    have h60 := (hK.2.2.2.2 i h6).1
    have es : aJdg (nI i) b w so si it = (if so i = -1 then 100 else if so i = 1 then (if 0 ≤ b then jdV w si it i b.toNatClampNeg else 100) else -12) := by
      unfold aJdg; rw [if_pos qa, nIc (n := i) (by omega)]
    refine bs (mTape_in qa) (cf (by decide) (bs (gR_of c rfl) (bs (d1.rd i rfl h6 (by decide)) ?_)))
    -- nothing at all is looked at
    have none0 : f_X9_isItem y (nI i) (b.toInt64 + (0 : Int32).toInt64) M = some 0 → x_it (b_X9_judge_34 F y (nI i) b M) F (0 : Int32) = some 100 := by
      intro hi0
      obtain ⟨G, rfl⟩ : ∃ G, F = G + 1 := ⟨F - 1, by omega⟩
      show b_X9_judge_34 _ _ _ _ _ _ _ = _
      unfold b_X9_judge_34
      exact bs (gR_of c rfl) (bs (hW.rd 0 rfl (by omega) (by decide)) (cf (nI_ge (a := 0) (by omega) (by omega)) (bs (ob_of c) (bs hi0 (ct rfl rfl)))))
    by_cases q1 : so i = -1
    · rw [es.trans (if_pos q1)]
      exact ct q1 (none0 (isItem_m h h6 q1))
    · rw [if_neg q1] at es
      refine cf q1 (bs (gR_of c rfl) (bs (d1.rd i rfl h6 (by decide)) ?_))
      by_cases q2 : so i = 1
      · rw [if_pos q2] at es
        refine ct q2 ?_
        by_cases q3 : 0 ≤ b
        · rw [es.trans (if_pos q3)]
          obtain ⟨p, hp, rfl⟩ := nI_of (x := b) (fun z => absurd z (Int32.not_lt.mpr q3))
          rw [nIc (by omega)]
          have hle : jdN w si it i p ≤ w 0 := fa_first_le _ _
          have ix : ∀ j, ((60 : Int32) * nI i + nI p + nI j) = nI (60 * i + (p + j)) := fun j => by rw [it_ix, nI_add, Nat.add_assoc]
          refine ok_e (ok_loop (I := fun k q => q = nI k) (jdN w si it i p) ?_ ?_ (jdN w si it i p) 0 F _ (by omega) (by omega) rfl)
          · rintro k j q hj rfl hk2
            have hno := fa_first_no (jdB w si it i p) (w 0) j hj
            simp only [jdB, decide_eq_false_iff_not, Classical.not_not] at hno
            unfold b_X9_judge_34
            refine ok_b (gR_of c rfl) (ok_b (hW.rd 0 rfl (by omega) (by decide)) (ok_f (nI_ge (by omega) (by omega)) (ok_b (ob_of c) ?_)))
            refine ok_b (isItem_y h hK h6 q1 (by rw [l_add (by omega) (by omega)]; omega)) (ok_f (by decide) ?_)
            refine ok_b (gR_of c rfl) (ok_b (d3.rd (60 * i + (p + j)) (ix j) (by omega) (by decide)) (ok_b (gR_of c rfl) (ok_b (hW.rd (12 + j) (nI_add 12 j) (by omega) (by decide)) ?_)))
            exact ok_t ((lg_cmp_eq _ _).mpr hno.2) (hk2 _ (e1 j))
          · rintro k q rfl
            unfold b_X9_judge_34 jdV
            refine ok_b (gR_of c rfl) (ok_b (hW.rd 0 rfl (by omega) (by decide)) ?_)
            by_cases q4 : jdN w si it i p < w 0
            · rw [if_pos q4]
              refine ok_f (nI_ge q4 (by omega)) (ok_b (ob_of c) ?_)
              have hyes := fa_first_yes (jdB w si it i p) (w 0) q4
              simp only [jdB, decide_eq_true_eq] at hyes
              by_cases q5 : p + jdN w si it i p < si i
              · rw [if_pos q5]
                refine ok_b (isItem_y h hK h6 q1 (by rw [l_add (by omega) (by omega)]; omega)) (ok_f (by decide) ?_)
                refine ok_b (gR_of c rfl) (ok_b (d3.rd (60 * i + (p + jdN w si it i p)) (ix _) (by omega) (by decide)) (ok_b (gR_of c rfl) (ok_b (hW.rd (12 + jdN w si it i p) (nI_add 12 _) (by omega) (by decide)) ?_)))
                exact ok_f (fun e => hyes ⟨q5, (lg_cmp_eq _ _).mp e⟩) (ok_v rfl)
              · rw [if_neg q5]
                exact ok_b (isItem_n h hK h6 (by rw [l_add (by omega) (by omega)]; omega)) (ok_t rfl (ok_v rfl))
            · rw [if_neg q4]
              exact ok_t (nI_le (by omega) (by omega)) (ok_v rfl)
        · rw [es.trans (if_neg q3)]
          refine none0 (isItem_n h hK h6 ?_)
          have hz : b.toInt < 0 := by
            have := (fa_lt _ _).mp (fa_of_nle q3)
            rw [show ((0 : Int32).toInt) = 0 from rfl] at this
            exact this
          have hr := fb_rng b
          rw [show (0 : Int32).toInt64 = 0 from rfl, Int64.add_zero, Int32.toInt_toInt64]
          omega
      · rw [es.trans (if_neg q2)]
        exact cf q2 rfl
  · rw [show aJdg a b w so si it = -1 from if_neg qa]
    exact bs (mTape_out qa) (ct rfl rfl)
end MTAPES
