-- TAPES
def itS (it : Nat → Int64) (i : Nat) (t : Nat → Int64) : Nat → Int64 := fun k => if 60 * i ≤ k ∧ k < 60 * i + 60 then t (k - 60 * i) else it k
theorem itS_in {it t : Nat → Int64} {i k : Nat} (h : k < 60) : itS it i t (60 * i + k) = t k := by
  unfold itS; rw [if_pos (by omega), show 60 * i + k - 60 * i = k by omega]
theorem itS_out {it t : Nat → Int64} {i j k : Nat} (h : k < 60) (hj : j ≠ i) : itS it i t (60 * j + k) = it (60 * j + k) := by
  unfold itS; rw [if_neg (by omega)]
theorem TP.one {M M' : XM} {x : Nat} {so : Nat → Int32} {si : Nat → Nat} {it t : Nat → Int64} (h : TP M x so si it) {i n : Nat} {s : Int32} (hi : i < 6) (hc : M' (x + 99 + 2 * i) = some (.inr (6, [.int s, .int (nI n), .ref (x + 99 + 2 * i + 1)]))) (hl : LA M' (x + 99 + 2 * i + 1) 60 t) (fr : ∀ q, q ≠ x + 99 + 2 * i → q ≠ x + 99 + 2 * i + 1 → M' q = M q) : TP M' x (upJ so i s) (upN si i n) (itS it i t) := by
  refine ⟨h.1.fr (fr _ (by omega) (by omega)), fun j hj => ?_⟩
  by_cases c : j = i
  · subst c
    refine ⟨?_, hl.cg (fun k hk => (itS_in hk).symm)⟩
    rw [hc]
    simp [upJ, upN]
  · refine ⟨?_, ((h.2 j hj).2.fr (fr _ (by omega) (by omega))).cg (fun k hk => (itS_out hk c).symm)⟩
    rw [fr _ (by omega) (by omega), (h.2 j hj).1]
    simp [upJ, upN, c]
theorem TP.cg {M : XM} {x : Nat} {so so' : Nat → Int32} {si si' : Nat → Nat} {it it' : Nat → Int64} (h : TP M x so si it) (h1 : ∀ i, i < 6 → so i = so' i ∧ si i = si' i) (h2 : ∀ k, k < 360 → it k = it' k) : TP M x so' si' it' :=
  ⟨h.1, fun i hi => ⟨by rw [← (h1 i hi).1, ← (h1 i hi).2]; exact (h.2 i hi).1, (h.2 i hi).2.cg (fun k hk => h2 _ (by omega))⟩⟩
section TAPES
variable {M : XM} {F x : Nat} {so : Nat → Int32} {si : Nat → Nat} {it : Nat → Int64}
theorem fill_ok {a : Nat} {t : Nat → Int64} (h : LA M a 60 t) (hF : 1000 ≤ F) : Ok (f_J7_fill_d0a16 F a 0 M) (fun M' => LA M' a 60 (fun _ => 0) ∧ ∀ q, q ≠ a → M' q = M q) := by
  unfold f_J7_fill_d0a16
  refine ok_b (v := nI 60) (by obtain ⟨f, h1, -⟩ := h; simp only [x_len, h1, if_true]; rfl) ?_
  refine ok_loop (I := fun i q => q.1 = nI i ∧ LA q.2 a 60 (fun k => if k < i then 0 else t k) ∧ ∀ z, z ≠ a → q.2 z = M z) 60 ?_ ?_ 60 0 F _ (by omega) (by omega) ⟨rfl, h.cg (fun k hk => by simp), fun _ _ => rfl⟩
  · rintro k i ⟨q1, q2⟩ hi ⟨rfl, g, fr⟩ hk
    dsimp only at g fr
    unfold b_J7_fill_d0a16_6
    refine ok_f (nI_ge hi (by omega)) ?_
    refine ok_m (g.wr i 0 rfl hi (by decide)) (fun M1 hM1 => ?_)
    refine hk _ ⟨e1 i, hM1.1.cg (fun k hk => ?_), fun z hz => (hM1.2 z hz).trans (fr z hz)⟩
    simp only [upL]
    by_cases c : k = i
    · rw [if_pos c, if_pos (by omega)]
    · rw [if_neg c]
      by_cases c2 : k < i
      · rw [if_pos c2, if_pos (by omega)]
      · rw [if_neg c2, if_neg (by omega)]
  · rintro k ⟨q1, q2⟩ ⟨rfl, g, fr⟩
    dsimp only at g fr
    unfold b_J7_fill_d0a16_6
    refine ok_t (nI_le (Nat.le_refl _) (by omega)) (ok_v ⟨g.cg (fun k hk => ?_), fr⟩)
    rw [if_pos hk]
theorem become_ok (h : TP M x so si it) {i n : Nat} (hi : i < 6) (hn : n ≤ 60) (s : Int32) (hF : 1000 ≤ F) : Ok (f_X6_become F (x + 99 + 2 * i) s (nI n) M) (fun M' => TP M' x (upJ so i s) (upN si i n) (itS it i (fun _ => 0)) ∧ Fr M M' (x + 98) (x + 111)) := by
  obtain ⟨o, l⟩ := h.2 i hi
  unfold f_X6_become
  have e : (if (0 : Int32) < (if (60 : Int32) < nI n then (60 : Int32) else nI n) then (if (60 : Int32) < nI n then (60 : Int32) else nI n) else (0 : Int32)) = nI n := by
    have e1 : (if (60 : Int32) < nI n then (60 : Int32) else nI n) = nI n := if_neg (nI_nlt (b := n) (a := 60) hn (by omega))
    rw [e1]
    by_cases c : n = 0
    · subst c; rfl
    · exact if_pos (nI_lt (a := 0) (b := n) (by omega) (by omega))
  rw [e]
  refine ok_b (put_of o (by simp)) ?_
  refine ok_b (put_of up_s (by simp)) ?_
  generalize hm : x_up (x_up M _ _) _ _ = M2
  have f2 : ∀ q, q ≠ x + 99 + 2 * i → M2 q = M q := fun q hq => by subst hm; rw [up_n hq, up_n hq]
  have o2 : M2 (x + 99 + 2 * i) = some (.inr (6, [.int s, .int (nI n), .ref (x + 99 + 2 * i + 1)])) := by subst hm; rw [up_s]; rfl
  refine ok_b (gR_of o2 rfl) ?_
  refine ok_m (fill_ok (l.fr (f2 _ (by omega))) hF) (fun M3 hM3 => ?_)
  exact ok_v ⟨h.one hi ((hM3.2 _ (by omega)).trans o2) hM3.1 (fun q q1 q2 => (hM3.2 q q2).trans (f2 q q1)), fun q hq => (hM3.2 q (by omega)).trans (f2 q (by omega))⟩
theorem hasPlace_in (h : TP M x so si it) (hk : KT so si) {i k : Nat} (hi : i < 6) (hp : k < si i) : f_X6_hasPlace (x + 99 + 2 * i) (nI k) M = some 1 := by
  have := (hk i hi).1
  unfold f_X6_hasPlace
  exact cf (nI_pos (by omega)) (bs (gI_of (h.2 i hi).1 rfl) (cf (nI_ge hp (by omega)) rfl))
theorem hasPlace_out (h : TP M x so si it) (hk : KT so si) {i : Nat} {a : Int32} (hi : i < 6) (hp : ¬ isL (si i) a) : f_X6_hasPlace (x + 99 + 2 * i) a M = some 0 := by
  have := (hk i hi).1
  unfold f_X6_hasPlace
  by_cases c : a < 0
  · exact ct c rfl
  · exact cf c (bs (gI_of (h.2 i hi).1 rfl) (ct ((isL_no2 (by omega) hp).resolve_left c) rfl))
def hdV (s : Int32) (v : Int64) : Int64 := if s = 0 then v.toInt32.toInt8.toInt32.toInt64 else if s = 1 then v.toInt32.toInt16.toInt32.toInt64 else if s = 2 then v.toInt32.toInt64 else if s = 3 then v else if lg_cmp v 0 = 0 then 0 else 1
theorem put_ok (h : TP M x so si it) (hk : KT so si) {i k : Nat} (hi : i < 6) (hp : k < si i) (v : Int64) : Ok (f_X6_put (x + 99 + 2 * i) (nI k) v M) (fun M' => TP M' x so si (upL it (60 * i + k) (hdV (so i) v)) ∧ Fr M M' (x + 98) (x + 111)) := by
  obtain ⟨o, l⟩ := h.2 i hi
  have h60 := (hk i hi).1
  unfold f_X6_put
  refine ok_b (ob_of o) ?_
  refine ok_b (hasPlace_in h hk hi hp) (ok_f (by decide) ?_)
  refine ok_b (gI_of o rfl) ?_
  have fin : ∀ u, u = hdV (so i) v → Ok ((x_w64 M (x + 99 + 2 * i + 1) (nI k) u).bind fun m => some m) (fun M' => TP M' x so si (upL it (60 * i + k) (hdV (so i) v)) ∧ Fr M M' (x + 98) (x + 111)) := by
    intro u hu
    refine ok_m (l.wr k u rfl (by omega) (by decide)) (fun M1 hM1 => ?_)
    refine ok_v ⟨(h.one hi ((hM1.2 _ (by omega)).trans o) hM1.1 (fun q q1 q2 => hM1.2 q q2)).cg (fun j hj => ?_) (fun j hj => ?_), fun q hq => hM1.2 q (by omega)⟩
    · simp only [upJ, upN]
      by_cases c : j = i
      · rw [if_pos c, if_pos c, c]; exact ⟨rfl, rfl⟩
      · rw [if_neg c, if_neg c]; exact ⟨rfl, rfl⟩
    · unfold itS upL
      by_cases c : 60 * i ≤ j ∧ j < 60 * i + 60
      · rw [if_pos c]
        by_cases c2 : j = 60 * i + k
        · rw [if_pos c2, if_pos (by omega), hu]
        · rw [if_neg c2, if_neg (by omega)]
          show it (60 * i + (j - 60 * i)) = it j
          rw [show 60 * i + (j - 60 * i) = j by omega]
      · rw [if_neg c, if_neg (by omega)]
  by_cases s0 : so i = 0
  · exact ok_t s0 (ok_b (gR_of o rfl) (fin _ (by unfold hdV; rw [if_pos s0])))
  · refine ok_f s0 ?_
    by_cases s1 : so i = 1
    · exact ok_t s1 (ok_b (gR_of o rfl) (fin _ (by unfold hdV; rw [if_neg s0, if_pos s1])))
    · refine ok_f s1 ?_
      by_cases s2 : so i = 2
      · exact ok_t s2 (ok_b (gR_of o rfl) (fin _ (by unfold hdV; rw [if_neg s0, if_neg s1, if_pos s2])))
      · refine ok_f s2 ?_
        by_cases s3 : so i = 3
        · exact ok_t s3 (ok_b (gR_of o rfl) (fin _ (by unfold hdV; rw [if_neg s0, if_neg s1, if_neg s2, if_pos s3])))
        · refine ok_f s3 (ok_b (gR_of o rfl) ?_)
          by_cases s4 : lg_cmp v 0 = 0
          · exact ok_t s4 (fin _ (by unfold hdV; rw [if_neg s0, if_neg s1, if_neg s2, if_neg s3, if_pos s4]))
          · exact ok_f s4 (fin _ (by unfold hdV; rw [if_neg s0, if_neg s1, if_neg s2, if_neg s3, if_neg s4]))
theorem isTape_in {i : Nat} (h : i < 6) : f_X8_isTape (nI i) M = some 1 := cf (nI_pos (by omega)) (cf (nI_ge (b := 6) h (by omega)) rfl)
theorem isTape_out {a : Int32} (h : ¬ isL 6 a) : f_X8_isTape a M = some 0 := by
  unfold f_X8_isTape
  by_cases c : a < 0
  · exact ct c rfl
  · exact cf c (ct ((isL_no2 (n := 6) (by decide) h).resolve_left c) rfl)
def isRun (n : Nat) (a b : Int32) : Prop := ∃ s m, a = nI s ∧ b = nI m ∧ s + m ≤ n
theorem hasRun_in (h : TP M x so si it) (hk : KT so si) {i s m : Nat} (hi : i < 6) (hp : s + m ≤ si i) : f_X6_hasRun (x + 99 + 2 * i) (nI s) (nI m) M = some 1 := by
  have := (hk i hi).1
  unfold f_X6_hasRun
  refine cf (nI_pos (by omega)) (cf (nI_pos (by omega)) (bs (gI_of (h.2 i hi).1 rfl) ?_))
  rw [pk_sub (by omega)]
  exact cf (nI_nlt (by omega) (by omega)) rfl
theorem run_no {n : Nat} {a b : Int32} (hn : n ≤ 60) (hp : ¬ isRun n a b) (h1 : ¬ a < 0) (h2 : ¬ b < 0) : nI n - b < a := by
  obtain ⟨s, hs, rfl⟩ := nI_of h1
  obtain ⟨m, hm, rfl⟩ := nI_of h2
  have : ¬ s + m ≤ n := fun z => hp ⟨s, m, rfl, rfl, z⟩
  rw [fa_lt, fb_subI]
  · rw [nI_toInt (by omega), nI_toInt (by omega), nI_toInt (by omega)]; omega
  · rw [nI_toInt (by omega), nI_toInt (by omega)]; omega
  · rw [nI_toInt (by omega), nI_toInt (by omega)]; omega
theorem run_yes {n : Nat} {a b : Int32} (hn : n ≤ 60) (hp : isRun n a b) : ¬ a < 0 ∧ ¬ b < 0 ∧ ¬ nI n - b < a := by
  obtain ⟨s, m, rfl, rfl, hsm⟩ := hp
  refine ⟨nI_pos (by omega), nI_pos (by omega), ?_⟩
  rw [pk_sub (by omega)]
  exact nI_nlt (by omega) (by omega)
theorem hasRun_out (h : TP M x so si it) (hk : KT so si) {i : Nat} {a b : Int32} (hi : i < 6) (hp : ¬ isRun (si i) a b) : f_X6_hasRun (x + 99 + 2 * i) a b M = some 0 := by
  have := (hk i hi).1
  unfold f_X6_hasRun
  by_cases c : a < 0
  · exact ct c rfl
  · refine cf c ?_
    by_cases c2 : b < 0
    · exact ct c2 rfl
    · exact cf c2 (bs (gI_of (h.2 i hi).1 rfl) (ct (run_no this hp c c2) rfl))
end TAPES
abbrev P3 : Type := (Nat → Int32) × (Nat → Nat) × (Nat → Int64)
noncomputable def sTap (a b c : Int32) (so : Nat → Int32) (si : Nat → Nat) (it : Nat → Int64) : Int32 × P3 := @ite _ (isL 6 a) (Classical.propDecidable _) (if b = -1 then (1, upJ so a.toNatClampNeg (-1), upN si a.toNatClampNeg 0, itS it a.toNatClampNeg (fun _ => 0)) else if b < 0 then (-2, so, si, it) else if 4 < b then (-2, so, si, it) else if c ≤ 60 then (if 0 ≤ c then (1, upJ so a.toNatClampNeg b, upN si a.toNatClampNeg c.toNatClampNeg, itS it a.toNatClampNeg (fun _ => 0)) else (-14, so, si, it)) else (-2, so, si, it)) (-1, so, si, it)
noncomputable def sItm (a b : Int32) (v : Int64) (so : Nat → Int32) (si : Nat → Nat) (it : Nat → Int64) : Int32 × (Nat → Int64) := @ite _ (isL 6 a) (Classical.propDecidable _) (if so a.toNatClampNeg = -1 then (-11, it) else @ite _ (isL (si a.toNatClampNeg) b) (Classical.propDecidable _) (1, upL it (60 * a.toNatClampNeg + b.toNatClampNeg) (hdV (so a.toNatClampNeg) v)) (-13, it)) (-1, it)
noncomputable def aPek (a b : Int32) (si : Nat → Nat) (it : Nat → Int64) : Int64 := @ite _ (isL 6 a ∧ isL (si a.toNatClampNeg) b) (Classical.propDecidable _) (it (60 * a.toNatClampNeg + b.toNatClampNeg)) (-9223372036854775808)
def cpT (it : Nat → Int64) (s d n : Nat) : Nat → Int64 := fun k => if d ≤ k ∧ k < d + n then it (s + (k - d)) else it k
noncomputable def sShf (a b c d n : Int32) (so : Nat → Int32) (si : Nat → Nat) (it : Nat → Int64) : Int32 × (Nat → Int64) := @ite _ (isL 6 a ∧ isL 6 c) (Classical.propDecidable _) (if so a.toNatClampNeg = -1 ∨ so c.toNatClampNeg = -1 then (-11, it) else if so a.toNatClampNeg = so c.toNatClampNeg then @ite _ (isRun (si a.toNatClampNeg) b n ∧ isRun (si c.toNatClampNeg) d n) (Classical.propDecidable _) (n, cpT it (60 * a.toNatClampNeg + b.toNatClampNeg) (60 * c.toNatClampNeg + d.toNatClampNeg) n.toNatClampNeg) (-13, it) else (-12, it)) (-1, it)
section TAPES2
variable {M : XM} {F x : Nat} {w wi dd tx si : Nat → Nat} {hi : Bool} {dm tl : Nat} {so : Nat → Int32} {it : Nat → Int64}
theorem CI.tape {M' : XM} {so' : Nat → Int32} {si' : Nat → Nat} {it' : Nat → Int64} (h : CI M x w hi wi dm dd tl tx so si it) (hT : TP M' x so' si' it') (fr : Fr M M' (x + 98) (x + 111)) (hk : KT so' si') : CI M' x w hi wi dm dd tl tx so' si' it' := by
  obtain ⟨h0, h1, h3, h4, h5, h6, h7, h8⟩ := h
  exact ⟨(fr x (by omega)).trans h0, h1.fr (fun q a1 a2 => fr q (by omega)), h3.fr (fun q a1 a2 => fr q (by omega)), h4.fr (fun q a1 a2 => fr q (by omega)), h5.fr (fun q a1 a2 => fr q (by omega)), h6.fr (fun q a1 a2 => fr q (by omega)), hT, h8.1, h8.2.1, h8.2.2.1, h8.2.2.2.1, hk⟩
theorem KT.up {so : Nat → Int32} {si : Nat → Nat} (h : KT so si) {i n : Nat} {s : Int32} (hn : n ≤ 60) (hs : (s = -1 ∧ n = 0) ∨ ∃ k, k < 5 ∧ s = nI k) : KT (upJ so i s) (upN si i n) := by
  intro j hj
  simp only [upJ, upN]
  by_cases c : j = i
  · simp only [if_pos c]; exact ⟨hn, hs⟩
  · simp only [if_neg c]; exact h j hj
theorem c_tape (h : CI M x w hi wi dm dd tl tx so si it) (a b c : Int32) (hF : 1000 ≤ F) : Ok (f_X8_tape F x a b c M) (fun r => r.1 = (sTap a b c so si it).1 ∧ CI r.2 x w hi wi dm dd tl tx (sTap a b c so si it).2.1 (sTap a b c so si it).2.2.1 (sTap a b c so si it).2.2.2 ∧ Fr M r.2 x (x + 111)) := by
  obtain ⟨h0, h1, h3, h4, h5, h6, h7, h8⟩ := id h
  have c0 := h0
  unfold CO at c0
  have hk := h8.2.2.2.2
  unfold f_X8_tape
  by_cases qa : isL 6 a
  · obtain ⟨i, hi, rfl⟩ := id qa
    have o := (h7.2 i hi).1
    have es : sTap (nI i) b c so si it = (if b = -1 then (1, upJ so i (-1), upN si i 0, itS it i (fun _ => 0)) else if b < 0 then (-2, so, si, it) else if 4 < b then (-2, so, si, it) else if c ≤ 60 then (if 0 ≤ c then (1, upJ so i b, upN si i c.toNatClampNeg, itS it i (fun _ => 0)) else (-14, so, si, it)) else (-2, so, si, it)) := by
      unfold sTap; rw [if_pos qa, nIc (by omega)]
    refine ok_b (isTape_in hi) (ok_f (by decide) ?_)
    by_cases q1 : b = -1
    · rw [es.trans (if_pos q1)]
      refine ok_t q1 ?_
      iterate 1 (first | refine ok_b (gR_of (by assumption) (by rfl)) ?_ | refine ok_b (gI_of (by assumption) (by rfl)) ?_ | refine ok_b (ob_of (by assumption)) ?_)
      refine ok_b (h7.1.rd i rfl hi (by decide)) ?_
      iterate 1 (first | refine ok_b (gR_of (by assumption) (by rfl)) ?_ | refine ok_b (gI_of (by assumption) (by rfl)) ?_ | refine ok_b (ob_of (by assumption)) ?_)
      refine ok_m (become_ok h7 hi (n := 0) (by omega) (-1) hF) (fun M1 hM1 => ?_)
      exact ok_v ⟨rfl, h.tape hM1.1 hM1.2 (hk.up (by omega) (Or.inl ⟨rfl, rfl⟩)), hM1.2.mono _ _ (by omega) (by omega)⟩
    · rw [if_neg q1] at es
      refine ok_f q1 ?_
      by_cases q2 : b < 0
      · rw [es.trans (if_pos q2)]
        exact ok_t q2 (ok_v ⟨rfl, h, Fr.rf⟩)
      · rw [if_neg q2] at es
        refine ok_f q2 ?_
        by_cases q3 : 4 < b
        · rw [es.trans (if_pos q3)]
          exact ok_t q3 (ok_v ⟨rfl, h, Fr.rf⟩)
        · rw [if_neg q3] at es
          refine ok_f q3 ?_
          by_cases q4 : c ≤ 60
          · rw [if_pos q4] at es
            refine ok_t q4 ?_
            by_cases q5 : 0 ≤ c
            · rw [es.trans (if_pos q5)]
              refine ok_t q5 ?_
              obtain ⟨n, -, hn, rfl⟩ := rngN (a := c) 0 60 (by decide) (by decide) (fun z => absurd z (Int32.not_lt.mpr q5)) q4
              obtain ⟨k, -, hk5, e⟩ := rngN (a := b) 0 4 (by decide) (by decide) q2 (fa_of_nlt q3)
              rw [nIc (by omega)]
              iterate 1 (first | refine ok_b (gR_of (by assumption) (by rfl)) ?_ | refine ok_b (gI_of (by assumption) (by rfl)) ?_ | refine ok_b (ob_of (by assumption)) ?_)
              refine ok_b (h7.1.rd i rfl hi (by decide)) ?_
              iterate 1 (first | refine ok_b (gR_of (by assumption) (by rfl)) ?_ | refine ok_b (gI_of (by assumption) (by rfl)) ?_ | refine ok_b (ob_of (by assumption)) ?_)
              refine ok_m (become_ok h7 hi hn b hF) (fun M1 hM1 => ?_)
              exact ok_v ⟨rfl, h.tape hM1.1 hM1.2 (hk.up hn (Or.inr ⟨k, by omega, e⟩)), hM1.2.mono _ _ (by omega) (by omega)⟩
            · rw [es.trans (if_neg q5)]
              exact ok_f q5 (ok_v ⟨rfl, h, Fr.rf⟩)
          · rw [es.trans (if_neg q4)]
            exact ok_f q4 (ok_v ⟨rfl, h, Fr.rf⟩)
  · rw [show sTap a b c so si it = (-1, so, si, it) from if_neg qa]
    exact ok_b (isTape_out qa) (ok_t rfl (ok_v ⟨rfl, h, Fr.rf⟩))
theorem c_item (h : CI M x w hi wi dm dd tl tx so si it) (a b : Int32) (v : Int64) : Ok (f_X8_item x a b v M) (fun r => r.1 = (sItm a b v so si it).1 ∧ CI r.2 x w hi wi dm dd tl tx so si (sItm a b v so si it).2 ∧ Fr M r.2 x (x + 111)) := by
  obtain ⟨h0, h1, h3, h4, h5, h6, h7, h8⟩ := id h
  have c0 := h0
  unfold CO at c0
  have hk := h8.2.2.2.2
  unfold f_X8_item
  by_cases qa : isL 6 a
  · obtain ⟨i, hi, rfl⟩ := id qa
    have o := (h7.2 i hi).1
    have h60 := (hk i hi).1
    have es : sItm (nI i) b v so si it = (if so i = -1 then (-11, it) else @ite _ (isL (si i) b) (Classical.propDecidable _) (1, upL it (60 * i + b.toNatClampNeg) (hdV (so i) v)) (-13, it)) := by
      unfold sItm; rw [if_pos qa, nIc (by omega)]
    refine ok_b (isTape_in hi) (ok_f (by decide) ?_)
    iterate 1 (first | refine ok_b (gR_of (by assumption) (by rfl)) ?_ | refine ok_b (gI_of (by assumption) (by rfl)) ?_ | refine ok_b (ob_of (by assumption)) ?_)
    refine ok_b (h7.1.rd i rfl hi (by decide)) ?_
    iterate 1 (first | refine ok_b (gR_of (by assumption) (by rfl)) ?_ | refine ok_b (gI_of (by assumption) (by rfl)) ?_ | refine ok_b (ob_of (by assumption)) ?_)
    by_cases q1 : so i = -1
    · rw [es.trans (if_pos q1)]
      exact ok_t q1 (ok_v ⟨rfl, h, Fr.rf⟩)
    · rw [if_neg q1] at es
      refine ok_f q1 ?_
      iterate 1 (first | refine ok_b (gR_of (by assumption) (by rfl)) ?_ | refine ok_b (gI_of (by assumption) (by rfl)) ?_ | refine ok_b (ob_of (by assumption)) ?_)
      refine ok_b (h7.1.rd i rfl hi (by decide)) ?_
      iterate 1 (first | refine ok_b (gR_of (by assumption) (by rfl)) ?_ | refine ok_b (gI_of (by assumption) (by rfl)) ?_ | refine ok_b (ob_of (by assumption)) ?_)
      by_cases q2 : isL (si i) b
      · rw [es.trans (if_pos q2)]
        obtain ⟨k, hk2, rfl⟩ := q2
        rw [nIc (by omega)]
        refine ok_b (hasPlace_in h7 hk hi hk2) (ok_f (by decide) ?_)
        iterate 1 (first | refine ok_b (gR_of (by assumption) (by rfl)) ?_ | refine ok_b (gI_of (by assumption) (by rfl)) ?_ | refine ok_b (ob_of (by assumption)) ?_)
        refine ok_b (h7.1.rd i rfl hi (by decide)) ?_
        iterate 1 (first | refine ok_b (gR_of (by assumption) (by rfl)) ?_ | refine ok_b (gI_of (by assumption) (by rfl)) ?_ | refine ok_b (ob_of (by assumption)) ?_)
        refine ok_m (put_ok h7 hk hi hk2 v) (fun M1 hM1 => ?_)
        exact ok_v ⟨rfl, h.tape hM1.1 hM1.2 hk, hM1.2.mono _ _ (by omega) (by omega)⟩
      · rw [es.trans (if_neg q2)]
        exact ok_b (hasPlace_out h7 hk hi q2) (ok_t rfl (ok_v ⟨rfl, h, Fr.rf⟩))
  · rw [show sItm a b v so si it = (-1, it) from if_neg qa]
    exact ok_b (isTape_out qa) (ok_t rfl (ok_v ⟨rfl, h, Fr.rf⟩))
theorem c_peek (h : CI M x w hi wi dm dd tl tx so si it) (a b : Int32) : f_X8_peek x a b M = some (aPek a b si it) := by
  obtain ⟨h0, h1, h3, h4, h5, h6, h7, h8⟩ := id h
  have c0 := h0
  unfold CO at c0
  have hk := h8.2.2.2.2
  unfold f_X8_peek
  by_cases qa : isL 6 a
  · obtain ⟨i, hi, rfl⟩ := id qa
    have o := (h7.2 i hi).1
    have h60 := (hk i hi).1
    refine bs (isTape_in hi) (cf (by decide) ?_)
    iterate 1 (first | refine bs (gR_of (by assumption) (by rfl)) ?_ | refine bs (gI_of (by assumption) (by rfl)) ?_ | refine bs (ob_of (by assumption)) ?_)
    refine bs (h7.1.rd i rfl hi (by decide)) ?_
    iterate 1 (first | refine bs (gR_of (by assumption) (by rfl)) ?_ | refine bs (gI_of (by assumption) (by rfl)) ?_ | refine bs (ob_of (by assumption)) ?_)
    by_cases q2 : isL (si i) b
    · obtain ⟨k, hk2, rfl⟩ := id q2
      have es : aPek (nI i) (nI k) si it = it (60 * i + k) := by
        unfold aPek; rw [if_pos ⟨qa, by rw [nIc (by omega)]; exact q2⟩, nIc (by omega), nIc (by omega)]
      rw [es]
      refine bs (hasPlace_in h7 hk hi hk2) (cf (by decide) ?_)
      iterate 1 (first | refine bs (gR_of (by assumption) (by rfl)) ?_ | refine bs (gI_of (by assumption) (by rfl)) ?_ | refine bs (ob_of (by assumption)) ?_)
      refine bs (h7.1.rd i rfl hi (by decide)) ?_
      iterate 1 (first | refine bs (gR_of (by assumption) (by rfl)) ?_ | refine bs (gI_of (by assumption) (by rfl)) ?_ | refine bs (ob_of (by assumption)) ?_)
      exact bs ((h7.2 i hi).2.rd k rfl (by omega) (by decide)) rfl
    · have es : aPek (nI i) b si it = -9223372036854775808 := by
        unfold aPek; rw [if_neg (fun z => q2 (by have := z.2; rw [nIc (by omega)] at this; exact this))]
      rw [es]
      exact bs (hasPlace_out h7 hk hi q2) (ct rfl rfl)
  · rw [show aPek a b si it = _ from if_neg (fun z => qa z.1)]
    exact bs (isTape_out qa) (ct rfl rfl)
theorem cpL_ok {a b n0 n1 s d n : Nat} {f g : Nat → Int64} (h1 : LA M a n0 f) (h2 : LA M b n1 g) (hs : s + n ≤ n0) (hd : d + n ≤ n1) (hn : n0 < 1000 ∧ n1 < 1000) : Ok (x_cpL M a (nI s) b (nI d) (nI n)) (fun M' => LA M' b n1 (fun k => if d ≤ k ∧ k < d + n then f (s + (k - d)) else g k) ∧ ∀ q, q ≠ b → M' q = M q) := by
  obtain ⟨f', e1, e2⟩ := h1
  obtain ⟨g', e3, e4⟩ := h2
  refine ⟨x_up M b (.inl (.long, n1, .inr (.inl (va_cpy f' g' s d n)))), ?_, ⟨_, up_s, fun k hk => ?_⟩, fun q hq => up_n hq⟩
  · simp only [x_cpL, e1, e3]
    rw [nIc (by omega), nIc (by omega), nIc (by omega), if_pos ⟨nI_pos (by omega), nI_pos (by omega), nI_pos (by omega), hs, hd⟩]
  · dsimp only
    by_cases c : d ≤ k ∧ k < d + n
    · rw [if_pos c, pk_cpy_in c.1 c.2]; exact e2 _ (by omega)
    · rw [if_neg c, pk_cpy_out (by omega)]; exact e4 k hk
theorem c_shift (h : CI M x w hi wi dm dd tl tx so si it) (a b c d n : Int32) : Ok (f_X8_shift x a b c d n M) (fun r => r.1 = (sShf a b c d n so si it).1 ∧ CI r.2 x w hi wi dm dd tl tx so si (sShf a b c d n so si it).2 ∧ Fr M r.2 x (x + 111)) := by
  obtain ⟨h0, h1, h3, h4, h5, h6, h7, h8⟩ := id h
  have c0 := h0
  unfold CO at c0
  have hk := h8.2.2.2.2
  unfold f_X8_shift
  by_cases qa : isL 6 a
  · obtain ⟨i, hi, rfl⟩ := id qa
    have o := (h7.2 i hi).1
    have h60 := (hk i hi).1
    refine ok_b (isTape_in hi) (ok_f (by decide) ?_)
    by_cases qc : isL 6 c
    · obtain ⟨j, hj, rfl⟩ := id qc
      have oj := (h7.2 j hj).1
      have hj60 := (hk j hj).1
      have es : sShf (nI i) b (nI j) d n so si it = (if so i = -1 ∨ so j = -1 then (-11, it) else if so i = so j then @ite _ (isRun (si i) b n ∧ isRun (si j) d n) (Classical.propDecidable _) (n, cpT it (60 * i + b.toNatClampNeg) (60 * j + d.toNatClampNeg) n.toNatClampNeg) (-13, it) else (-12, it)) := by
        unfold sShf; rw [if_pos ⟨qa, qc⟩, nIc (n := i) (by omega), nIc (n := j) (by omega)]
      refine ok_b (isTape_in hj) (ok_f (by decide) ?_)
      iterate 1 (first | refine ok_b (gR_of (by assumption) (by rfl)) ?_ | refine ok_b (gI_of (by assumption) (by rfl)) ?_ | refine ok_b (ob_of (by assumption)) ?_)
      refine ok_b (h7.1.rd i rfl hi (by decide)) ?_
      iterate 1 (first | refine ok_b (gR_of (by assumption) (by rfl)) ?_ | refine ok_b (gI_of (by assumption) (by rfl)) ?_ | refine ok_b (ob_of (by assumption)) ?_)
      refine ok_b (h7.1.rd j rfl hj (by decide)) ?_
      iterate 1 (first | refine ok_b (gR_of (by assumption) (by rfl)) ?_ | refine ok_b (gI_of (by assumption) (by rfl)) ?_ | refine ok_b (ob_of (by assumption)) ?_)
      by_cases q1 : so i = -1
      · rw [es.trans (if_pos (Or.inl q1))]
        exact ok_t q1 (ok_v ⟨rfl, h, Fr.rf⟩)
      · refine ok_f q1 ?_
        iterate 1 (first | refine ok_b (gR_of (by assumption) (by rfl)) ?_ | refine ok_b (gI_of (by assumption) (by rfl)) ?_ | refine ok_b (ob_of (by assumption)) ?_)
        by_cases q2 : so j = -1
        · rw [es.trans (if_pos (Or.inr q2))]
          exact ok_t q2 (ok_v ⟨rfl, h, Fr.rf⟩)
        · rw [if_neg (fun z => z.elim q1 q2)] at es
          refine ok_f q2 ?_
          iterate 2 (first | refine ok_b (gR_of (by assumption) (by rfl)) ?_ | refine ok_b (gI_of (by assumption) (by rfl)) ?_ | refine ok_b (ob_of (by assumption)) ?_)
          by_cases q3 : so i = so j
          · rw [if_pos q3] at es
            refine ok_t q3 ?_
            iterate 1 (first | refine ok_b (gR_of (by assumption) (by rfl)) ?_ | refine ok_b (gI_of (by assumption) (by rfl)) ?_ | refine ok_b (ob_of (by assumption)) ?_)
            by_cases q4 : isRun (si i) b n
            · by_cases q5 : isRun (si j) d n
              · rw [es.trans (if_pos ⟨q4, q5⟩)]
                obtain ⟨s, m, rfl, rfl, hsm⟩ := q4
                obtain ⟨u, m', rfl, em, hum⟩ := q5
                have em' : m = m' := nI_inj (by omega) (by omega) em
                subst em'
                rw [nIc (n := s) (by omega), nIc (n := u) (by omega), nIc (n := m) (by omega)]
                refine ok_b (hasRun_in h7 hk hi hsm) (ok_f (by decide) ?_)
                iterate 1 (first | refine ok_b (gR_of (by assumption) (by rfl)) ?_ | refine ok_b (gI_of (by assumption) (by rfl)) ?_ | refine ok_b (ob_of (by assumption)) ?_)
                refine ok_b (hasRun_in h7 hk hj hum) (ok_f (by decide) ?_)
                iterate 2 (first | refine ok_b (gR_of (by assumption) (by rfl)) ?_ | refine ok_b (gI_of (by assumption) (by rfl)) ?_ | refine ok_b (ob_of (by assumption)) ?_)
                refine ok_m (cpL_ok (h7.2 i hi).2 (h7.2 j hj).2 (s := s) (d := u) (n := m) (by omega) (by omega) (by omega)) (fun M1 hM1 => ?_)
                have fr1 : Fr M M1 (x + 98) (x + 111) := fun q hq => hM1.2 q (by omega)
                refine ok_v ⟨rfl, h.tape ((h7.one hj ((hM1.2 _ (by omega)).trans oj) hM1.1 (fun q q1 q2 => hM1.2 q q2)).cg (fun k hk => ?_) (fun k hk => ?_)) fr1 hk, fr1.mono _ _ (by omega) (by omega)⟩
                · simp only [upJ, upN]
                  by_cases c : k = j
                  · rw [if_pos c, if_pos c, c]; exact ⟨rfl, rfl⟩
                  · rw [if_neg c, if_neg c]; exact ⟨rfl, rfl⟩
                · show itS it j _ k = cpT it (60 * i + s) (60 * j + u) m k
                  unfold itS cpT
                  by_cases c : 60 * j ≤ k ∧ k < 60 * j + 60
                  · rw [if_pos c]
                    dsimp only
                    by_cases c2 : u ≤ k - 60 * j ∧ k - 60 * j < u + m
                    · rw [if_pos c2, if_pos (by omega)]
                      show it (60 * i + (s + (k - 60 * j - u))) = _
                      congr 1
                      omega
                    · rw [if_neg c2, if_neg (by omega)]
                      show it (60 * j + (k - 60 * j)) = _
                      congr 1
                      omega
                  · rw [if_neg c, if_neg (by omega)]
              · rw [es.trans (if_neg (fun z => q5 z.2))]
                obtain ⟨s, m, rfl, rfl, hsm⟩ := q4
                refine ok_b (hasRun_in h7 hk hi hsm) (ok_f (by decide) ?_)
                iterate 1 (first | refine ok_b (gR_of (by assumption) (by rfl)) ?_ | refine ok_b (gI_of (by assumption) (by rfl)) ?_ | refine ok_b (ob_of (by assumption)) ?_)
                exact ok_b (hasRun_out h7 hk hj q5) (ok_t rfl (ok_v ⟨rfl, h, Fr.rf⟩))
            · rw [es.trans (if_neg (fun z => q4 z.1))]
              exact ok_b (hasRun_out h7 hk hi q4) (ok_t rfl (ok_v ⟨rfl, h, Fr.rf⟩))
          · rw [es.trans (if_neg q3)]
            exact ok_f q3 (ok_v ⟨rfl, h, Fr.rf⟩)
    · rw [show sShf (nI i) b c d n so si it = (-1, it) from if_neg (fun z => qc z.2)]
      exact ok_b (isTape_out qc) (ok_t rfl (ok_v ⟨rfl, h, Fr.rf⟩))
  · rw [show sShf a b c d n so si it = (-1, it) from if_neg (fun z => qa z.1)]
    exact ok_b (isTape_out qa) (ok_t rfl (ok_v ⟨rfl, h, Fr.rf⟩))
/-- a length that is otherwise on the tape, or the tape ends ahead of it -/
noncomputable def jdB (w si : Nat → Nat) (it : Nat → Int64) (i p q : Nat) : Bool := decide (¬ (p + q < si i ∧ it (60 * i + (p + q)) = (nI (rL w q)).toInt64))
noncomputable def jdN (w si : Nat → Nat) (it : Nat → Int64) (i p : Nat) : Nat := fa_first (jdB w si it i p) (w 0)
noncomputable def jdV (w si : Nat → Nat) (it : Nat → Int64) (i p : Nat) : Int32 := if jdN w si it i p < w 0 then (if p + jdN w si it i p < si i then nI (jdN w si it i p) else 100 + nI (jdN w si it i p)) else -5
noncomputable def aJdg (a b : Int32) (w : Nat → Nat) (so : Nat → Int32) (si : Nat → Nat) (it : Nat → Int64) : Int32 := @ite _ (isL 6 a) (Classical.propDecidable _) (if so a.toNatClampNeg = -1 then 100 else if so a.toNatClampNeg = 1 then (if 0 ≤ b then jdV w si it a.toNatClampNeg b.toNatClampNeg else 100) else -12) (-1)
theorem jd_lt {n p q : Nat} (hn : n ≤ 60) (hq : q < 5) (hp : p < 2147483648) : (nI p < nI n - nI q) ↔ p + q < n := by
  rw [fa_lt, fb_subI]
  · rw [nI_toInt (by omega), nI_toInt (by omega), nI_toInt (by omega)]; omega
  · rw [nI_toInt (by omega), nI_toInt (by omega)]; omega
  · rw [nI_toInt (by omega), nI_toInt (by omega)]; omega
theorem c_judge (h : CI M x w hi wi dm dd tl tx so si it) (a b : Int32) (hF : 1000 ≤ F) : f_X8_judge F x a b M = some (aJdg a b w so si it) := by
  obtain ⟨h0, h1, h3, h4, h5, h6, h7, h8⟩ := id h
  have c0 := h0; have c1 := h1.1; have c2 := h1.2.1.1
  unfold CO at c0
  have hk := h8.2.2.2.2
  have h5' := h8.1.1.2.1
  unfold f_X8_judge
  by_cases qa : isL 6 a
  · obtain ⟨i, hi, rfl⟩ := id qa
    have o := (h7.2 i hi).1
    have h60 := (hk i hi).1
    have es : aJdg (nI i) b w so si it = (if so i = -1 then 100 else if so i = 1 then (if 0 ≤ b then jdV w si it i b.toNatClampNeg else 100) else -12) := by
      unfold aJdg; rw [if_pos qa, nIc (n := i) (by omega)]
    refine bs (isTape_in hi) (cf (by decide) ?_)
    iterate 1 (first | refine bs (gR_of (by assumption) (by rfl)) ?_ | refine bs (gI_of (by assumption) (by rfl)) ?_ | refine bs (ob_of (by assumption)) ?_)
    refine bs (h7.1.rd i rfl hi (by decide)) ?_
    iterate 1 (first | refine bs (gR_of (by assumption) (by rfl)) ?_ | refine bs (gI_of (by assumption) (by rfl)) ?_ | refine bs (ob_of (by assumption)) ?_)
    by_cases q1 : so i = -1
    · rw [es.trans (if_pos q1)]
      exact ct q1 rfl
    · rw [if_neg q1] at es
      refine cf q1 ?_
      iterate 1 (first | refine bs (gR_of (by assumption) (by rfl)) ?_ | refine bs (gI_of (by assumption) (by rfl)) ?_ | refine bs (ob_of (by assumption)) ?_)
      by_cases q2 : so i = 1
      · rw [if_pos q2] at es
        refine ct q2 ?_
        by_cases q3 : 0 ≤ b
        · rw [es.trans (if_pos q3)]
          refine ct q3 ?_
          obtain ⟨p, hp, rfl⟩ := nI_of (x := b) (fun z => absurd z (Int32.not_lt.mpr q3))
          rw [nIc (by omega)]
          have hle : jdN w si it i p ≤ w 0 := fa_first_le _ _
          refine ok_e (ok_loop (I := fun k q => q = nI k) (jdN w si it i p) ?_ ?_ (jdN w si it i p) 0 F _ (by omega) (by omega) rfl)
          · rintro k j q hj rfl hk2
            have hno := fa_first_no (jdB w si it i p) (w 0) j hj
            simp only [jdB, decide_eq_false_iff_not, Classical.not_not] at hno
            unfold b_X8_judge_48
            iterate 3 (first | refine ok_b (gR_of (by assumption) (by rfl)) ?_ | refine ok_b (gI_of (by assumption) (by rfl)) ?_ | refine ok_b (ob_of (by assumption)) ?_)
            refine ok_f (nI_ge (by omega) (by omega)) ?_
            iterate 1 (first | refine ok_b (gR_of (by assumption) (by rfl)) ?_ | refine ok_b (gI_of (by assumption) (by rfl)) ?_ | refine ok_b (ob_of (by assumption)) ?_)
            refine ok_t ((jd_lt (by omega) (by omega) (by omega)).mpr hno.1) ?_
            iterate 1 (first | refine ok_b (gR_of (by assumption) (by rfl)) ?_ | refine ok_b (gI_of (by assumption) (by rfl)) ?_ | refine ok_b (ob_of (by assumption)) ?_)
            refine ok_b ((h7.2 i hi).2.rd (p + j) (nI_add _ _) (by omega) (by decide)) ?_
            iterate 3 (first | refine ok_b (gR_of (by assumption) (by rfl)) ?_ | refine ok_b (gI_of (by assumption) (by rfl)) ?_ | refine ok_b (ob_of (by assumption)) ?_)
            refine ok_b (h1.2.1.2.2.2.rd j rfl (by omega) (by decide)) ?_
            refine ok_t ((lg_cmp_eq _ _).mpr hno.2) (hk2 _ (e1 j))
          · rintro k q rfl
            unfold b_X8_judge_48 jdV
            iterate 3 (first | refine ok_b (gR_of (by assumption) (by rfl)) ?_ | refine ok_b (gI_of (by assumption) (by rfl)) ?_ | refine ok_b (ob_of (by assumption)) ?_)
            by_cases q4 : jdN w si it i p < w 0
            · rw [if_pos q4]
              refine ok_f (nI_ge q4 (by omega)) ?_
              have hyes := fa_first_yes (jdB w si it i p) (w 0) q4
              simp only [jdB, decide_eq_true_eq] at hyes
              iterate 1 (first | refine ok_b (gR_of (by assumption) (by rfl)) ?_ | refine ok_b (gI_of (by assumption) (by rfl)) ?_ | refine ok_b (ob_of (by assumption)) ?_)
              by_cases q5 : p + jdN w si it i p < si i
              · rw [if_pos q5]
                refine ok_t ((jd_lt (by omega) (by omega) (by omega)).mpr q5) ?_
                iterate 1 (first | refine ok_b (gR_of (by assumption) (by rfl)) ?_ | refine ok_b (gI_of (by assumption) (by rfl)) ?_ | refine ok_b (ob_of (by assumption)) ?_)
                refine ok_b ((h7.2 i hi).2.rd (p + jdN w si it i p) (nI_add _ _) (by omega) (by decide)) ?_
                iterate 3 (first | refine ok_b (gR_of (by assumption) (by rfl)) ?_ | refine ok_b (gI_of (by assumption) (by rfl)) ?_ | refine ok_b (ob_of (by assumption)) ?_)
                refine ok_b (h1.2.1.2.2.2.rd (jdN w si it i p) rfl (by omega) (by decide)) ?_
                exact ok_f (fun e => hyes ⟨q5, (lg_cmp_eq _ _).mp e⟩) (ok_v rfl)
              · rw [if_neg q5]
                exact ok_f (fun e => q5 ((jd_lt (by omega) (by omega) (by omega)).mp e)) (ok_v rfl)
            · rw [if_neg q4]
              exact ok_t (nI_le (by omega) (by omega)) (ok_v rfl)
        · rw [es.trans (if_neg q3)]
          exact cf q3 rfl
      · rw [es.trans (if_neg q2)]
        exact cf q2 rfl
  · rw [show aJdg a b w so si it = -1 from if_neg qa]
    exact bs (isTape_out qa) (ct rfl rfl)
end TAPES2
