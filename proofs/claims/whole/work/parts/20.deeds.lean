def revF (m : Nat) : Nat → Nat := fun k => m - 1 - k
/-- the sixty behind a fresh start with m letters -/
def wB (w : Nat → Nat) (m : Nat) : Nat → Nat := fun k => if k = 0 then m else if k = 1 then en (revF m) m else wR w (ovF m (fun k => k) (rT w)) (ovF m (revF m) (rB w)) (ovF m (fun _ => 1) (rL w)) k
theorem rev_PM (m : Nat) : PM m (revF m) := ⟨fun k hk => by unfold revF; omega, fun i j h1 h2 => by unfold revF; omega⟩
theorem begin_OR {m : Nat} {t b l : Nat → Nat} (h2 : 2 ≤ m) (h5 : m ≤ 5) : OR m (ovF m (fun k => k) t) (ovF m (revF m) b) (ovF m (fun _ => 1) l) :=
  ⟨h2, h5, PM_cg (id_PM m) (fun k hk => by simp [ovF, hk]), PM_cg (rev_PM m) (fun k hk => by simp [ovF, hk]), fun k hk => by simp [ovF, hk]⟩
theorem wB_T {w : Nat → Nat} {m k : Nat} (h : k < 5) : rT (wB w m) k = ovF m (fun k => k) (rT w) k := by
  have : rT (wB w m) k = rT (wR w (ovF m (fun k => k) (rT w)) (ovF m (revF m) (rB w)) (ovF m (fun _ => 1) (rL w))) k := by
    simp only [rT, wB]; rw [if_neg (by omega), if_neg (by omega)]
  rw [this, wR_T h]
theorem wB_B {w : Nat → Nat} {m k : Nat} (h : k < 5) : rB (wB w m) k = ovF m (revF m) (rB w) k := by
  have : rB (wB w m) k = rB (wR w (ovF m (fun k => k) (rT w)) (ovF m (revF m) (rB w)) (ovF m (fun _ => 1) (rL w))) k := by
    simp only [rB, wB]; rw [if_neg (by omega), if_neg (by omega)]
  rw [this, wR_B h]
theorem wB_L {w : Nat → Nat} {m k : Nat} (h : k < 5) : rL (wB w m) k = ovF m (fun _ => 1) (rL w) k := by
  have : rL (wB w m) k = rL (wR w (ovF m (fun k => k) (rT w)) (ovF m (revF m) (rB w)) (ovF m (fun _ => 1) (rL w))) k := by
    simp only [rL, wB]; rw [if_neg (by omega), if_neg (by omega)]
  rw [this, wR_L h]
theorem wB_o {w : Nat → Nat} {m k : Nat} (h : 17 ≤ k) : wB w m k = w k := by
  simp only [wB]; rw [if_neg (by omega), if_neg (by omega)]; exact wR_o (by omega)
theorem wB_OR {w : Nat → Nat} {m : Nat} (h2 : 2 ≤ m) (h5 : m ≤ 5) : ORw (wB w m) := by
  show OR m _ _ _
  exact (begin_OR (t := rT w) (b := rB w) (l := rL w) h2 h5).cg (fun k hk => (wB_T (by omega)).symm) (fun k hk => (wB_B (by omega)).symm) (fun k hk => (wB_L (by omega)).symm)
section SETUP
variable {M : XM} {F s : Nat} {w : Nat → Nat}
theorem sbegin_ok (h : SU M s w) {m : Nat} (h2 : 2 ≤ m) (h5 : m ≤ 5) (hF : 10 ≤ F) : Ok (f_X4_begin F s (nI m) M) (fun M' => SU M' s (wB w m) ∧ Fr M M' s (s + 14)) := by
  have ho := begin_OR (t := rT w) (b := rB w) (l := rL w) h2 h5
  unfold f_X4_begin
  refine ok_b (gR_of h.1 rfl) ?_
  refine ok_b (ob_of h.2.1.1) ?_
  refine ok_m (begin_ok h.2.1 h2 h5 hF) (fun M1 hM1 => ?_)
  have f1 := hM1.2
  have o1 : M1 s = _ := (f1 s (by omega)).trans h.1
  refine ok_b (gR_of o1 rfl) ?_
  refine ok_b (ob_of hM1.1.1) ?_
  refine ok_b (codeNow_ok hM1.1 h5 ho.2.2.1 ho.2.2.2.1 hF) ?_
  refine ok_b (put_of o1 (by simp)) ?_
  refine ok_v ⟨⟨?_, ?_, ?_, ?_, ?_⟩, (f1.mono s (s + 14) (by omega) (by omega)).tr (Fr.up (by omega) (by omega))⟩
  · rw [up_s]
    have e : cdN (ovF m (fun k => k) (rT w)) (ovF m (fun k => m - 1 - k) (rB w)) m m = en (revF m) m := by
      rw [cdN_en]
      refine en_cg (fun j hj => ?_)
      have : ovF m (fun k => m - 1 - k) (rB w) j = m - 1 - j := by simp [ovF, hj]
      rw [this]
      exact ho.2.2.1.ple (p := m - 1 - j) (by omega) (by simp only [ovF]; rw [if_pos (by omega)])
    rw [e]
    rfl
  · show RW _ _ m _ _ _
    exact (hM1.1.fr (fun q a1 a2 => up_n (by omega))).cg (fun k hk => (wB_T hk).symm) (fun k hk => (wB_B hk).symm) (fun k hk => (wB_L hk).symm)
  · rw [wB_o (by omega)]
    have := h.2.2.1.2.1
    exact (h.2.2.1.fr (fun q a1 a2 => (up_n (by omega)).trans (f1 q (by omega)))).cg (fun i hi => ⟨(wB_o (by omega)).symm, (wB_o (by omega)).symm⟩)
  · rw [wB_o (by omega)]
    exact (h.2.2.2.1.fr (fun q a1 a2 => (up_n (by omega)).trans (f1 q (by omega)))).cg (fun i hi => ⟨(wB_o (by omega)).symm, (wB_o (by omega)).symm⟩)
  · rw [wB_o (by omega)]
    exact (h.2.2.2.2.fr (fun q a1 a2 => (up_n (by omega)).trans (f1 q (by omega)))).cg (fun i hi => ⟨(wB_o (by omega)).symm, (wB_o (by omega)).symm⟩)
theorem scopy_ok {s2 : Nat} {w2 : Nat → Nat} (h : SU M s w) (h2 : SU M s2 w2) (hd : s + 14 ≤ s2 ∨ s2 + 14 ≤ s) (hF : 1000 ≤ F) : Ok (f_X4_copyFrom F s s2 M) (fun M' => SU M' s w2 ∧ Fr M M' s (s + 14)) := by
  unfold f_X4_copyFrom
  refine ok_b (gR_of h.1 rfl) ?_
  refine ok_b (gR_of h2.1 rfl) ?_
  refine ok_b (ob_of h.2.1.1) ?_
  refine ok_m (copyFrom_ok h.2.1 h2.2.1 (by omega) (by omega)) (fun M1 hM1 => ?_)
  have f1 := hM1.2
  have o1 : M1 s = _ := (f1 s (by omega)).trans h.1
  have p1 : SU M1 s2 w2 := h2.fr (fun q a1 a2 => f1 q (by omega))
  refine ok_b (gI_of p1.1 rfl) ?_
  refine ok_b (put_of o1 (by simp)) ?_
  generalize hm : x_up M1 s (.inr (4, [Value.ref (s + 1), .int (nI (w 1)), .ref (s + 5), .ref (s + 8), .ref (s + 11)].set 1 (.int (nI (w2 1))))) = M2
  have f2 : Fr M M2 s (s + 14) := (f1.mono s (s + 14) (by omega) (by omega)).tr (by subst hm; exact Fr.up (by omega) (by omega))
  have g2 : ∀ q, q ≠ s → M2 q = M1 q := fun q hq => by subst hm; exact up_n hq
  have o2 : M2 s = some (.inr (4, [Value.ref (s + 1), .int (nI (w2 1)), .ref (s + 5), .ref (s + 8), .ref (s + 11)])) := by subst hm; rw [up_s]; rfl
  have p2 : SU M2 s2 w2 := h2.fr (fun q a1 a2 => f2 q (by omega))
  have hR2 : RWw M2 (s + 1) w2 := RW.fr hM1.1 (fun q a1 a2 => g2 q (by omega))
  have n5 : NT M2 (s + 5) 4 _ _ _ := h.2.2.1.fr (fun q a1 a2 => (g2 q (by omega)).trans (f1 q (by omega)))
  refine ok_b (gR_of o2 rfl) ?_
  refine ok_b (gR_of p2.1 rfl) ?_
  refine ok_b (ob_of n5.1) ?_
  refine ok_m (ncopy_ok n5 p2.2.2.1 (by omega) (by omega) hF) (fun M3 hM3 => ?_)
  have f3 := hM3.2
  have o3 : M3 s = _ := (f3 s (by omega)).trans o2
  have p3 : SU M3 s2 w2 := p2.fr (fun q a1 a2 => f3 q (by omega))
  have n8 : NT M3 (s + 8) 8 _ _ _ := (h.2.2.2.1.fr (fun q a1 a2 => (g2 q (by omega)).trans (f1 q (by omega)))).fr (fun q a1 a2 => f3 q (by omega))
  refine ok_b (gR_of o3 rfl) ?_
  refine ok_b (gR_of p3.1 rfl) ?_
  refine ok_b (ob_of n8.1) ?_
  refine ok_m (ncopy_ok n8 p3.2.2.2.1 (by omega) (by omega) hF) (fun M4 hM4 => ?_)
  have f4 := hM4.2
  have o4 : M4 s = _ := (f4 s (by omega)).trans o3
  have p4 : SU M4 s2 w2 := p3.fr (fun q a1 a2 => f4 q (by omega))
  have n11 : NT M4 (s + 11) 8 _ _ _ := ((h.2.2.2.2.fr (fun q a1 a2 => (g2 q (by omega)).trans (f1 q (by omega)))).fr (fun q a1 a2 => f3 q (by omega))).fr (fun q a1 a2 => f4 q (by omega))
  refine ok_b (gR_of o4 rfl) ?_
  refine ok_b (gR_of p4.1 rfl) ?_
  refine ok_b (ob_of n11.1) ?_
  refine ok_m (ncopy_ok n11 p4.2.2.2.2 (by omega) (by omega) hF) (fun M5 hM5 => ?_)
  have f5 := hM5.2
  refine ok_v ⟨⟨(f5 s (by omega)).trans o4, RW.fr hR2 (fun q a1 a2 => (f5 q (by omega)).trans ((f4 q (by omega)).trans (f3 q (by omega)))), (hM3.1.fr (fun q a1 a2 => f4 q (by omega))).fr (fun q a1 a2 => f5 q (by omega)), hM4.1.fr (fun q a1 a2 => f5 q (by omega)), hM5.1⟩, f2.tr ((f3.mono s (s + 14) (by omega) (by omega)).tr ((f4.mono s (s + 14) (by omega) (by omega)).tr (f5.mono s (s + 14) (by omega) (by omega))))⟩
end SETUP
-- ROWS OF REFERENCES
def RQ (M : XM) (a : Nat) (C : String) (len : Nat) (f : Nat → Nat) : Prop := ∃ g : Nat → Option Nat, M a = some (.inl (.object C, len, .inr (.inr (.inr (.inr g))))) ∧ ∀ i, i < len → g i = some (f i)
theorem RQ.fr {M M' : XM} {a len : Nat} {C : String} {f : Nat → Nat} (h : RQ M a C len f) (h2 : M' a = M a) : RQ M' a C len f := by
  obtain ⟨g, h1, h3⟩ := h
  exact ⟨g, h2.trans h1, h3⟩
theorem RQ.rd {M : XM} {a len : Nat} {C : String} {f : Nat → Nat} (h : RQ M a C len f) {i : Int32} (j : Nat) (hi : i = nI j) (hj : j < len) (hl : len < 2147483648) : x_aQ (.object C) M a i = some (f j) := by
  obtain ⟨g, h1, h3⟩ := h
  subst hi
  simp only [x_aQ, h1, if_true, x_in_nI hj hl, nIc (show j < 2147483648 by omega), h3 j hj]
-- DEEDS
def blk (t b l : Nat → Nat) (i : Nat) : Nat := if i < 5 then t i else if i < 10 then b (i - 5) else l (i - 10)
def kpD (dm : Nat) (dd t b l : Nat → Nat) : Nat → Nat := fun q => if dm = 12 then (if q < 165 then dd (q + 15) else blk t b l (q - 165)) else (if 15 * dm ≤ q ∧ q < 15 * dm + 15 then blk t b l (q - 15 * dm) else dd q)
def kpM (dm : Nat) : Nat := if dm = 12 then 12 else dm + 1
theorem kpM_c (dm : Nat) : (dm = 12 ∧ kpM dm = 12) ∨ (dm ≠ 12 ∧ kpM dm = dm + 1) := by
  unfold kpM
  split
  · exact Or.inl ⟨by assumption, rfl⟩
  · exact Or.inr ⟨by assumption, rfl⟩
def DD (M : XM) (a n dm : Nat) (dd : Nat → Nat) : Prop := ∃ e, e < 12 ∧ dm ≤ 12 ∧ M a = some (.inr (0, [.ref (a + 1), .int (nI e), .int (nI dm)])) ∧ RQ M (a + 1) RX3 12 (fun i => a + 2 + 4 * i) ∧ (∀ i, i < 12 → ∃ n t b l, RW M (a + 2 + 4 * i) n t b l) ∧ ∀ j, j < dm → RW M (a + 2 + 4 * ((e + 12 - dm + j) % 12)) n (fun k => dd (15 * j + k)) (fun k => dd (15 * j + 5 + k)) (fun k => dd (15 * j + 10 + k))
theorem DD.fr {M M' : XM} {a n dm : Nat} {dd : Nat → Nat} (h : DD M a n dm dd) (h2 : ∀ q, a ≤ q → q < a + 50 → M' q = M q) : DD M' a n dm dd := by
  obtain ⟨e, he, hd, h0, h1, h3, h4⟩ := h
  refine ⟨e, he, hd, (h2 a (by omega) (by omega)).trans h0, h1.fr (h2 _ (by omega) (by omega)), fun i hi => ?_, fun j hj => ?_⟩
  · obtain ⟨n, t, b, l, hr⟩ := h3 i hi
    exact ⟨n, t, b, l, hr.fr (fun q a1 a2 => h2 q (by omega) (by omega))⟩
  · exact (h4 j hj).fr (fun q a1 a2 => h2 q (by omega) (by omega))
section DEEDS
variable {M : XM} {F a n dm : Nat} {dd : Nat → Nat}
theorem forget_ok (h : DD M a n dm dd) (n' : Nat) : Ok (f_X0_forget a M) (fun M' => DD M' a n' 0 dd ∧ Fr M M' a (a + 50)) := by
  obtain ⟨e, he, hd, h0, h1, h3, h4⟩ := h
  unfold f_X0_forget
  refine ok_b (put_of h0 (by simp)) ?_
  refine ok_v ⟨⟨e, he, by omega, up_s, h1.fr (up_n (by omega)), fun i hi => ?_, fun j hj => absurd hj (Nat.not_lt_zero j)⟩, Fr.up (by omega) (by omega)⟩
  obtain ⟨n, t, b, l, hr⟩ := h3 i hi
  exact ⟨n, t, b, l, hr.fr (fun q a1 a2 => up_n (by omega))⟩
theorem remember_ok {r : Nat} {t b l : Nat → Nat} (h : DD M a n dm dd) (hR : RW M r n t b l) (hdis : r + 4 ≤ a ∨ a + 50 ≤ r) (hF : 10 ≤ F) : Ok (f_X0_remember F a r M) (fun M' => DD M' a n (kpM dm) (kpD dm dd t b l) ∧ Fr M M' a (a + 50)) := by
  obtain ⟨e, he, hd, h0, h1, h3, h4⟩ := h
  obtain ⟨n0, t0, b0, l0, hr0⟩ := h3 e he
  unfold f_X0_remember
  refine ok_b (gR_of h0 rfl) ?_
  refine ok_b (gI_of h0 rfl) ?_
  refine ok_b (h1.rd e rfl he (by decide)) ?_
  refine ok_b (ob_of hr0.1) ?_
  refine ok_m (copyFrom_ok hr0 hR (by omega) hF) (fun M1 hM1 => ?_)
  have f1 := hM1.2
  have o1 : M1 a = _ := (f1 a (by omega)).trans h0
  -- the end, by whatever way it was found
  have fin : ∀ e', e' = (e + 1) % 12 → Ok (j_X0_remember_33 F a (nI e') a M1) (fun M' => DD M' a n (kpM dm) (kpD dm dd t b l) ∧ Fr M M' a (a + 50)) := by
    intro e' he'
    unfold j_X0_remember_33
    refine ok_b (put_of o1 (by simp)) ?_
    have o2 : x_up M1 a (.inr (0, [Value.ref (a + 1), .int (nI e), .int (nI dm)].set 1 (.int (nI e')))) a = some (.inr (0, [Value.ref (a + 1), .int (nI e'), .int (nI dm)])) := by rw [up_s]; rfl
    refine ok_b (gI_of o2 rfl) ?_
    have ev : (if (12 : Int32) < nI dm + 1 then (12 : Int32) else nI dm + 1) = nI (kpM dm) := by
      rw [e1]
      unfold kpM
      by_cases c : dm = 12
      · rw [if_pos c]; exact ct (nI_lt (a := 12) (b := dm + 1) (by omega) (by omega)) rfl
      · rw [if_neg c]; exact cf (nI_nlt (b := dm + 1) (a := 12) (by omega) (by omega)) rfl
    rw [ev]
    refine ok_b (put_of o2 (by simp)) ?_
    have g3 : ∀ q, q ≠ a → (x_up (x_up M1 a (.inr (0, [Value.ref (a + 1), .int (nI e), .int (nI dm)].set 1 (.int (nI e'))))) a (.inr (0, [Value.ref (a + 1), .int (nI e'), .int (nI dm)].set 2 (.int (nI (kpM dm)))))) q = M1 q := fun q hq => by rw [up_n hq, up_n hq]
    refine ok_v ⟨⟨e', by omega, by unfold kpM; split <;> omega, ?_, ?_, fun i hi => ?_, fun j hj => ?_⟩, fun q hq => (g3 q (by omega)).trans (f1 q (by omega))⟩
    · rw [up_s]; rfl
    · exact h1.fr ((g3 _ (by omega)).trans (f1 _ (by omega)))
    · by_cases c : i = e
      · subst c
        exact ⟨_, _, _, _, hM1.1.fr (fun q a1 a2 => g3 q (by omega))⟩
      · obtain ⟨n', t', b', l', hr'⟩ := h3 i hi
        exact ⟨_, _, _, _, hr'.fr (fun q a1 a2 => (g3 q (by omega)).trans (f1 q (by omega)))⟩
    · have hnew : ∀ j', (e' + 12 - kpM dm + j') % 12 = e → j' < kpM dm → j' = kpM dm - 1 := by
        intro j' h1 h2
        have := kpM_c dm
        omega
      have hlast : (e' + 12 - kpM dm + (kpM dm - 1)) % 12 = e := by have := kpM_c dm; omega
      by_cases c : j = kpM dm - 1
      · rw [c, hlast]
        refine (hM1.1.fr (fun q a1 a2 => g3 q (by omega))).cg (fun k hk => ?_) (fun k hk => ?_) (fun k hk => ?_)
        all_goals
          have hkc := kpM_c dm
          simp only [kpD]
          by_cases c2 : dm = 12
          · rw [if_pos c2, if_neg (by omega)]
            unfold blk
            first
              | rw [if_pos (show 15 * (kpM dm - 1) + k - 165 < 5 by omega), show 15 * (kpM dm - 1) + k - 165 = k by omega]
              | rw [if_neg (show ¬ 15 * (kpM dm - 1) + 5 + k - 165 < 5 by omega), if_pos (show 15 * (kpM dm - 1) + 5 + k - 165 < 10 by omega), show 15 * (kpM dm - 1) + 5 + k - 165 - 5 = k by omega]
              | rw [if_neg (show ¬ 15 * (kpM dm - 1) + 10 + k - 165 < 5 by omega), if_neg (show ¬ 15 * (kpM dm - 1) + 10 + k - 165 < 10 by omega), show 15 * (kpM dm - 1) + 10 + k - 165 - 10 = k by omega]
          · rw [if_neg c2, if_pos (by omega)]
            unfold blk
            first
              | rw [if_pos (show 15 * (kpM dm - 1) + k - 15 * dm < 5 by omega), show 15 * (kpM dm - 1) + k - 15 * dm = k by omega]
              | rw [if_neg (show ¬ 15 * (kpM dm - 1) + 5 + k - 15 * dm < 5 by omega), if_pos (show 15 * (kpM dm - 1) + 5 + k - 15 * dm < 10 by omega), show 15 * (kpM dm - 1) + 5 + k - 15 * dm - 5 = k by omega]
              | rw [if_neg (show ¬ 15 * (kpM dm - 1) + 10 + k - 15 * dm < 5 by omega), if_neg (show ¬ 15 * (kpM dm - 1) + 10 + k - 15 * dm < 10 by omega), show 15 * (kpM dm - 1) + 10 + k - 15 * dm - 10 = k by omega]
      · have hne : (e' + 12 - kpM dm + j) % 12 ≠ e := fun q => c (hnew j q hj)
        by_cases c2 : dm = 12
        · have hk : kpM dm = 12 := by unfold kpM; rw [if_pos c2]
          have hidx : (e' + 12 - kpM dm + j) % 12 = (e + 12 - dm + (j + 1)) % 12 := by omega
          rw [hidx] at hne ⊢
          refine ((h4 (j + 1) (by omega)).fr (fun q a1 a2 => (g3 q (by omega)).trans (f1 q (by omega)))).cg (fun k hk => ?_) (fun k hk => ?_) (fun k hk => ?_)
          all_goals
            simp only [kpD, if_pos c2]
            rw [if_pos (by omega)]
            congr 1
            omega
        · have hk : kpM dm = dm + 1 := by unfold kpM; rw [if_neg c2]
          have hidx : (e' + 12 - kpM dm + j) % 12 = (e + 12 - dm + j) % 12 := by omega
          rw [hidx] at hne ⊢
          refine ((h4 j (by omega)).fr (fun q a1 a2 => (g3 q (by omega)).trans (f1 q (by omega)))).cg (fun k hk => ?_) (fun k hk => ?_) (fun k hk => ?_)
          all_goals
            simp only [kpD, if_neg c2]
            rw [if_neg (by omega)]
  refine ok_b (gI_of o1 rfl) ?_
  by_cases c : e = 11
  · refine ok_t (by rw [c]; rfl) ?_
    exact fin 0 (by omega)
  · refine ok_f (fun q => c (nI_inj (b := 11) (by omega) (by decide) q)) ?_
    refine ok_b (gI_of o1 rfl) ?_
    rw [e1]
    exact fin (e + 1) (by omega)
theorem restore_ok {r n0 : Nat} {t0 b0 l0 : Nat → Nat} (h : DD M a n dm dd) (h1 : 0 < dm) (hR : RW M r n0 t0 b0 l0) (hdis : r + 4 ≤ a ∨ a + 50 ≤ r) (hF : 10 ≤ F) : Ok (f_X0_restoreLatest F a r M) (fun M' => DD M' a n (dm - 1) dd ∧ RW M' r n (fun k => dd (15 * (dm - 1) + k)) (fun k => dd (15 * (dm - 1) + 5 + k)) (fun k => dd (15 * (dm - 1) + 10 + k)) ∧ ∀ q, (q < r ∨ r + 4 ≤ q) → q ≠ a → M' q = M q) := by
  obtain ⟨e, he, hd, h0, hq, h3, h4⟩ := h
  unfold f_X0_restoreLatest
  refine ok_b (gI_of h0 rfl) ?_
  refine ok_f (nI_ne0 h1 (by omega)) ?_
  have fin : ∀ e', e' = (e + 11) % 12 → Ok (j_X0_restoreLatest_27 F a r (nI e') a M) (fun M' => DD M' a n (dm - 1) dd ∧ RW M' r n (fun k => dd (15 * (dm - 1) + k)) (fun k => dd (15 * (dm - 1) + 5 + k)) (fun k => dd (15 * (dm - 1) + 10 + k)) ∧ ∀ q, (q < r ∨ r + 4 ≤ q) → q ≠ a → M' q = M q) := by
    intro e' he'
    unfold j_X0_restoreLatest_27
    refine ok_b (put_of h0 (by simp)) ?_
    have o2 : x_up M a (.inr (0, [Value.ref (a + 1), .int (nI e), .int (nI dm)].set 1 (.int (nI e')))) a = some (.inr (0, [Value.ref (a + 1), .int (nI e'), .int (nI dm)])) := by rw [up_s]; rfl
    refine ok_b (gI_of o2 rfl) ?_
    rw [e_pred h1]
    refine ok_b (put_of o2 (by simp)) ?_
    generalize hm : x_up (x_up M a (.inr (0, [Value.ref (a + 1), .int (nI e), .int (nI dm)].set 1 (.int (nI e'))))) a (.inr (0, [Value.ref (a + 1), .int (nI e'), .int (nI dm)].set 2 (.int (nI (dm - 1))))) = M3
    have g3 : ∀ q, q ≠ a → M3 q = M q := fun q hq => by subst hm; rw [up_n hq, up_n hq]
    have o3 : M3 a = some (.inr (0, [Value.ref (a + 1), .int (nI e'), .int (nI (dm - 1))])) := by subst hm; rw [up_s]; rfl
    have hq3 := hq.fr (g3 (a + 1) (by omega))
    have hR3 := hR.fr (fun q a1 a2 => g3 q (by omega))
    have hs3 := (h4 (dm - 1) (by omega)).fr (M' := M3) (fun q a1 a2 => g3 q (by omega))
    rw [show (e + 12 - dm + (dm - 1)) % 12 = e' by omega] at hs3
    refine ok_b (gR_of o3 rfl) ?_
    refine ok_b (gI_of o3 rfl) ?_
    refine ok_b (hq3.rd e' rfl (by omega) (by decide)) ?_
    refine ok_b (ob_of hR3.1) ?_
    refine ok_m (copyFrom_ok hR3 hs3 (by omega) hF) (fun M4 hM4 => ?_)
    have f4 := hM4.2
    refine ok_v ⟨⟨e', by omega, by omega, (f4 a (by omega)).trans o3, hq3.fr (f4 _ (by omega)), fun i hi => ?_, fun j hj => ?_⟩, hM4.1, fun q q1 q2 => (f4 q (by omega)).trans (g3 q q2)⟩
    · obtain ⟨n', t', b', l', hr'⟩ := h3 i hi
      exact ⟨_, _, _, _, hr'.fr (fun q a1 a2 => (f4 q (by omega)).trans (g3 q (by omega)))⟩
    · rw [show (e' + 12 - (dm - 1) + j) % 12 = (e + 12 - dm + j) % 12 by omega]
      exact (h4 j (by omega)).fr (fun q a1 a2 => (f4 q (by omega)).trans (g3 q (by omega)))
  refine ok_b (gI_of h0 rfl) ?_
  by_cases c : e = 0
  · refine ok_t (by rw [c]; rfl) ?_
    exact fin 11 (by omega)
  · refine ok_f (fun q => c (nI_inj (b := 0) (by omega) (by decide) q)) ?_
    refine ok_b (gI_of h0 rfl) ?_
    rw [e_pred (by omega)]
    exact fin (e - 1) (by omega)
end DEEDS
