-- ROUND AND ROUND
def itr (g : Nat → Nat) : Nat → Nat → Nat
  | 0, p => p
  | k + 1, p => g (itr g k p)
theorem itr_lt {g : Nat → Nat} {m : Nat} (h : ∀ p, p < m → g p < m) : ∀ (k : Nat) {p : Nat}, p < m → itr g k p < m
  | 0, _, hp => hp
  | k + 1, _, hp => h _ (itr_lt h k hp)
theorem itr_add (g : Nat → Nat) (i : Nat) (p : Nat) : ∀ j, itr g (i + j) p = itr g j (itr g i p)
  | 0 => rfl
  | j + 1 => by rw [← Nat.add_assoc]; simp only [itr]; rw [itr_add g i p j]
theorem itr_inj {g : Nat → Nat} {m : Nat} (h : ∀ p, p < m → g p < m) (hi : ∀ p q, p < m → q < m → g p = g q → p = q) : ∀ (k : Nat) {p q : Nat}, p < m → q < m → itr g k p = itr g k q → p = q
  | 0, _, _, _, _, e => e
  | k + 1, _, _, hp, hq, e => itr_inj h hi k hp hq (hi _ _ (itr_lt h k hp) (itr_lt h k hq) e)
theorem itr_mul {g : Nat → Nat} {p c : Nat} (e : itr g c p = p) : ∀ k, itr g (c * k) p = p
  | 0 => rfl
  | k + 1 => by rw [Nat.mul_succ, itr_add, itr_mul e k, e]
theorem itr_mod {g : Nat → Nat} {p c : Nat} (e : itr g c p = p) (T : Nat) : itr g (T % c) p = itr g T p := by
  have h := Nat.div_add_mod T c
  have h2 : itr g T p = itr g (c * (T / c) + T % c) p := by rw [h]
  rw [h2, itr_add, itr_mul e]
/-- how long till it comes back -/
theorem period_ex {g : Nat → Nat} {m : Nat} (h : ∀ p, p < m → g p < m) (hi : ∀ p q, p < m → q < m → g p = g q → p = q) {p : Nat} (hp : p < m) : ∃ c, 1 ≤ c ∧ c ≤ m ∧ itr g c p = p ∧ ∀ k, 1 ≤ k → k < c → itr g k p ≠ p := by
  obtain ⟨i, j, hij, hj, e⟩ := fb_twice (m := m) (n := m + 1) (f := fun k => itr g k p) (fun k _ => itr_lt h k hp) (by omega)
  have e2 : itr g (j - i) p = p := by
    have h3 : itr g j p = itr g i (itr g (j - i) p) := by rw [← itr_add]; congr 1; omega
    rw [h3] at e
    exact (itr_inj h hi i hp (itr_lt h (j - i) hp) e).symm
  obtain ⟨c, hc, hmin⟩ := pk_least (fun c => 1 ≤ c ∧ itr g c p = p) ⟨j - i, by omega, e2⟩
  refine ⟨c, hc.1, ?_, hc.2, fun k h1 h2 e3 => hmin k h2 ⟨h1, e3⟩⟩
  rcases Nat.lt_or_ge (j - i) c with q | q
  · exact absurd ⟨by omega, e2⟩ (hmin (j - i) q)
  · omega
theorem period_uq {g : Nat → Nat} {p c c' : Nat} (h1 : 1 ≤ c) (h2 : itr g c p = p) (h3 : ∀ k, 1 ≤ k → k < c → itr g k p ≠ p) (h1' : 1 ≤ c') (h2' : itr g c' p = p) (h3' : ∀ k, 1 ≤ k → k < c' → itr g k p ≠ p) : c = c' := by
  rcases Nat.lt_trichotomy c c' with q | q | q
  · exact absurd h2 (h3' c h1 q)
  · exact q
  · exact absurd h2' (h3 c' h1' q)
/-- marks along a way, till one that is marked -/
def ch (g : Nat → Nat) : Nat → (Nat → Bool) → Nat → (Nat → Bool)
  | 0, s, _ => s
  | f + 1, s, q => if s q = true then s else ch g f (fun x => if x = q then true else s x) (g q)
def rs (g : Nat → Nat) (m : Nat) : Nat → (Nat → Bool) × Nat
  | 0 => (fun _ => false, 0)
  | i + 1 => if (rs g m i).1 i = true then rs g m i else (ch g m (rs g m i).1 i, (rs g m i).2 + 1)
def bz (s : Bool) : Int32 := if s = true then 1 else 0
theorem ch_cg {g g' : Nat → Nat} {m : Nat} (h : ∀ p, p < m → g p < m) (hg : ∀ p, p < m → g p = g' p) : ∀ (f : Nat) (s : Nat → Bool) {q : Nat}, q < m → ch g f s q = ch g' f s q
  | 0, _, _, _ => rfl
  | f + 1, s, q, hq => by simp only [ch]; rw [← hg q hq, ch_cg h hg f _ (h q hq)]
theorem rs_cg {g g' : Nat → Nat} {m : Nat} (h : ∀ p, p < m → g p < m) (hg : ∀ p, p < m → g p = g' p) : ∀ {i : Nat}, i ≤ m → rs g m i = rs g' m i
  | 0, _ => rfl
  | i + 1, hi => by simp only [rs]; rw [rs_cg h hg (i := i) (by omega), ch_cg h hg m _ (show i < m by omega)]
theorem itr_cg {g g' : Nat → Nat} {m : Nat} (h : ∀ p, p < m → g p < m) (hg : ∀ p, p < m → g p = g' p) : ∀ (k : Nat) {p : Nat}, p < m → itr g k p = itr g' k p
  | 0, _, _ => rfl
  | k + 1, _, hp => by simp only [itr]; rw [← itr_cg h hg k hp, hg _ (itr_lt h k hp)]
theorem rs_le {g : Nat → Nat} {m : Nat} : ∀ i, (rs g m i).2 ≤ i
  | 0 => Nat.le_refl _
  | i + 1 => by
    have := rs_le (g := g) (m := m) i
    simp only [rs]
    split
    · omega
    · dsimp only; omega
def lss (g : Nat → Nat) (p : Nat) : Nat := if g p < p then p - g p else g p - p
section LINE
variable {M : XM} {F a m : Nat} {g : Nat → Nat} {z : Nat → Int32}
theorem periodOf_ok (h : LN M a m g z) (hm : m ≤ 495) (hg : ∀ p, p < m → g p < m) {p c : Nat} (hp : p < m) (h1 : 1 ≤ c) (h2 : c ≤ m) (h3 : itr g c p = p) (h4 : ∀ k, 1 ≤ k → k < c → itr g k p ≠ p) (hF : 1000 ≤ F) : f_X1_periodOf F a (nI p) M = some (nI c) := by
  unfold f_X1_periodOf
  refine bs (gR_of h.1 rfl) (bs (h.2.1.rd p rfl (by omega) (by decide)) ?_)
  refine ok_e (ok_loop (I := fun i q => q = (nI (itr g (i + 1) p), nI (i + 1))) (c - 1) ?_ ?_ (c - 1) 0 F _ (by omega) (by omega) rfl)
  · rintro k i q hi rfl hk
    have hb := itr_lt hg (i + 1) hp
    unfold b_X1_periodOf_9
    refine ok_b (gI_of h.1 rfl) ?_
    refine ok_f (nI_ge (by omega) (by omega)) ?_
    refine ok_f (fun e => h4 (i + 1) (by omega) (by omega) (nI_inj (by omega) (by omega) e)) ?_
    refine ok_b (gR_of h.1 rfl) ?_
    refine ok_b (h.2.1.rd (itr g (i + 1) p) rfl (by omega) (by decide)) ?_
    exact hk _ (by rw [e1]; rfl)
  · rintro k q rfl
    rw [show c - 1 + 1 = c by omega, h3]
    unfold b_X1_periodOf_9
    refine ok_b (gI_of h.1 rfl) ?_
    by_cases e : m ≤ c
    · exact ok_t (nI_le e (by omega)) (ok_v rfl)
    · exact ok_f (nI_ge (by omega) (by omega)) (ok_t rfl (ok_v rfl))
theorem behind_ok (h : LN M a m g z) (hm : m ≤ 495) (hg : ∀ p, p < m → g p < m) (hi : ∀ p q, p < m → q < m → g p = g q → p = q) {p T : Nat} (hp : p < m) (hT : T ≤ 9999) (hF : 1000 ≤ F) : f_X1_behind F a (nI p) (nI T) M = some (nI (itr g T p)) := by
  obtain ⟨c, h1, h2, h3, h4⟩ := period_ex hg hi hp
  have hlt : T % c < c := Nat.mod_lt _ (by omega)
  unfold f_X1_behind
  refine bs (ob_of h.1) (bs (periodOf_ok h hm hg hp h1 h2 h3 h4 hF) (ct (nI_le (a := 1) h1 (by omega)) ?_))
  refine bs (v := ()) (by unfold x_n0; rw [if_neg (nI_ne0 (by omega) (by omega))]) ?_
  rw [pk_rem (by omega) (by omega) (by omega), ← itr_mod h3 T]
  refine ok_e (ok_loop (I := fun i q => q = (nI (itr g i p), nI i)) (T % c) ?_ ?_ (T % c) 0 F _ (by omega) (by omega) rfl)
  · rintro k i q hi rfl hk
    have hb := itr_lt hg i hp
    unfold b_X1_behind_26
    refine ok_f (nI_ge hi (by omega)) ?_
    refine ok_b (gR_of h.1 rfl) ?_
    refine ok_b (h.2.1.rd (itr g i p) rfl (by omega) (by decide)) ?_
    exact hk _ (by rw [e1]; rfl)
  · rintro k q rfl
    unfold b_X1_behind_26
    exact ok_t (nI_le (Nat.le_refl _) (by omega)) (ok_v rfl)
theorem goingDown_ok (h : LN M a m g z) (hm : m ≤ 495) (hg : ∀ p, p < m → g p < m) (hF : 1000 ≤ F) : f_X1_goingDown F a M = some (nI (fb_ct (fun p => decide (g p < p)) m)) := by
  unfold f_X1_goingDown
  refine ok_e (ok_loop (I := fun i q => q = (nI (fb_ct (fun p => decide (g p < p)) i), nI i)) m ?_ ?_ m 0 F _ (by omega) (by omega) rfl)
  · rintro k i q hi rfl hk
    have hb := hg i hi
    unfold b_X1_goingDown_4
    refine ok_b (gI_of h.1 rfl) ?_
    refine ok_f (nI_ge hi (by omega)) ?_
    refine ok_b (gR_of h.1 rfl) ?_
    refine ok_b (h.2.1.rd i rfl (by omega) (by decide)) ?_
    by_cases c : i ≤ g i
    · refine ok_t (nI_le c (by omega)) ?_
      exact hk _ (by rw [e1, fb_ct_succ, if_neg (by simp; omega)]; rfl)
    · refine ok_f (nI_ge (by omega) (by omega)) ?_
      exact hk _ (by rw [e1, e1, fb_ct_succ, if_pos (by simp; omega)])
  · rintro k q rfl
    unfold b_X1_goingDown_4
    refine ok_b (gI_of h.1 rfl) ?_
    exact ok_t (nI_le (Nat.le_refl _) (by omega)) (ok_v rfl)
theorem abs_d {x y : Nat} (hx : x < 1000) (hy : y < 1000) : (if 0 ≤ nI x - nI y then nI x - nI y else 0 - (nI x - nI y)) = nI (if x < y then y - x else x - y) := by
  by_cases c : x < y
  · have h1 := pk_sneg (a := x) (b := y) (by omega) c
    rw [if_neg (fun q => absurd h1 (Int32.not_lt.mpr q)), if_pos c, ← pk_sub (by omega)]
    rw [Int32.zero_sub, Int32.neg_sub]
  · rw [pk_sub (by omega), if_pos (nI_pos' (by omega)), if_neg c]
theorem wayTogether_ok (h : LN M a m g z) (hm : m ≤ 495) (hg : ∀ p, p < m → g p < m) (hF : 1000 ≤ F) : f_X1_wayTogether F a M = some (nI (fb_sm (lss g) m)) := by
  unfold f_X1_wayTogether
  refine ok_e (ok_loop (I := fun i q => q = (nI (fb_sm (lss g) i), nI i)) m ?_ ?_ m 0 F _ (by omega) (by omega) rfl)
  · rintro k i q hi rfl hk
    have hb := hg i hi
    unfold b_X1_wayTogether_4
    refine ok_b (gI_of h.1 rfl) ?_
    refine ok_f (nI_ge hi (by omega)) ?_
    refine ok_b (gR_of h.1 rfl) ?_
    refine ok_b (h.2.1.rd i rfl (by omega) (by decide)) ?_
    refine hk _ ?_
    dsimp only
    rw [abs_d (by omega) (by omega), e1, nI_add, fb_sm_succ]
    rfl
  · rintro k q rfl
    unfold b_X1_wayTogether_4
    refine ok_b (gI_of h.1 rfl) ?_
    exact ok_t (nI_le (Nat.le_refl _) (by omega)) (ok_v rfl)
/-- the marks stand in the row -/
def MK (z : Nat → Int32) (m : Nat) (s : Nat → Bool) : Prop := ∀ k, k < m → z k = bz (s k)
theorem markRound_ok (h : LN M a m g z) (hm : m ≤ 495) (hg : ∀ p, p < m → g p < m) {s : Nat → Bool} (hz : MK z m s) {p : Nat} (hp : p < m) (hF : 1000 ≤ F) :
    Ok (f_X1_markRound F a (nI p) M) (fun M' => (∃ z', LN M' a m g z' ∧ MK z' m (ch g m s p)) ∧ Fr M M' a (a + 3)) := by
  unfold f_X1_markRound
  refine ok_loop (I := fun i q => ∃ (p' : Nat) (s' : Nat → Bool) (z' : Nat → Int32), p' < m ∧ q.1 = nI p' ∧ q.2.1 = nI i ∧ LN q.2.2 a m g z' ∧ MK z' m s' ∧ ch g (m - i) s' p' = ch g m s p ∧ Fr M q.2.2 a (a + 3)) m ?_ ?_ m 0 F _ (by omega) (by omega) ⟨p, s, z, hp, rfl, rfl, h, hz, rfl, Fr.rf⟩
  · rintro k i ⟨q1, q2, q3⟩ hi ⟨p', s', z', hp', h1, h2, hL, hk2, e, fr⟩ hk
    dsimp only at h1 h2 hL fr
    subst h1 h2
    obtain ⟨d, hd⟩ : ∃ d, m - i = d + 1 := ⟨m - i - 1, by omega⟩
    rw [hd] at e
    unfold b_X1_markRound_4
    dsimp only
    refine ok_b (gI_of hL.1 rfl) ?_
    refine ok_f (nI_ge hi (by omega)) ?_
    refine ok_b (gR_of hL.1 rfl) ?_
    refine ok_b (hL.2.2.rd p' rfl (by omega) (by decide)) ?_
    rw [hk2 p' hp']
    cases hs : s' p' with
    | true =>
      simp only [ch, hs, if_true] at e
      refine ok_f (by decide) ?_
      exact ok_v ⟨⟨z', hL, by rw [← e]; exact hk2⟩, fr⟩
    | false =>
      simp only [ch, hs, Bool.false_eq_true, if_false] at e
      refine ok_t (by decide) ?_
      refine ok_b (gR_of hL.1 rfl) ?_
      refine ok_m (hL.2.2.wr p' (vp_nar .boolean 1) rfl (by omega) (by decide)) (fun M1 hM1 => ?_)
      have hL1 : LN M1 a m g (upJ z' p' (vp_nar .boolean 1)) := ⟨(hM1.2 a (by omega)).trans hL.1, hL.2.1.fr (hM1.2 _ (by omega)), hM1.1⟩
      refine ok_b (gR_of hL1.1 rfl) ?_
      refine ok_b (hL1.2.1.rd p' rfl (by omega) (by decide)) ?_
      refine hk _ ⟨g p', (fun x => if x = p' then true else s' x), _, hg p' hp', rfl, e1 i, hL1, fun x hx => ?_, by rw [← e]; congr 1; omega, fr.tr (fun q hq => hM1.2 q (by omega))⟩
      simp only [upJ]
      by_cases c : x = p'
      · rw [if_pos c, if_pos c]; rfl
      · rw [if_neg c, if_neg c]; exact hk2 x hx
  · rintro k ⟨q1, q2, q3⟩ ⟨p', s', z', hp', h1, h2, hL, hk2, e, fr⟩
    dsimp only at h1 h2 hL fr
    subst h1 h2
    rw [Nat.sub_self] at e
    simp only [ch] at e
    unfold b_X1_markRound_4
    dsimp only
    refine ok_b (gI_of hL.1 rfl) ?_
    refine ok_t (nI_le (Nat.le_refl m) (by omega)) ?_
    exact ok_v ⟨⟨z', hL, by rw [← e]; exact hk2⟩, fr⟩
theorem lrounds_ok (h : LN M a m g z) (hm : m ≤ 495) (hg : ∀ p, p < m → g p < m) (hF : 1000 ≤ F) :
    Ok (f_X1_rounds F a M) (fun r => r.1 = nI (rs g m m).2 ∧ (∃ z', LN r.2 a m g z') ∧ Fr M r.2 a (a + 3)) := by
  unfold f_X1_rounds
  refine ok_loop (I := fun i q => q.1 = nI i ∧ (∃ z', LN q.2 a m g z' ∧ ∀ k, k < i → z' k = 0) ∧ Fr M q.2 a (a + 3)) m ?_ ?_ m 0 F _ (by omega) (by omega) ⟨rfl, ⟨z, h, fun k hk => absurd hk (Nat.not_lt_zero k)⟩, Fr.rf⟩
  · rintro k i ⟨q1, q2⟩ hi ⟨rfl, ⟨z', hL, hz⟩, fr⟩ hk
    dsimp only at hL fr
    unfold b_X1_rounds_2
    refine ok_b (gI_of hL.1 rfl) ?_
    refine ok_f (nI_ge hi (by omega)) ?_
    refine ok_b (gR_of hL.1 rfl) ?_
    refine ok_m (hL.2.2.wr i (vp_nar .boolean 0) rfl (by omega) (by decide)) (fun M1 hM1 => ?_)
    refine hk _ ⟨e1 i, ⟨_, ⟨(hM1.2 a (by omega)).trans hL.1, hL.2.1.fr (hM1.2 _ (by omega)), hM1.1⟩, fun k hk => ?_⟩, fr.tr (fun q hq => hM1.2 q (by omega))⟩
    simp only [upJ]
    by_cases c : k = i
    · rw [if_pos c]; rfl
    · rw [if_neg c]; exact hz k (by omega)
  · rintro k ⟨q1, q2⟩ ⟨rfl, ⟨z', hL, hz⟩, fr⟩
    dsimp only at hL fr
    unfold b_X1_rounds_2
    refine ok_b (gI_of hL.1 rfl) ?_
    refine ok_t (nI_le (Nat.le_refl m) (by omega)) ?_
    refine ok_loop (I := fun i q => q.1 = nI (rs g m i).2 ∧ q.2.1 = nI i ∧ (∃ z', LN q.2.2 a m g z' ∧ MK z' m (rs g m i).1) ∧ Fr M q.2.2 a (a + 3)) m ?_ ?_ m 0 F _ (by omega) (by omega) ⟨rfl, rfl, ⟨z', hL, fun k hk => hz k hk⟩, fr⟩
    · rintro k27 i ⟨q1, q3, q4⟩ hi ⟨h1, h2, ⟨z2, hL2, hz2⟩, fr2⟩ hk27
      dsimp only at h1 h2 hL2 fr2
      subst h1 h2
      unfold b_X1_rounds_27
      dsimp only
      refine ok_b (gI_of hL2.1 rfl) ?_
      refine ok_f (nI_ge hi (by omega)) ?_
      refine ok_b (gR_of hL2.1 rfl) ?_
      refine ok_b (hL2.2.2.rd i rfl (by omega) (by decide)) ?_
      rw [hz2 i hi]
      cases hs : (rs g m i).1 i with
      | true =>
        refine ok_f (by decide) ?_
        refine hk27 _ ?_
        simp only [rs, hs, if_true]
        exact ⟨trivial, e1 i, ⟨z2, hL2, hz2⟩, fr2⟩
      | false =>
        refine ok_t (by decide) ?_
        refine ok_b (ob_of hL2.1) ?_
        refine ok_m (markRound_ok hL2 hm hg hz2 hi hF) (fun M3 hM3 => ?_)
        refine hk27 _ ?_
        simp only [rs, hs, Bool.false_eq_true, if_false]
        exact ⟨e1 _, e1 i, hM3.1, fr2.tr hM3.2⟩
    · rintro k27 ⟨q1, q3, q4⟩ ⟨h1, h2, ⟨z2, hL2, hz2⟩, fr2⟩
      dsimp only at h1 h2 hL2 fr2
      subst h1 h2
      unfold b_X1_rounds_27
      dsimp only
      refine ok_b (gI_of hL2.1 rfl) ?_
      refine ok_t (nI_le (Nat.le_refl m) (by omega)) ?_
      exact ok_v ⟨rfl, ⟨z2, hL2⟩, fr2⟩
end LINE
-- GREATEST DIVISORS
theorem gcd_steps : ∀ (j a b : Nat), b < 2 ^ j → ∃ k, k ≤ 2 * j ∧ ∀ (P : Nat → Nat → Nat → Prop), (∀ i x y, y ≠ 0 → P i x y → P (i + 1) y (x % y)) → P 0 a b → P k (Nat.gcd a b) 0
  | 0, a, b, h => by
    have : b = 0 := by simp at h; exact h
    subst this
    exact ⟨0, by omega, fun P hs h0 => by rw [Nat.gcd_zero_right]; exact h0⟩
  | j + 1, a, b, h => by
    rcases Nat.eq_zero_or_pos b with q | q
    · subst q
      exact ⟨0, by omega, fun P hs h0 => by rw [Nat.gcd_zero_right]; exact h0⟩
    · rcases Nat.eq_zero_or_pos (a % b) with q2 | q2
      · refine ⟨1, by omega, fun P hs h0 => ?_⟩
        have := hs 0 a b (by omega) h0
        rw [q2] at this
        rw [Nat.gcd_comm, Nat.gcd_rec, q2, Nat.gcd_zero_left]
        exact this
      · have hlt : b % (a % b) < 2 ^ j := by
          have h1 := Nat.mod_lt a q
          have h2 := Nat.mod_lt b q2
          have h3 := Nat.div_add_mod b (a % b)
          have h4 : 1 ≤ b / (a % b) := (Nat.one_le_div_iff q2).mpr (by omega)
          have h5 : a % b * 1 ≤ a % b * (b / (a % b)) := Nat.mul_le_mul_left _ h4
          rw [Nat.pow_succ] at h
          omega
        obtain ⟨k, hk, hP⟩ := gcd_steps j (a % b) (b % (a % b)) hlt
        refine ⟨k + 2, by omega, fun P hs h0 => ?_⟩
        have h1 := hs 0 a b (by omega) h0
        have h2 := hs 1 b (a % b) (by omega) h1
        have h3 := hP (fun i x y => P (i + 2) x y) (fun i x y hy hp => hs (i + 2) x y hy hp) h2
        rw [Nat.gcd_comm a b, Nat.gcd_rec b a, Nat.gcd_rec (a % b) b, Nat.gcd_comm]
        exact h3
theorem greatestDivisor_ok {F x y : Nat} {M : XM} (hx : x < 2147483648) (hy : y < 1024) (hF : 1000 ≤ F) : f_X8_greatestDivisor F (nI x) (nI y) M = some (nI (Nat.gcd x y)) := by
  obtain ⟨k, hk, hP⟩ := gcd_steps 10 x y (by omega)
  unfold f_X8_greatestDivisor
  have h := hP (fun i u v => i ≤ k → u < 2147483648 ∧ v < 2147483648 ∧ ∀ r, (∀ G, k - i < G → x_it (b_X8_greatestDivisor_7 F M) G (nI u, nI v, nI i) = some r) → ∀ G, k < G → x_it (b_X8_greatestDivisor_7 F M) G (nI x, nI y, nI 0) = some r) ?_ (fun _ => ⟨hx, by omega, fun r hr G hG => hr G (by omega)⟩)
  · obtain ⟨h1, h2, h3⟩ := h (Nat.le_refl k)
    refine h3 _ (fun G hG => ?_) F (by omega)
    obtain ⟨G', rfl⟩ : ∃ G', G = G' + 1 := ⟨G - 1, by omega⟩
    show b_X8_greatestDivisor_7 _ _ _ _ = _
    unfold b_X8_greatestDivisor_7
    exact cf (nI_ge (b := 64) (by omega) (by omega)) (ct rfl rfl)
  · intro i u v hv hp hi
    obtain ⟨h1, h2, h3⟩ := hp (by omega)
    refine ⟨h2, Nat.lt_of_le_of_lt (Nat.mod_le _ _) h1, fun r hr => h3 r (fun G hG => ?_)⟩
    obtain ⟨G', rfl⟩ : ∃ G', G = G' + 1 := ⟨G - 1, by omega⟩
    show b_X8_greatestDivisor_7 _ _ _ _ = _
    unfold b_X8_greatestDivisor_7
    refine cf (nI_ge (b := 64) (by omega) (by omega)) (cf (nI_ne0 (by omega) (by omega)) (bs (v := ()) (by unfold x_n0; rw [if_neg (nI_ne0 (by omega) (by omega))]) ?_))
    dsimp only
    rw [pk_rem (by omega) (by omega) (by omega), e1]
    exact hr G' (by omega)
