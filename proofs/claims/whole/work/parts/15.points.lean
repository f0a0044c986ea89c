-- POINTS
def ps (u l : Nat → Nat) (k : Nat) : Nat := fb_sm (fun j => l (u j)) k
theorem ps_s (u l : Nat → Nat) (k : Nat) : ps u l (k + 1) = ps u l k + l (u k) := fb_sm_succ _ _
theorem ps_0 (u l : Nat → Nat) : ps u l 0 = 0 := rfl
theorem ps_le (u l : Nat → Nat) {i j : Nat} (h : i ≤ j) : ps u l i ≤ ps u l j := by
  obtain ⟨d, rfl⟩ : ∃ d, j = i + d := ⟨j - i, by omega⟩
  exact fb_sm_mono _ i d
theorem PM.sum : ∀ {n : Nat} {t : Nat → Nat} (l : Nat → Nat), PM n t → ps t l n = fb_sm l n
  | 0, _, _, _ => rfl
  | n + 1, t, l, h => by
    obtain ⟨p, hp, hpn⟩ := h.ex (x := n) (by omega)
    have h' : PM n (fun k => if k = p then t n else t k) := by
      refine ⟨fun k hk => ?_, fun i j hij hj e => ?_⟩
      · dsimp only
        have b1 := h.1 k (by omega)
        have b2 := h.1 n (by omega)
        split
        · rename_i e
          rcases Nat.lt_or_ge (t n) n with q | q
          · exact q
          · have := h.uq (i := n) (j := p) (by omega) hp (by omega); omega
        · rename_i e
          rcases Nat.lt_or_ge (t k) n with q | q
          · exact q
          · have := h.uq (i := k) (j := p) (by omega) hp (by omega); omega
      · dsimp only at e
        split at e <;> split at e
        · omega
        · have := h.uq (i := n) (j := j) (by omega) (by omega) e; omega
        · have := h.uq (i := i) (j := n) (by omega) (by omega) e; omega
        · exact h.2 i j hij (by omega) e
    have ih := PM.sum l h'
    rw [ps_s, fb_sm_succ, ← ih]
    rcases Nat.lt_or_ge p n with q | q
    · have hu := fb_sm_upd (fun j => l (t j)) (l (t n)) (i := p) (n := n) q
      have e : fb_sm (fun k => if k = p then l (t n) else l (t k)) n = ps (fun k => if k = p then t n else t k) l n := by
        unfold ps
        refine fb_sm_cong (fun k _ => ?_)
        dsimp only
        split <;> rfl
      rw [e] at hu
      rw [hpn] at hu
      unfold ps at *
      omega
    · have e : p = n := by omega
      subst e
      rw [hpn]
      congr 1
      unfold ps
      refine fb_sm_cong (fun k hk => ?_)
      dsimp only
      rw [if_neg (by omega)]
/-- the interval in which p lies -/
def kf (u l : Nat → Nat) (p : Nat) : Nat → Nat
  | 0 => 0
  | n + 1 => if ps u l n ≤ p then n else kf u l p n
theorem kf_sp {u l : Nat → Nat} {p : Nat} : ∀ {n : Nat}, p < ps u l n → kf u l p n < n ∧ ps u l (kf u l p n) ≤ p ∧ p < ps u l (kf u l p n + 1)
  | 0, h => by simp [ps_0] at h
  | n + 1, h => by
    by_cases c : ps u l n ≤ p
    · simp only [kf, if_pos c]; exact ⟨by omega, c, h⟩
    · simp only [kf, if_neg c]
      have := kf_sp (u := u) (l := l) (p := p) (n := n) (by omega)
      exact ⟨by omega, this.2⟩
theorem kf_eq {u l : Nat → Nat} {p n k : Nat} (hk : k < n) (h1 : ps u l k ≤ p) (h2 : p < ps u l (k + 1)) : kf u l p n = k := by
  have h0 : p < ps u l n := Nat.lt_of_lt_of_le h2 (ps_le u l (by omega))
  have h3 := kf_sp h0
  rcases Nat.lt_trichotomy (kf u l p n) k with q | q | q
  · have := ps_le u l (show kf u l p n + 1 ≤ k by omega); omega
  · exact q
  · have := ps_le u l (show k + 1 ≤ kf u l p n by omega); omega
/-- where a point goes -/
def gt (n : Nat) (t b l : Nat → Nat) (p : Nat) : Nat := ps b l (pl b (t (kf t l p n)) n) + (p - ps t l (kf t l p n))
theorem gt_at {n : Nat} {t b l : Nat → Nat} {i d : Nat} (hi : i < n) (hd : d < l (t i)) : gt n t b l (ps t l i + d) = ps b l (pl b (t i) n) + d := by
  have e : kf t l (ps t l i + d) n = i := kf_eq hi (by omega) (by rw [ps_s]; omega)
  unfold gt
  rw [e]
  omega
theorem tot_le {n : Nat} {t b l : Nat → Nat} (ho : OR n t b l) : fb_sm l n ≤ 495 ∧ 2 ≤ fb_sm l n := by
  obtain ⟨h2, h5, ht, hb, hl⟩ := ho
  have h1 := fb_sm_bound (f := l) (c := 99) (n := n) (fun k hk => (hl k hk).2)
  have h3 : 2 ≤ fb_sm l n := by
    have a0 := hl 0 (by omega)
    have a1 := hl 1 (by omega)
    have e2 : fb_sm l 2 = l 0 + l 1 := by simp [fb_sm]
    obtain ⟨d, rfl⟩ : ∃ d, n = 2 + d := ⟨n - 2, by omega⟩
    have := fb_sm_mono l 2 d
    omega
  refine ⟨?_, h3⟩
  have : n * 99 ≤ 5 * 99 := Nat.mul_le_mul_right 99 h5
  omega
theorem gt_sp {n : Nat} {t b l : Nat → Nat} (ho : OR n t b l) {p : Nat} (hp : p < fb_sm l n) : ∃ k j, k < n ∧ j < n ∧ t k = b j ∧ ps t l k ≤ p ∧ p < ps t l k + l (t k) ∧ gt n t b l p = ps b l j + (p - ps t l k) ∧ kf t l p n = k ∧ pl b (t k) n = j := by
  obtain ⟨h2, h5, ht, hb, hl⟩ := ho
  have hp' : p < ps t l n := by rw [ht.sum l]; exact hp
  have h1 := kf_sp hp'
  have h3 := hb.pls (ht.1 _ h1.1)
  exact ⟨kf t l p n, pl b (t (kf t l p n)) n, h1.1, h3.1, h3.2.symm, h1.2.1, by have := h1.2.2; rw [ps_s] at this; exact this, rfl, rfl, rfl⟩
theorem gt_lt {n : Nat} {t b l : Nat → Nat} (ho : OR n t b l) {p : Nat} (hp : p < fb_sm l n) : gt n t b l p < fb_sm l n := by
  obtain ⟨k, j, hk, hj, e, h1, h2, h3, -⟩ := gt_sp ho hp
  have h4 := ps_le b l (show j + 1 ≤ n by omega)
  rw [ho.2.2.2.1.sum l, ps_s, ← e] at h4
  omega
theorem gt_inj {n : Nat} {t b l : Nat → Nat} (ho : OR n t b l) {p q : Nat} (hp : p < fb_sm l n) (hq : q < fb_sm l n) (e : gt n t b l p = gt n t b l q) : p = q := by
  obtain ⟨k, j, hk, hj, e1, h1, h2, h3, -⟩ := gt_sp ho hp
  obtain ⟨k', j', hk', hj', e1', h1', h2', h3', -⟩ := gt_sp ho hq
  have hjj : j = j' := by
    rcases Nat.lt_trichotomy j j' with c | c | c
    · have := ps_le b l (show j + 1 ≤ j' by omega)
      rw [ps_s, ← e1] at this
      omega
    · exact c
    · have := ps_le b l (show j' + 1 ≤ j by omega)
      rw [ps_s, ← e1'] at this
      omega
  subst hjj
  have hkk : k = k' := ho.2.2.1.uq hk hk' (e1.trans e1'.symm)
  subst hkk
  omega
section PTS
variable {M : XM} {F r n : Nat} {t b l : Nat → Nat}
theorem letterAt_ok (h : RW M r n t b l) (ho : OR n t b l) {p : Nat} (hp : p < fb_sm l n) (hF : 10 ≤ F) : f_X3_letterAt F r (nI p) M = some (nI (t (kf t l p n))) := by
  have ht := ho.2.2.1
  have hs := tot_le ho
  have hp' : p < ps t l n := by rw [ht.sum l]; exact hp
  have h1 := kf_sp hp'
  have h5 := ho.2.1
  have hb' : ∀ i, i ≤ n → ps t l i ≤ 495 := fun i hi => by have := ps_le t l hi; rw [ht.sum l] at this; omega
  unfold f_X3_letterAt
  refine ok_e (ok_loop (I := fun i q => q = (nI (ps t l i), nI i)) (kf t l p n) ?_ ?_ (kf t l p n) 0 F _ (by omega) (by omega) rfl)
  · rintro k i q hi rfl hk
    have hti := ht.1 i (by omega)
    unfold b_X3_letterAt_4
    refine ok_b (gI_of h.1 rfl) ?_
    refine ok_f (nI_ge (by omega) (by omega)) ?_
    refine ok_b (gR_of h.1 rfl) ?_
    refine ok_b (gR_of h.1 rfl) ?_
    refine ok_b (h.2.1.rd i rfl (by omega) (by decide)) ?_
    refine ok_b (h.2.2.2.rd (t i) rfl (by omega) (by decide)) ?_
    have e : nI (ps t l i) + nI (l (t i)) = nI (ps t l (i + 1)) := by rw [nI_add, ps_s]
    dsimp only
    rw [e]
    have m := ps_le t l (show i + 1 ≤ kf t l p n by omega)
    refine ok_t (nI_le (by omega) (by omega)) ?_
    exact hk _ (by rw [e1])
  · rintro k q rfl
    have hti := ht.1 _ h1.1
    unfold b_X3_letterAt_4
    refine ok_b (gI_of h.1 rfl) ?_
    refine ok_f (nI_ge (by omega) (by omega)) ?_
    refine ok_b (gR_of h.1 rfl) ?_
    refine ok_b (gR_of h.1 rfl) ?_
    refine ok_b (h.2.1.rd _ rfl (show kf t l p n < 5 by omega) (by decide)) ?_
    refine ok_b (h.2.2.2.rd (t (kf t l p n)) rfl (by omega) (by decide)) ?_
    have e : nI (ps t l (kf t l p n)) + nI (l (t (kf t l p n))) = nI (ps t l (kf t l p n + 1)) := by rw [nI_add, ps_s]
    dsimp only
    rw [e]
    refine ok_f (nI_ge h1.2.2 (by have := hb' (kf t l p n + 1) (by omega); omega)) ?_
    refine ok_b (gR_of h.1 rfl) ?_
    refine ok_b (h.2.1.rd _ rfl (show kf t l p n < 5 by omega) (by decide)) ?_
    exact ok_v rfl
theorem startIn_ok {a : Nat} {u : Nat → Nat} (h : RW M r n t b l) (h5 : n ≤ 5) (ha : IA M a 5 u) (hu : PM n u) {x : Nat} (hx : x < n) (hF : 10 ≤ F) : f_X3_startIn F r a (nI x) M = some (nI (ps u l (pl u x n))) := by
  have h1 := hu.pls hx
  unfold f_X3_startIn
  refine ok_e (ok_loop (I := fun i q => q = (nI (ps u l i), nI i)) (pl u x n) ?_ ?_ (pl u x n) 0 F _ (by omega) (by omega) rfl)
  · rintro k i q hi rfl hk
    have hti := hu.1 i (by omega)
    unfold b_X3_startIn_5
    refine ok_b (gI_of h.1 rfl) ?_
    refine ok_f (nI_ge (by omega) (by omega)) ?_
    refine ok_b (ha.rd i rfl (by omega) (by decide)) ?_
    refine ok_f (fun e => ?_) ?_
    · have e2 := nI_inj (by omega) (by omega) e
      have := hu.ple (p := i) (by omega) e2
      omega
    refine ok_b (gR_of h.1 rfl) ?_
    refine ok_b (ha.rd i rfl (by omega) (by decide)) ?_
    refine ok_b (h.2.2.2.rd (u i) rfl (by omega) (by decide)) ?_
    exact hk _ (by rw [ps_s, ← nI_add, ← e1])
  · rintro k q rfl
    unfold b_X3_startIn_5
    refine ok_b (gI_of h.1 rfl) ?_
    refine ok_f (nI_ge (by omega) (by omega)) ?_
    refine ok_b (ha.rd _ rfl (show pl u x n < 5 by omega) (by decide)) ?_
    refine ok_t (by rw [h1.2]) ?_
    exact ok_v rfl
theorem goesTo_ok (h : RW M r n t b l) (ho : OR n t b l) {p : Nat} (hp : p < fb_sm l n) (hF : 10 ≤ F) : f_X3_goesTo F r (nI p) M = some (nI (gt n t b l p)) := by
  have ht := ho.2.2.1
  have hp' : p < ps t l n := by rw [ht.sum l]; exact hp
  have h1 := kf_sp hp'
  have hx := ht.1 _ h1.1
  unfold f_X3_goesTo
  refine bs (ob_of h.1) (bs (letterAt_ok h ho hp hF) (bs (gR_of h.1 rfl) (bs (ob_of h.1) (bs (startIn_ok h ho.2.1 h.2.1 ht hx hF) (bs (gR_of h.1 rfl) (bs (ob_of h.1) (bs (startIn_ok h ho.2.1 h.2.2.1 ho.2.2.2.1 hx hF) ?_)))))))
  rw [ht.ple h1.1 rfl, pk_sub h1.2.1, nI_add]
  unfold gt
  rw [Nat.add_comm]
-- THE LINE
def ZA (M : XM) (a len : Nat) (t : Nat → Int32) : Prop := ∃ f : Nat → Int32, M a = some (.inl (.boolean, len, .inl f)) ∧ ∀ k, k < len → f k = t k
theorem ZA.cg {a len : Nat} {t t' : Nat → Int32} (h : ZA M a len t) (h2 : ∀ k, k < len → t k = t' k) : ZA M a len t' := by
  obtain ⟨f, h1, h3⟩ := h
  exact ⟨f, h1, fun k hk => (h3 k hk).trans (h2 k hk)⟩
theorem ZA.fr {M' : XM} {a len : Nat} {t : Nat → Int32} (h : ZA M a len t) (h2 : M' a = M a) : ZA M' a len t := by
  obtain ⟨f, h1, h3⟩ := h
  exact ⟨f, h2.trans h1, h3⟩
theorem ZA.rd {a len : Nat} {t : Nat → Int32} (h : ZA M a len t) {i : Int32} (j : Nat) (hi : i = nI j) (hj : j < len) (hl : len < 2147483648) : x_a32 .boolean M a i = some (t j) := by
  obtain ⟨f, h1, h3⟩ := h
  subst hi
  simp only [x_a32, h1, if_true, x_in_nI hj hl, nIc (show j < 2147483648 by omega), h3 j hj]
theorem ZA.wr {a len : Nat} {t : Nat → Int32} (h : ZA M a len t) {i : Int32} (j : Nat) (v : Int32) (hi : i = nI j) (hj : j < len) (hl : len < 2147483648) : Ok (x_w32 .boolean M a i v) (fun M' => ZA M' a len (upJ t j v) ∧ ∀ q, q ≠ a → M' q = M q) := by
  obtain ⟨f, h1, h3⟩ := h
  subst hi
  refine ⟨x_up M a (.inl (.boolean, len, .inl (upd f j v))), ?_, ⟨upd f j v, up_s, fun k hk => ?_⟩, fun q hq => up_n hq⟩
  · simp only [x_w32, h1, if_true, x_in_nI hj hl, nIc (show j < 2147483648 by omega)]
  · simp only [upd, upJ]
    by_cases e : k = j
    · simp [e]
    · simp [e, h3 k hk]
def LN (M : XM) (a m : Nat) (g : Nat → Nat) (z : Nat → Int32) : Prop := M a = some (.inr (1, [.ref (a + 1), .ref (a + 2), .int (nI m)])) ∧ IA M (a + 1) 495 g ∧ ZA M (a + 2) 495 z
theorem LN.fr {M' : XM} {a m : Nat} {g : Nat → Nat} {z : Nat → Int32} (h : LN M a m g z) (h2 : ∀ q, a ≤ q → q < a + 3 → M' q = M q) : LN M' a m g z := ⟨(h2 a (by omega) (by omega)).trans h.1, h.2.1.fr (h2 _ (by omega) (by omega)), h.2.2.fr (h2 _ (by omega) (by omega))⟩
theorem LN.put {a m : Nat} {g : Nat → Nat} {z : Nat → Int32} (h : LN M a m g z) (m' : Nat) {v : Int32} (hv : v = nI m') : Ok (x_put M a 1 2 (.int v)) (fun M' => LN M' a m' g z ∧ Fr M M' a (a + 3)) := by
  subst hv
  rw [put_of h.1 (by simp)]
  exact ok_v ⟨⟨up_s, h.2.1.fr (up_n (by omega)), h.2.2.fr (up_n (by omega))⟩, Fr.up (by omega) (by omega)⟩
theorem lay_ok {a m0 : Nat} {g0 : Nat → Nat} {z : Nat → Int32} (h : RW M r n t b l) (ho : OR n t b l) (hL : LN M a m0 g0 z) (hd : r + 4 ≤ a ∨ a + 3 ≤ r) (hF : 1000 ≤ F) :
    Ok (f_X1_lay F a r M) (fun M' => (∃ g, LN M' a (fb_sm l n) g z ∧ ∀ p, p < fb_sm l n → g p = gt n t b l p) ∧ Fr M M' a (a + 3)) := by
  have ht := ho.2.2.1
  have hb := ho.2.2.2.1
  have hs := tot_le ho
  have h5 := ho.2.1
  have hb' : ∀ i, i ≤ n → ps t l i ≤ fb_sm l n := fun i hi => by have := ps_le t l hi; rw [ht.sum l] at this; omega
  unfold f_X1_lay
  refine ok_m (hL.put 0 rfl) (fun M0 hM0 => ?_)
  refine ok_w (P := fun M' => (∃ g, LN M' a (fb_sm l n) g z ∧ ∀ p, p < fb_sm l n → g p = gt n t b l p) ∧ Fr M0 M' a (a + 3)) ?_ (fun M' hM => ⟨hM.1, hM0.2.tr hM.2⟩)
  refine ok_loop (I := fun i q => q.1 = nI i ∧ (∃ g, LN q.2 a (ps t l i) g z ∧ ∀ p, p < ps t l i → g p = gt n t b l p) ∧ Fr M0 q.2 a (a + 3)) n ?_ ?_ n 0 F _ (by omega) (by omega) ⟨rfl, ⟨g0, hM0.1, fun p hp => by simp [ps_0] at hp⟩, Fr.rf⟩
  · rintro k i ⟨q1, q2⟩ hi ⟨rfl, ⟨g, hg, hgt⟩, fr⟩ hk
    dsimp only at hg fr
    have hR : RW q2 r n t b l := h.fr (fun q a1 a2 => (hM0.2.tr fr) q (by omega))
    have hti := ht.1 i hi
    unfold b_X1_lay_7
    refine ok_b (gI_of hR.1 rfl) ?_
    refine ok_f (nI_ge hi (by omega)) ?_
    refine ok_b (gR_of hR.1 rfl) ?_
    refine ok_b (hR.2.1.rd i rfl (by omega) (by decide)) ?_
    refine ok_b (gR_of hR.1 rfl) ?_
    refine ok_b (ob_of hR.1) ?_
    refine ok_b (startIn_ok hR h5 hR.2.2.1 hb hti (by omega)) ?_
    have hl := ho.2.2.2.2 (t i) hti
    refine ok_loop (I := fun d q => q.1 = nI d ∧ (∃ g, LN q.2 a (ps t l i + d) g z ∧ ∀ p, p < ps t l i + d → g p = gt n t b l p) ∧ Fr M0 q.2 a (a + 3)) (l (t i)) ?_ ?_ (l (t i)) 0 F _ (by omega) (by omega) ⟨rfl, ⟨g, hg, hgt⟩, fr⟩
    · rintro k36 d ⟨q3, q4⟩ hd ⟨rfl, ⟨g', hg', hgt'⟩, fr'⟩ hk36
      dsimp only at hg' fr'
      have hR' : RW q4 r n t b l := h.fr (fun q a1 a2 => (hM0.2.tr fr') q (by omega))
      have hlt : ps t l i + d < fb_sm l n := by have := hb' (i + 1) (by omega); rw [ps_s] at this; omega
      unfold b_X1_lay_36
      refine ok_b (gR_of hR'.1 rfl) ?_
      refine ok_b (hR'.2.2.2.rd (t i) rfl (by omega) (by decide)) ?_
      refine ok_f (nI_ge hd (by omega)) ?_
      refine ok_b (gI_of hg'.1 rfl) ?_
      refine ok_f (nI_ge (b := 495) (by omega) (by omega)) ?_
      refine ok_b (gR_of hg'.1 rfl) ?_
      refine ok_b (gI_of hg'.1 rfl) ?_
      refine ok_m (hg'.2.1.wr (ps t l i + d) (ps b l (pl b (t i) n) + d) rfl (nI_add _ _) (by omega) (by decide)) (fun M1 hM1 => ?_)
      have hg1 : LN M1 a (ps t l i + d) (upN g' (ps t l i + d) (ps b l (pl b (t i) n) + d)) z := ⟨(hM1.2 a (by omega)).trans hg'.1, hM1.1, hg'.2.2.fr (hM1.2 _ (by omega))⟩
      refine ok_b (gI_of hg1.1 rfl) ?_
      refine ok_m (hg1.put (ps t l i + (d + 1)) (e1 _)) (fun M2 hM2 => ?_)
      refine hk36 _ ⟨e1 d, ⟨_, hM2.1, fun p hp => ?_⟩, fr'.tr (Fr.tr (fun q hq => hM1.2 q (by omega)) hM2.2)⟩
      simp only [upN]
      by_cases c : p = ps t l i + d
      · rw [if_pos c, c, gt_at hi hd]
      · rw [if_neg c]; exact hgt' p (by omega)
    · rintro k36 ⟨q3, q4⟩ ⟨rfl, ⟨g', hg', hgt'⟩, fr'⟩
      dsimp only at hg' fr'
      have hR' : RW q4 r n t b l := h.fr (fun q a1 a2 => (hM0.2.tr fr') q (by omega))
      unfold b_X1_lay_36
      refine ok_b (gR_of hR'.1 rfl) ?_
      refine ok_b (hR'.2.2.2.rd (t i) rfl (by omega) (by decide)) ?_
      refine ok_t (nI_le (Nat.le_refl _) (by omega)) ?_
      refine hk _ ⟨e1 i, ⟨g', ?_, ?_⟩, fr'⟩
      · rw [ps_s]; exact hg'
      · rw [ps_s]; exact hgt'
  · rintro k ⟨q1, q2⟩ ⟨rfl, ⟨g, hg, hgt⟩, fr⟩
    dsimp only at hg fr
    have hR : RW q2 r n t b l := h.fr (fun q a1 a2 => (hM0.2.tr fr) q (by omega))
    unfold b_X1_lay_7
    refine ok_b (gI_of hR.1 rfl) ?_
    refine ok_t (nI_le (Nat.le_refl n) (by omega)) ?_
    rw [ht.sum l] at hg hgt
    exact ok_v ⟨⟨g, hg, hgt⟩, fr⟩
end PTS
