-- STEPS
/-- kind 0: the upper row stays, the lower moves; 1: the other way about -/
def sA (k r : Nat) : Nat := if k = 0 then r + 1 else r + 2
def mA (k r : Nat) : Nat := if k = 0 then r + 2 else r + 1
def sF (k : Nat) (t b : Nat → Nat) : Nat → Nat := if k = 0 then t else b
def mF (k : Nat) (t b : Nat → Nat) : Nat → Nat := if k = 0 then b else t
/-- the last of the first n comes right behind place p -/
def mvF (m : Nat → Nat) (n p : Nat) : Nat → Nat := fun k => if k = p + 1 then m (n - 1) else if p + 1 < k ∧ k < n then m (k - 1) else m k
/-- the one right behind place p comes to the end of the first n -/
def bkF (m : Nat → Nat) (n p : Nat) : Nat → Nat := fun k => if k = n - 1 then m (p + 1) else if p + 1 ≤ k ∧ k < n - 1 then m (k + 1) else m k
def kdI (x y : Nat) : Int32 := if x = y then -1 else if x ≤ y then 1 else 0
theorem mvF_PM {m : Nat → Nat} {n p : Nat} (h : PM n m) (hp : p + 1 < n) : PM n (mvF m n p) := by
  have key : ∀ k, k < n → ∃ j, j < n ∧ mvF m n p k = m j ∧ ((k = p + 1 ∧ j = n - 1) ∨ (p + 1 < k ∧ j + 1 = k) ∨ (k < p + 1 ∧ j = k)) := by
    intro k hk
    simp only [mvF]
    by_cases c1 : k = p + 1
    · exact ⟨n - 1, by omega, by rw [if_pos c1], Or.inl ⟨c1, rfl⟩⟩
    · by_cases c2 : p + 1 < k ∧ k < n
      · exact ⟨k - 1, by omega, by rw [if_neg c1, if_pos c2], Or.inr (Or.inl ⟨c2.1, by omega⟩)⟩
      · exact ⟨k, hk, by rw [if_neg c1, if_neg c2], Or.inr (Or.inr ⟨by omega, rfl⟩)⟩
  refine ⟨fun k hk => ?_, fun i j hij hj e => ?_⟩
  · obtain ⟨j, hj, e, -⟩ := key k hk
    rw [e]; exact h.1 j hj
  · obtain ⟨a, ha, e1, q1⟩ := key i (by omega)
    obtain ⟨c, hc, e2, q2⟩ := key j hj
    rw [e1, e2] at e
    have := h.uq ha hc e
    omega
theorem bkF_PM {m : Nat → Nat} {n p : Nat} (h : PM n m) (hp : p + 1 < n) : PM n (bkF m n p) := by
  have key : ∀ k, k < n → ∃ j, j < n ∧ bkF m n p k = m j ∧ ((k = n - 1 ∧ j = p + 1) ∨ (p + 1 ≤ k ∧ k < n - 1 ∧ j = k + 1) ∨ (k < p + 1 ∧ k < n - 1 ∧ j = k)) := by
    intro k hk
    simp only [bkF]
    by_cases c1 : k = n - 1
    · exact ⟨p + 1, by omega, by rw [if_pos c1], Or.inl ⟨c1, rfl⟩⟩
    · by_cases c2 : p + 1 ≤ k ∧ k < n - 1
      · exact ⟨k + 1, by omega, by rw [if_neg c1, if_pos c2], Or.inr (Or.inl ⟨c2.1, by omega, rfl⟩)⟩
      · exact ⟨k, hk, by rw [if_neg c1, if_neg c2], Or.inr (Or.inr ⟨by omega, by omega, rfl⟩)⟩
  refine ⟨fun k hk => ?_, fun i j hij hj e => ?_⟩
  · obtain ⟨j, hj, e, -⟩ := key k hk
    rw [e]; exact h.1 j hj
  · obtain ⟨a, ha, e1, q1⟩ := key i (by omega)
    obtain ⟨c, hc, e2, q2⟩ := key j hj
    rw [e1, e2] at e
    have := h.uq ha hc e
    omega
section STEPS
variable {M : XM} {F r n : Nat} {t b l : Nat → Nat}
theorem k01 {k : Nat} (hk : k < 2) : k = 0 ∨ k = 1 := by omega
theorem stayingRow_ok (h : RW M r n t b l) {k : Nat} (hk : k < 2) : f_X3_stayingRow r (nI k) M = some (sA k r) := by
  unfold f_X3_stayingRow
  rcases k01 hk with rfl | rfl
  · exact ct rfl (bs (gR_of h.1 rfl) rfl)
  · exact cf (by decide) (bs (gR_of h.1 rfl) rfl)
theorem movingRow_ok (h : RW M r n t b l) {k : Nat} (hk : k < 2) : f_X3_movingRow r (nI k) M = some (mA k r) := by
  unfold f_X3_movingRow
  rcases k01 hk with rfl | rfl
  · exact ct rfl (bs (gR_of h.1 rfl) rfl)
  · exact cf (by decide) (bs (gR_of h.1 rfl) rfl)
theorem RW.sI (h : RW M r n t b l) {k : Nat} (hk : k < 2) : IA M (sA k r) 5 (sF k t b) := by
  rcases k01 hk with rfl | rfl
  · exact h.2.1
  · exact h.2.2.1
theorem RW.mI (h : RW M r n t b l) {k : Nat} (hk : k < 2) : IA M (mA k r) 5 (mF k t b) := by
  rcases k01 hk with rfl | rfl
  · exact h.2.2.1
  · exact h.2.1
theorem endsAlike_ok (h : RW M r n t b l) (hn : n ≤ 5) (h0 : 0 < n) (ht : PM n t) (hb : PM n b) : f_X3_endsAlike r M = some (if t (n - 1) = b (n - 1) then 1 else 0) := by
  unfold f_X3_endsAlike
  refine bs (gR_of h.1 rfl) (bs (gI_of h.1 rfl) (bs (h.2.1.rd (n - 1) (e_pred h0) (by omega) (by decide)) (bs (gR_of h.1 rfl) (bs (gI_of h.1 rfl) (bs (h.2.2.1.rd (n - 1) (e_pred h0) (by omega) (by decide)) ?_)))))
  have h1 := ht.1 (n - 1) (by omega)
  have h2 := hb.1 (n - 1) (by omega)
  by_cases c : t (n - 1) = b (n - 1)
  · rw [if_pos c, if_pos (by rw [c])]
  · rw [if_neg c, if_neg (fun e => c (nI_inj (by omega) (by omega) e))]
theorem kindOfStep_ok (h : RW M r n t b l) (ho : OR n t b l) : f_X3_kindOfStep r M = some (kdI (l (t (n - 1))) (l (b (n - 1)))) := by
  obtain ⟨h2, h5, ht, hb, hl⟩ := ho
  have t1 := ht.1 (n - 1) (by omega)
  have b1 := hb.1 (n - 1) (by omega)
  have l1 := hl _ t1
  have l2 := hl _ b1
  unfold f_X3_kindOfStep
  refine bs (gR_of h.1 rfl) (bs (gR_of h.1 rfl) (bs (gI_of h.1 rfl) (bs (h.2.1.rd (n - 1) (e_pred (by omega)) (by omega) (by decide)) (bs (h.2.2.2.rd (t (n - 1)) rfl (by omega) (by decide)) ?_))))
  refine bs (gR_of h.1 rfl) (bs (gR_of h.1 rfl) (bs (gI_of h.1 rfl) (bs (h.2.2.1.rd (n - 1) (e_pred (by omega)) (by omega) (by decide)) (bs (h.2.2.2.rd (b (n - 1)) rfl (by omega) (by decide)) ?_))))
  refine bs (ob_of h.1) (bs (endsAlike_ok h h5 (by omega) ht hb) ?_)
  unfold kdI
  by_cases c : t (n - 1) = b (n - 1)
  · rw [if_pos c, if_neg (by decide), c, if_pos rfl]
  · rw [if_neg c, if_pos rfl]
    by_cases c2 : l (t (n - 1)) = l (b (n - 1))
    · rw [if_pos c2, if_pos (by rw [c2])]
    · rw [if_neg c2, if_neg (fun e => c2 (nI_inj (by omega) (by omega) e))]
      by_cases c3 : l (t (n - 1)) ≤ l (b (n - 1))
      · rw [if_pos c3, if_pos (nI_le c3 (by omega))]
      · rw [if_neg c3, if_neg (nI_ge (by omega) (by omega))]
theorem moveLoop {a : Nat} {m : Nat → Nat} (ha : IA M a 5 m) (hn : n ≤ 5) (hm : PM n m) {p : Nat} (hp : p + 1 < n) (hF : 10 ≤ F) :
    Ok (x_it (b_X3_moveForStep_37 F (nI (m p)) a (nI (m (n - 1)))) F (nI (n - 1), M)) (fun M' => IA M' a 5 (mvF m n p) ∧ ∀ q, q ≠ a → M' q = M q) := by
  refine ok_loop (I := fun d q => q.1 = nI (n - 1 - d) ∧ IA q.2 a 5 (fun k => if n - 1 - d < k ∧ k < n then m (k - 1) else m k) ∧ ∀ z, z ≠ a → q.2 z = M z) (n - 2 - p) ?_ ?_ (n - 2 - p) 0 F _ (by omega) (by omega) ⟨rfl, ha.cg (fun k hk => ?_), fun _ _ => rfl⟩
  · rintro k d ⟨q1, q2⟩ hd ⟨h1, h2, h3⟩ hk
    dsimp only at h1 h2 h3
    subst h1
    unfold b_X3_moveForStep_37
    refine ok_f (nI_nle (by omega) (by omega)) ?_
    have hrd : x_a32 .int q2 a (nI (n - 1 - d) - 1) = some (nI (m (n - 1 - d - 1))) := by
      rw [h2.rd (i := nI (n - 1 - d) - 1) (n - 1 - d - 1) (e_pred (by omega)) (by omega) (by decide)]
      dsimp only
      rw [if_neg (show ¬ (n - 1 - d < n - 1 - d - 1 ∧ n - 1 - d - 1 < n) by omega)]
    have b1 := hm.1 (n - 1 - d - 1) (by omega)
    have b2 := hm.1 p (by omega)
    refine ok_b hrd ?_
    refine ok_f (fun e => ?_) ?_
    · have := hm.uq (by omega) (by omega) (nI_inj (by omega) (by omega) e)
      omega
    refine ok_b hrd ?_
    refine ok_m (h2.wr (n - 1 - d) (m (n - 1 - d - 1)) rfl rfl (by omega) (by decide)) (fun M1 hM1 => ?_)
    refine hk _ ⟨by show nI (n - 1 - d) + (-1) = _; rw [e_m1 (by omega)]; congr 1, hM1.1.cg (fun k hk => ?_), fun z hz => (hM1.2 z hz).trans (h3 z hz)⟩
    simp only [upN]
    by_cases c1 : k = n - 1 - d
    · rw [if_pos c1, if_pos (show n - 1 - (d + 1) < k ∧ k < n by omega), c1]
    · rw [if_neg c1]
      by_cases c2 : n - 1 - d < k ∧ k < n
      · rw [if_pos c2, if_pos (show n - 1 - (d + 1) < k ∧ k < n by omega)]
      · rw [if_neg c2, if_neg (show ¬ (n - 1 - (d + 1) < k ∧ k < n) by omega)]
  · rintro k ⟨q1, q2⟩ ⟨h1, h2, h3⟩
    dsimp only at h1 h2 h3
    have hc : n - 1 - (n - 2 - p) = p + 1 := by omega
    rw [hc] at h1 h2
    subst h1
    unfold b_X3_moveForStep_37
    refine ok_f (nI_nle (by omega) (by omega)) ?_
    have hrd : x_a32 .int q2 a (nI (p + 1) - 1) = some (nI (m p)) := by
      rw [h2.rd (i := nI (p + 1) - 1) p (nI_pred p) (by omega) (by decide)]
      dsimp only
      rw [if_neg (show ¬ (p + 1 < p ∧ p < n) by omega)]
    refine ok_b hrd ?_
    refine ok_t rfl ?_
    refine ok_m (h2.wr (p + 1) (m (n - 1)) rfl rfl (by omega) (by decide)) (fun M1 hM1 => ?_)
    refine ok_v ⟨hM1.1.cg (fun k hk => ?_), fun z hz => (hM1.2 z hz).trans (h3 z hz)⟩
    simp only [upN, mvF]
  · dsimp only
    rw [if_neg (show ¬ (n - 1 - 0 < k ∧ k < n) by omega)]
/-- TOP, BOTTOM behind a step -/
def stT (k : Nat) (t b : Nat → Nat) (n : Nat) : Nat → Nat := if k = 0 then t else mvF t n (pl t (b (n - 1)) n)
def stB (k : Nat) (t b : Nat → Nat) (n : Nat) : Nat → Nat := if k = 0 then mvF b n (pl b (t (n - 1)) n) else b
theorem moveForStep_ok (h : RW M r n t b l) (hn : n ≤ 5) (h2 : 2 ≤ n) (ht : PM n t) (hb : PM n b) (hne : t (n - 1) ≠ b (n - 1)) {k : Nat} (hk : k < 2) (hF : 10 ≤ F) :
    Ok (f_X3_moveForStep F r (nI k) M) (fun M' => RW M' r n (stT k t b n) (stB k t b n) l ∧ ∀ q, q ≠ r + 1 → q ≠ r + 2 → M' q = M q) := by
  unfold f_X3_moveForStep
  refine ok_b (ob_of h.1) ?_
  refine ok_b (stayingRow_ok h hk) ?_
  refine ok_b (gI_of h.1 rfl) ?_
  refine ok_b ((h.sI hk).rd (n - 1) (e_pred (by omega)) (by omega) (by decide)) ?_
  refine ok_b (ob_of h.1) ?_
  refine ok_b (movingRow_ok h hk) ?_
  refine ok_b (gI_of h.1 rfl) ?_
  refine ok_b ((h.mI hk).rd (n - 1) (e_pred (by omega)) (by omega) (by decide)) ?_
  refine ok_b (gI_of h.1 rfl) ?_
  rw [e_pred (i := n) (by omega)]
  rcases k01 hk with rfl | rfl
  · have hx := ht.1 (n - 1) (by omega)
    have hp := hb.pls hx
    have hp2 : pl b (t (n - 1)) n + 1 < n := by
      rcases Nat.lt_or_ge (pl b (t (n - 1)) n + 1) n with q | q
      · exact q
      · exact absurd (by rw [← hp.2]; congr 1; omega) hne
    have := moveLoop (M := M) (F := F) (a := r + 2) (m := b) h.2.2.1 hn hb hp2 hF
    rw [hp.2] at this
    refine ok_w this (fun M' hM => ⟨⟨(hM.2 r (by omega)).trans h.1, h.2.1.fr (hM.2 _ (by omega)), hM.1, h.2.2.2.fr (hM.2 _ (by omega))⟩, fun q _ hq => hM.2 q hq⟩)
  · have hx := hb.1 (n - 1) (by omega)
    have hp := ht.pls hx
    have hp2 : pl t (b (n - 1)) n + 1 < n := by
      rcases Nat.lt_or_ge (pl t (b (n - 1)) n + 1) n with q | q
      · exact q
      · exact absurd (by rw [← hp.2]; congr 1; omega) (Ne.symm hne)
    have := moveLoop (M := M) (F := F) (a := r + 1) (m := t) h.2.1 hn ht hp2 hF
    rw [hp.2] at this
    refine ok_w this (fun M' hM => ⟨⟨(hM.2 r (by omega)).trans h.1, hM.1, h.2.2.1.fr (hM.2 _ (by omega)), h.2.2.2.fr (hM.2 _ (by omega))⟩, fun q hq _ => hM.2 q hq⟩)
def stL (k : Nat) (t b l : Nat → Nat) (n : Nat) : Nat → Nat := upN l (sF k t b (n - 1)) (l (sF k t b (n - 1)) - l (mF k t b (n - 1)))
theorem goStep_ok (h : RW M r n t b l) (ho : OR n t b l) {k : Nat} (hk : k < 2) (hlt : l (mF k t b (n - 1)) < l (sF k t b (n - 1))) (hF : 10 ≤ F) :
    Ok (f_X3_goStep F r (nI k) M) (fun M' => RW M' r n (stT k t b n) (stB k t b n) (stL k t b l n) ∧ ∀ q, q ≠ r + 1 → q ≠ r + 2 → q ≠ r + 3 → M' q = M q) := by
  obtain ⟨h2, h5, ht, hb, hl⟩ := ho
  have t1 := ht.1 (n - 1) (by omega)
  have b1 := hb.1 (n - 1) (by omega)
  have s1 : sF k t b (n - 1) < 5 := by rcases k01 hk with rfl | rfl <;> simp [sF] <;> omega
  have m1 : mF k t b (n - 1) < 5 := by rcases k01 hk with rfl | rfl <;> simp [mF] <;> omega
  have hne : t (n - 1) ≠ b (n - 1) := by
    intro e
    rcases k01 hk with rfl | rfl <;> simp [sF, mF, e] at hlt
  unfold f_X3_goStep
  refine ok_b (ob_of h.1) ?_
  refine ok_b (stayingRow_ok h hk) ?_
  refine ok_b (gI_of h.1 rfl) ?_
  refine ok_b ((h.sI hk).rd (n - 1) (e_pred (by omega)) (by omega) (by decide)) ?_
  refine ok_b (ob_of h.1) ?_
  refine ok_b (movingRow_ok h hk) ?_
  refine ok_b (gI_of h.1 rfl) ?_
  refine ok_b ((h.mI hk).rd (n - 1) (e_pred (by omega)) (by omega) (by decide)) ?_
  refine ok_b (gR_of h.1 rfl) ?_
  refine ok_b (h.2.2.2.rd (sF k t b (n - 1)) rfl s1 (by decide)) ?_
  refine ok_b (gR_of h.1 rfl) ?_
  refine ok_b (h.2.2.2.rd (mF k t b (n - 1)) rfl m1 (by decide)) ?_
  refine ok_m (h.2.2.2.wr (sF k t b (n - 1)) (l (sF k t b (n - 1)) - l (mF k t b (n - 1))) rfl (pk_sub (by omega)) s1 (by decide)) (fun M1 hM => ?_)
  have hR : RW M1 r n t b (stL k t b l n) := ⟨(hM.2 r (by omega)).trans h.1, h.2.1.fr (hM.2 _ (by omega)), h.2.2.1.fr (hM.2 _ (by omega)), hM.1⟩
  refine ok_b (ob_of hR.1) ?_
  refine ok_m (moveForStep_ok hR h5 h2 ht hb hne hk hF) (fun M2 hM2 => ?_)
  exact ok_v ⟨hM2.1, fun q q1 q2 q3 => (hM2.2 q q1 q2).trans (hM.2 q q3)⟩
theorem stT_PM {k : Nat} (hk : k < 2) (ht : PM n t) (hb : PM n b) (h2 : 2 ≤ n) (hne : t (n - 1) ≠ b (n - 1)) : PM n (stT k t b n) := by
  unfold stT
  split
  · exact ht
  · have hp := ht.pls (hb.1 (n - 1) (by omega))
    refine mvF_PM ht ?_
    rcases Nat.lt_or_ge (pl t (b (n - 1)) n + 1) n with q | q
    · exact q
    · exact absurd (by rw [← hp.2]; congr 1; omega) (Ne.symm hne)
theorem stB_PM {k : Nat} (hk : k < 2) (ht : PM n t) (hb : PM n b) (h2 : 2 ≤ n) (hne : t (n - 1) ≠ b (n - 1)) : PM n (stB k t b n) := by
  unfold stB
  split
  · have hp := hb.pls (ht.1 (n - 1) (by omega))
    refine mvF_PM hb ?_
    rcases Nat.lt_or_ge (pl b (t (n - 1)) n + 1) n with q | q
    · exact q
    · exact absurd (by rw [← hp.2]; congr 1; omega) hne
  · exact hb
theorem step_OR (ho : OR n t b l) {k : Nat} (hk : k < 2) (hlt : l (mF k t b (n - 1)) < l (sF k t b (n - 1))) : OR n (stT k t b n) (stB k t b n) (stL k t b l n) := by
  obtain ⟨h2, h5, ht, hb, hl⟩ := ho
  have hne : t (n - 1) ≠ b (n - 1) := by
    intro e
    rcases k01 hk with rfl | rfl <;> simp [sF, mF, e] at hlt
  refine ⟨h2, h5, stT_PM hk ht hb h2 hne, stB_PM hk ht hb h2 hne, fun j hj => ?_⟩
  have hm : mF k t b (n - 1) < n := by
    have t1 := ht.1 (n - 1) (by omega)
    have b1 := hb.1 (n - 1) (by omega)
    rcases k01 hk with rfl | rfl <;> simp [mF] <;> assumption
  have l2 := hl _ hm
  simp only [stL, upN]
  by_cases c : j = sF k t b (n - 1)
  · rw [if_pos c]
    have l1 := hl j hj
    rw [c] at l1
    omega
  · rw [if_neg c]; exact hl j hj
end STEPS
