-- ROWS IN THE SIXTY
def rowU (b : Nat) (w u : Nat → Nat) : Nat → Nat := fun k => if b ≤ k ∧ k < b + 5 then u (k - b) else w k
theorem rowU7 (w u : Nat → Nat) (k : Nat) : rowU 7 w u k = wR w (rT w) u (rL w) k := by
  unfold rowU wR rT rL
  by_cases a1 : k < 2
  · rw [if_neg (by omega), if_pos a1]
  · by_cases a2 : k < 7
    · rw [if_neg (by omega), if_neg a1, if_pos a2]; congr 1; omega
    · by_cases a3 : k < 12
      · rw [if_pos (by omega), if_neg a1, if_neg a2, if_pos a3]
      · by_cases a4 : k < 17
        · rw [if_neg (by omega), if_neg a1, if_neg a2, if_neg a3, if_pos a4]; congr 1; omega
        · rw [if_neg (by omega), if_neg a1, if_neg a2, if_neg a3, if_neg a4]
theorem rowU2 (w u : Nat → Nat) (k : Nat) : rowU 2 w u k = wR w u (rB w) (rL w) k := by
  unfold rowU wR rB rL
  by_cases a1 : k < 2
  · rw [if_neg (by omega), if_pos a1]
  · by_cases a2 : k < 7
    · rw [if_pos (by omega), if_neg a1, if_pos a2]
    · by_cases a3 : k < 12
      · rw [if_neg (by omega), if_neg a1, if_neg a2, if_pos a3]; congr 1; omega
      · by_cases a4 : k < 17
        · rw [if_neg (by omega), if_neg a1, if_neg a2, if_neg a3, if_pos a4]; congr 1; omega
        · rw [if_neg (by omega), if_neg a1, if_neg a2, if_neg a3, if_neg a4]
theorem row12 (w : Nat → Nat) {j : Nat} (hj : j < 5) (v k : Nat) : upN w (12 + j) v k = wR w (rT w) (rB w) (upN (rL w) j v) k := by
  unfold upN wR rT rB rL
  by_cases a1 : k < 2
  · rw [if_neg (by omega), if_pos a1]
  · by_cases a2 : k < 7
    · rw [if_neg (by omega), if_neg a1, if_pos a2]; congr 1; omega
    · by_cases a3 : k < 12
      · rw [if_neg (by omega), if_neg a1, if_neg a2, if_pos a3]; congr 1; omega
      · by_cases a4 : k < 17
        · rw [if_neg a1, if_neg a2, if_neg a3, if_pos a4]
          dsimp only
          by_cases c : k = 12 + j
          · rw [if_pos c, if_pos (by omega)]
          · rw [if_neg c, if_neg (by omega)]; congr 1; omega
        · rw [if_neg (by omega), if_neg a1, if_neg a2, if_neg a3, if_neg a4]
theorem wR_cg {w w' t t' b b' l l' : Nat → Nat} (hw : ∀ k, k < 2 ∨ 17 ≤ k → w k = w' k) (h1 : ∀ k, k < 5 → t k = t' k) (h2 : ∀ k, k < 5 → b k = b' k) (h3 : ∀ k, k < 5 → l k = l' k) (k : Nat) : wR w t b l k = wR w' t' b' l' k := by
  unfold wR
  by_cases a1 : k < 2
  · rw [if_pos a1, if_pos a1]; exact hw k (by omega)
  · by_cases a2 : k < 7
    · rw [if_neg a1, if_pos a2, if_neg a1, if_pos a2]; exact h1 _ (by omega)
    · by_cases a3 : k < 12
      · rw [if_neg a1, if_neg a2, if_pos a3, if_neg a1, if_neg a2, if_pos a3]; exact h2 _ (by omega)
      · by_cases a4 : k < 17
        · rw [if_neg a1, if_neg a2, if_neg a3, if_pos a4, if_neg a1, if_neg a2, if_neg a3, if_pos a4]; exact h3 _ (by omega)
        · rw [if_neg a1, if_neg a2, if_neg a3, if_neg a4, if_neg a1, if_neg a2, if_neg a3, if_neg a4]; exact hw k (by omega)
theorem mvF_5 {m m' : Nat → Nat} {n p : Nat} (hn : n ≤ 5) (h0 : 0 < n) (h : ∀ k, k < 5 → m k = m' k) {k : Nat} (hk : k < 5) : mvF m n p k = mvF m' n p k := by
  simp only [mvF]
  split
  · exact h _ (by omega)
  · split
    · exact h _ (by omega)
    · exact h k hk
theorem bkF_5 {m m' : Nat → Nat} {n p : Nat} (hn : n ≤ 5) (hp : p + 1 < n) (h : ∀ k, k < 5 → m k = m' k) {k : Nat} (hk : k < 5) : bkF m n p k = bkF m' n p k := by
  simp only [bkF]
  split
  · exact h _ (by omega)
  · split
    · exact h _ (by omega)
    · exact h k hk
section NOW2
variable {M : XM} {F y : Nat} {w : Nat → Nat}
theorem mmoves_ok (h : NW M y w) {b z : Nat} (hb : b ≤ 40) (h5 : w 0 ≤ 5) (hu : PM (w 0) (fun k => w (b + k))) (hz : z < w 0) (hp : pl (fun k => w (b + k)) z (w 0) + 1 < w 0) (hb2 : 1 ≤ b) (hF : 10 ≤ F) : Ok (f_X9_movesBehind F y (nI b) (nI z) M) (fun M' => NW M' y (rowU b w (mvF (fun k => w (b + k)) (w 0) (pl (fun k => w (b + k)) z (w 0)))) ∧ ∀ q, q ≠ y + 1 → M' q = M q) := by
  have hh := h
  obtain ⟨⟨_, _, _, _, _, _, c⟩, hW⟩ := h
  unfold f_X9_movesBehind
  refine ok_b (ob_of c) (ok_b (lastIn_ok hh hb (by omega) h5) (ok_b (ob_of c) (ok_b (mplace_ok hh hb h5 hu hz hF) ?_)))
  refine ok_b (gR_of c rfl) (ok_b (hW.rd 0 rfl (by omega) (by decide)) ?_)
  generalize pl (fun k => w (b + k)) z (w 0) = p at *
  generalize hn : w 0 = n at *
  rw [e1, e_pred (by omega)]
  refine ok_loop (I := fun d q => q.1 = nI (n - 1 - d) ∧ NW q.2 y (fun k => if b + (n - 1 - d) < k ∧ k < b + n then w (k - 1) else w k) ∧ ∀ z, z ≠ y + 1 → q.2 z = M z) (n - 2 - p) ?_ ?_ (n - 2 - p) 0 F _ (by omega) (by omega) ⟨rfl, hh.cg (fun k hk => ?_), fun _ _ => rfl⟩
  · rintro k d ⟨q1, q2⟩ hd ⟨rfl, g, fr⟩ hk
    dsimp only at g fr
    have g' := g
    obtain ⟨⟨_, _, _, _, _, _, c2⟩, hW2⟩ := g
    unfold b_X9_movesBehind_26
    refine ok_f (nI_ge (by omega) (by omega)) ?_
    refine ok_b (gR_of c2 rfl) (ok_b (gR_of c2 rfl) ?_)
    have er : (nI b + nI (n - 1 - d) - 1 : Int32) = nI (b + (n - 1 - d) - 1) := by rw [nI_add, e_pred (by omega)]
    refine ok_b (hW2.rd _ er (by omega) (by decide)) ?_
    dsimp only
    rw [if_neg (by omega)]
    refine ok_m (g'.wr (b + (n - 1 - d)) (w (b + (n - 1 - d) - 1)) (nI_add _ _) rfl (by omega)) (fun M1 hM1 => ?_)
    refine hk _ ⟨?_, hM1.1.cg (fun k hk => ?_), fun z hz => (hM1.2 z hz).trans (fr z hz)⟩
    · show nI (n - 1 - d) + (-1) = _
      rw [e_m1 (by omega)]; congr 1
    · simp only [upN]
      by_cases c1 : k = b + (n - 1 - d)
      · rw [if_pos c1, if_pos (by omega), c1]
      · rw [if_neg c1]
        by_cases c3 : b + (n - 1 - d) < k ∧ k < b + n
        · rw [if_pos c3, if_pos (by omega)]
        · rw [if_neg c3, if_neg (by omega)]
  · rintro k ⟨q1, q2⟩ ⟨rfl, g, fr⟩
    dsimp only at g fr
    have g' := g
    obtain ⟨⟨_, _, _, _, _, _, c2⟩, hW2⟩ := g
    unfold b_X9_movesBehind_26
    refine ok_t (nI_le (by omega) (by omega)) ?_
    refine ok_b (gR_of c2 rfl) ?_
    refine ok_m (g'.wr (b + (p + 1)) (w (b + (n - 1))) (nI_add _ _) rfl (by omega)) (fun M1 hM1 => ?_)
    refine ok_v ⟨hM1.1.cg (fun k hk => ?_), fun z hz => (hM1.2 z hz).trans (fr z hz)⟩
    simp only [upN, rowU, mvF]
    by_cases c1 : k = b + (p + 1)
    · rw [if_pos c1, if_pos (by omega), if_pos (by omega)]
    · rw [if_neg c1]
      by_cases c3 : b + (n - 1 - (n - 2 - p)) < k ∧ k < b + n
      · rw [if_pos c3, if_pos (by omega), if_neg (by omega), if_pos (by omega)]; congr 1; omega
      · rw [if_neg c3]
        by_cases c4 : b ≤ k ∧ k < b + 5
        · rw [if_pos c4, if_neg (by omega), if_neg (by omega)]; congr 1; omega
        · rw [if_neg c4]
  · rw [if_neg (by omega)]
theorem mtoEnd_no (h : NW M y w) {b z : Nat} (hb : b ≤ 40) (h5 : w 0 ≤ 5) (hu : PM (w 0) (fun k => w (b + k))) (hz : z < w 0) (hp : ¬ pl (fun k => w (b + k)) z (w 0) + 1 < w 0) (hF : 10 ≤ F) : f_X9_movesToEnd F y (nI b) (nI z) M = some (-1, M) := by
  have hh := h
  obtain ⟨⟨_, _, _, _, _, _, c⟩, hW⟩ := h
  have := (hu.pls hz).1
  unfold f_X9_movesToEnd
  refine bs (ob_of c) (bs (mplace_ok hh hb h5 hu hz hF) (bs (gR_of c rfl) (bs (hW.rd 0 rfl (by omega) (by decide)) (ct ?_ rfl))))
  rw [e1, show pl (fun k => w (b + k)) z (w 0) + 1 = w 0 by omega]
theorem mtoEnd_ok (h : NW M y w) {b z : Nat} (hb : b ≤ 40) (h5 : w 0 ≤ 5) (hu : PM (w 0) (fun k => w (b + k))) (hz : z < w 0) (hp : pl (fun k => w (b + k)) z (w 0) + 1 < w 0) (hb2 : 1 ≤ b) (hF : 10 ≤ F) : Ok (f_X9_movesToEnd F y (nI b) (nI z) M) (fun r => r.1 = nI (w (b + (pl (fun k => w (b + k)) z (w 0) + 1))) ∧ NW r.2 y (rowU b w (bkF (fun k => w (b + k)) (w 0) (pl (fun k => w (b + k)) z (w 0)))) ∧ ∀ q, q ≠ y + 1 → r.2 q = M q) := by
  have hh := h
  obtain ⟨⟨_, _, _, _, _, _, c⟩, hW⟩ := h
  unfold f_X9_movesToEnd
  refine ok_b (ob_of c) (ok_b (mplace_ok hh hb h5 hu hz hF) (ok_b (gR_of c rfl) (ok_b (hW.rd 0 rfl (by omega) (by decide)) ?_)))
  generalize pl (fun k => w (b + k)) z (w 0) = p at *
  generalize hn : w 0 = n at *
  rw [e1]
  refine ok_f (fun e => by have := nI_inj (by omega) (by omega) e; omega) ?_
  refine ok_b (gR_of c rfl) (ok_b (hW.rd (b + (p + 1)) (nI_add _ _) (by omega) (by decide)) ?_)
  refine ok_loop (I := fun d q => q.1 = nI (p + 1 + d) ∧ NW q.2 y (fun k => if b + (p + 1) ≤ k ∧ k < b + (p + 1) + d then w (k + 1) else w k) ∧ ∀ z, z ≠ y + 1 → q.2 z = M z) (n - 2 - p) ?_ ?_ (n - 2 - p) 0 F _ (by omega) (by omega) ⟨rfl, hh.cg (fun k hk => ?_), fun _ _ => rfl⟩
  · rintro k d ⟨q1, q2⟩ hd ⟨rfl, g, fr⟩ hk
    dsimp only at g fr
    have g' := g
    obtain ⟨⟨_, _, _, _, _, _, c2⟩, hW2⟩ := g
    unfold b_X9_movesToEnd_34
    refine ok_b (gR_of c2 rfl) (ok_b (hW2.rd 0 rfl (by omega) (by decide)) ?_)
    dsimp only
    rw [if_neg (show ¬ (b + (p + 1) ≤ 0 ∧ 0 < b + (p + 1) + d) by omega), hn, e1]
    refine ok_f (nI_ge (by omega) (by omega)) ?_
    refine ok_b (gR_of c2 rfl) (ok_b (gR_of c2 rfl) ?_)
    have er : (nI b + nI (p + 1 + d) + 1 : Int32) = nI (b + (p + 1 + d) + 1) := by rw [nI_add, e1]
    refine ok_b (hW2.rd _ er (by omega) (by decide)) ?_
    dsimp only
    rw [if_neg (by omega)]
    refine ok_m (g'.wr (b + (p + 1 + d)) (w (b + (p + 1 + d) + 1)) (nI_add _ _) rfl (by omega)) (fun M1 hM1 => ?_)
    refine hk _ ⟨rfl, hM1.1.cg (fun k hk => ?_), fun z hz => (hM1.2 z hz).trans (fr z hz)⟩
    simp only [upN]
    by_cases c1 : k = b + (p + 1 + d)
    · rw [if_pos c1, if_pos (by omega), c1]
    · rw [if_neg c1]
      by_cases c3 : b + (p + 1) ≤ k ∧ k < b + (p + 1) + d
      · rw [if_pos c3, if_pos (by omega)]
      · rw [if_neg c3, if_neg (by omega)]
  · rintro k ⟨q1, q2⟩ ⟨rfl, g, fr⟩
    dsimp only at g fr
    have g' := g
    obtain ⟨⟨_, _, _, _, _, _, c2⟩, hW2⟩ := g
    unfold b_X9_movesToEnd_34
    refine ok_b (gR_of c2 rfl) (ok_b (hW2.rd 0 rfl (by omega) (by decide)) ?_)
    dsimp only
    rw [if_neg (show ¬ (b + (p + 1) ≤ 0 ∧ 0 < b + (p + 1) + (n - 2 - p)) by omega), hn, e1]
    refine ok_t (nI_le (by omega) (by omega)) ?_
    refine ok_b (gR_of c2 rfl) (ok_b (gR_of c2 rfl) (ok_b (hW2.rd 0 rfl (by omega) (by decide)) ?_))
    dsimp only
    rw [if_neg (show ¬ (b + (p + 1) ≤ 0 ∧ 0 < b + (p + 1) + (n - 2 - p)) by omega), hn]
    refine ok_m (g'.wr (b + (n - 1)) (w (b + (p + 1))) (by rw [nI_add, e_pred (by omega)]; congr 1; omega) rfl (by omega)) (fun M1 hM1 => ?_)
    refine ok_v ⟨rfl, hM1.1.cg (fun k hk => ?_), fun z hz => (hM1.2 z hz).trans (fr z hz)⟩
    simp only [upN, rowU, bkF]
    by_cases c1 : k = b + (n - 1)
    · rw [if_pos c1, if_pos (by omega), if_pos (by omega)]
    · rw [if_neg c1]
      by_cases c3 : b + (p + 1) ≤ k ∧ k < b + (p + 1) + (n - 2 - p)
      · rw [if_pos c3, if_pos (by omega), if_neg (by omega), if_pos (by omega)]; congr 1; omega
      · rw [if_neg c3]
        by_cases c4 : b ≤ k ∧ k < b + 5
        · rw [if_pos c4, if_neg (by omega), if_neg (by omega)]; congr 1; omega
        · rw [if_neg c4]
  · rw [if_neg (by omega)]
theorem PM5 {n : Nat} {t t' : Nat → Nat} (hn : n ≤ 5) (h : PM n t) (e : ∀ k, k < 5 → t k = t' k) : PM n t' := PM_cg h (fun k hk => e k (by omega))
theorem msteps_ok (h : NW M y w) (ho : ORw w) {k : Nat} (hk : k < 2) (hlt : rL w (mF k (rT w) (rB w) (w 0 - 1)) < rL w (sF k (rT w) (rB w) (w 0 - 1))) (hF : 10 ≤ F) : Ok (f_X9_steps F y (nI k) M) (fun M' => NW M' y (wR w (stT k (rT w) (rB w) (w 0)) (stB k (rT w) (rB w) (w 0)) (stL k (rT w) (rB w) (rL w) (w 0))) ∧ ∀ q, q ≠ y + 1 → M' q = M q) := by
  have hh := h
  obtain ⟨⟨_, _, _, _, _, _, c⟩, hW⟩ := h
  obtain ⟨h2, h5, ht, hb, hl⟩ := ho
  have t1 : rT w (w 0 - 1) < w 0 := ht.1 (w 0 - 1) (by omega)
  have b1 : rB w (w 0 - 1) < w 0 := hb.1 (w 0 - 1) (by omega)
  unfold f_X9_steps
  refine ok_b (ob_of c) (ok_b (lastIn_ok hh (b := 2) (by omega) (by omega) h5) (ok_b (ob_of c) (ok_b (lastIn_ok hh (b := 7) (by omega) (by omega) h5) ?_)))
  have ra := hW.rd (i := (12 : Int32) + nI (w (2 + (w 0 - 1)))) (12 + w (2 + (w 0 - 1))) (nI_add 12 _) (by have : w (2 + (w 0 - 1)) < w 0 := t1; omega) (by decide)
  have rb := hW.rd (i := (12 : Int32) + nI (w (7 + (w 0 - 1)))) (12 + w (7 + (w 0 - 1))) (nI_add 12 _) (by have : w (7 + (w 0 - 1)) < w 0 := b1; omega) (by decide)
  rcases k01 hk with rfl | rfl
  · refine ok_t rfl ?_
    simp only [mF, sF, if_true] at hlt
    refine ok_b (gR_of c rfl) (ok_b ra (ok_b (gR_of c rfl) (ok_b rb ?_)))
    refine ok_m (hh.wr (12 + rT w (w 0 - 1)) (rL w (rT w (w 0 - 1)) - rL w (rB w (w 0 - 1))) (nI_add 12 _) (pk_sub (Nat.le_of_lt hlt)) (by omega)) (fun M1 hM1 => ?_)
    have g := hM1.1.cg (fun k _ => row12 w (show rT w (w 0 - 1) < 5 by omega) _ k)
    have e0 : wR w (rT w) (rB w) (upN (rL w) (rT w (w 0 - 1)) (rL w (rT w (w 0 - 1)) - rL w (rB w (w 0 - 1)))) 0 = w 0 := wR_o (by omega)
    have eB : ∀ k, k < 5 → (fun k => wR w (rT w) (rB w) (upN (rL w) (rT w (w 0 - 1)) (rL w (rT w (w 0 - 1)) - rL w (rB w (w 0 - 1)))) (7 + k)) k = rB w k := fun k hk => wR_B hk
    have ep : pl (fun k => wR w (rT w) (rB w) (upN (rL w) (rT w (w 0 - 1)) (rL w (rT w (w 0 - 1)) - rL w (rB w (w 0 - 1)))) (7 + k)) (rT w (w 0 - 1)) (w 0) = pl (rB w) (rT w (w 0 - 1)) (w 0) := pl_cg (fun k hk => eB k (by omega))
    have hpl := hb.pls t1
    have hne : rB w (w 0 - 1) ≠ rT w (w 0 - 1) := fun e => by rw [e] at hlt; omega
    have hp1 : pl (rB w) (rT w (w 0 - 1)) (w 0) + 1 < w 0 := by
      rcases Nat.lt_or_ge (pl (rB w) (rT w (w 0 - 1)) (w 0) + 1) (w 0) with q | q
      · exact q
      · exfalso
        have : pl (rB w) (rT w (w 0 - 1)) (w 0) = w 0 - 1 := by omega
        rw [this] at hpl
        exact hne hpl.2
    refine ok_b (ob_of (ci := 9) ((hM1.2 y (by omega)).trans c)) ?_
    refine ok_m (mmoves_ok (b := 7) (z := rT w (w 0 - 1)) g (by omega) (by rw [e0]; exact h5) (by rw [e0]; exact PM5 h5 hb (fun k hk => (eB k hk).symm)) (by rw [e0]; exact t1) (by rw [e0, ep]; exact hp1) (by omega) hF) (fun M2 hM2 => ?_)
    rw [e0, ep] at hM2
    refine ok_v ⟨hM2.1.cg (fun k _ => ?_), fun q hq => (hM2.2 q hq).trans (hM1.2 q hq)⟩
    rw [rowU7]
    refine wR_cg (fun k hk => wR_o hk) (fun k hk => wR_T hk) (fun k hk => ?_) (fun k hk => wR_L hk) k
    exact mvF_5 h5 (by omega) eB hk
  · refine ok_f (by decide) ?_
    simp only [mF, sF, Nat.one_ne_zero, if_false] at hlt
    refine ok_b (gR_of c rfl) (ok_b rb (ok_b (gR_of c rfl) (ok_b ra ?_)))
    refine ok_m (hh.wr (12 + rB w (w 0 - 1)) (rL w (rB w (w 0 - 1)) - rL w (rT w (w 0 - 1))) (nI_add 12 _) (pk_sub (Nat.le_of_lt hlt)) (by omega)) (fun M1 hM1 => ?_)
    have g := hM1.1.cg (fun k _ => row12 w (show rB w (w 0 - 1) < 5 by omega) _ k)
    have e0 : wR w (rT w) (rB w) (upN (rL w) (rB w (w 0 - 1)) (rL w (rB w (w 0 - 1)) - rL w (rT w (w 0 - 1)))) 0 = w 0 := wR_o (by omega)
    have eB : ∀ k, k < 5 → (fun k => wR w (rT w) (rB w) (upN (rL w) (rB w (w 0 - 1)) (rL w (rB w (w 0 - 1)) - rL w (rT w (w 0 - 1)))) (2 + k)) k = rT w k := fun k hk => wR_T hk
    have ep : pl (fun k => wR w (rT w) (rB w) (upN (rL w) (rB w (w 0 - 1)) (rL w (rB w (w 0 - 1)) - rL w (rT w (w 0 - 1)))) (2 + k)) (rB w (w 0 - 1)) (w 0) = pl (rT w) (rB w (w 0 - 1)) (w 0) := pl_cg (fun k hk => eB k (by omega))
    have hpl := ht.pls b1
    have hne : rT w (w 0 - 1) ≠ rB w (w 0 - 1) := fun e => by rw [e] at hlt; omega
    have hp1 : pl (rT w) (rB w (w 0 - 1)) (w 0) + 1 < w 0 := by
      rcases Nat.lt_or_ge (pl (rT w) (rB w (w 0 - 1)) (w 0) + 1) (w 0) with q | q
      · exact q
      · exfalso
        have : pl (rT w) (rB w (w 0 - 1)) (w 0) = w 0 - 1 := by omega
        rw [this] at hpl
        exact hne hpl.2
    refine ok_b (ob_of (ci := 9) ((hM1.2 y (by omega)).trans c)) ?_
    refine ok_m (mmoves_ok (b := 2) (z := rB w (w 0 - 1)) g (by omega) (by rw [e0]; exact h5) (by rw [e0]; exact PM5 h5 ht (fun k hk => (eB k hk).symm)) (by rw [e0]; exact b1) (by rw [e0, ep]; exact hp1) (by omega) hF) (fun M2 hM2 => ?_)
    rw [e0, ep] at hM2
    refine ok_v ⟨hM2.1.cg (fun k _ => ?_), fun q hq => (hM2.2 q hq).trans (hM1.2 q hq)⟩
    rw [rowU2]
    refine wR_cg (fun k hk => wR_o hk) (fun k hk => ?_) (fun k hk => wR_B hk) (fun k hk => wR_L hk) k
    exact mvF_5 h5 (by omega) eB hk
theorem mstepsBack_ok (h : NW M y w) (ho : ORw w) {k : Nat} (hk : k < 2) (hp : bkP k (rT w) (rB w) (w 0) + 1 < w 0) (hF : 10 ≤ F) : Ok (f_X9_stepsBack F y (nI k) M) (fun r => NW r.2 y (wR w (bcT k (rT w) (rB w) (w 0)) (bcB k (rT w) (rB w) (w 0)) (bcW k w)) ∧ ∀ q, q ≠ y + 1 → r.2 q = M q) := by
  have hh := h
  obtain ⟨⟨_, _, _, _, _, _, c⟩, hW⟩ := h
  obtain ⟨h2, h5, ht, hb, hl⟩ := ho
  have t1 : rT w (w 0 - 1) < w 0 := ht.1 (w 0 - 1) (by omega)
  have b1 : rB w (w 0 - 1) < w 0 := hb.1 (w 0 - 1) (by omega)
  unfold f_X9_stepsBack
  rcases k01 hk with rfl | rfl
  · refine ok_t rfl ?_
    unfold j_X9_stepsBack_11
    refine ok_b (ob_of c) (ok_b (lastIn_ok hh (b := 2) (by omega) (by omega) h5) (ok_t rfl ?_))
    unfold j_X9_stepsBack_26
    refine ok_b (ob_of c) ?_
    have hy : rB w (pl (rB w) (rT w (w 0 - 1)) (w 0) + 1) < w 0 := hb.1 _ hp
    refine ok_m (mtoEnd_ok hh (b := 7) (z := rT w (w 0 - 1)) (by omega) h5 hb t1 hp (by omega) hF) (fun r hr => ?_)
    obtain ⟨v, g, f1⟩ := hr
    replace v : r.1 = nI (rB w (pl (rB w) (rT w (w 0 - 1)) (w 0) + 1)) := v
    refine ok_f (by rw [v]; exact nI_m1 (by omega)) ?_
    replace g := g.cg (fun k _ => rowU7 w _ k)
    have g' := g
    obtain ⟨⟨_, _, _, _, _, _, c2⟩, hW2⟩ := g
    have rL1 : ∀ j, j < 5 → x_a32 .int r.2 (y + 1) ((12 : Int32) + nI j) = some (nI (rL w j)) := fun j hj => by
      refine (hW2.rd (i := (12 : Int32) + nI j) (12 + j) (nI_add 12 j) (by omega) (by decide)).trans ?_
      exact congrArg (fun z => some (nI z)) (wR_L hj)
    refine ok_b (gR_of c2 rfl) (ok_b (rL1 (rT w (w 0 - 1)) (by omega)) (ok_b (gR_of c2 rfl) ?_))
    rw [v]
    refine ok_b (rL1 _ (show rB w (pl (rB w) (rT w (w 0 - 1)) (w 0) + 1) < 5 by omega)) ?_
    refine ok_m (g'.wr (12 + rT w (w 0 - 1)) (rL w (rT w (w 0 - 1)) + rL w (rB w (pl (rB w) (rT w (w 0 - 1)) (w 0) + 1))) (nI_add 12 _) (nI_add _ _) (by omega)) (fun M2 hM2 => ?_)
    unfold j_X9_stepsBack_57
    refine ok_f (nI_m1 (by omega)) (ok_v ⟨hM2.1.cg (fun k _ => ?_), fun q hq => (hM2.2 q hq).trans (f1 q hq)⟩)
    rw [row12 _ (show rT w (w 0 - 1) < 5 by omega)]
    refine wR_cg (fun k hk => wR_o hk) (fun k hk => wR_T hk) (fun k hk => wR_B hk) (fun k hk => ?_) k
    show upN (rL _) (rT w (w 0 - 1)) (rL w (rT w (w 0 - 1)) + rL w (rB w (pl (rB w) (rT w (w 0 - 1)) (w 0) + 1))) k = upN (rL w) (rT w (w 0 - 1)) (rL w (rT w (w 0 - 1)) + rL w (rB w (pl (rB w) (rT w (w 0 - 1)) (w 0) + 1))) k
    simp only [upN]
    by_cases q : k = rT w (w 0 - 1)
    · rw [if_pos q, if_pos q]
    · rw [if_neg q, if_neg q, wR_L hk]
  · refine ok_f (by decide) ?_
    unfold j_X9_stepsBack_11
    refine ok_b (ob_of c) (ok_b (lastIn_ok hh (b := 7) (by omega) (by omega) h5) (ok_f (by decide) ?_))
    unfold j_X9_stepsBack_26
    refine ok_b (ob_of c) ?_
    have hy : rT w (pl (rT w) (rB w (w 0 - 1)) (w 0) + 1) < w 0 := ht.1 _ hp
    refine ok_m (mtoEnd_ok hh (b := 2) (z := rB w (w 0 - 1)) (by omega) h5 ht b1 hp (by omega) hF) (fun r hr => ?_)
    obtain ⟨v, g, f1⟩ := hr
    replace v : r.1 = nI (rT w (pl (rT w) (rB w (w 0 - 1)) (w 0) + 1)) := v
    refine ok_f (by rw [v]; exact nI_m1 (by omega)) ?_
    replace g := g.cg (fun k _ => rowU2 w _ k)
    have g' := g
    obtain ⟨⟨_, _, _, _, _, _, c2⟩, hW2⟩ := g
    have rL1 : ∀ j, j < 5 → x_a32 .int r.2 (y + 1) ((12 : Int32) + nI j) = some (nI (rL w j)) := fun j hj => by
      refine (hW2.rd (i := (12 : Int32) + nI j) (12 + j) (nI_add 12 j) (by omega) (by decide)).trans ?_
      exact congrArg (fun z => some (nI z)) (wR_L hj)
    refine ok_b (gR_of c2 rfl) (ok_b (rL1 (rB w (w 0 - 1)) (by omega)) (ok_b (gR_of c2 rfl) ?_))
    rw [v]
    refine ok_b (rL1 _ (show rT w (pl (rT w) (rB w (w 0 - 1)) (w 0) + 1) < 5 by omega)) ?_
    refine ok_m (g'.wr (12 + rB w (w 0 - 1)) (rL w (rB w (w 0 - 1)) + rL w (rT w (pl (rT w) (rB w (w 0 - 1)) (w 0) + 1))) (nI_add 12 _) (nI_add _ _) (by omega)) (fun M2 hM2 => ?_)
    unfold j_X9_stepsBack_57
    refine ok_f (nI_m1 (by omega)) (ok_v ⟨hM2.1.cg (fun k _ => ?_), fun q hq => (hM2.2 q hq).trans (f1 q hq)⟩)
    rw [row12 _ (show rB w (w 0 - 1) < 5 by omega)]
    refine wR_cg (fun k hk => wR_o hk) (fun k hk => wR_T hk) (fun k hk => wR_B hk) (fun k hk => ?_) k
    show upN (rL _) (rB w (w 0 - 1)) (rL w (rB w (w 0 - 1)) + rL w (rT w (pl (rT w) (rB w (w 0 - 1)) (w 0) + 1))) k = upN (rL w) (rB w (w 0 - 1)) (rL w (rB w (w 0 - 1)) + rL w (rT w (pl (rT w) (rB w (w 0 - 1)) (w 0) + 1))) k
    simp only [upN]
    by_cases q : k = rB w (w 0 - 1)
    · rw [if_pos q, if_pos q]
    · rw [if_neg q, if_neg q, wR_L hk]
end NOW2
