theorem nI_m1 {y : Nat} (h : y < 2147483648) : nI y ≠ -1 := by
  intro e
  have h1 := congrArg Int32.toInt e
  rw [nI_toInt (by omega), show ((-1 : Int32).toInt) = -1 from rfl] at h1
  omega
section BACK
variable {M : XM} {F r n : Nat} {t b l : Nat → Nat}
/-- the letter that stays, its place in the other row -/
def bkX (k : Nat) (t b : Nat → Nat) (n : Nat) : Nat := sF k t b (n - 1)
def bkP (k : Nat) (t b : Nat → Nat) (n : Nat) : Nat := pl (mF k t b) (sF k t b (n - 1)) n
def bkY (k : Nat) (t b : Nat → Nat) (n : Nat) : Nat := mF k t b (bkP k t b n + 1)
def rfI (k : Nat) (t b l : Nat → Nat) (n : Nat) : Int32 := if bkP k t b n + 1 < n then (if l (bkX k t b n) + l (bkY k t b n) ≤ 99 then 0 else -2) else -3
theorem bk_f (ho : OR n t b l) {k : Nat} (hk : k < 2) : PM n (mF k t b) ∧ bkX k t b n < n ∧ bkP k t b n < n ∧ mF k t b (bkP k t b n) = bkX k t b n := by
  obtain ⟨h2, h5, ht, hb, hl⟩ := ho
  have t1 := ht.1 (n - 1) (by omega)
  have b1 := hb.1 (n - 1) (by omega)
  rcases k01 hk with rfl | rfl
  · exact ⟨hb, t1, hb.pls t1⟩
  · exact ⟨ht, b1, ht.pls b1⟩
theorem refusal_ok (h : RW M r n t b l) (ho : OR n t b l) {k : Nat} (hk : k < 2) (hF : 10 ≤ F) : f_X3_refusalOfStepBack F r (nI k) M = some (rfI k t b l n) := by
  obtain ⟨hm, hx, hp, hpx⟩ := bk_f ho hk
  obtain ⟨h2, h5, ht, hb, hl⟩ := ho
  unfold f_X3_refusalOfStepBack
  refine bs (ob_of h.1) (bs (stayingRow_ok h hk) (bs (gI_of h.1 rfl) (bs ((h.sI hk).rd (n - 1) (e_pred (by omega)) (by omega) (by decide)) (bs (ob_of h.1) (bs (movingRow_ok h hk) (bs (ob_of h.1) ?_))))))
  unfold rfI
  by_cases c : bkP k t b n + 1 < n
  · have hy := hm.1 (bkP k t b n + 1) c
    have e := letterBehind_in (F := F) h (h.mI hk) h5 hm c hF
    rw [hpx] at e
    refine bs e (cf (nI_m1 (by omega)) (bs (gR_of h.1 rfl) (bs (h.2.2.2.rd _ rfl (show bkX k t b n < 5 by omega) (by decide)) (bs (gR_of h.1 rfl) (bs (h.2.2.2.rd _ rfl (show mF k t b (bkP k t b n + 1) < 5 by omega) (by decide)) ?_)))))
    have l1 : 1 ≤ l (sF k t b (n - 1)) ∧ l (sF k t b (n - 1)) ≤ 99 := hl _ hx
    have l2 := hl _ hy
    rw [if_pos c]
    by_cases c2 : l (bkX k t b n) + l (bkY k t b n) ≤ 99
    · rw [if_pos c2, nI_add]
      exact ct (nI_le (b := 99) c2 (by omega)) rfl
    · rw [if_neg c2, nI_add]
      have c3 : 99 < l (sF k t b (n - 1)) + l (mF k t b (bkP k t b n + 1)) := Nat.lt_of_not_le c2
      exact cf (nI_ge (a := 99) c3 (by omega)) rfl
  · have e := letterBehind_out (F := F) h (h.mI hk) h5 (by omega) hm hF
    rw [show n - 1 = bkP k t b n by omega, hpx] at e
    rw [if_neg c]
    exact bs e (ct rfl rfl)
def bcT (k : Nat) (t b : Nat → Nat) (n : Nat) : Nat → Nat := if k = 0 then t else bkF t n (bkP k t b n)
def bcB (k : Nat) (t b : Nat → Nat) (n : Nat) : Nat → Nat := if k = 0 then bkF b n (bkP k t b n) else b
def bcL (k : Nat) (t b l : Nat → Nat) (n : Nat) : Nat → Nat := upN l (bkX k t b n) (l (bkX k t b n) + l (bkY k t b n))
theorem backLoop {a : Nat} {m : Nat → Nat} (h : RW M r n t b l) (hn : n ≤ 5) (ha : IA M a 5 m) (har : a = r + 1 ∨ a = r + 2) {p x : Nat} (hp : p + 1 < n) (hx : x < n) (hy : m (p + 1) < n) (hF : 10 ≤ F) :
    Ok (x_it (b_X3_goStepBack_44 F r (nI x) a (nI (m (p + 1)))) F (nI (p + 1), M)) (fun M' => IA M' a 5 (bkF m n p) ∧ IA M' (r + 3) 5 (upN l x (l x + l (m (p + 1)))) ∧ ∀ q, q ≠ a → q ≠ r + 3 → M' q = M q) := by
  refine ok_loop (I := fun d q => q.1 = nI (p + 1 + d) ∧ IA q.2 a 5 (fun k => if p + 1 ≤ k ∧ k < p + 1 + d then m (k + 1) else m k) ∧ ∀ z, z ≠ a → q.2 z = M z) (n - 2 - p) ?_ ?_ (n - 2 - p) 0 F _ (by omega) (by omega) ⟨rfl, ha.cg (fun k hk => ?_), fun _ _ => rfl⟩
  · rintro k d ⟨q1, q2⟩ hd ⟨h1, h2, h3⟩ hk
    dsimp only at h1 h2 h3
    subst h1
    have hob : q2 r = _ := (h3 r (by omega)).trans h.1
    unfold b_X3_goStepBack_44
    refine ok_b (gI_of hob rfl) ?_
    refine ok_f (by rw [e_pred (i := n) (by omega)]; exact nI_ge (by omega) (by omega)) ?_
    have hrd : x_a32 .int q2 a (nI (p + 1 + d) + 1) = some (nI (m (p + 1 + d + 1))) := by
      rw [h2.rd (i := nI (p + 1 + d) + 1) (p + 1 + d + 1) (e1 _) (by omega) (by decide)]
      dsimp only
      rw [if_neg (show ¬ (p + 1 ≤ p + 1 + d + 1 ∧ p + 1 + d + 1 < p + 1 + d) by omega)]
    refine ok_b hrd ?_
    refine ok_m (h2.wr (p + 1 + d) (m (p + 1 + d + 1)) rfl rfl (by omega) (by decide)) (fun M1 hM1 => ?_)
    refine hk _ ⟨e1 _, hM1.1.cg (fun k hk => ?_), fun z hz => (hM1.2 z hz).trans (h3 z hz)⟩
    simp only [upN]
    by_cases c1 : k = p + 1 + d
    · rw [if_pos c1, if_pos (show p + 1 ≤ k ∧ k < p + 1 + (d + 1) by omega), c1]
    · rw [if_neg c1]
      by_cases c2 : p + 1 ≤ k ∧ k < p + 1 + d
      · rw [if_pos c2, if_pos (show p + 1 ≤ k ∧ k < p + 1 + (d + 1) by omega)]
      · rw [if_neg c2, if_neg (show ¬ (p + 1 ≤ k ∧ k < p + 1 + (d + 1)) by omega)]
  · rintro k ⟨q1, q2⟩ ⟨h1, h2, h3⟩
    dsimp only at h1 h2 h3
    have hc : p + 1 + (n - 2 - p) = n - 1 := by omega
    rw [hc] at h1 h2
    subst h1
    have hob : q2 r = _ := (h3 r (by omega)).trans h.1
    unfold b_X3_goStepBack_44
    refine ok_b (gI_of hob rfl) ?_
    refine ok_t (by rw [e_pred (i := n) (by omega)]; exact nI_le (Nat.le_refl _) (by omega)) ?_
    refine ok_b (gI_of hob rfl) ?_
    refine ok_m (h2.wr (n - 1) (m (p + 1)) (e_pred (by omega)) rfl (by omega) (by decide)) (fun M1 hM1 => ?_)
    have hob1 : M1 r = _ := (hM1.2 r (by omega)).trans hob
    have hl1 : IA M1 (r + 3) 5 l := (h.2.2.2.fr (h3 _ (by omega))).fr (hM1.2 _ (by omega))
    refine ok_b (gR_of hob1 rfl) ?_
    refine ok_b (hl1.rd x rfl (by omega) (by decide)) ?_
    refine ok_b (gR_of hob1 rfl) ?_
    refine ok_b (hl1.rd (m (p + 1)) rfl (by omega) (by decide)) ?_
    refine ok_m (hl1.wr x (l x + l (m (p + 1))) rfl (nI_add _ _) (by omega) (by decide)) (fun M2 hM2 => ?_)
    refine ok_v ⟨(hM1.1.cg (fun k hk => ?_)).fr (hM2.2 _ (by omega)), hM2.1, fun z hz hz2 => (hM2.2 z hz2).trans ((hM1.2 z hz).trans (h3 z hz))⟩
    simp only [upN, bkF]
  · dsimp only
    rw [if_neg (show ¬ (p + 1 ≤ k ∧ k < p + 1 + 0) by omega)]
theorem goStepBack_ok (h : RW M r n t b l) (ho : OR n t b l) {k : Nat} (hk : k < 2) (hc : bkP k t b n + 1 < n) (hF : 10 ≤ F) :
    Ok (f_X3_goStepBack F r (nI k) M) (fun M' => RW M' r n (bcT k t b n) (bcB k t b n) (bcL k t b l n) ∧ ∀ q, q ≠ r + 1 → q ≠ r + 2 → q ≠ r + 3 → M' q = M q) := by
  obtain ⟨hm, hx, hp, hpx⟩ := bk_f ho hk
  obtain ⟨h2, h5, ht, hb, hl⟩ := ho
  have hy := hm.1 (bkP k t b n + 1) hc
  have e := letterBehind_in (F := F) h (h.mI hk) h5 hm hc hF
  rw [hpx] at e
  have e2 := placeIn_pl (F := F) h (h.mI hk) h5 hm hx hF
  unfold f_X3_goStepBack
  refine ok_b (ob_of h.1) ?_
  refine ok_b (stayingRow_ok h hk) ?_
  refine ok_b (gI_of h.1 rfl) ?_
  refine ok_b ((h.sI hk).rd (n - 1) (e_pred (by omega)) (by omega) (by decide)) ?_
  refine ok_b (ob_of h.1) ?_
  refine ok_b (movingRow_ok h hk) ?_
  refine ok_b (ob_of h.1) ?_
  refine ok_b e ?_
  refine ok_f (nI_m1 (by omega)) ?_
  refine ok_b (ob_of h.1) ?_
  refine ok_b e2 ?_
  rw [e1]
  refine ok_w (backLoop (F := F) h h5 (h.mI hk) (by unfold mA; split <;> simp) hc hx hy hF) (fun M' hM => ?_)
  rcases k01 hk with rfl | rfl
  · exact ⟨⟨(hM.2.2 r (by simp [mA]) (by omega)).trans h.1, h.2.1.fr (hM.2.2 _ (by simp [mA]) (by omega)), hM.1, hM.2.1⟩, fun q _ h2 h3 => hM.2.2 q h2 h3⟩
  · exact ⟨⟨(hM.2.2 r (by simp [mA]) (by omega)).trans h.1, hM.1, h.2.2.1.fr (hM.2.2 _ (by simp [mA]) (by omega)), hM.2.1⟩, fun q h1 _ h3 => hM.2.2 q h1 h3⟩
theorem back_OR (ho : OR n t b l) {k : Nat} (hk : k < 2) (hc : bkP k t b n + 1 < n) (h99 : l (bkX k t b n) + l (bkY k t b n) ≤ 99) : OR n (bcT k t b n) (bcB k t b n) (bcL k t b l n) := by
  have h3 := bk_f ho hk
  obtain ⟨h2, h5, ht, hb, hl⟩ := ho
  refine ⟨h2, h5, ?_, ?_, fun j hj => ?_⟩
  · unfold bcT; split
    · exact ht
    · exact bkF_PM ht hc
  · unfold bcB; split
    · exact bkF_PM hb hc
    · exact hb
  · simp only [bcL, upN]
    have l1 := hl _ h3.2.1
    by_cases c : j = bkX k t b n
    · rw [if_pos c]; omega
    · rw [if_neg c]; exact hl j hj
theorem bgn {m : Nat} (h2 : 2 ≤ m) (h5 : m ≤ 5) : (if (2 : Int32) < (if (5 : Int32) < nI m then (5 : Int32) else nI m) then (if (5 : Int32) < nI m then (5 : Int32) else nI m) else (2 : Int32)) = nI m := by
  rcases (show m = 2 ∨ m = 3 ∨ m = 4 ∨ m = 5 by omega) with rfl | rfl | rfl | rfl <;> decide
def ovF (n : Nat) (f t : Nat → Nat) : Nat → Nat := fun k => if k < n then f k else t k
theorem begin_ok (h : RW M r n t b l) {m : Nat} (h2 : 2 ≤ m) (h5 : m ≤ 5) (hF : 10 ≤ F) :
    Ok (f_X3_begin F r (nI m) M) (fun M' => RW M' r m (ovF m (fun k => k) t) (ovF m (fun k => m - 1 - k) b) (ovF m (fun _ => 1) l) ∧ Fr M M' r (r + 4)) := by
  unfold f_X3_begin
  rw [bgn h2 h5]
  refine ok_b (put_of h.1 (by simp)) ?_
  have hR : RW (x_up M r (.inr (3, [.int (nI m), .ref (r + 1), .ref (r + 2), .ref (r + 3)]))) r m t b l := ⟨up_s, h.2.1.fr (up_n (by omega)), h.2.2.1.fr (up_n (by omega)), h.2.2.2.fr (up_n (by omega))⟩
  refine ok_w (P := fun M' => RW M' r m (ovF m (fun k => k) t) (ovF m (fun k => m - 1 - k) b) (ovF m (fun _ => 1) l) ∧ Fr (x_up M r (.inr (3, [.int (nI m), .ref (r + 1), .ref (r + 2), .ref (r + 3)]))) M' r (r + 4)) ?_ (fun M' hM => ⟨hM.1, (Fr.up (by omega) (by omega)).tr hM.2⟩)
  refine ok_loop (I := fun i q => q.1 = nI i ∧ RW q.2 r m (ovF i (fun k => k) t) (ovF i (fun k => m - 1 - k) b) (ovF i (fun _ => 1) l) ∧ Fr (x_up M r (.inr (3, [.int (nI m), .ref (r + 1), .ref (r + 2), .ref (r + 3)]))) q.2 r (r + 4)) m ?_ ?_ m 0 F _ (by omega) (by omega) ⟨rfl, hR.cg (fun k hk => ?_) (fun k hk => ?_) (fun k hk => ?_), Fr.rf⟩
  · rintro k i ⟨q1, q2⟩ hi ⟨rfl, g, fr⟩ hk
    dsimp only at g fr
    unfold b_X3_begin_15
    refine ok_b (gI_of g.1 rfl) ?_
    refine ok_f (nI_ge hi (by omega)) ?_
    refine ok_b (gR_of g.1 rfl) ?_
    refine ok_m (g.2.1.wr i i rfl rfl (by omega) (by decide)) (fun M1 hM1 => ?_)
    have o1 : M1 r = _ := (hM1.2 r (by omega)).trans g.1
    have b1 : IA M1 (r + 2) 5 _ := g.2.2.1.fr (hM1.2 _ (by omega))
    refine ok_b (gR_of o1 rfl) ?_
    refine ok_b (gI_of o1 rfl) ?_
    refine ok_m (b1.wr i (m - 1 - i) rfl (by rw [e_pred (i := m) (by omega)]; exact pk_sub (by omega)) (by omega) (by decide)) (fun M2 hM2 => ?_)
    have o2 : M2 r = _ := (hM2.2 r (by omega)).trans o1
    have l2 : IA M2 (r + 3) 5 _ := (g.2.2.2.fr (hM1.2 _ (by omega))).fr (hM2.2 _ (by omega))
    refine ok_b (gR_of o2 rfl) ?_
    refine ok_m (l2.wr i 1 rfl rfl (by omega) (by decide)) (fun M3 hM3 => ?_)
    have hR3 : RW M3 r m _ _ _ := ⟨(hM3.2 r (by omega)).trans o2, (hM1.1.fr (hM2.2 _ (by omega))).fr (hM3.2 _ (by omega)), hM2.1.fr (hM3.2 _ (by omega)), hM3.1⟩
    refine hk _ ⟨e1 i, hR3.cg (fun k hk => ?_) (fun k hk => ?_) (fun k hk => ?_), fun q hq => (hM3.2 q (by omega)).trans ((hM2.2 q (by omega)).trans ((hM1.2 q (by omega)).trans (fr q hq)))⟩
    all_goals
      simp only [upN, ovF]
      by_cases c1 : k = i
      · subst c1; simp
      · rw [if_neg c1]
        by_cases c2 : k < i
        · rw [if_pos c2, if_pos (show k < i + 1 by omega)]
        · rw [if_neg c2, if_neg (show ¬ k < i + 1 by omega)]
  · rintro k ⟨q1, q2⟩ ⟨rfl, g, fr⟩
    dsimp only at g fr
    unfold b_X3_begin_15
    refine ok_b (gI_of g.1 rfl) ?_
    refine ok_t (nI_le (Nat.le_refl m) (by omega)) ?_
    exact ok_v ⟨g, fr⟩
  all_goals simp [ovF]
theorem copyFrom_ok {r2 n2 : Nat} {t2 b2 l2 : Nat → Nat} (h : RW M r n t b l) (h2 : RW M r2 n2 t2 b2 l2) (hd : r + 4 ≤ r2 ∨ r2 + 4 ≤ r) (hF : 10 ≤ F) :
    Ok (f_X3_copyFrom F r r2 M) (fun M' => RW M' r n2 t2 b2 l2 ∧ Fr M M' r (r + 4)) := by
  unfold f_X3_copyFrom
  refine ok_b (gI_of h2.1 rfl) ?_
  refine ok_b (put_of h.1 (by simp)) ?_
  generalize hm : x_up M r (.inr (3, [Value.int (nI n), .ref (r + 1), .ref (r + 2), .ref (r + 3)].set 0 (.int (nI n2)))) = M0
  have hR : RW M0 r n2 t b l := by
    subst hm
    exact ⟨up_s, h.2.1.fr (up_n (by omega)), h.2.2.1.fr (up_n (by omega)), h.2.2.2.fr (up_n (by omega))⟩
  have f0 : Fr M M0 r (r + 4) := by subst hm; exact Fr.up (by omega) (by omega)
  refine ok_w (P := fun M' => RW M' r n2 t2 b2 l2 ∧ Fr M0 M' r (r + 4)) ?_ (fun M' hM => ⟨hM.1, f0.tr hM.2⟩)
  refine ok_loop (I := fun i q => q.1 = nI i ∧ RW q.2 r n2 (ovF i t2 t) (ovF i b2 b) (ovF i l2 l) ∧ Fr M0 q.2 r (r + 4)) 5 ?_ ?_ 5 0 F _ (by omega) (by omega) ⟨rfl, hR.cg (fun k hk => ?_) (fun k hk => ?_) (fun k hk => ?_), Fr.rf⟩
  · rintro k i ⟨q1, q2⟩ hi ⟨rfl, g, fr⟩ hk
    dsimp only at g fr
    have s2 : RW q2 r2 n2 t2 b2 l2 := h2.fr (fun q a1 a2 => (f0.tr fr) q (by omega))
    unfold b_X3_copyFrom_10
    refine ok_f (nI_ge (b := 5) hi (by omega)) ?_
    refine ok_b (gR_of g.1 rfl) ?_
    refine ok_b (gR_of s2.1 rfl) ?_
    refine ok_b (s2.2.1.rd i rfl hi (by decide)) ?_
    refine ok_m (g.2.1.wr i (t2 i) rfl rfl (by omega) (by decide)) (fun M1 hM1 => ?_)
    have o1 : M1 r = _ := (hM1.2 r (by omega)).trans g.1
    have b1 : IA M1 (r + 2) 5 _ := g.2.2.1.fr (hM1.2 _ (by omega))
    have s3 : RW M1 r2 n2 t2 b2 l2 := s2.fr (fun q a1 a2 => hM1.2 q (by omega))
    refine ok_b (gR_of o1 rfl) ?_
    refine ok_b (gR_of s3.1 rfl) ?_
    refine ok_b (s3.2.2.1.rd i rfl hi (by decide)) ?_
    refine ok_m (b1.wr i (b2 i) rfl rfl (by omega) (by decide)) (fun M2 hM2 => ?_)
    have o2 : M2 r = _ := (hM2.2 r (by omega)).trans o1
    have l2' : IA M2 (r + 3) 5 _ := (g.2.2.2.fr (hM1.2 _ (by omega))).fr (hM2.2 _ (by omega))
    have s4 : RW M2 r2 n2 t2 b2 l2 := s3.fr (fun q a1 a2 => hM2.2 q (by omega))
    refine ok_b (gR_of o2 rfl) ?_
    refine ok_b (gR_of s4.1 rfl) ?_
    refine ok_b (s4.2.2.2.rd i rfl hi (by decide)) ?_
    refine ok_m (l2'.wr i (l2 i) rfl rfl (by omega) (by decide)) (fun M3 hM3 => ?_)
    have hR3 : RW M3 r n2 _ _ _ := ⟨(hM3.2 r (by omega)).trans o2, (hM1.1.fr (hM2.2 _ (by omega))).fr (hM3.2 _ (by omega)), hM2.1.fr (hM3.2 _ (by omega)), hM3.1⟩
    refine hk _ ⟨e1 i, hR3.cg (fun k hk => ?_) (fun k hk => ?_) (fun k hk => ?_), fun q hq => (hM3.2 q (by omega)).trans ((hM2.2 q (by omega)).trans ((hM1.2 q (by omega)).trans (fr q hq)))⟩
    all_goals
      simp only [upN, ovF]
      by_cases c1 : k = i
      · subst c1; simp
      · rw [if_neg c1]
        by_cases c2 : k < i
        · rw [if_pos c2, if_pos (show k < i + 1 by omega)]
        · rw [if_neg c2, if_neg (show ¬ k < i + 1 by omega)]
  · rintro k ⟨q1, q2⟩ ⟨rfl, g, fr⟩
    dsimp only at g fr
    unfold b_X3_copyFrom_10
    refine ok_t (nI_le (a := 5) (Nat.le_refl 5) (by omega)) ?_
    refine ok_v ⟨g.cg (fun k hk => ?_) (fun k hk => ?_) (fun k hk => ?_), fr⟩
    all_goals
      simp only [ovF]
      rw [if_pos hk]
  all_goals simp [ovF]
def swF (b : Nat → Nat) (n x y : Nat) : Nat → Nat := fun k => if k < n then (if b k = x then y else if b k = y then x else b k) else b k
theorem swap_ok (h : RW M r n t b l) (hn : n ≤ 5) (hb : PM n b) {x y : Nat} (hx : x < n) (hy : y < n) (hF : 10 ≤ F) :
    Ok (f_X3_swapInBottom F r (nI x) (nI y) M) (fun M' => RW M' r n t (swF b n x y) l ∧ ∀ q, q ≠ r + 2 → M' q = M q) := by
  unfold f_X3_swapInBottom
  refine ok_loop (I := fun i q => q.1 = nI i ∧ RW q.2 r n t (ovF i (swF b n x y) b) l ∧ ∀ z, z ≠ r + 2 → q.2 z = M z) n ?_ ?_ n 0 F _ (by omega) (by omega) ⟨rfl, h.cg (fun k hk => rfl) (fun k hk => ?_) (fun k hk => rfl), fun _ _ => rfl⟩
  · rintro k i ⟨q1, q2⟩ hi ⟨rfl, g, fr⟩ hk
    dsimp only at g fr
    have bi := hb.1 i hi
    have hrd : x_a32 .int q2 (r + 2) (nI i) = some (nI (b i)) := by
      rw [g.2.2.1.rd i rfl (by omega) (by decide)]
      simp [ovF]
    have fin : ∀ (M1 : XM) (w : Nat), w = swF b n x y i → (IA M1 (r + 2) 5 (upN (ovF i (swF b n x y) b) i w) ∧ ∀ q, q ≠ r + 2 → M1 q = q2 q) → (RW M1 r n t (ovF (i + 1) (swF b n x y) b) l ∧ ∀ z, z ≠ r + 2 → M1 z = M z) := by
      intro M1 w hw hM1
      refine ⟨⟨(hM1.2 r (by omega)).trans g.1, g.2.1.fr (hM1.2 _ (by omega)), hM1.1.cg (fun k hk => ?_), g.2.2.2.fr (hM1.2 _ (by omega))⟩, fun z hz => (hM1.2 z hz).trans (fr z hz)⟩
      simp only [upN, ovF]
      by_cases c1 : k = i
      · rw [if_pos c1, if_pos (show k < i + 1 by omega), c1, hw]
      · rw [if_neg c1]
        by_cases c2 : k < i
        · rw [if_pos c2, if_pos (show k < i + 1 by omega)]
        · rw [if_neg c2, if_neg (show ¬ k < i + 1 by omega)]
    unfold b_X3_swapInBottom_2
    refine ok_b (gI_of g.1 rfl) ?_
    refine ok_f (nI_ge hi (by omega)) ?_
    refine ok_b (gR_of g.1 rfl) ?_
    refine ok_b hrd ?_
    by_cases c : b i = x
    · refine ok_t (by rw [c]) ?_
      refine ok_b (gR_of g.1 rfl) ?_
      refine ok_m (g.2.2.1.wr i y rfl rfl (by omega) (by decide)) (fun M1 hM1 => ?_)
      exact hk _ ⟨e1 i, fin M1 y (by simp [swF, hi, c]) hM1⟩
    · refine ok_f (fun e => c (nI_inj (by omega) (by omega) e)) ?_
      refine ok_b (gR_of g.1 rfl) ?_
      refine ok_b hrd ?_
      by_cases c2 : b i = y
      · refine ok_t (by rw [c2]) ?_
        refine ok_b (gR_of g.1 rfl) ?_
        refine ok_m (g.2.2.1.wr i x rfl rfl (by omega) (by decide)) (fun M1 hM1 => ?_)
        exact hk _ ⟨e1 i, fin M1 x (by rw [swF, if_pos hi, if_neg c, if_pos c2]) hM1⟩
      · refine ok_f (fun e => c2 (nI_inj (by omega) (by omega) e)) ?_
        refine hk _ ⟨e1 i, fin q2 (b i) (by rw [swF, if_pos hi, if_neg c, if_neg c2]) ⟨g.2.2.1.cg (fun k hk => ?_), fun _ _ => rfl⟩⟩
        simp only [upN]
        by_cases c3 : k = i
        · rw [if_pos c3, c3]; simp [ovF]
        · rw [if_neg c3]
  · rintro k ⟨q1, q2⟩ ⟨rfl, g, fr⟩
    dsimp only at g fr
    unfold b_X3_swapInBottom_2
    refine ok_b (gI_of g.1 rfl) ?_
    refine ok_t (nI_le (Nat.le_refl n) (by omega)) ?_
    refine ok_v ⟨g.cg (fun k hk => rfl) (fun k hk => ?_) (fun k hk => rfl), fr⟩
    simp only [ovF]
    by_cases c : k < n
    · rw [if_pos c]
    · rw [if_neg c, swF, if_neg c]
  · simp [ovF]
theorem swF_PM (hb : PM n b) {x y : Nat} (hx : x < n) (hy : y < n) (hxy : x ≠ y) : PM n (swF b n x y) := by
  refine ⟨fun k hk => ?_, fun i j hij hj e => ?_⟩
  · have := hb.1 k hk
    simp only [swF, if_pos hk]
    split
    · exact hy
    · split
      · exact hx
      · exact this
  · have hne := hb.2 i j hij hj
    simp only [swF, if_pos hj, if_pos (show i < n by omega)] at e
    split at e <;> split at e <;> (try split at e) <;> (try split at e) <;> simp_all
end BACK
