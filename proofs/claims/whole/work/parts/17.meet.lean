-- MEETINGS
def mtF (n : Nat) (t b : Nat → Nat) (j : Nat) : Nat := if j = 0 then pl t (b 0) n else if pl b (t (j - 1)) n + 1 < n then pl t (b (pl b (t (j - 1)) n + 1)) n else n
theorem mtF_lt {n : Nat} {t b l : Nat → Nat} (ho : OR n t b l) {j : Nat} (hj : j < n + 1) : mtF n t b j < n + 1 := by
  obtain ⟨h2, h5, ht, hb, hl⟩ := ho
  unfold mtF
  split
  · have := (ht.pls (hb.1 0 (by omega))).1; omega
  · split
    · rename_i c
      have := (ht.pls (hb.1 _ c)).1; omega
    · omega
/-- marks set one behind the other, so many -/
def cmk (g : Nat → Nat) : Nat → (Nat → Bool) → Nat → (Nat → Bool)
  | 0, s, _ => s
  | f + 1, s, q => cmk g f (fun x => if x = q then true else s x) (g q)
def Cls (g : Nat → Nat) (N : Nat) (s : Nat → Bool) : Prop := ∀ x, x < N → s x = true → s (g x) = true
theorem cmk_in {g : Nat → Nat} {N : Nat} (hg : ∀ x, x < N → g x < N) {s : Nat → Bool} (hc : Cls g N s) : ∀ (f : Nat) {q : Nat}, q < N → s q = true → cmk g f s q = s
  | 0, _, _, _ => rfl
  | f + 1, q, hq, hs => by
    have e : (fun x => if x = q then true else s x) = s := by
      funext x
      by_cases c : x = q
      · rw [if_pos c, c, hs]
      · rw [if_neg c]
    simp only [cmk]
    rw [e]
    exact cmk_in hg hc f (hg q hq) (hc q hq hs)
theorem cmk_ch {g : Nat → Nat} {N : Nat} (hg : ∀ x, x < N → g x < N) : ∀ (f : Nat) {s : Nat → Bool} {q : Nat}, q < N → (∀ x, x < N → s x = true → s (g x) = true ∨ g x = q) → cmk g f s q = ch g f s q
  | 0, _, _, _, _ => rfl
  | f + 1, s, q, hq, hc => by
    cases hs : s q with
    | true =>
      have hcl : Cls g N s := fun x hx h => by
        rcases hc x hx h with c | c
        · exact c
        · rw [c]; exact hs
      rw [cmk_in hg hcl (f + 1) hq hs]
      simp only [ch, hs, if_true]
    | false =>
      simp only [cmk, ch, hs, Bool.false_eq_true, if_false]
      refine cmk_ch hg f (hg q hq) (fun x hx h => ?_)

      by_cases c : x = q
      · exact Or.inr (by rw [c])
      · rw [if_neg c] at h
        rcases hc x hx h with c2 | c2
        · left
          by_cases c3 : g x = q
          · rw [if_pos c3]
          · rw [if_neg c3]; exact c2
        · left; rw [if_pos c2]
theorem ct_dn {s : Nat → Bool} {N q : Nat} (hq : q < N) (hs : s q = false) : fb_ct (fun x => !(if x = q then true else s x)) N + 1 = fb_ct (fun x => !s x) N := by
  have h := fb_ct_upd (fun x => !s x) false (i := q) (n := N) hq
  have e : (fun k => if k = q then false else (fun x => !s x) k) = (fun x => !(if x = q then true else s x)) := by
    funext x
    by_cases c : x = q <;> simp [c]
  rw [e] at h
  simp only [hs, Bool.not_false, if_true, Bool.false_eq_true, if_false] at h
  omega
theorem ch_cl {g : Nat → Nat} {N : Nat} (hg : ∀ x, x < N → g x < N) : ∀ (f : Nat) {s : Nat → Bool} {q : Nat}, q < N → (∀ x, x < N → s x = true → s (g x) = true ∨ g x = q) → fb_ct (fun x => !s x) N ≤ f → Cls g N (ch g f s q)
  | 0, s, q, hq, hc, hf => by
    have h0 := fb_ct_zero.mp (Nat.le_zero.mp hf)
    intro x hx _
    have := h0 (g x) (hg x hx)
    simpa [ch] using this
  | f + 1, s, q, hq, hc, hf => by
    cases hs : s q with
    | true =>
      simp only [ch, hs, if_true]
      intro x hx h
      rcases hc x hx h with c | c
      · exact c
      · rw [c]; exact hs
    | false =>
      simp only [ch, hs, Bool.false_eq_true, if_false]
      have h1 := ct_dn hq hs
      refine ch_cl hg f (hg q hq) (fun x hx h => ?_) (by omega)

      by_cases c : x = q
      · exact Or.inr (by rw [c])
      · rw [if_neg c] at h
        rcases hc x hx h with c2 | c2
        · left
          by_cases c3 : g x = q
          · rw [if_pos c3]
          · rw [if_neg c3]; exact c2
        · left; rw [if_pos c2]
theorem rs_cl {g : Nat → Nat} {N : Nat} (hg : ∀ x, x < N → g x < N) : ∀ {i : Nat}, i ≤ N → Cls g N (rs g N i).1
  | 0, _ => fun x hx h => by simp [rs] at h
  | i + 1, hi => by
    have ih := rs_cl hg (i := i) (by omega)
    simp only [rs]
    split
    · exact ih
    · exact ch_cl hg N (by omega) (fun x hx h => Or.inl (ih x hx h)) (fb_ct_le _ _)
-- masks
def RB (m N : Nat) (s : Nat → Bool) : Prop := m < 64 ∧ ∀ k, k < N → m.testBit k = s k
theorem shr_b : ((List.range 64).all fun m => (List.range 6).all fun x => decide (((nI m >>> (nI x &&& 31)) &&& (1 : Int32)) = bz (m.testBit x))) = true := by decide +kernel
theorem shr_t {m x : Nat} (hm : m < 64) (hx : x < 6) : ((nI m >>> (nI x &&& 31)) &&& (1 : Int32)) = bz (m.testBit x) := of_decide_eq_true (ra (ra shr_b hm) hx)
theorem RB.set {m N : Nat} {s : Nat → Bool} (h : RB m N s) {x : Nat} (hx : x < 6) : RB (m ||| 2 ^ x) N (fun k => if k = x then true else s k) := by
  refine ⟨Nat.or_lt_two_pow (n := 6) h.1 (Nat.pow_lt_pow_right (by decide) hx), fun k hk => ?_⟩
  rw [fb_bit_set, h.2 k hk]
  by_cases c : k = x <;> simp [c]
section MEET
variable {M : XM} {F r n : Nat} {t b l : Nat → Nat}
theorem meetingBehind_ok (h : RW M r n t b l) (ho : OR n t b l) {j : Nat} (hj : j < n + 1) (hF : 10 ≤ F) : f_X3_meetingBehind F r (nI j) M = some (nI (mtF n t b j)) := by
  obtain ⟨h2, h5, ht, hb, hl⟩ := ho
  unfold f_X3_meetingBehind mtF
  by_cases c : j = 0
  · subst c
    have hb0 := hb.1 0 (by omega)
    refine ct rfl (bs (gR_of h.1 rfl) (bs (h.2.2.1.rd 0 rfl (by omega) (by decide)) ?_))
    unfold j_X3_meetingBehind_29
    rw [if_pos rfl]
    exact cf (nI_m1 (by omega)) (bs (gR_of h.1 rfl) (bs (ob_of h.1) (bs (placeIn_pl h h.2.1 h5 ht hb0 hF) rfl)))
  · have ht1 := ht.1 (j - 1) (by omega)
    have hp := hb.pls ht1
    refine cf (nI_ne0 (by omega) (by omega)) (bs (gR_of h.1 rfl) (bs (gR_of h.1 rfl) (bs (h.2.1.rd (j - 1) (e_pred (by omega)) (by omega) (by decide)) (bs (ob_of h.1) ?_))))
    rw [if_neg c]
    by_cases c2 : pl b (t (j - 1)) n + 1 < n
    · have e := letterBehind_in (F := F) h h.2.2.1 h5 hb c2 hF
      rw [hp.2] at e
      have hy := hb.1 _ c2
      refine bs e ?_
      unfold j_X3_meetingBehind_29
      rw [if_pos c2]
      exact cf (nI_m1 (by omega)) (bs (gR_of h.1 rfl) (bs (ob_of h.1) (bs (placeIn_pl h h.2.1 h5 ht hy hF) rfl)))
    · have e := letterBehind_out (F := F) h h.2.2.1 h5 (by omega) hb hF
      rw [show n - 1 = pl b (t (j - 1)) n by omega, hp.2] at e
      refine bs e ?_
      unfold j_X3_meetingBehind_29
      rw [if_neg c2]
      exact ct rfl (bs (gI_of h.1 rfl) rfl)
def crN (n : Nat) (t b : Nat → Nat) : Nat := (rs (mtF n t b) (n + 1) (n + 1)).2
theorem corners_ok (h : RW M r n t b l) (ho : OR n t b l) (hF : 10 ≤ F) : f_X3_corners F r M = some (nI (crN n t b)) := by
  have h5 := ho.2.1
  have hg : ∀ x, x < n + 1 → mtF n t b x < n + 1 := fun x hx => mtF_lt ho hx
  unfold f_X3_corners
  refine ok_e (ok_loop (I := fun i q => ∃ m, q = (nI m, nI (rs (mtF n t b) (n + 1) i).2, nI i) ∧ RB m (n + 1) (rs (mtF n t b) (n + 1) i).1) (n + 1) ?_ ?_ (n + 1) 0 F _ (by omega) (by omega) ⟨0, rfl, by decide, fun k hk => by simp [rs]⟩)
  · rintro k i q hi ⟨m, rfl, hm⟩ hk
    unfold b_X3_corners_6
    dsimp only
    refine ok_b (gI_of h.1 rfl) ?_
    refine ok_f (nI_nlt (by omega) (by omega)) ?_
    rw [shr_t hm.1 (by omega), hm.2 i hi]
    cases hs : (rs (mtF n t b) (n + 1) i).1 i with
    | true =>
      refine ok_f (by decide) ?_
      refine hk _ ⟨m, ?_, ?_⟩
      · simp only [rs, hs, if_true]; rw [e1]
      · simp only [rs, hs, if_true]; exact hm
    | false =>
      refine ok_t (by decide) ?_
      have hcl := rs_cl hg (i := i) (by omega)
      have e0 : cmk (mtF n t b) (n + 1) (rs (mtF n t b) (n + 1) i).1 i = ch (mtF n t b) (n + 1) (rs (mtF n t b) (n + 1) i).1 i := cmk_ch hg (n + 1) hi (fun x hx h => Or.inl (hcl x hx h))
      refine ok_loop (I := fun d q => ∃ (m' x : Nat) (s : Nat → Bool), x < n + 1 ∧ q = (nI m', nI x, nI d) ∧ RB m' (n + 1) s ∧ cmk (mtF n t b) (n + 1 - d) s x = ch (mtF n t b) (n + 1) (rs (mtF n t b) (n + 1) i).1 i) (n + 1) ?_ ?_ (n + 1) 0 F _ (by omega) (by omega) ⟨m, i, _, hi, rfl, hm, e0⟩
      · rintro k31 d q hd ⟨m', x, s, hx, rfl, hm', e⟩ hk31
        obtain ⟨f, hf⟩ : ∃ f, n + 1 - d = f + 1 := ⟨n - d, by omega⟩
        rw [hf] at e
        simp only [cmk] at e
        unfold b_X3_corners_31
        dsimp only
        refine ok_b (gI_of h.1 rfl) ?_
        refine ok_f (nI_nlt (by omega) (by omega)) ?_
        refine ok_b (ob_of h.1) ?_
        refine ok_b (meetingBehind_ok h ho hx hF) ?_
        refine hk31 _ ⟨m' ||| 2 ^ x, mtF n t b x, _, hg x hx, ?_, hm'.set (show x < 6 by omega), ?_⟩
        · rw [shl1 (by omega), fa_or, e1]
        · rw [show n + 1 - (d + 1) = f by omega]; exact e
      · rintro k31 q ⟨m', x, s, hx, rfl, hm', e⟩
        rw [Nat.sub_self] at e
        simp only [cmk] at e
        unfold b_X3_corners_31
        dsimp only
        refine ok_b (gI_of h.1 rfl) ?_
        refine ok_t (nI_lt (by omega) (by omega)) ?_
        refine hk _ ⟨m', ?_, ?_⟩
        · simp only [rs, hs, Bool.false_eq_true, if_false]
          rw [e1, e1]
        · simp only [rs, hs, Bool.false_eq_true, if_false]
          rw [← e]; exact hm'
  · rintro k q ⟨m, rfl, hm⟩
    unfold b_X3_corners_6
    dsimp only
    refine ok_b (gI_of h.1 rfl) ?_
    exact ok_t (nI_lt (by omega) (by omega)) (ok_v rfl)
end MEET
