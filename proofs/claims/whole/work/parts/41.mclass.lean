-- THE REFERENCE: SHAPES BEHIND SHAPES
theorem pl_id {n x : Nat} (h : x < n) : pl (fun j => j) x n = x := (id_PM n).ple h rfl
theorem np0 {n : Nat} {p : Nat → Nat} (hp : PM n p) (h2 : 2 ≤ n) (hne : p (n - 1) ≠ n - 1) {i : Nat} (hi : i < n) : np n p 0 i = mvF p n (pl p (n - 1) n) i := by
  have hpl := hp.pls (show n - 1 < n by omega)
  have h1 : pl p (n - 1) n + 1 < n := by
    rcases Nat.lt_or_ge (pl p (n - 1) n + 1) n with q | q
    · exact q
    · exfalso
      have : pl p (n - 1) n = n - 1 := by omega
      rw [this] at hpl
      exact hne hpl.2
  have hm := mvF_PM hp h1
  show pl (fun j => j) (mvF p n (pl p (n - 1) n) i) n = _
  exact pl_id (hm.1 i hi)
theorem np1 {n : Nat} {p : Nat → Nat} (hp : PM n p) (h2 : 2 ≤ n) (hne : p (n - 1) ≠ n - 1) {i : Nat} (hi : i < n) : np n p 1 i = (if p i = n - 1 then p (n - 1) + 1 else if p i ≤ p (n - 1) then p i else p i + 1) := by
  have hl := hp.1 (n - 1) (by omega)
  have hpi := hp.1 i hi
  show pl (mvF (fun j => j) n (pl (fun j => j) (p (n - 1)) n)) (p i) n = _
  rw [pl_id hl]
  have hm := mvF_PM (id_PM n) (show p (n - 1) + 1 < n by omega)
  split
  · rename_i e
    refine hm.ple (by omega) ?_
    simp only [mvF]
    rw [if_pos (by trivial), e]
  · split
    · refine hm.ple (by omega) ?_
      simp only [mvF]
      rw [if_neg (by omega), if_neg (by omega)]
    · refine hm.ple (by omega) ?_
      simp only [mvF]
      rw [if_neg (by omega), if_pos (by omega)]
      omega
section MCLASS
variable {M : XM} {F y : Nat} {pc ft : Int32} {w wi dd tx si : Nat → Nat} {hi : Bool} {dm tl : Nat} {so : Nat → Int32} {it : Nat → Int64}
theorem mnext_ok (h : NW M y w) (h4 : ∃ t, JA M (y + 4) 5 t) (h2 : 2 ≤ w 0) (h5 : w 0 ≤ 5) {v k : Nat} (hv : vC (w 0) v) (hk : k < 2) (hF : 10 ≤ F) : Ok (f_X9_nextOf F y (nI v) (nI k) M) (fun r => r.1 = oI (nxN (w 0) v k) ∧ (∃ t, JA r.2 (y + 4) 5 t) ∧ ∀ q, q ≠ y + 4 → r.2 q = M q) := by
  have hvl := vC_lt h5 hv
  obtain ⟨hp, hve⟩ := vC_dg h2 h5 hv
  obtain ⟨⟨o1, o2, o3, o4, o5, o6, c⟩, hW⟩ := id h
  unfold f_X9_nextOf
  refine ok_b (ob_of c) ?_
  refine ok_m (misCode_ok h h4 h2 h5 (nI v) hF) (fun r hr => ?_)
  obtain ⟨hr1, f1⟩ := hr
  have isc : isC (w 0) (nI v) := ⟨dg (w 0) v, hp, by rw [← hve]⟩
  rcases hr1 with ⟨-, -, t, ht, htk⟩ | ⟨z, -⟩
  · rw [nIc (by omega)] at htk
    have c1 : r.2 y = _ := (f1 y (by omega)).trans c
    have W1 : IA r.2 (y + 1) 60 w := hW.fr (f1 _ (by omega))
    refine ok_b (gR_of c1 rfl) (ok_b (W1.rd 0 rfl (by omega) (by decide)) (ok_b (gR_of c1 rfl) (ok_b (ht.rd (w 0 - 1) (e_pred (by omega)) (by omega) (by decide)) ?_)))
    rw [htk _ (by omega), e_pred (i := w 0) (by omega)]
    generalize hn : w 0 = n at *
    generalize hpd : dg n v = p at *
    have hlast := hp.1 (n - 1) (by omega)
    have hb5 : ∀ i, i < n → p i < 5 := fun i hi => by have := hp.1 i hi; omega
    by_cases q : p (n - 1) = n - 1
    · refine ok_t (by rw [q]) (ok_v ⟨?_, ⟨t, ht⟩, f1⟩)
      unfold nxN
      rw [hpd, if_pos q]; rfl
    · have en1 : nxN n v k = some (en (np n p k) n) := by unfold nxN; rw [hpd, if_neg q]
      rw [en1]
      refine ok_f (fun e => q (nI_inj (by omega) (by omega) e)) ?_
      have bnd : ∀ (f : Nat → Nat) i, PM n f → i ≤ n → en f i < 100000 := fun f i hf hi => en_b hf h5 hi
      rcases k01 hk with rfl | rfl
      · refine ok_t rfl ?_
        have hpl := hp.pls (show n - 1 < n by omega)
        have hP : pl p (n - 1) n + 1 < n := by
          rcases Nat.lt_or_ge (pl p (n - 1) n + 1) n with z | z
          · exact z
          · exfalso
            have : pl p (n - 1) n = n - 1 := by omega
            rw [this] at hpl
            exact q hpl.2
        have eN : en (np n p 0) n = en (mvF p n (pl p (n - 1) n)) n := en_cg (fun j hj => np0 hp h2 q hj)
        rw [eN]
        generalize hPd : pl p (n - 1) n = P at *
        refine ok_loop (I := fun i q => q = (nI (en (mvF p n P) (if i ≤ P then i else i + 1)), nI i)) (n - 1) ?_ ?_ (n - 1) 0 F _ (by omega) (by omega) (by rw [if_pos (by omega)]; rfl)
        · rintro k44 i q' hi2 rfl hk44
          unfold b_X9_nextOf_44
          dsimp only
          rw [e_pred (i := n) (by omega)]
          refine ok_f (nI_ge hi2 (by omega)) (ok_b (gR_of c1 rfl) (ok_b (ht.rd i rfl (by omega) (by decide)) (ok_b (gR_of c1 rfl) (ok_b (ht.rd i rfl (by omega) (by decide)) ?_))))
          rw [htk i (by omega)]
          by_cases z : i = P
          · have ep : p i = n - 1 := by rw [z]; exact hpl.2
            refine ok_t (by rw [ep]) (hk44 _ ?_)
            rw [if_pos (by omega), if_neg (by omega), e1]
            congr 1
            show nI 10 * (nI 10 * nI (en (mvF p n P) i) + nI (p i) + nI 1) + nI (p (n - 1)) + nI 1 = _
            rw [pk_mul, nI_add, nI_add, pk_mul, nI_add, nI_add]
            congr 1
            simp only [en]
            have m1 : mvF p n P i = p i := by simp only [mvF]; rw [if_neg (by omega), if_neg (by omega)]
            have m2 : mvF p n P (i + 1) = p (n - 1) := by simp only [mvF]; rw [if_pos (by omega)]
            rw [m1, m2]
            omega
          · have ep : p i ≠ n - 1 := fun e => z (hp.uq (by omega) (by omega) (e.trans hpl.2.symm))
            refine ok_f (fun e => ep (nI_inj (by have := hb5 i (by omega); omega) (by omega) e)) (hk44 _ ?_)
            rw [e1]
            congr 1
            show nI 10 * nI _ + nI (p i) + nI 1 = _
            rw [pk_mul, nI_add, nI_add]
            congr 1
            by_cases z2 : i ≤ P
            · rw [if_pos z2, if_pos (by omega)]
              simp only [en]
              have m1 : mvF p n P i = p i := by simp only [mvF]; rw [if_neg (by omega), if_neg (by omega)]
              rw [m1]; omega
            · rw [if_neg z2, if_neg (by omega)]
              simp only [en]
              have m1 : mvF p n P (i + 1) = p i := by simp only [mvF]; rw [if_neg (by omega), if_pos (by omega)]; rfl
              rw [m1]; omega
        · rintro k44 q' rfl
          unfold b_X9_nextOf_44
          dsimp only
          rw [e_pred (i := n) (by omega)]
          refine ok_t (nI_le (Nat.le_refl _) (by omega)) (ok_v ⟨?_, ⟨t, ht⟩, f1⟩)
          rw [if_neg (by omega), show n - 1 + 1 = n by omega]; rfl
      · refine ok_f (by decide) ?_
        refine ok_loop (I := fun i q => q = (nI (en (np n p 1) i), nI i)) n ?_ ?_ n 0 F _ (by omega) (by omega) rfl
        · rintro k11 i q' hi2 rfl hk11
          have hpi := hp.1 i hi2
          have enp := np1 hp h2 q hi2
          unfold b_X9_nextOf_111
          dsimp only
          refine ok_f (nI_ge hi2 (by omega)) (ok_b (gR_of c1 rfl) (ok_b (ht.rd i rfl (by omega) (by decide)) ?_))
          rw [htk i hi2, e_pred (i := n) (by omega)]
          have fin : ∀ x, x = np n p 1 i → ((10 : Int32) * nI (en (np n p 1) i) + 1 + nI x, nI i + 1) = (nI (en (np n p 1) (i + 1)), nI (i + 1)) := by
            intro x hx
            rw [e1]
            congr 1
            show nI 10 * nI _ + nI 1 + nI x = _
            rw [pk_mul, nI_add, nI_add]
            congr 1
            simp only [en]
            rw [hx]; omega
          by_cases z : p i = n - 1
          · refine ok_t (by rw [z]) (hk11 _ ?_)
            rw [e1 (p (n - 1))]
            exact fin _ (by rw [enp, if_pos z])
          · refine ok_f (fun e => z (nI_inj (by omega) (by omega) e)) (ok_b (gR_of c1 rfl) (ok_b (ht.rd i rfl (by omega) (by decide)) ?_))
            rw [htk i hi2]
            by_cases z2 : p i ≤ p (n - 1)
            · refine ok_t (nI_le z2 (by omega)) (ok_b (gR_of c1 rfl) (ok_b (ht.rd i rfl (by omega) (by decide)) ?_))
              rw [htk i hi2]
              exact hk11 _ (fin _ (by rw [enp, if_neg z, if_pos z2]))
            · refine ok_f (nI_ge (by omega) (by omega)) (ok_b (gR_of c1 rfl) (ok_b (ht.rd i rfl (by omega) (by decide)) ?_))
              rw [htk i hi2, e1 (p i)]
              exact hk11 _ (fin _ (by rw [enp, if_neg z, if_neg z2]))
        · rintro k11 q' rfl
          unfold b_X9_nextOf_111
          dsimp only
          exact ok_t (nI_le (Nat.le_refl _) (by omega)) (ok_v ⟨rfl, ⟨t, ht⟩, f1⟩)
  · exact absurd isc z
/-- the class found so far -/
def CLS (M : XM) (y : Nat) (hi dm tl pc ft : Int32) (w : Nat → Nat) (s : BS) : Prop := M y = some (.inr (9, MOb y hi dm tl pc ft (nI s.2.2))) ∧ IA M (y + 1) 60 w ∧ (∃ t, JA M (y + 4) 5 t) ∧ (∃ t, JA M (y + 12) 120 t ∧ ∀ j, j < s.2.2 → t j = nI (s.1 j)) ∧ ∃ t, JA M (y + 13) 120 t ∧ ∀ j, j < s.2.2 → t j = nI (s.2.1 j)
theorem number_ok {hi dm tl pc ft : Int32} {s : BS} (h : CLS M y hi dm tl pc ft w s) (hc : s.2.2 ≤ 120) (hcs : ∀ i, i < s.2.2 → s.1 i < 100000) {v : Nat} (hv : v < 100000) (hF : 1000 ≤ F) : f_X9_numberOf F y (nI v) M = some (if fx s.1 v s.2.2 < s.2.2 then nI (fx s.1 v s.2.2) else -1) := by
  obtain ⟨c, -, -, ⟨t, ht, htk⟩, -⟩ := h
  have hle := fx_le s.1 v s.2.2
  unfold f_X9_numberOf
  refine ok_e (ok_loop (I := fun i q => q = nI i) (fx s.1 v s.2.2) ?_ ?_ (fx s.1 v s.2.2) 0 F _ (by omega) (by omega) rfl)
  · rintro k i q hi2 rfl hk
    have := hcs i (by omega)
    unfold b_X9_numberOf_2
    refine ok_b (gI_of c rfl) (ok_f (nI_ge (by omega) (by omega)) (ok_b (gR_of c rfl) (ok_b (ht.rd i rfl (by omega) (by decide)) ?_)))
    rw [htk i (by omega)]
    exact ok_f (fun e => fx_no hi2 (nI_inj (by omega) (by omega) e)) (hk _ (e1 i))
  · rintro k q rfl
    unfold b_X9_numberOf_2
    refine ok_b (gI_of c rfl) ?_
    by_cases e : fx s.1 v s.2.2 < s.2.2
    · rw [if_pos e]
      refine ok_f (nI_ge e (by omega)) (ok_b (gR_of c rfl) (ok_b (ht.rd _ rfl (show fx s.1 v s.2.2 < 120 by omega) (by decide)) ?_))
      rw [htk _ e]
      exact ok_t (by rw [fx_yes e]) (ok_v rfl)
    · rw [if_neg e]
      exact ok_t (nI_le (by omega) (by omega)) (ok_v rfl)
theorem cls_step {hi dm tl pc ft : Int32} {s : BS} (h : CLS M y hi dm tl pc ft w s) (h2 : 2 ≤ w 0) (h5 : w 0 ≤ 5) (hs : okB (w 0) s) {i k : Nat} (hi2 : i < s.2.2) (hd : s.2.1 i + 1 ≤ 1000) (hk : k < 2) {k24 : (Int32 × XM) → Option XM} {k34 : (Int32 × XM) → Option XM} {Q : XM → Prop} (hF : 1000 ≤ F)
    (hQ : ∀ M', CLS M' y hi dm tl pc ft w (ad (nxN (w 0) (s.1 i) k) (s.2.1 i + 1) s) → (∀ q, q ≠ y → q ≠ y + 4 → q ≠ y + 12 → q ≠ y + 13 → M' q = M q) → Ok (k34 (nI (k + 1), M')) Q) : Ok (b_X9_findsClass_34 F y (nI i) k24 k34 (nI k, M)) Q := by
  obtain ⟨c, hW, h4, ⟨t, ht, htk⟩, ⟨u, hu, huk⟩⟩ := id h
  have hc := hs.c h2 h5
  have hvi := hs.2.1 i hi2
  unfold b_X9_findsClass_34
  dsimp only
  refine ok_f (nI_ge (b := 2) hk (by omega)) (ok_b (gR_of c rfl) (ok_b (ht.rd i rfl (by omega) (by decide)) (ok_b (ob_of c) ?_)))
  rw [htk i hi2]
  refine ok_m (mnext_ok ⟨⟨_, _, _, _, _, _, c⟩, hW⟩ h4 h2 h5 hvi hk (by omega)) (fun r hr => ?_)
  obtain ⟨v, h4', f1⟩ := hr
  have h' : CLS r.2 y hi dm tl pc ft w s := ⟨(f1 y (by omega)).trans c, hW.fr (f1 _ (by omega)), h4', ⟨t, ht.fr (f1 _ (by omega)), htk⟩, u, hu.fr (f1 _ (by omega)), huk⟩
  cases hn : nxN (w 0) (s.1 i) k with
  | none =>
    rw [hn] at v hQ
    refine ok_t v ?_
    rw [e1]
    exact hQ r.2 h' (fun q _ q4 _ _ => f1 q q4)
  | some x =>
    rw [hn] at v hQ
    have hx := vC_nx h2 h5 hvi hk hn
    have hxl := vC_lt h5 hx
    have hv2 : r.1 = nI x := v
    refine ok_f (fun e => ?_) ?_
    · rw [hv2] at e
      have e2 := congrArg Int32.toInt e
      rw [nI_toInt (by omega), show ((-5 : Int32).toInt) = -5 from rfl] at e2
      omega
    obtain ⟨c1, W1, -, ⟨t1, ht1, htk1⟩, ⟨u1, hu1, huk1⟩⟩ := id h'
    refine ok_b (ob_of c1) ?_
    rw [hv2]
    refine ok_b (number_ok h' hc (fun i hi => vC_lt h5 (hs.2.1 i hi)) hxl hF) ?_
    simp only [ad] at hQ
    by_cases e : fx s.1 x s.2.2 < s.2.2
    · rw [if_pos e] at hQ ⊢
      refine ok_f (nI_m1 (by omega)) ?_
      rw [e1]
      exact hQ r.2 h' (fun q _ q4 _ _ => f1 q q4)
    · rw [if_neg e] at hQ ⊢
      have hlt : s.2.2 < 120 := by
        have := (hs.adk h2 h5 (x := some x) (d := s.2.1 i + 1) (fun w e => by cases e; exact hx) hd).1.c h2 h5
        simp only [ad, if_neg e] at this
        omega
      refine ok_t rfl (ok_b (gR_of c1 rfl) (ok_b (gI_of c1 rfl) ?_))
      refine ok_m (ht1.wr s.2.2 (nI x) rfl hlt (by decide)) (fun M2 hM2 => ?_)
      have c2 : M2 y = _ := (hM2.2 y (by omega)).trans c1
      have u2 : JA M2 (y + 13) 120 u1 := hu1.fr (hM2.2 _ (by omega))
      refine ok_b (gR_of c2 rfl) (ok_b (gI_of c2 rfl) (ok_b (gR_of c2 rfl) (ok_b (u2.rd i rfl (by omega) (by decide)) ?_)))
      rw [huk1 i hi2, e1]
      refine ok_m (u2.wr s.2.2 (nI (s.2.1 i + 1)) rfl hlt (by decide)) (fun M3 hM3 => ?_)
      have c3 : M3 y = _ := (hM3.2 y (by omega)).trans c2
      refine ok_b (gI_of c3 rfl) (ok_b (put_of c3 (by simp [MOb])) ?_)
      rw [e1 k, e1]
      generalize hm : x_up M3 y _ = M4
      have f4 : ∀ q, q ≠ y → q ≠ y + 12 → q ≠ y + 13 → M4 q = r.2 q := fun q q1 q2 q3 => by subst hm; exact (up_n q1).trans ((hM3.2 q q3).trans (hM2.2 q q2))
      have o4 : M4 y = some (.inr (9, MOb y hi dm tl pc ft (nI (s.2.2 + 1)))) := by subst hm; rw [up_s]; rfl
      refine hQ M4 ⟨o4, W1.fr (f4 _ (by omega) (by omega) (by omega)), ?_, ⟨upJ t1 s.2.2 (nI x), ?_, fun j hj => ?_⟩, ⟨upJ u1 s.2.2 (nI (s.2.1 i + 1)), ?_, fun j hj => ?_⟩⟩ (fun q q1 q4 q12 q13 => (f4 q q1 q12 q13).trans (f1 q q4))
      · obtain ⟨t4, z⟩ := h4'; exact ⟨t4, z.fr (f4 _ (by omega) (by omega) (by omega))⟩
      · subst hm; exact (hM2.1.fr (hM3.2 _ (by omega))).fr (up_n (by omega))
      · dsimp only at hj
        simp only [upJ, upN]
        by_cases z : j = s.2.2
        · rw [if_pos z, if_pos z]
        · rw [if_neg z, if_neg z]; exact htk1 j (by omega)
      · subst hm; exact hM3.1.fr (up_n (by omega))
      · dsimp only at hj
        simp only [upJ, upN]
        by_cases z : j = s.2.2
        · rw [if_pos z, if_pos z]
        · rw [if_neg z, if_neg z]; exact huk1 j (by omega)
end MCLASS
