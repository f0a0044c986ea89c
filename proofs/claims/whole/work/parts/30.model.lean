-- THE REFERENCE: WHAT IT HOLDS NOW
def MOb (y : Nat) (hi dm tl pc ft cm : Int32) : List Value := [.ref (y + 1), .ref (y + 2), .int hi, .ref (y + 3), .int dm, .ref (y + 4), .ref (y + 5), .int tl, .int pc, .int ft, .ref (y + 6), .ref (y + 7), .ref (y + 8), .ref (y + 9), .ref (y + 10), .ref (y + 11), .ref (y + 12), .ref (y + 13), .int cm, .ref (y + 14), .ref (y + 15), .ref (y + 16)]
def NW (M : XM) (y : Nat) (w : Nat → Nat) : Prop := (∃ hi dm tl pc ft cm, M y = some (.inr (9, MOb y hi dm tl pc ft cm))) ∧ IA M (y + 1) 60 w
theorem NW.cg {M : XM} {y : Nat} {w w' : Nat → Nat} (h : NW M y w) (e : ∀ k, k < 60 → w k = w' k) : NW M y w' := ⟨h.1, h.2.cg (fun k hk => by rw [e k hk])⟩
theorem NW.fr {M M' : XM} {y : Nat} {w : Nat → Nat} (h : NW M y w) (e : M' y = M y) (e1 : M' (y + 1) = M (y + 1)) : NW M' y w := by
  obtain ⟨⟨a, b, c, d, f, g, h0⟩, h1⟩ := h
  exact ⟨⟨a, b, c, d, f, g, e.trans h0⟩, h1.fr e1⟩
theorem in_y {M : XM} {a lo hi : Int32} {L H : Int64} (eL : L = lo.toInt64) (eH : H = hi.toInt64) (h1 : ¬ a < lo) (h2 : ¬ hi < a) : f_X9_in a.toInt64 L H M = some 1 := by
  subst eL eH
  unfold f_X9_in
  exact cf (fun e => h1 ((fa_wide_lt _ _).mp ((lg_cmp_lt _ _).mp e))) (cf (fun e => h2 ((fa_wide_lt _ _).mp ((lg_cmp_gt _ _).mp e))) rfl)
theorem in_n {M : XM} {a lo hi : Int32} {L H : Int64} (eL : L = lo.toInt64) (eH : H = hi.toInt64) (h : a < lo ∨ hi < a) : f_X9_in a.toInt64 L H M = some 0 := by
  subst eL eH
  unfold f_X9_in
  by_cases c : a < lo
  · exact ct ((lg_cmp_lt _ _).mpr ((fa_wide_lt _ _).mpr c)) rfl
  · exact cf (fun e => c ((fa_wide_lt _ _).mp ((lg_cmp_lt _ _).mp e))) (ct ((lg_cmp_gt _ _).mpr ((fa_wide_lt _ _).mpr (h.resolve_left c))) rfl)
theorem in_L {M : XM} {n : Nat} {a : Int32} {H : Int64} (hn : n < 2147483648) (eH : H = (nI (n - 1)).toInt64) (h : isL n a) : f_X9_in a.toInt64 0 H M = some 1 := by
  obtain ⟨j, hj, rfl⟩ := h
  exact in_y (lo := 0) rfl eH (nI_pos (by omega)) (nI_nlt (by omega) (by omega))
theorem in_NL {M : XM} {n : Nat} {a : Int32} {H : Int64} (h0 : 0 < n) (hn : n < 2147483648) (eH : H = (nI (n - 1)).toInt64) (h : ¬ isL n a) : f_X9_in a.toInt64 0 H M = some 0 := by
  refine in_n (lo := 0) rfl eH ?_
  rcases isL_no2 hn h with q | q
  · exact Or.inl q
  · right
    have := (fa_le _ _).mp q
    rw [fa_lt]
    rw [nI_toInt (by omega)] at this ⊢
    omega
theorem bit_ok {M : XM} {b : Bool} : f_X9_bit (bz b) M = some (bz b) := by cases b <;> rfl
section NOW
variable {M : XM} {F y : Nat} {w : Nat → Nat}
theorem isLetter_in (h : NW M y w) (h5 : w 0 ≤ 5) {a : Int32} (ha : isL (w 0) a) : f_X9_isLetter y a M = some 1 := by
  obtain ⟨⟨_, _, _, _, _, _, c⟩, hW⟩ := h
  unfold f_X9_isLetter
  have h0 : 0 < w 0 := by obtain ⟨j, hj, -⟩ := ha; omega
  refine bs (gR_of c rfl) (bs (hW.rd 0 rfl (by omega) (by decide)) ?_)
  rw [e_pred h0]
  exact bs (in_L (by omega) rfl ha) (bs (v := ()) (by decide) rfl)
theorem isLetter_out (h : NW M y w) (h0 : 0 < w 0) (h5 : w 0 ≤ 5) {a : Int32} (ha : ¬ isL (w 0) a) : f_X9_isLetter y a M = some 0 := by
  obtain ⟨⟨_, _, _, _, _, _, c⟩, hW⟩ := h
  unfold f_X9_isLetter
  refine bs (gR_of c rfl) (bs (hW.rd 0 rfl (by omega) (by decide)) ?_)
  rw [e_pred h0]
  exact bs (in_NL h0 (by omega) rfl ha) (bs (v := ()) (by decide) rfl)
theorem mplace_ok (h : NW M y w) {b n : Nat} (hb : b ≤ 40) (hn : n ≤ 5) (hu : PM n (fun k => w (b + k))) {z : Nat} (hz : z < n) (hF : 10 ≤ F) : f_X9_placeIn F y (nI b) (nI z) M = some (nI (pl (fun k => w (b + k)) z n)) := by
  obtain ⟨⟨_, _, _, _, _, _, c⟩, hW⟩ := h
  have hp := hu.pls hz
  unfold f_X9_placeIn
  refine ok_e (ok_loop (I := fun i q => q = nI i) (pl (fun k => w (b + k)) z n) ?_ ?_ (pl (fun k => w (b + k)) z n) 0 F _ (by omega) (by omega) rfl)
  · rintro k i q hi rfl hk
    have := hu.1 i (by omega)
    dsimp only at this
    unfold b_X9_placeIn_2
    refine ok_b (gR_of c rfl) ?_
    refine ok_b (hW.rd (b + i) (nI_add _ _) (by omega) (by decide)) ?_
    refine ok_f (fun e => ?_) (hk _ (e1 i))
    have e2 := nI_inj (by omega) (by omega) e
    have := hu.uq (show i < n by omega) hp.1 (e2.trans hp.2.symm)
    omega
  · rintro k q rfl
    unfold b_X9_placeIn_2
    refine ok_b (gR_of c rfl) ?_
    refine ok_b (hW.rd (b + _) (nI_add _ _) (by omega) (by decide)) ?_
    exact ok_t (by show nI (w (b + _)) = nI z; rw [show w (b + pl (fun k => w (b + k)) z n) = z from hp.2]) (ok_v rfl)
theorem lastIn_ok (h : NW M y w) {b : Nat} (hb : b ≤ 40) (h0 : 0 < w 0) (h5 : w 0 ≤ 5) : f_X9_lastIn y (nI b) M = some (nI (w (b + (w 0 - 1)))) := by
  obtain ⟨⟨_, _, _, _, _, _, c⟩, hW⟩ := h
  unfold f_X9_lastIn
  refine bs (gR_of c rfl) (bs (gR_of c rfl) (bs (hW.rd 0 rfl (by omega) (by decide)) (bs (hW.rd (b + (w 0 - 1)) ?_ (by omega) (by decide)) rfl)))
  rw [nI_add, e_pred (by omega)]
  congr 1
  omega
theorem NW.wr (h : NW M y w) {i v : Int32} (j u : Nat) (hi : i = nI j) (hv : v = nI u) (hj : j < 60) : Ok (x_w32 .int M (y + 1) i v) (fun M' => NW M' y (upN w j u) ∧ ∀ q, q ≠ y + 1 → M' q = M q) := by
  obtain ⟨⟨a, b, c, d, e, f, o⟩, hW⟩ := h
  refine ok_w (hW.wr j u hi hv hj (by decide)) (fun M' hM => ⟨⟨⟨a, b, c, d, e, f, (hM.2 _ (by omega)).trans o⟩, hM.1⟩, hM.2⟩)
theorem mpoints_ok (h : NW M y w) (h5 : w 0 ≤ 5) (hF : 10 ≤ F) : f_X9_points F y M = some (nI (ptW w)) := by
  obtain ⟨⟨_, _, _, _, _, _, c⟩, hW⟩ := h
  unfold f_X9_points
  refine ok_e (ok_loop (I := fun i q => q = (nI (fb_sm (rL w) i), nI i)) (w 0) ?_ ?_ (w 0) 0 F _ (by omega) (by omega) rfl)
  · rintro k i q hi rfl hk
    unfold b_X9_points_4
    refine ok_b (gR_of c rfl) (ok_b (hW.rd 0 rfl (by omega) (by decide)) (ok_f (nI_ge hi (by omega)) ?_))
    refine ok_b (gR_of c rfl) (ok_b (hW.rd (12 + i) (nI_add 12 i) (by omega) (by decide)) ?_)
    exact hk _ (by rw [fb_sm_succ, ← nI_add, ← e1]; rfl)
  · rintro k q rfl
    unfold b_X9_points_4
    exact ok_b (gR_of c rfl) (ok_b (hW.rd 0 rfl (by omega) (by decide)) (ok_t (nI_le (Nat.le_refl _) (by omega)) (ok_v rfl)))
theorem mcode_ok (h : NW M y w) (ho : ORw w) (hF : 10 ≤ F) : f_X9_codeNow F y M = some (nI (cdW w)) := by
  have hh := h
  obtain ⟨⟨_, _, _, _, _, _, c⟩, hW⟩ := h
  obtain ⟨h2, h5, ht, hb, hl⟩ := ho
  unfold f_X9_codeNow
  refine ok_e (ok_loop (I := fun i q => q = (nI (cdN (rT w) (rB w) (w 0) i), nI i)) (w 0) ?_ ?_ (w 0) 0 F _ (by omega) (by omega) rfl)
  · rintro k i q hi rfl hk
    unfold b_X9_codeNow_4
    refine ok_b (gR_of c rfl) (ok_b (hW.rd 0 rfl (by omega) (by decide)) (ok_f (nI_ge hi (by omega)) ?_))
    refine ok_b (gR_of c rfl) (ok_b (hW.rd (7 + i) (nI_add 7 i) (by omega) (by decide)) (ok_b (ob_of c) ?_))
    refine ok_b (mplace_ok hh (b := 2) (n := w 0) (by omega) h5 ht (hb.1 i hi) hF) ?_
    refine hk _ ?_
    show (nI 10 * nI _ + nI 1 + nI _, nI i + 1) = _
    rw [pk_mul, nI_add, nI_add, e1]
    congr 2
    simp only [cdN]
    show 10 * _ + 1 + pl (rT w) (rB w i) (w 0) = _
    omega
  · rintro k q rfl
    unfold b_X9_codeNow_4
    exact ok_b (gR_of c rfl) (ok_b (hW.rd 0 rfl (by omega) (by decide)) (ok_t (nI_le (Nat.le_refl _) (by omega)) (ok_v rfl)))
theorem mwhole_ok (h : NW M y w) (h0 : 0 < w 0) (h5 : w 0 ≤ 5) (hF : 10 ≤ F) : f_X9_isWhole F y M = some (whW w) := by
  obtain ⟨⟨_, _, _, _, _, _, c⟩, hW⟩ := h
  unfold f_X9_isWhole
  refine ok_e (ok_loop (I := fun i q => q = (mkI (rT w) i, mkI (rB w) i, nI i) ∧ ∀ j, j < i → mkI (rT w) (j + 1) ≠ mkI (rB w) (j + 1)) (w 0 - 1) ?_ ?_ (w 0 - 1) 0 F _ (by omega) (by omega) ⟨rfl, fun j hj => absurd hj (Nat.not_lt_zero j)⟩)
  · intro k i a hi ha hk
    obtain ⟨rfl, ha⟩ := ha
    unfold b_X9_isWhole_6
    refine ok_b (gR_of c rfl) (ok_b (hW.rd 0 rfl (by omega) (by decide)) (ok_f (by dsimp only; rw [e1]; exact nI_ge (by omega) (by omega)) ?_))
    refine ok_b (gR_of c rfl) (ok_b (hW.rd (2 + i) (nI_add 2 i) (by omega) (by decide)) ?_)
    refine ok_b (gR_of c rfl) (ok_b (hW.rd (7 + i) (nI_add 7 i) (by omega) (by decide)) ?_)
    by_cases q : mkI (rT w) (i + 1) = mkI (rB w) (i + 1)
    · refine ok_t q (ok_v ?_)
      rw [whW, whI, if_pos ⟨i, hi, q⟩]
    · refine ok_f q (hk _ ⟨by rw [← e1]; rfl, fun j hj => ?_⟩)
      rcases Nat.lt_or_ge j i with z | z
      · exact ha j z
      · rw [show j = i by omega]; exact q
  · intro k a ha
    obtain ⟨rfl, ha⟩ := ha
    unfold b_X9_isWhole_6
    refine ok_b (gR_of c rfl) (ok_b (hW.rd 0 rfl (by omega) (by decide)) (ok_t (by dsimp only; rw [e1]; exact nI_le (by omega) (by omega)) (ok_v ?_)))
    rw [whW, whI, if_neg]
    rintro ⟨i, hi, q⟩
    exact ha i hi q
theorem mkind_ok (h : NW M y w) (ho : ORw w) : f_X9_kindNow y M = some (kdW w) := by
  have hh := h
  obtain ⟨⟨_, _, _, _, _, _, c⟩, hW⟩ := h
  obtain ⟨h2, h5, ht, hb, hl⟩ := ho
  have t1 := ht.1 (w 0 - 1) (by omega)
  have b1 := hb.1 (w 0 - 1) (by omega)
  have l1 := hl _ t1
  have l2 := hl _ b1
  unfold f_X9_kindNow
  refine bs (ob_of c) (bs (lastIn_ok hh (b := 2) (by omega) (by omega) h5) (bs (ob_of c) (bs (lastIn_ok hh (b := 7) (by omega) (by omega) h5) ?_)))
  have ra := hW.rd (i := (12 : Int32) + nI (w (2 + (w 0 - 1)))) (12 + w (2 + (w 0 - 1))) (nI_add 12 _) (by have : w (2 + (w 0 - 1)) < w 0 := t1; omega) (by decide)
  have rb := hW.rd (i := (12 : Int32) + nI (w (7 + (w 0 - 1)))) (12 + w (7 + (w 0 - 1))) (nI_add 12 _) (by have : w (7 + (w 0 - 1)) < w 0 := b1; omega) (by decide)
  refine bs (gR_of c rfl) (bs ra (bs (gR_of c rfl) (bs rb ?_)))
  show (if nI (rL w (rT w (w 0 - 1))) - nI (rL w (rB w (w 0 - 1))) = 0 then some (-1 : Int32) else if nI (rL w (rT w (w 0 - 1))) - nI (rL w (rB w (w 0 - 1))) ≤ 0 then some 1 else some 0) = some (kdI (rL w (rT w (w 0 - 1))) (rL w (rB w (w 0 - 1))))
  generalize rL w (rT w (w 0 - 1)) = p at *
  generalize rL w (rB w (w 0 - 1)) = q at *
  unfold kdI
  rcases Nat.lt_trichotomy p q with z | z | z
  · have hs := pk_sneg (a := p) (b := q) (by omega) z
    rw [if_neg (show ¬ p = q by omega), if_pos (show p ≤ q by omega)]
    exact cf (fun e => by rw [e] at hs; exact absurd hs (by decide)) (ct (Int32.le_of_lt hs) rfl)
  · subst z
    rw [if_pos rfl, pk_sub (Nat.le_refl _), Nat.sub_self]
    exact ct rfl rfl
  · rw [if_neg (show ¬ p = q by omega), if_neg (show ¬ p ≤ q by omega), pk_sub (by omega)]
    exact cf (nI_ne0 (by omega) (by omega)) (cf (nI_nle (by omega) (by omega)) rfl)
end NOW
