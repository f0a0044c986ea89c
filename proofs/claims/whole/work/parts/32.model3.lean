-- THE REFERENCE: ALL OF IT
def sl (k : Nat) : Nat := if k = 4 then 5 else if k = 6 then 2 else if k = 7 then 500 else if k = 8 then 500 else if k = 9 then 5 else if k = 11 then 60 else 120
def MS (M : XM) (y : Nat) : Prop := (∀ k, 4 ≤ k → k < 14 → k ≠ 5 → k ≠ 10 → ∃ t, JA M (y + k) (sl k) t) ∧ ∃ t, ZA M (y + 10) 500 t
theorem MS.of {M M' : XM} {y : Nat} (h : MS M y) (h2 : ∀ k, 4 ≤ k → k < 14 → k ≠ 5 → k ≠ 10 → M' (y + k) = M (y + k) ∨ ∃ t, JA M' (y + k) (sl k) t) (h3 : M' (y + 10) = M (y + 10) ∨ ∃ t, ZA M' (y + 10) 500 t) : MS M' y := by
  refine ⟨fun k a b c d => ?_, ?_⟩
  · rcases h2 k a b c d with e | e
    · obtain ⟨t, ht⟩ := h.1 k a b c d; exact ⟨t, ht.fr e⟩
    · exact e
  · rcases h3 with e | e
    · obtain ⟨t, ht⟩ := h.2; exact ⟨t, ht.fr e⟩
    · exact e
def MQ2 (M : XM) (y : Nat) (hi : Bool) (wi : Nat → Nat) (dm : Nat) (dd : Nat → Nat) (tl : Nat) (tx : Nat → Nat) (so : Nat → Int32) (si : Nat → Nat) (it : Nat → Int64) : Prop := (∃ v, IA M (y + 2) 60 v ∧ (hi = true → ∀ k, k < 60 → v k = wi k)) ∧ (∃ v, IA M (y + 3) 180 v ∧ ∀ k, k < 15 * dm → v k = dd k) ∧ (∃ v, IA M (y + 5) 100 v ∧ ∀ k, k < tl → v k = tx k) ∧ JA M (y + 14) 6 so ∧ IA M (y + 15) 6 si ∧ LA M (y + 16) 360 it
theorem MQ2.fr {M M' : XM} {y : Nat} {wi dd tx si : Nat → Nat} {hi : Bool} {dm tl : Nat} {so : Nat → Int32} {it : Nat → Int64} (h : MQ2 M y hi wi dm dd tl tx so si it) (e2 : M' (y + 2) = M (y + 2)) (e3 : M' (y + 3) = M (y + 3)) (e5 : M' (y + 5) = M (y + 5)) (e14 : M' (y + 14) = M (y + 14)) (e15 : M' (y + 15) = M (y + 15)) (e16 : M' (y + 16) = M (y + 16)) : MQ2 M' y hi wi dm dd tl tx so si it := by
  obtain ⟨⟨v, a1, a2⟩, ⟨u, b1, b2⟩, ⟨t, c1, c2⟩, d1, d2, d3⟩ := h
  exact ⟨⟨v, a1.fr e2, a2⟩, ⟨u, b1.fr e3, b2⟩, ⟨t, c1.fr e5, c2⟩, d1.fr e14, d2.fr e15, d3.fr e16⟩
def MJ (M : XM) (y : Nat) (pc ft : Int32) (w : Nat → Nat) (hi : Bool) (wi : Nat → Nat) (dm : Nat) (dd : Nat → Nat) (tl : Nat) (tx : Nat → Nat) (so : Nat → Int32) (si : Nat → Nat) (it : Nat → Int64) : Prop := (∃ cm, M y = some (.inr (9, MOb y (bz hi) (nI dm) (nI tl) pc ft cm))) ∧ IA M (y + 1) 60 w ∧ MQ2 M y hi wi dm dd tl tx so si it ∧ MS M y
theorem MJ.nw {M : XM} {y : Nat} {pc ft : Int32} {w wi dd tx si : Nat → Nat} {hi : Bool} {dm tl : Nat} {so : Nat → Int32} {it : Nat → Int64} (h : MJ M y pc ft w hi wi dm dd tl tx so si it) : NW M y w := by
  obtain ⟨⟨cm, c⟩, hW, -⟩ := h
  exact ⟨⟨_, _, _, _, _, cm, c⟩, hW⟩
theorem MJ.fr {M M' : XM} {y : Nat} {pc ft : Int32} {w wi dd tx si : Nat → Nat} {hi : Bool} {dm tl : Nat} {so : Nat → Int32} {it : Nat → Int64} (h : MJ M y pc ft w hi wi dm dd tl tx so si it) (e : ∀ q, y ≤ q → q < y + 17 → M' q = M q) : MJ M' y pc ft w hi wi dm dd tl tx so si it := by
  obtain ⟨⟨cm, c⟩, hW, hK, hS⟩ := h
  refine ⟨⟨cm, (e y (by omega) (by omega)).trans c⟩, hW.fr (e _ (by omega) (by omega)), hK.fr (e _ (by omega) (by omega)) (e _ (by omega) (by omega)) (e _ (by omega) (by omega)) (e _ (by omega) (by omega)) (e _ (by omega) (by omega)) (e _ (by omega) (by omega)), hS.of (fun k a b c d => Or.inl (e _ (by omega) (by omega))) (Or.inl (e _ (by omega) (by omega)))⟩
theorem MJ.set {M M' : XM} {y dm' : Nat} {pc ft cm' : Int32} {w' dd' : Nat → Nat} {w wi dd tx si : Nat → Nat} {hi : Bool} {dm tl : Nat} {so : Nat → Int32} {it : Nat → Int64} (h : MJ M y pc ft w hi wi dm dd tl tx so si it) (hc : M' y = some (.inr (9, MOb y (bz hi) (nI dm') (nI tl) pc ft cm'))) (hW : IA M' (y + 1) 60 w') (hD : ∃ v, IA M' (y + 3) 180 v ∧ ∀ k, k < 15 * dm' → v k = dd' k) (fr : ∀ q, q ≠ y → q ≠ y + 1 → q ≠ y + 3 → q ≠ y + 4 → M' q = M q) (h4 : ∃ t, JA M' (y + 4) 5 t) : MJ M' y pc ft w' hi wi dm' dd' tl tx so si it := by
  obtain ⟨⟨cm, c⟩, hW0, ⟨⟨v, a1, a2⟩, -, ⟨t, c1, c2⟩, d1, d2, d3⟩, hS⟩ := h
  refine ⟨⟨cm', hc⟩, hW, ⟨⟨v, a1.fr (fr _ (by omega) (by omega) (by omega) (by omega)), a2⟩, hD, ⟨t, c1.fr (fr _ (by omega) (by omega) (by omega) (by omega)), c2⟩, d1.fr (fr _ (by omega) (by omega) (by omega) (by omega)), d2.fr (fr _ (by omega) (by omega) (by omega) (by omega)), d3.fr (fr _ (by omega) (by omega) (by omega) (by omega))⟩, hS.of (fun k a b c d => ?_) (Or.inl (fr _ (by omega) (by omega) (by omega) (by omega)))⟩
  by_cases q : k = 4
  · subst q; exact Or.inr h4
  · exact Or.inl (fr _ (by omega) (by omega) (by omega) (by omega))
theorem cpI_ok {M : XM} {a b n0 n1 s d n : Nat} {f g : Nat → Nat} (h1 : IA M a n0 f) (h2 : IA M b n1 g) (hs : s + n ≤ n0) (hd : d + n ≤ n1) (hn : n0 < 1000 ∧ n1 < 1000) {S D N : Int32} (eS : S = nI s) (eD : D = nI d) (eN : N = nI n) : Ok (x_cpI M a S b D N) (fun M' => IA M' b n1 (fun k => if d ≤ k ∧ k < d + n then f (s + (k - d)) else g k) ∧ ∀ q, q ≠ b → M' q = M q) := by
  subst eS eD eN
  obtain ⟨f', e1, e2⟩ := h1
  obtain ⟨g', e3, e4⟩ := h2
  refine ⟨x_up M b (.inl (.int, n1, .inl (va_cpy f' g' s d n))), ?_, ⟨_, up_s, fun k hk => ?_⟩, fun q hq => up_n hq⟩
  · simp only [x_cpI, e1, e3]
    rw [nIc (by omega), nIc (by omega), nIc (by omega), if_pos ⟨nI_pos (by omega), nI_pos (by omega), nI_pos (by omega), hs, hd⟩]
  · dsimp only
    by_cases c : d ≤ k ∧ k < d + n
    · rw [if_pos c, pk_cpy_in c.1 c.2]; exact e2 _ (by omega)
    · rw [if_neg c, pk_cpy_out (by omega)]; exact e4 k hk
theorem blk_w (w : Nat → Nat) {i : Nat} (hi : i < 15) : blk (rT w) (rB w) (rL w) i = w (2 + i) := by
  unfold blk rT rB rL
  by_cases a : i < 5
  · rw [if_pos a]
  · by_cases b : i < 10
    · rw [if_neg a, if_pos b]; congr 1; omega
    · rw [if_neg a, if_neg b]; congr 1; omega
section MODEL
variable {M : XM} {F y : Nat} {pc ft : Int32} {w wi dd tx si : Nat → Nat} {hi : Bool} {dm tl : Nat} {so : Nat → Int32} {it : Nat → Int64}
theorem mbegins_ok {hi dm tl cm : Int32} (c : M y = some (.inr (9, MOb y hi dm tl pc ft cm))) (hW : IA M (y + 1) 60 w) {m : Nat} (h2 : 2 ≤ m) (h5 : m ≤ 5) (hF : 10 ≤ F) : Ok (f_X9_begins F y (nI m) M) (fun M' => M' y = some (.inr (9, MOb y hi 0 tl pc ft cm)) ∧ IA M' (y + 1) 60 (wB w m) ∧ ∀ q, q ≠ y → q ≠ y + 1 → M' q = M q) := by
  unfold f_X9_begins
  refine ok_b (gR_of c rfl) ?_
  refine ok_m (hW.wr 0 m rfl rfl (by omega) (by decide)) (fun M1 hM1 => ?_)
  have c1 : M1 y = _ := (hM1.2 y (by omega)).trans c
  refine ok_b (gR_of c1 rfl) ?_
  refine ok_m (IA.wr hM1.1 1 0 rfl rfl (by omega) (by decide)) (fun M2 hM2 => ?_)
  have c2 : M2 y = _ := (hM2.2 y (by omega)).trans c1
  refine ok_loop (I := fun i q => q.1 = nI i ∧ IA q.2 (y + 1) 60 (fun k => if k = 0 then m else if k = 1 then en (revF m) i else wR w (ovF i (fun k => k) (rT w)) (ovF i (revF m) (rB w)) (ovF i (fun _ => 1) (rL w)) k) ∧ ∀ z, z ≠ y + 1 → q.2 z = M z) m ?_ ?_ m 0 F _ (by omega) (by omega) ⟨rfl, hM2.1.cg (fun k hk => ?_), fun z hz => (hM2.2 z hz).trans (hM1.2 z hz)⟩
  · rintro k i ⟨q1, q2⟩ hi ⟨rfl, g, fr⟩ hk
    dsimp only at g fr
    have o : q2 y = _ := (fr y (by omega)).trans c
    unfold b_X9_begins_16
    refine ok_f (nI_ge hi (by omega)) ?_
    refine ok_b (gR_of o rfl) ?_
    refine ok_m (IA.wr g (2 + i) i (nI_add 2 i) rfl (by omega) (by decide)) (fun M3 hM3 => ?_)
    have o3 : M3 y = _ := (hM3.2 y (by omega)).trans o
    refine ok_b (gR_of o3 rfl) ?_
    refine ok_m (IA.wr hM3.1 (7 + i) (m - 1 - i) (nI_add 7 i) (by rw [e_pred (by omega), pk_sub (by omega)]) (by omega) (by decide)) (fun M4 hM4 => ?_)
    have o4 : M4 y = _ := (hM4.2 y (by omega)).trans o3
    refine ok_b (gR_of o4 rfl) ?_
    refine ok_m (IA.wr hM4.1 (12 + i) 1 (nI_add 12 i) rfl (by omega) (by decide)) (fun M5 hM5 => ?_)
    have o5 : M5 y = _ := (hM5.2 y (by omega)).trans o4
    refine ok_b (gR_of o5 rfl) (ok_b (gR_of o5 rfl) ?_)
    have e1v : x_a32 .int M5 (y + 1) 1 = some (nI (en (revF m) i)) := by
      refine (hM5.1.rd (i := 1) 1 rfl (by omega) (by decide)).trans ?_
      simp only [upN]
      rw [if_neg (by omega), if_neg (by omega), if_neg (by omega)]
      rfl
    refine ok_b e1v ?_
    have hw : (10 : Int32) * nI (en (revF m) i) + nI m - nI i = nI (en (revF m) (i + 1)) := by
      show nI 10 * nI (en (revF m) i) + nI m - nI i = _
      rw [pk_mul, nI_add, pk_sub (by omega)]
      congr 1
      simp only [en, revF]
      omega
    refine ok_m (IA.wr hM5.1 1 (en (revF m) (i + 1)) rfl hw (by omega) (by decide)) (fun M6 hM6 => ?_)
    refine hk _ ⟨e1 i, hM6.1.cg (fun k hk => ?_), fun z hz => (hM6.2 z hz).trans ((hM5.2 z hz).trans ((hM4.2 z hz).trans ((hM3.2 z hz).trans (fr z hz))))⟩
    congr 1
    simp only [upN]
    by_cases a1 : k = 1
    · subst a1; simp
    · rw [if_neg a1]
      by_cases a0 : k = 0
      · subst a0
        rw [if_neg (by omega), if_neg (by omega), if_neg (by omega), if_pos rfl, if_pos rfl]
      · rw [if_neg a0, if_neg a1]
        unfold wR
        by_cases b1 : k < 7
        · rw [if_neg (show ¬ k = 12 + i by omega), if_neg (show ¬ k = 7 + i by omega), if_neg (show ¬ k < 2 by omega), if_pos b1, if_neg a0, if_neg a1, if_neg (show ¬ k < 2 by omega), if_pos b1]
          unfold ovF
          by_cases b2 : k = 2 + i
          · rw [if_pos b2, if_pos (by omega)]
            show i = k - 2
            omega
          · rw [if_neg b2]
            by_cases b3 : k - 2 < i
            · rw [if_pos b3, if_pos (by omega)]
            · rw [if_neg b3, if_neg (by omega)]
        · by_cases b4 : k < 12
          · rw [if_neg (show ¬ k = 12 + i by omega), if_neg (show ¬ k = 2 + i by omega), if_neg (show ¬ k < 2 by omega), if_neg b1, if_pos b4, if_neg a0, if_neg a1, if_neg (show ¬ k < 2 by omega), if_neg b1, if_pos b4]
            unfold ovF revF
            by_cases b2 : k = 7 + i
            · rw [if_pos b2, if_pos (by omega)]; omega
            · rw [if_neg b2]
              by_cases b3 : k - 7 < i
              · rw [if_pos b3, if_pos (by omega)]
              · rw [if_neg b3, if_neg (by omega)]
          · rw [if_neg (show ¬ k = 7 + i by omega), if_neg (show ¬ k = 2 + i by omega), if_neg (show ¬ k < 2 by omega), if_neg b1, if_neg b4, if_neg a0, if_neg a1, if_neg (show ¬ k < 2 by omega), if_neg b1, if_neg b4]
            by_cases b5 : k < 17
            · rw [if_pos b5, if_pos b5]
              unfold ovF
              by_cases b2 : k = 12 + i
              · rw [if_pos b2, if_pos (by omega)]
              · rw [if_neg b2]
                by_cases b3 : k - 12 < i
                · rw [if_pos b3, if_pos (by omega)]
                · rw [if_neg b3, if_neg (by omega)]
            · rw [if_neg b5, if_neg b5, if_neg (by omega)]
  · rintro k ⟨q1, q2⟩ ⟨rfl, g, fr⟩
    dsimp only at g fr
    have o : q2 y = _ := (fr y (by omega)).trans c
    unfold b_X9_begins_16
    refine ok_t (nI_le (Nat.le_refl _) (by omega)) ?_
    refine ok_b (put_of o (by simp [MOb])) ?_
    exact ok_v ⟨up_s, g.fr (up_n (by omega)), fun q h1 h2 => (up_n h1).trans (fr q h2)⟩
  · congr 1
    simp only [upN]
    by_cases a1 : k = 1
    · subst a1; simp [en]
    · rw [if_neg a1]
      by_cases a0 : k = 0
      · rw [if_pos a0, if_pos a0]
      · rw [if_neg a0, if_neg a0, if_neg a1]
        unfold wR ovF rT rB rL
        by_cases b1 : k < 7
        · rw [if_neg (show ¬ k < 2 by omega), if_pos b1]; simp; congr 1; omega
        · by_cases b4 : k < 12
          · rw [if_neg (show ¬ k < 2 by omega), if_neg b1, if_pos b4]; simp; congr 1; omega
          · by_cases b5 : k < 17
            · rw [if_neg (show ¬ k < 2 by omega), if_neg b1, if_neg b4, if_pos b5]; simp; congr 1; omega
            · rw [if_neg (show ¬ k < 2 by omega), if_neg b1, if_neg b4, if_neg b5]
theorem mkeeps_ok (h : MJ M y pc ft w hi wi dm dd tl tx so si it) (hd : dm ≤ 12) : Ok (f_X9_keeps y M) (fun M' => MJ M' y pc ft w hi wi (kpM dm) (kpD dm dd (rT w) (rB w) (rL w)) tl tx so si it ∧ Fr M M' y (y + 17)) := by
  obtain ⟨⟨cm, c⟩, hW, ⟨hI, ⟨v, b1, b2⟩, hT, d1, d2, d3⟩, hS⟩ := id h
  have h4 := hS.1 4 (by omega) (by omega) (by omega) (by omega)
  unfold f_X9_keeps
  refine ok_b (gI_of c rfl) ?_
  have fin : ∀ (M1 : XM) (dm1 : Nat) (v1 : Nat → Nat), dm1 < 12 → dm1 + 1 = kpM dm → M1 y = some (.inr (9, MOb y (bz hi) (nI dm1) (nI tl) pc ft cm)) → IA M1 (y + 3) 180 v1 → (∀ k, k < 15 * dm1 → v1 k = kpD dm dd (rT w) (rB w) (rL w) k) → (∀ q, q ≠ y → q ≠ y + 3 → M1 q = M q) → Ok (j_X9_keeps_36 y M1) (fun M' => MJ M' y pc ft w hi wi (kpM dm) (kpD dm dd (rT w) (rB w) (rL w)) tl tx so si it ∧ Fr M M' y (y + 17)) := by
    intro M1 dm1 v1 hl he c1 hv hvk fr1
    have hW1 : IA M1 (y + 1) 60 w := hW.fr (fr1 _ (by omega) (by omega))
    unfold j_X9_keeps_36
    refine ok_b (gR_of c1 rfl) (ok_b (gR_of c1 rfl) (ok_b (gI_of c1 rfl) ?_))
    refine ok_m (cpI_ok hW1 hv (s := 2) (d := 15 * dm1) (n := 15) (by omega) (by omega) (by omega) rfl (pk_mul 15 dm1) rfl) (fun M2 hM2 => ?_)
    have c2 : M2 y = _ := (hM2.2 y (by omega)).trans c1
    refine ok_b (gI_of c2 rfl) (ok_b (put_of c2 (by simp [MOb])) ?_)
    have fr3 : ∀ q, q ≠ y → q ≠ y + 3 → (x_up M2 y (.inr (9, (MOb y (bz hi) (nI dm1) (nI tl) pc ft cm).set 4 (.int (nI dm1 + 1))))) q = M q := fun q q1 q2 => (up_n q1).trans ((hM2.2 q q2).trans (fr1 q q1 q2))
    refine ok_v ⟨h.set (cm' := cm) ?_ (hW.fr (fr3 _ (by omega) (by omega))) ⟨_, hM2.1.fr (up_n (by omega)), fun k hk => ?_⟩ (fun q q1 q2 q3 q4 => fr3 q q1 q3) (by obtain ⟨t, ht⟩ := h4; exact ⟨t, ht.fr (fr3 _ (by omega) (by omega))⟩), fun q hq => fr3 q (by omega) (by omega)⟩
    · rw [up_s, e1, he]; rfl
    · by_cases q : 15 * dm1 ≤ k ∧ k < 15 * dm1 + 15
      · rw [if_pos q]
        have hb := blk_w w (i := k - 15 * dm1) (by omega)
        rw [← hb]
        have hkc := kpM_c dm
        unfold kpD
        rcases hkc with ⟨e3, e4⟩ | ⟨e3, e4⟩
        · rw [if_pos e3, if_neg (by omega), show 15 * dm1 = 165 by omega]
        · rw [if_neg e3, if_pos (by omega), show dm1 = dm by omega]
      · rw [if_neg q]; exact hvk k (by omega)
  have hkc := kpM_c dm
  by_cases q : dm = 12
  · refine ok_t (by rw [q]; rfl) ?_
    refine ok_b (gR_of c rfl) (ok_b (gR_of c rfl) ?_)
    refine ok_m (cpI_ok b1 b1 (s := 15) (d := 0) (n := 165) (by omega) (by omega) (by omega) rfl rfl rfl) (fun M1 hM1 => ?_)
    have c1 : M1 y = _ := (hM1.2 y (by omega)).trans c
    refine ok_b (gI_of c1 rfl) (ok_b (put_of c1 (by simp [MOb])) ?_)
    refine fin _ 11 _ (by omega) (by omega) (by rw [up_s, q]; rfl) (hM1.1.fr (up_n (by omega))) (fun k hk => ?_) (fun z z1 z2 => (up_n z1).trans (hM1.2 z z2))
    rw [if_pos (by omega), b2 _ (by omega)]
    unfold kpD
    rw [if_pos q, if_pos (by omega)]
    congr 1; omega
  · refine ok_f (fun e => q (nI_inj (b := 12) (by omega) (by decide) e)) ?_
    refine fin M dm v (by omega) (by omega) c b1 (fun k hk => ?_) (fun _ _ _ => rfl)
    rw [b2 k hk]
    unfold kpD
    rw [if_neg q, if_neg (by omega)]
end MODEL
