-- TEXTS
section PARSE
variable (tl : Nat) (tx : Nat → Nat)
/-- digits from a place on, at most so many -/
def dgC : Nat → Nat → Nat
  | _, 0 => 0
  | p, m + 1 => if p < tl ∧ 48 ≤ tx p ∧ tx p ≤ 57 then dgC (p + 1) m + 1 else 0
/-- the number of so many digits from a place on -/
def dgV (p : Nat) : Nat → Nat
  | 0 => 0
  | j + 1 => dgV p j * 10 + (tx (p + j) - 48)
/-- digits at most: the first number, the second one -/
def m1 (c : Nat) : Nat := if c = 98 then 1 else if c = 107 then 0 else if c = 108 then 1 else if c = 110 then 1 else if c = 114 then 5 else if c = 115 then 0 else if c = 117 then 0 else if c = 119 then 1 else 0
def m2 (c : Nat) : Nat := if c = 108 then 3 else if c = 119 then 1 else 0
def kn (c : Nat) : Prop := c = 98 ∨ c = 107 ∨ c = 108 ∨ c = 110 ∨ c = 114 ∨ c = 115 ∨ c = 117 ∨ c = 119
def e1p (p : Nat) : Nat := p + 1 + dgC tl tx (p + 1) (m1 (tx p))
def e2p (p : Nat) : Nat := e1p tl tx p + dgC tl tx (e1p tl tx p) (m2 (tx p))
/-- a clause that is one, at a place -/
def clG (p : Nat) : Prop := p < tl ∧ kn (tx p) ∧ (0 < m1 (tx p) → 0 < dgC tl tx (p + 1) (m1 (tx p))) ∧ (0 < m2 (tx p) → 0 < dgC tl tx (e1p tl tx p) (m2 (tx p)))
/-- where one that is none is at fault -/
noncomputable def clF (p : Nat) : Nat := @ite _ (p < tl ∧ kn (tx p)) (Classical.propDecidable _) (@ite _ (0 < m1 (tx p) → 0 < dgC tl tx (p + 1) (m1 (tx p))) (Classical.propDecidable _) (e1p tl tx p) (p + 1)) p
def clA (p : Nat) : Nat := dgV tx (p + 1) (dgC tl tx (p + 1) (m1 (tx p)))
def clB (p : Nat) : Nat := dgV tx (e1p tl tx p) (dgC tl tx (e1p tl tx p) (m2 (tx p)))
/-- places of clauses -/
def pp : Nat → Nat
  | 0 => 0
  | i + 1 => e2p tl tx (pp i) + 1
/-- one more clause follows -/
def more (i : Nat) : Prop := clG tl tx (pp tl tx i) ∧ e2p tl tx (pp tl tx i) < tl ∧ tx (e2p tl tx (pp tl tx i)) = 59 ∧ i + 1 < 12
noncomputable def moreB (i : Nat) : Bool := @decide (more tl tx i) (Classical.propDecidable _)
/-- the last clause's number -/
noncomputable def lastC : Nat := fa_first (fun i => !moreB tl tx i) 12
end PARSE
section TEXT
variable {tl : Nat} {tx : Nat → Nat}
theorem dgC_le (p m : Nat) : dgC tl tx p m ≤ m := by
  induction m generalizing p with
  | zero => simp [dgC]
  | succ m ih =>
    simp only [dgC]
    split
    · have := ih (p + 1); omega
    · omega
theorem dgC_tl {p m : Nat} (h : p ≤ tl) : p + dgC tl tx p m ≤ tl := by
  induction m generalizing p with
  | zero => simp only [dgC]; omega
  | succ m ih =>
    simp only [dgC]
    split
    · rename_i c; have := ih (p := p + 1) (by omega); omega
    · omega
theorem dgC_in (p m : Nat) : ∀ {i : Nat}, i < dgC tl tx p m → p + i < tl ∧ 48 ≤ tx (p + i) ∧ tx (p + i) ≤ 57 := by
  induction m generalizing p with
  | zero => intro i h; simp [dgC] at h
  | succ m ih =>
    intro i h
    simp only [dgC] at h
    split at h
    · rename_i c
      rcases Nat.eq_zero_or_pos i with q | q
      · subst q; exact c
      · have := ih (p + 1) (i := i - 1) (by omega)
        rw [show p + 1 + (i - 1) = p + i by omega] at this
        exact this
    · omega
theorem dgC_out (p m : Nat) (h : dgC tl tx p m < m) : ¬ (p + dgC tl tx p m < tl ∧ 48 ≤ tx (p + dgC tl tx p m) ∧ tx (p + dgC tl tx p m) ≤ 57) := by
  induction m generalizing p with
  | zero => omega
  | succ m ih =>
    simp only [dgC] at h ⊢
    split at h
    · rename_i c
      rw [if_pos c]
      have := ih (p + 1) (by omega)
      rw [show p + 1 + dgC tl tx (p + 1) m = p + (dgC tl tx (p + 1) m + 1) by omega] at this
      exact this
    · rename_i c
      rw [if_neg c]
      exact c
theorem dgV_lt {p m : Nat} : ∀ {j : Nat}, j ≤ dgC tl tx p m → dgV tx p j < 10 ^ j
  | 0, _ => by simp [dgV]
  | j + 1, h => by
    have h1 := dgV_lt (p := p) (m := m) (j := j) (by omega)
    have h2 := dgC_in (tl := tl) (tx := tx) p m (i := j) (by omega)
    simp only [dgV, Nat.pow_succ]
    omega
theorem dgV_b {p m : Nat} (hm : m ≤ 5) {j : Nat} (h : j ≤ dgC tl tx p m) : dgV tx p j < 100000 := by
  have h1 := dgV_lt (p := p) (m := m) h
  have h2 : 10 ^ j ≤ 10 ^ 5 := Nat.pow_le_pow_right (by decide) (by have := dgC_le (tl := tl) (tx := tx) p m; omega)
  omega
theorem m1_le (c : Nat) : m1 c ≤ 5 := by unfold m1; (repeat' split) <;> omega
theorem m2_le (c : Nat) : m2 c ≤ 3 := by unfold m2; (repeat' split) <;> omega
/-- the text's object, at a place, with so many clauses taken -/
def TQ (M : XM) (a tl : Nat) (tx : Nat → Nat) (p m : Int32) (K A B : Nat → Int32) : Prop := M a = some (.inr (7, [.ref (a + 1), .int p, .int (nI tl), .int m, .ref (a + 2), .ref (a + 3), .ref (a + 4)])) ∧ (∃ t, BA M (a + 1) 100 t ∧ ∀ k, k < tl → t k = nI (tx k)) ∧ JA M (a + 2) 12 K ∧ JA M (a + 3) 12 A ∧ JA M (a + 4) 12 B
theorem TQ.toTX {M : XM} {a : Nat} {p m : Int32} {K A B : Nat → Int32} (h : TQ M a tl tx p m K A B) : TX M a tl tx := ⟨⟨p, m, h.1⟩, h.2.1, ⟨K, h.2.2.1⟩, ⟨A, h.2.2.2.1⟩, B, h.2.2.2.2⟩
theorem TX.toTQ {M : XM} {a : Nat} (h : TX M a tl tx) : ∃ p m K A B, TQ M a tl tx p m K A B := by
  obtain ⟨⟨p, m, h0⟩, h1, ⟨K, h2⟩, ⟨A, h3⟩, B, h4⟩ := h
  exact ⟨p, m, K, A, B, h0, h1, h2, h3, h4⟩
theorem TQ.cell {M M' : XM} {a : Nat} {p m p' m' : Int32} {K A B : Nat → Int32} (h : TQ M a tl tx p m K A B) (h0 : M' a = some (.inr (7, [.ref (a + 1), .int p', .int (nI tl), .int m', .ref (a + 2), .ref (a + 3), .ref (a + 4)]))) (fr : ∀ q, q ≠ a → M' q = M q) : TQ M' a tl tx p' m' K A B := by
  obtain ⟨-, ⟨t, h1, h1'⟩, h2, h3, h4⟩ := h
  exact ⟨h0, ⟨t, h1.fr (fr _ (by omega)), h1'⟩, h2.fr (fr _ (by omega)), h3.fr (fr _ (by omega)), h4.fr (fr _ (by omega))⟩
section SIGNS
variable {M : XM} {F a : Nat} {m : Int32} {K A B : Nat → Int32}
theorem setP {p p' : Int32} (h : TQ M a tl tx p m K A B) : Ok (x_put M a 7 1 (.int p')) (fun M' => TQ M' a tl tx p' m K A B ∧ ∀ q, q ≠ a → M' q = M q) := by
  refine ⟨_, put_of h.1 (by simp), ?_, fun q hq => up_n hq⟩
  exact h.cell up_s (fun q hq => up_n hq)
theorem setM {p m' : Int32} (h : TQ M a tl tx p m K A B) : Ok (x_put M a 7 3 (.int m')) (fun M' => TQ M' a tl tx p m' K A B ∧ ∀ q, q ≠ a → M' q = M q) := by
  refine ⟨_, put_of h.1 (by simp), ?_, fun q hq => up_n hq⟩
  exact h.cell up_s (fun q hq => up_n hq)
theorem signHere_in {p : Nat} (h : TQ M a tl tx (nI p) m K A B) (ht : tl ≤ 100) (hp : p < tl) : f_X7_signHere a M = some (nI (tx p)) := by
  obtain ⟨h0, ⟨t, h1, h1'⟩, h2, h3, h4⟩ := h
  unfold f_X7_signHere
  refine bs (gI_of h0 rfl) (cf (nI_pos (by omega)) (bs (gI_of h0 rfl) (bs (gI_of h0 rfl) (cf (nI_ge hp (by omega)) (bs (gR_of h0 rfl) (bs (gI_of h0 rfl) (bs (h1.rd p rfl (by omega) (by decide)) ?_)))))))
  rw [h1' p hp]
theorem signHere_out {p : Nat} (h : TQ M a tl tx (nI p) m K A B) (ht : tl ≤ 100) (hp : tl ≤ p) (hp2 : p < 1000) : f_X7_signHere a M = some (-1) := by
  unfold f_X7_signHere
  exact bs (gI_of h.1 rfl) (cf (nI_pos (by omega)) (bs (gI_of h.1 rfl) (bs (gI_of h.1 rfl) (ct (nI_le hp (by omega)) rfl))))
theorem sgn {c : Nat} (hc : c < 128) : (¬ (48 ≤ c ∧ c ≤ 57) → (nI c - 48 < 0 ∨ (¬ nI c - 48 < 0 ∧ ¬ nI c - 48 ≤ 9))) ∧ (48 ≤ c ∧ c ≤ 57 → ¬ nI c - 48 < 0 ∧ nI c - 48 ≤ 9 ∧ nI c - 48 = nI (c - 48)) := by
  constructor
  · intro h
    by_cases q : c < 48
    · left; exact pk_sneg (b := 48) (by omega) q
    · right
      have e : nI c - 48 = nI (c - 48) := pk_sub (b := 48) (by omega)
      rw [e]
      exact ⟨nI_pos (by omega), nI_ge (b := c - 48) (a := 9) (by omega) (by omega)⟩
  · intro h
    have e : nI c - 48 = nI (c - 48) := pk_sub (b := 48) (by omega)
    rw [e]
    exact ⟨nI_pos (by omega), nI_le (b := 9) (by omega) (by omega), rfl⟩
theorem takeNumber_ok {p mx : Nat} (h : TQ M a tl tx (nI p) m K A B) (ht : tl ≤ 100) (hx : ∀ k, k < tl → tx k < 128) (hp : p ≤ 100) (hm : mx ≤ 5) (hF : 1000 ≤ F) : Ok (f_X7_takeNumber F a (nI mx) M) (fun r => r.1 = (if 0 < mx ∧ dgC tl tx p mx = 0 then -1 else nI (dgV tx p (dgC tl tx p mx))) ∧ TQ r.2 a tl tx (nI (p + dgC tl tx p mx)) m K A B ∧ ∀ q, q ≠ a → r.2 q = M q) := by
  have hle := dgC_le (tl := tl) (tx := tx) p mx
  unfold f_X7_takeNumber
  refine ok_loop (I := fun i q => q.1 = nI (dgV tx p i) ∧ q.2.1 = nI i ∧ TQ q.2.2 a tl tx (nI (p + i)) m K A B ∧ ∀ z, z ≠ a → q.2.2 z = M z) (dgC tl tx p mx) ?_ ?_ (dgC tl tx p mx) 0 F _ (by omega) (by omega) ⟨rfl, rfl, h, fun _ _ => rfl⟩
  · rintro k i ⟨q1, q2, q3⟩ hi ⟨g1, g2, g3, g4⟩ hk
    dsimp only at g1 g2 g3 g4
    subst g1 g2
    have hin := dgC_in p mx hi
    have hb := dgV_b hm (show i ≤ dgC tl tx p mx by omega)
    unfold b_X7_takeNumber_4
    dsimp only
    refine ok_f (nI_ge (by omega) (by omega)) ?_
    refine ok_b (ob_of g3.1) ?_
    refine ok_b (signHere_in g3 ht hin.1) ?_
    obtain ⟨s1, s2, s3⟩ := (sgn (hx _ hin.1)).2 hin.2
    refine ok_f s1 (ok_t s2 ?_)
    refine ok_b (gI_of g3.1 rfl) ?_
    refine ok_m (setP g3) (fun M1 hM1 => ?_)
    refine hk _ ⟨?_, e1 i, ?_, fun z hz => (hM1.2 z hz).trans (g4 z hz)⟩
    · show nI (dgV tx p i) * nI 10 + (nI (tx (p + i)) - 48) = _
      rw [s3, pk_mul, nI_add]; rfl
    · rw [e1] at hM1; exact hM1.1
  · rintro k ⟨q1, q2, q3⟩ ⟨g1, g2, g3, g4⟩
    dsimp only at g1 g2 g3 g4
    subst g1 g2
    unfold b_X7_takeNumber_4
    dsimp only
    by_cases c1 : mx ≤ dgC tl tx p mx
    · refine ok_t (nI_le c1 (by omega)) (ok_v ⟨?_, g3, g4⟩)
      rw [if_neg (by omega)]
    · refine ok_f (nI_ge (by omega) (by omega)) ?_
      refine ok_b (ob_of g3.1) ?_
      have hout := dgC_out (tl := tl) (tx := tx) p mx (by omega)
      have fin : Ok (if nI (dgC tl tx p mx) = 0 then some ((-1 : Int32), q3) else some (nI (dgV tx p (dgC tl tx p mx)), q3)) (fun r => r.1 = (if 0 < mx ∧ dgC tl tx p mx = 0 then -1 else nI (dgV tx p (dgC tl tx p mx))) ∧ TQ r.2 a tl tx (nI (p + dgC tl tx p mx)) m K A B ∧ ∀ q, q ≠ a → r.2 q = M q) := by
        by_cases c2 : dgC tl tx p mx = 0
        · refine ok_t (by rw [c2]; rfl) (ok_v ⟨?_, g3, g4⟩)
          rw [if_pos ⟨by omega, c2⟩]
        · refine ok_f (nI_ne0 (by omega) (by omega)) (ok_v ⟨?_, g3, g4⟩)
          rw [if_neg (fun z => c2 z.2)]
      by_cases c3 : p + dgC tl tx p mx < tl
      · refine ok_b (signHere_in g3 ht c3) ?_
        rcases (sgn (hx _ c3)).1 (fun z => hout ⟨c3, z⟩) with s | ⟨s, s2⟩
        · exact ok_t s fin
        · exact ok_f s (ok_f s2 fin)
      · refine ok_b (signHere_out g3 ht (by omega) (by omega)) ?_
        exact ok_t (by decide) fin
theorem most_kn {c : Nat} (h : kn c) : f_X7_mostDigits (nI c) 0 M = some (nI (m1 c)) ∧ f_X7_mostDigits (nI c) 1 M = some (nI (m2 c)) := by
  rcases h with rfl | rfl | rfl | rfl | rfl | rfl | rfl | rfl <;> exact ⟨rfl, rfl⟩
theorem most_un {c : Nat} (hc : c < 128) (h : ¬ kn c) (v : Int32) : f_X7_mostDigits (nI c) v M = some (-1) := by
  have hn : ∀ d, d < 128 → c ≠ d → nI c ≠ nI d := fun d hd hne e => hne (nI_inj (by omega) (by omega) e)
  have hk : c ≠ 98 ∧ c ≠ 107 ∧ c ≠ 108 ∧ c ≠ 110 ∧ c ≠ 114 ∧ c ≠ 115 ∧ c ≠ 117 ∧ c ≠ 119 := by
    unfold kn at h
    omega
  unfold f_X7_mostDigits
  exact cf (hn 98 (by omega) hk.1) (cf (hn 107 (by omega) hk.2.1) (cf (hn 108 (by omega) hk.2.2.1) (cf (hn 110 (by omega) hk.2.2.2.1) (cf (hn 114 (by omega) hk.2.2.2.2.1) (cf (hn 115 (by omega) hk.2.2.2.2.2.1) (cf (hn 117 (by omega) hk.2.2.2.2.2.2.1) (cf (hn 119 (by omega) hk.2.2.2.2.2.2.2) rfl)))))))
theorem e1p_le {p : Nat} (hp : p < tl) : e1p tl tx p ≤ tl := dgC_tl (by omega)
theorem e2p_le {p : Nat} (hp : p < tl) : e2p tl tx p ≤ tl := dgC_tl (e1p_le hp)
theorem takeClause_ok {p i : Nat} (h : TQ M a tl tx (nI p) m K A B) (ht : tl ≤ 100) (hx : ∀ k, k < tl → tx k < 128) (hp : p ≤ 100) (hi : i < 12) (hF : 1000 ≤ F) : Ok (f_X7_takeClause F a (nI i) M) (fun r => ((clG tl tx p ∧ r.1 = 1 ∧ TQ r.2 a tl tx (nI (e2p tl tx p)) m (upJ K i (nI (tx p))) (upJ A i (nI (clA tl tx p))) (upJ B i (nI (clB tl tx p)))) ∨ (¬ clG tl tx p ∧ r.1 = 0 ∧ ∃ K' A' B', TQ r.2 a tl tx (nI (clF tl tx p)) m K' A' B')) ∧ Fr M r.2 a (a + 5)) := by
  unfold f_X7_takeClause
  refine ok_b (ob_of h.1) ?_
  by_cases c0 : p < tl
  · refine ok_b (signHere_in h ht c0) ?_
    have hx0 := hx p c0
    by_cases c1 : kn (tx p)
    · have b1 := m1_le (tx p)
      have b2 := m2_le (tx p)
      have g1 := e1p_le (tx := tx) c0
      have g2 := e2p_le (tx := tx) c0
      refine ok_b (most_kn c1).1 ?_
      refine ok_f (nI_m1 (by omega)) ?_
      refine ok_b (gI_of h.1 rfl) ?_
      refine ok_m (setP h) (fun M1 hM1 => ?_)
      rw [e1] at hM1
      refine ok_b (ob_of hM1.1.1) ?_
      refine ok_m (takeNumber_ok hM1.1 ht hx (by omega) b1 hF) (fun r2 hr2 => ?_)
      obtain ⟨v2, t2, f2⟩ := hr2
      have fr2 : Fr M r2.2 a (a + 5) := fun q hq => (f2 q (by omega)).trans (hM1.2 q (by omega))
      by_cases c2 : 0 < m1 (tx p) ∧ dgC tl tx (p + 1) (m1 (tx p)) = 0
      · rw [if_pos c2] at v2
        refine ok_t v2 (ok_v ⟨Or.inr ⟨fun z => by have := z.2.2.1 c2.1; omega, rfl, K, A, B, ?_⟩, fr2⟩)
        unfold clF
        rw [if_pos ⟨c0, c1⟩, if_neg (fun z => by have := z c2.1; omega)]
        rw [c2.2] at t2
        exact t2
      · rw [if_neg c2] at v2
        have bA : clA tl tx p < 100000 := dgV_b (tl := tl) (m := m1 (tx p)) b1 (Nat.le_refl _)
        refine ok_f (by rw [v2]; exact nI_m1 (by show clA tl tx p < _; omega)) ?_
        refine ok_b (most_kn c1).2 ?_
        refine ok_b (ob_of t2.1) ?_
        refine ok_m (takeNumber_ok t2 ht hx (by show e1p tl tx p ≤ 100; omega) (by omega) hF) (fun r3 hr3 => ?_)
        obtain ⟨v3, t3, f3⟩ := hr3
        have bB : clB tl tx p < 100000 := dgV_b (tl := tl) (m := m2 (tx p)) (by omega) (Nat.le_refl _)
        obtain ⟨o3, z1, zK, zA, zB⟩ := id t3
        refine ok_b (gR_of o3 rfl) ?_
        refine ok_m (zK.wr i (nI (tx p)) rfl hi (by decide)) (fun M4 hM4 => ?_)
        have o4 : M4 a = _ := (hM4.2 a (by omega)).trans o3
        refine ok_b (gR_of o4 rfl) ?_
        refine ok_m (JA.wr (zA.fr (hM4.2 _ (by omega))) i r2.1 rfl hi (by decide)) (fun M5 hM5 => ?_)
        have o5 : M5 a = _ := (hM5.2 a (by omega)).trans o4
        refine ok_b (gR_of o5 rfl) ?_
        refine ok_m (JA.wr ((zB.fr (hM4.2 _ (by omega))).fr (hM5.2 _ (by omega))) i r3.1 rfl hi (by decide)) (fun M6 hM6 => ?_)
        have o6 : M6 a = _ := (hM6.2 a (by omega)).trans o5
        have f6 : Fr M M6 a (a + 5) := fun q hq => (hM6.2 q (by omega)).trans ((hM5.2 q (by omega)).trans ((hM4.2 q (by omega)).trans ((f3 q (by omega)).trans (fr2 q hq))))
        have t6 : TQ M6 a tl tx (nI (e2p tl tx p)) m (upJ K i (nI (tx p))) (upJ A i r2.1) (upJ B i r3.1) := by
          obtain ⟨t, zt, zt'⟩ := z1
          exact ⟨o6, ⟨t, ((zt.fr (hM4.2 _ (by omega))).fr (hM5.2 _ (by omega))).fr (hM6.2 _ (by omega)), zt'⟩, (hM4.1.fr (hM5.2 _ (by omega))).fr (hM6.2 _ (by omega)), hM5.1.fr (hM6.2 _ (by omega)), hM6.1⟩
        by_cases c3 : 0 < m2 (tx p) ∧ dgC tl tx (e1p tl tx p) (m2 (tx p)) = 0
        · have v3' : r3.1 = -1 := v3.trans (if_pos c3)
          refine ok_t v3' (ok_v ⟨Or.inr ⟨fun z => by have := z.2.2.2 c3.1; omega, rfl, _, _, _, (?_ : TQ M6 a tl tx _ m (upJ K i (nI (tx p))) (upJ A i r2.1) (upJ B i r3.1))⟩, f6⟩)
          unfold clF
          rw [if_pos ⟨c0, c1⟩, if_pos (fun z => by omega)]
          have e : e2p tl tx p = e1p tl tx p := by unfold e2p; omega
          rw [e] at t6
          exact t6
        · have v3' : r3.1 = nI (clB tl tx p) := v3.trans (if_neg c3)
          refine ok_f (by rw [v3']; exact nI_m1 (by omega)) (ok_v ⟨Or.inl ⟨⟨c0, c1, fun z => by omega, fun z => by omega⟩, rfl, ?_⟩, f6⟩)
          rw [v2, v3'] at t6
          exact t6
    · refine ok_b (most_un hx0 c1 0) ?_
      refine ok_t rfl (ok_v ⟨Or.inr ⟨fun z => c1 z.2.1, rfl, K, A, B, ?_⟩, Fr.rf⟩)
      unfold clF
      rw [if_neg (fun z => c1 z.2)]
      exact h
  · refine ok_b (signHere_out h ht (by omega) (by omega)) ?_
    refine ok_b (v := -1) rfl ?_
    refine ok_t rfl (ok_v ⟨Or.inr ⟨fun z => c0 z.1, rfl, K, A, B, ?_⟩, Fr.rf⟩)
    unfold clF
    rw [if_neg (fun z => c0 z.1)]
    exact h
end SIGNS
theorem last_lt : lastC tl tx < 12 := by
  have h := fa_first_le (fun i => !moreB tl tx i) 12
  rcases Nat.lt_or_ge (lastC tl tx) 12 with q | q
  · exact q
  · have := fa_first_no (fun i => !moreB tl tx i) 12 11 (by unfold lastC at q; omega)
    simp only [Bool.not_eq_false', moreB] at this
    have h2 : more tl tx 11 := @of_decide_eq_true _ (Classical.propDecidable _) this
    exact absurd h2.2.2.2 (by omega)
theorem last_no : ¬ more tl tx (lastC tl tx) := by
  have h := fa_first_yes (fun i => !moreB tl tx i) 12 last_lt
  simp only [Bool.not_eq_true', moreB] at h
  exact @of_decide_eq_false _ (Classical.propDecidable _) h
theorem last_more {i : Nat} (hi : i < lastC tl tx) : more tl tx i := by
  have h := fa_first_no (fun i => !moreB tl tx i) 12 i hi
  simp only [Bool.not_eq_false', moreB] at h
  exact @of_decide_eq_true _ (Classical.propDecidable _) h
theorem pp_le : ∀ {i : Nat}, i ≤ lastC tl tx → pp tl tx i ≤ tl
  | 0, _ => Nat.zero_le _
  | i + 1, h => by
    have := (last_more (tl := tl) (tx := tx) (i := i) (by omega)).2.1
    simp only [pp]
    omega
/-- the text is one of clauses, to its end -/
def good (tl : Nat) (tx : Nat → Nat) : Prop := clG tl tx (pp tl tx (lastC tl tx)) ∧ e2p tl tx (pp tl tx (lastC tl tx)) = tl
noncomputable def fault (tl : Nat) (tx : Nat → Nat) : Nat := @ite _ (clG tl tx (pp tl tx (lastC tl tx))) (Classical.propDecidable _) (e2p tl tx (pp tl tx (lastC tl tx))) (clF tl tx (pp tl tx (lastC tl tx)))
/-- what was taken of clauses -/
def TK (tl : Nat) (tx : Nat → Nat) (i : Nat) (K A B : Nat → Int32) : Prop := ∀ j, j < i → K j = nI (tx (pp tl tx j)) ∧ A j = nI (clA tl tx (pp tl tx j)) ∧ B j = nI (clB tl tx (pp tl tx j))
theorem TK.set {i : Nat} {K A B : Nat → Int32} (h : TK tl tx i K A B) : TK tl tx (i + 1) (upJ K i (nI (tx (pp tl tx i)))) (upJ A i (nI (clA tl tx (pp tl tx i)))) (upJ B i (nI (clB tl tx (pp tl tx i)))) := by
  intro j hj
  simp only [upJ]
  by_cases c : j = i
  · subst c; simp
  · simp only [if_neg c]; exact h j (by omega)
theorem findFault_ok {M : XM} {F a : Nat} (h : TX M a tl tx) (ht : tl ≤ 100) (hx : ∀ k, k < tl → tx k < 128) (hF : 1000 ≤ F) : Ok (f_X7_findFault F a M) (fun r => ((good tl tx ∧ r.1 = -1 ∧ ∃ p K A B, TQ r.2 a tl tx p (nI (lastC tl tx + 1)) K A B ∧ TK tl tx (lastC tl tx + 1) K A B) ∨ (¬ good tl tx ∧ r.1 = nI (fault tl tx) ∧ TX r.2 a tl tx)) ∧ Fr M r.2 a (a + 5)) := by
  obtain ⟨p0, m0, K0, A0, B0, h0⟩ := h.toTQ
  have hN := last_lt (tl := tl) (tx := tx)
  unfold f_X7_findFault
  refine ok_m (setP h0) (fun M1 hM1 => ?_)
  refine ok_m (setM hM1.1) (fun M2 hM2 => ?_)
  refine ok_loop (I := fun i q => q.1 = nI i ∧ (∃ m K A B, TQ q.2 a tl tx (nI (pp tl tx i)) m K A B ∧ TK tl tx i K A B) ∧ Fr M q.2 a (a + 5)) (lastC tl tx) ?_ ?_ (lastC tl tx) 0 F _ (by omega) (by omega) ⟨rfl, ⟨_, _, _, _, hM2.1, fun j hj => absurd hj (Nat.not_lt_zero j)⟩, fun q hq => (hM2.2 q (by omega)).trans (hM1.2 q (by omega))⟩
  · rintro k i ⟨q1, q2⟩ hi ⟨rfl, ⟨m, K, A, B, hQ, hT⟩, fr⟩ hk
    dsimp only at hQ fr
    have hmo := last_more hi
    have hle := pp_le (tl := tl) (tx := tx) (i := i) (by omega)
    unfold b_X7_findFault_12
    refine ok_f (nI_ge (b := 12) (by omega) (by omega)) ?_
    refine ok_b (ob_of hQ.1) ?_
    refine ok_m (takeClause_ok hQ ht hx (by omega) (by omega) hF) (fun r hr => ?_)
    obtain ⟨hr1, hr2⟩ := hr
    rcases hr1 with ⟨g, v, t⟩ | ⟨g, -⟩
    · refine ok_f (by rw [v]; decide) ?_
      refine ok_m (setM t) (fun M3 hM3 => ?_)
      have o3 := hM3.1.1
      refine ok_b (gI_of o3 rfl) ?_
      refine ok_b (gI_of o3 rfl) ?_
      refine ok_f (fun e => by have := nI_inj (by have := hmo.2.1; omega) (by omega) e; have := hmo.2.1; omega) ?_
      refine ok_b (ob_of o3) ?_
      refine ok_b (signHere_in hM3.1 ht hmo.2.1) ?_
      refine ok_t (by rw [hmo.2.2.1]; rfl) ?_
      refine ok_b (gI_of o3 rfl) ?_
      refine ok_f (fun e => by rw [e1] at e; have := nI_inj (b := 12) (by omega) (by decide) e; have := hmo.2.2.2; omega) ?_
      refine ok_b (gI_of o3 rfl) ?_
      refine ok_m (setP hM3.1) (fun M4 hM4 => ?_)
      refine hk _ ⟨e1 i, ⟨_, _, _, _, by rw [e1] at hM4; exact hM4.1, hT.set⟩, fun q hq => (hM4.2 q (by omega)).trans ((hM3.2 q (by omega)).trans ((hr2 q hq).trans (fr q hq)))⟩
    · exact absurd hmo.1 g
  · rintro k ⟨q1, q2⟩ ⟨rfl, ⟨m, K, A, B, hQ, hT⟩, fr⟩
    dsimp only at hQ fr
    have hno := last_no (tl := tl) (tx := tx)
    have hle := pp_le (tl := tl) (tx := tx) (Nat.le_refl _)
    unfold b_X7_findFault_12
    refine ok_f (nI_ge (b := 12) (by omega) (by omega)) ?_
    refine ok_b (ob_of hQ.1) ?_
    refine ok_m (takeClause_ok hQ ht hx (by omega) (by omega) hF) (fun r hr => ?_)
    obtain ⟨hr1, hr2⟩ := hr
    rcases hr1 with ⟨g, v, t⟩ | ⟨g, v, K', A', B', t⟩
    · refine ok_f (by rw [v]; decide) ?_
      refine ok_m (setM t) (fun M3 hM3 => ?_)
      have o3 := hM3.1.1
      have hle2 := e2p_le (tx := tx) g.1
      have f3 : Fr M M3 a (a + 5) := fun q hq => (hM3.2 q (by omega)).trans ((hr2 q hq).trans (fr q hq))
      refine ok_b (gI_of o3 rfl) ?_
      refine ok_b (gI_of o3 rfl) ?_
      by_cases c : e2p tl tx (pp tl tx (lastC tl tx)) = tl
      · refine ok_t (by rw [c]) (ok_v ⟨Or.inl ⟨⟨g, c⟩, rfl, _, _, _, _, by rw [e1] at hM3; exact hM3.1, hT.set⟩, f3⟩)
      · refine ok_f (fun e => c (nI_inj (by omega) (by omega) e)) ?_
        refine ok_b (ob_of o3) ?_
        refine ok_b (signHere_in hM3.1 ht (by omega)) ?_
        have ef : fault tl tx = e2p tl tx (pp tl tx (lastC tl tx)) := by unfold fault; rw [if_pos g]
        have fin : (¬ good tl tx ∧ nI (e2p tl tx (pp tl tx (lastC tl tx))) = nI (fault tl tx) ∧ TX M3 a tl tx) := ⟨fun z => c z.2, by rw [ef], hM3.1.toTX⟩
        by_cases c2 : tx (e2p tl tx (pp tl tx (lastC tl tx))) = 59
        · refine ok_t (by rw [c2]; rfl) ?_
          refine ok_b (gI_of o3 rfl) ?_
          refine ok_t ?_ ?_
          · rw [e1]
            have : lastC tl tx + 1 = 12 := by
              rcases Nat.lt_or_ge (lastC tl tx + 1) 12 with q | q
              · exact absurd ⟨g, by omega, c2, q⟩ hno
              · omega
            rw [this]; rfl
          · refine ok_b (gI_of o3 rfl) ?_
            exact ok_v ⟨Or.inr fin, f3⟩
        · have hb := hx _ (show e2p tl tx (pp tl tx (lastC tl tx)) < tl by omega)
          refine ok_f (fun e => c2 (nI_inj (b := 59) (by omega) (by decide) e)) ?_
          refine ok_b (gI_of o3 rfl) ?_
          exact ok_v ⟨Or.inr fin, f3⟩
    · refine ok_t v ?_
      refine ok_b (gI_of t.1 rfl) ?_
      have ef : fault tl tx = clF tl tx (pp tl tx (lastC tl tx)) := by unfold fault; rw [if_neg g]
      exact ok_v ⟨Or.inr ⟨fun z => g z.1, by rw [ef], t.toTX⟩, fun q hq => (hr2 q hq).trans (fr q hq)⟩
end TEXT
