-- SHAPES, BY CODES
theorem pl_cg {t t' : Nat → Nat} {x : Nat} : ∀ {n : Nat}, (∀ k, k < n → t k = t' k) → pl t x n = pl t' x n
  | 0, _ => rfl
  | n + 1, h => by simp only [pl]; rw [h n (by omega), pl_cg (fun k hk => h k (by omega))]
theorem cdN_cg {t t' b b' : Nat → Nat} {n : Nat} (h1 : ∀ k, k < n → t k = t' k) (h2 : ∀ k, k < n → b k = b' k) : ∀ {i : Nat}, i ≤ n → cdN t b n i = cdN t' b' n i
  | 0, _ => rfl
  | i + 1, hi => by simp only [cdN]; rw [cdN_cg h1 h2 (i := i) (by omega), h2 i (by omega), pl_cg h1]
theorem mvF_cg {m m' : Nat → Nat} {n p : Nat} (h0 : 0 < n) (hp : p < n) (h : ∀ k, k < n → m k = m' k) {k : Nat} (hk : k < n) : mvF m n p k = mvF m' n p k := by
  simp only [mvF]
  split
  · exact h _ (by omega)
  · split
    · exact h _ (by omega)
    · exact h k hk
/-- the row of places behind a step -/
def np (n : Nat) (p : Nat → Nat) (k : Nat) : Nat → Nat := fun i => pl (stT k (fun j => j) p n) (stB k (fun j => j) p n i) n
theorem id_PM (n : Nat) : PM n (fun j => j) := ⟨fun _ h => h, fun i j h _ => Nat.ne_of_lt h⟩
theorem np_PM {n : Nat} {p : Nat → Nat} (hp : PM n p) (h2 : 2 ≤ n) (hne : p (n - 1) ≠ n - 1) {k : Nat} (hk : k < 2) : PM n (np n p k) := by
  have ht := stT_PM hk (id_PM n) hp h2 (Ne.symm hne)
  have hb := stB_PM hk (id_PM n) hp h2 (Ne.symm hne)
  refine ⟨fun i hi => (ht.pls (hb.1 i hi)).1, fun i j hij hj e => ?_⟩
  have h1 := (ht.pls (hb.1 i (by omega))).2
  have h3 := (ht.pls (hb.1 j hj)).2
  unfold np at e
  rw [e, h3] at h1
  exact hb.2 i j hij hj h1.symm
/-- digits of a code -/
def dg (n v : Nat) (i : Nat) : Nat := v / 10 ^ (n - 1 - i) % 10 - 1
theorem dg_en {n : Nat} {p : Nat → Nat} (h2 : 2 ≤ n) (h5 : n ≤ 5) (hp : PM n p) {i : Nat} (hi : i < n) : dg n (en p n) i = p i := by
  have h := (okD_en h2 h5 hp).2 (n - 1 - i) (by omega)
  rw [show n - 1 - (n - 1 - i) = i by omega] at h
  unfold dg
  omega
def nxN (n v k : Nat) : Option Nat := if dg n v (n - 1) = n - 1 then none else some (en (np n (dg n v) k) n)
def oI (x : Option Nat) : Int32 := match x with
  | none => -5
  | some w => nI w
def vC (n v : Nat) : Prop := ∃ p, PM n p ∧ v = en p n
theorem PM_cg {n : Nat} {t t' : Nat → Nat} (h : PM n t) (e : ∀ k, k < n → t k = t' k) : PM n t' := ⟨fun k hk => by rw [← e k hk]; exact h.1 k hk, fun i j hij hj => by rw [← e i (by omega), ← e j hj]; exact h.2 i j hij hj⟩
theorem vC_dg {n v : Nat} (h2 : 2 ≤ n) (h5 : n ≤ 5) (h : vC n v) : PM n (dg n v) ∧ v = en (dg n v) n := by
  obtain ⟨p, hp, rfl⟩ := h
  exact ⟨PM_cg hp (fun k hk => (dg_en h2 h5 hp hk).symm), en_cg (fun j hj => (dg_en h2 h5 hp hj).symm)⟩
theorem vC_nx {n v w k : Nat} (h2 : 2 ≤ n) (h5 : n ≤ 5) (h : vC n v) (hk : k < 2) (e : nxN n v k = some w) : vC n w := by
  obtain ⟨hp, -⟩ := vC_dg h2 h5 h
  unfold nxN at e
  split at e
  · cases e
  · rename_i c
    cases e
    exact ⟨_, np_PM hp h2 c hk, rfl⟩
theorem vC_lt {n v : Nat} (h5 : n ≤ 5) (h : vC n v) : v < 100000 := by
  obtain ⟨p, hp, rfl⟩ := h
  exact en_b hp h5 (Nat.le_refl n)
-- how many codes there are
def vl2 : List Nat := (List.range 2).flatMap fun a => (List.range 2).flatMap fun b => if a ≠ b then [(0 * 10 + a + 1) * 10 + b + 1] else []
def vl3 : List Nat := (List.range 3).flatMap fun a => (List.range 3).flatMap fun b => (List.range 3).flatMap fun c => if a ≠ b ∧ a ≠ c ∧ b ≠ c then [((0 * 10 + a + 1) * 10 + b + 1) * 10 + c + 1] else []
def vl4 : List Nat := (List.range 4).flatMap fun a => (List.range 4).flatMap fun b => (List.range 4).flatMap fun c => (List.range 4).flatMap fun d => if a ≠ b ∧ a ≠ c ∧ b ≠ c ∧ a ≠ d ∧ b ≠ d ∧ c ≠ d then [(((0 * 10 + a + 1) * 10 + b + 1) * 10 + c + 1) * 10 + d + 1] else []
def vl5 : List Nat := (List.range 5).flatMap fun a => (List.range 5).flatMap fun b => (List.range 5).flatMap fun c => (List.range 5).flatMap fun d => (List.range 5).flatMap fun e => if a ≠ b ∧ a ≠ c ∧ b ≠ c ∧ a ≠ d ∧ b ≠ d ∧ c ≠ d ∧ a ≠ e ∧ b ≠ e ∧ c ≠ e ∧ d ≠ e then [((((0 * 10 + a + 1) * 10 + b + 1) * 10 + c + 1) * 10 + d + 1) * 10 + e + 1] else []
theorem fm {n : Nat} {f : Nat → List Nat} {a v : Nat} (ha : a < n) (h : v ∈ f a) : v ∈ (List.range n).flatMap f := List.mem_flatMap.mpr ⟨a, List.mem_range.mpr ha, h⟩
theorem fi {c : Prop} [Decidable c] {v : Nat} (h : c) : v ∈ (if c then [v] else []) := by rw [if_pos h]; exact List.mem_singleton.mpr rfl
theorem vl_ex {n : Nat} (h2 : 2 ≤ n) (h5 : n ≤ 5) : ∃ L : List Nat, L.length ≤ 120 ∧ ∀ v, vC n v → v ∈ L := by
  rcases (show n = 2 ∨ n = 3 ∨ n = 4 ∨ n = 5 by omega) with rfl | rfl | rfl | rfl
  · refine ⟨vl2, by decide +kernel, ?_⟩
    rintro v ⟨p, hp, rfl⟩
    exact fm (hp.1 0 (by omega)) (fm (hp.1 1 (by omega)) (fi (dis2.mp hp.2)))
  · refine ⟨vl3, by decide +kernel, ?_⟩
    rintro v ⟨p, hp, rfl⟩
    exact fm (hp.1 0 (by omega)) (fm (hp.1 1 (by omega)) (fm (hp.1 2 (by omega)) (fi (dis3.mp hp.2))))
  · refine ⟨vl4, by decide +kernel, ?_⟩
    rintro v ⟨p, hp, rfl⟩
    exact fm (hp.1 0 (by omega)) (fm (hp.1 1 (by omega)) (fm (hp.1 2 (by omega)) (fm (hp.1 3 (by omega)) (fi (dis4.mp hp.2)))))
  · refine ⟨vl5, by decide +kernel, ?_⟩
    rintro v ⟨p, hp, rfl⟩
    exact fm (hp.1 0 (by omega)) (fm (hp.1 1 (by omega)) (fm (hp.1 2 (by omega)) (fm (hp.1 3 (by omega)) (fm (hp.1 4 (by omega)) (fi (dis5.mp hp.2))))))
theorem cnt_le {n : Nat} (h2 : 2 ≤ n) (h5 : n ≤ 5) {cs : Nat → Nat} {c : Nat} (hv : ∀ i, i < c → vC n (cs i)) (hd : ∀ i j, i < j → j < c → cs i ≠ cs j) : c ≤ 120 := by
  obtain ⟨L, hL, hm⟩ := vl_ex h2 h5
  have key : ∀ i, i < c → ∃ k, L[k]? = some (cs i) := fun i hi => List.getElem?_of_mem (hm _ (hv i hi))
  have h := fb_holes L.length c (fun i => L.findIdx (fun v => v == cs i)) (fun i hi => ?_) (fun i j hij hj e => ?_)
  · omega
  · exact List.findIdx_lt_length_of_exists ⟨cs i, hm _ (hv i hi), by simp⟩
  · have a1 : L.findIdx (fun v => v == cs i) < L.length := List.findIdx_lt_length_of_exists ⟨cs i, hm _ (hv i (by omega)), by simp⟩
    have a2 : L.findIdx (fun v => v == cs j) < L.length := List.findIdx_lt_length_of_exists ⟨cs j, hm _ (hv j hj), by simp⟩
    have b1 := List.findIdx_getElem (w := a1)
    have b2 := List.findIdx_getElem (w := a2)
    simp only [beq_iff_eq] at b1 b2
    apply hd i j hij hj
    rw [← b1, ← b2]
    congr 1
-- the class of a code, found step by step
abbrev BS : Type := (Nat → Nat) × (Nat → Nat) × Nat
def fx (cs : Nat → Nat) (v c : Nat) : Nat := fa_first (fun i => decide (cs i = v)) c
def ad (x : Option Nat) (d : Nat) (s : BS) : BS := match x with
  | none => s
  | some v => if fx s.1 v s.2.2 < s.2.2 then s else (upN s.1 s.2.2 v, upN s.2.1 s.2.2 d, s.2.2 + 1)
def bf (n v0 : Nat) : Nat → BS
  | 0 => (fun _ => v0, fun _ => 0, 1)
  | k + 1 => if k < (bf n v0 k).2.2 then ad (nxN n ((bf n v0 k).1 k) 1) ((bf n v0 k).2.1 k + 1) (ad (nxN n ((bf n v0 k).1 k) 0) ((bf n v0 k).2.1 k + 1) (bf n v0 k)) else bf n v0 k
def okB (n : Nat) (s : BS) : Prop := 1 ≤ s.2.2 ∧ (∀ i, i < s.2.2 → vC n (s.1 i)) ∧ (∀ i j, i < j → j < s.2.2 → s.1 i ≠ s.1 j) ∧ ∀ i, i < s.2.2 → s.2.1 i ≤ 1000
theorem fx_no {cs : Nat → Nat} {v c k : Nat} (h : k < fx cs v c) : cs k ≠ v := by
  exact of_decide_eq_false (fa_first_no (fun i => decide (cs i = v)) c k h)
theorem fx_yes {cs : Nat → Nat} {v c : Nat} (h : fx cs v c < c) : cs (fx cs v c) = v := by
  exact of_decide_eq_true (fa_first_yes (fun i => decide (cs i = v)) c h)
theorem fx_le (cs : Nat → Nat) (v c : Nat) : fx cs v c ≤ c := fa_first_le _ c
theorem okB.adk {n : Nat} {s : BS} (h : okB n s) (h2 : 2 ≤ n) (h5 : n ≤ 5) {x : Option Nat} {d : Nat} (hx : ∀ w, x = some w → vC n w) (hd : d ≤ 1000) : okB n (ad x d s) ∧ (∀ i, i < s.2.2 → (ad x d s).1 i = s.1 i ∧ (ad x d s).2.1 i = s.2.1 i) ∧ s.2.2 ≤ (ad x d s).2.2 := by
  unfold ad
  split
  · exact ⟨h, fun _ _ => ⟨rfl, rfl⟩, Nat.le_refl _⟩
  · rename_i v
    split
    · exact ⟨h, fun _ _ => ⟨rfl, rfl⟩, Nat.le_refl _⟩
    · rename_i c
      have hc : fx s.1 v s.2.2 = s.2.2 := by have := fx_le s.1 v s.2.2; omega
      refine ⟨⟨by dsimp only; omega, fun i hi => ?_, fun i j hij hj => ?_, fun i hi => ?_⟩, fun i hi => ⟨upN_n (by omega), upN_n (by omega)⟩, by dsimp only; omega⟩
      · dsimp only at hi ⊢
        by_cases e : i = s.2.2
        · rw [e, upN_s]; exact hx v rfl
        · rw [upN_n e]; exact h.2.1 i (by omega)
      · dsimp only at hj ⊢
        rw [upN_n (show i ≠ s.2.2 by omega)]
        by_cases e : j = s.2.2
        · rw [e, upN_s]; exact fx_no (v := v) (c := s.2.2) (by omega)
        · rw [upN_n e]; exact h.2.2.1 i j hij (by omega)
      · dsimp only at hi ⊢
        by_cases e : i = s.2.2
        · rw [e, upN_s]; exact hd
        · rw [upN_n e]; exact h.2.2.2 i (by omega)
theorem fa_cg {p q : Nat → Bool} : ∀ {n : Nat}, (∀ k, k < n → p k = q k) → fa_first p n = fa_first q n
  | 0, _ => rfl
  | n + 1, h => by simp only [fa_first]; rw [fa_cg (n := n) (fun k hk => h k (by omega)), h n (by omega)]
theorem fx_cg {cs cs' : Nat → Nat} {v c : Nat} (h : ∀ i, i < c → cs i = cs' i) : fx cs v c = fx cs' v c := fa_cg (fun k hk => by rw [h k hk])
def Ag (s s' : BS) : Prop := s.2.2 = s'.2.2 ∧ ∀ i, i < s.2.2 → s.1 i = s'.1 i ∧ s.2.1 i = s'.2.1 i
theorem ag_ad {s s' : BS} (h : Ag s s') (x : Option Nat) (d : Nat) : Ag (ad x d s) (ad x d s') := by
  obtain ⟨h1, h2⟩ := h
  unfold ad
  cases x with
  | none => exact ⟨h1, h2⟩
  | some v =>
    have e : fx s.1 v s.2.2 = fx s'.1 v s'.2.2 := by rw [← h1]; exact fx_cg (fun i hi => (h2 i hi).1)
    dsimp only
    rw [← e, ← h1]
    by_cases c : fx s.1 v s.2.2 < s.2.2
    · rw [if_pos c, if_pos c]; exact ⟨h1, h2⟩
    · rw [if_neg c, if_neg c]
      refine ⟨rfl, fun i hi => ?_⟩
      dsimp only at hi ⊢
      simp only [upN]
      by_cases q : i = s.2.2
      · rw [if_pos q, if_pos q]; exact ⟨rfl, by rw [if_pos q, if_pos q]⟩
      · rw [if_neg q, if_neg q]; refine ⟨(h2 i (by omega)).1, ?_⟩; rw [if_neg q, if_neg q]; exact (h2 i (by omega)).2
theorem okB.c {n : Nat} {s : BS} (h : okB n s) (h2 : 2 ≤ n) (h5 : n ≤ 5) : s.2.2 ≤ 120 := cnt_le h2 h5 h.2.1 h.2.2.1
theorem bf_ok {n v0 : Nat} (h2 : 2 ≤ n) (h5 : n ≤ 5) (h0 : vC n v0) : ∀ k, k ≤ 120 → okB n (bf n v0 k) ∧ ∀ i, i < (bf n v0 k).2.2 → (bf n v0 k).2.1 i ≤ k
  | 0, _ => ⟨⟨Nat.le_refl 1, fun _ _ => h0, fun i j hij hj => by simp [bf] at hj; omega, fun _ _ => Nat.zero_le _⟩, fun _ _ => Nat.le_refl _⟩
  | k + 1, hk120 => by
    obtain ⟨ih, id⟩ := bf_ok h2 h5 h0 k (by omega)
    simp only [bf]
    split
    · rename_i c
      have dk := id k c
      have a1 := okB.adk ih h2 h5 (x := nxN n ((bf n v0 k).1 k) 0) (d := (bf n v0 k).2.1 k + 1) (fun w e => vC_nx h2 h5 (ih.2.1 k c) (by omega) e) (by omega)
      have a2 := okB.adk a1.1 h2 h5 (x := nxN n ((bf n v0 k).1 k) 1) (d := (bf n v0 k).2.1 k + 1) (fun w e => vC_nx h2 h5 (ih.2.1 k c) (by omega) e) (by omega)
      refine ⟨a2.1, ?_⟩
      have dep : ∀ (x : Option Nat) (s : BS), (∀ i, i < s.2.2 → s.2.1 i ≤ k + 1) → ∀ i, i < (ad x ((bf n v0 k).2.1 k + 1) s).2.2 → (ad x ((bf n v0 k).2.1 k + 1) s).2.1 i ≤ k + 1 := by
        intro x s hs i hi
        unfold ad at hi ⊢
        split at hi
        · exact hs i hi
        · split at hi
          · rename_i q; rw [if_pos q]; exact hs i hi
          · rename_i q
            rw [if_neg q]
            dsimp only at hi ⊢
            by_cases e : i = s.2.2
            · rw [e, upN_s]; omega
            · rw [upN_n e]; exact hs i (by omega)
      exact dep _ _ (dep _ _ (fun i hi => by have := id i hi; omega))
    · exact ⟨ih, fun i hi => by have := id i hi; omega⟩
theorem bf_end {n v0 : Nat} {i : Nat} (h : (bf n v0 i).2.2 ≤ i) : ∀ d, bf n v0 (i + d) = bf n v0 i
  | 0 => rfl
  | d + 1 => by
    rw [← Nat.add_assoc]
    simp only [bf]
    rw [bf_end h d, if_neg (by omega)]
section SHAPES
variable {M : XM} {F a n : Nat}
def SH (M : XM) (a : Nat) (cs ds : Nat → Nat) (c : Nat) : Prop := M a = some (.inr (5, [.ref (a + 1), .ref (a + 5), .ref (a + 6), .int (nI c)])) ∧ (∃ n t b l, RW M (a + 1) n t b l) ∧ IA M (a + 5) 120 cs ∧ IA M (a + 6) 120 ds
theorem SH.fr {M' : XM} {cs ds : Nat → Nat} {c : Nat} (h : SH M a cs ds c) (h2 : ∀ q, a ≤ q → q < a + 7 → M' q = M q) : SH M' a cs ds c := by
  obtain ⟨h0, ⟨n, t, b, l, h1⟩, h3, h4⟩ := h
  exact ⟨(h2 a (by omega) (by omega)).trans h0, ⟨n, t, b, l, h1.fr (fun q a1 a2 => h2 q (by omega) (by omega))⟩, h3.fr (h2 _ (by omega) (by omega)), h4.fr (h2 _ (by omega) (by omega))⟩
theorem follow_ok {cs ds : Nat → Nat} {c v k : Nat} (h : SH M a cs ds c) (h2 : 2 ≤ n) (h5 : n ≤ 5) (hv : vC n v) (hk : k < 2) (hF : 10 ≤ F) :
    Ok (f_X5_follow F a (nI v) (nI n) (nI k) M) (fun r => r.1 = oI (nxN n v k) ∧ SH r.2 a cs ds c ∧ Fr M r.2 (a + 1) (a + 5)) := by
  obtain ⟨h0, ⟨n0, t, b, l, h1⟩, h3, h4⟩ := h
  obtain ⟨hp, hve⟩ := vC_dg h2 h5 hv
  have fin : ∀ (M' : XM) (n t b l), RW M' (a + 1) n t b l → Fr M M' (a + 1) (a + 5) → SH M' a cs ds c ∧ Fr M M' (a + 1) (a + 5) := fun M' n t b l hR fr => ⟨⟨(fr a (by omega)).trans h0, ⟨n, t, b, l, hR⟩, h3.fr (fr _ (by omega)), h4.fr (fr _ (by omega))⟩, fr⟩
  unfold f_X5_follow
  refine ok_b (gR_of h0 rfl) ?_
  refine ok_b (put_of h1.1 (by simp)) ?_
  generalize hm : x_up M (a + 1) (.inr (3, [Value.int (nI n0), .ref (a + 1 + 1), .ref (a + 1 + 2), .ref (a + 1 + 3)].set 0 (.int (nI n)))) = M0
  have hR : RW M0 (a + 1) n t b l := by
    subst hm
    exact ⟨up_s, h1.2.1.fr (up_n (by omega)), h1.2.2.1.fr (up_n (by omega)), h1.2.2.2.fr (up_n (by omega))⟩
  have f0 : Fr M M0 (a + 1) (a + 5) := by subst hm; exact Fr.up (by omega) (by omega)
  have o0 : M0 a = _ := (f0 a (by omega)).trans h0
  refine ok_b (gR_of o0 rfl) ?_
  refine ok_b (ob_of hR.1) ?_
  have hl := layCode_ok (F := F) hR h2 h5 hp hF
  rw [← hve] at hl
  refine ok_m hl (fun M1 hM1 => ?_)
  have f1 : Fr M M1 (a + 1) (a + 5) := f0.tr (fun q hq => hM1.2 q (by omega) (by omega))
  have o1 : M1 a = _ := (f1 a (by omega)).trans h0
  have hR1 := hM1.1
  have ht' : PM n (ovF n (fun k => k) t) := PM_cg (id_PM n) (fun k hk => by simp [ovF, hk])
  have hb' : PM n (ovF n (dg n v) b) := PM_cg hp (fun k hk => by simp [ovF, hk])
  refine ok_b (gR_of o1 rfl) ?_
  refine ok_b (ob_of hR1.1) ?_
  refine ok_b (endsAlike_ok hR1 h5 (by omega) ht' hb') ?_
  have e1 : ovF n (fun k => k) t (n - 1) = n - 1 := by simp [ovF]; omega
  have e2 : ovF n (dg n v) b (n - 1) = dg n v (n - 1) := by simp [ovF]; omega
  rw [e1, e2]
  by_cases c1 : dg n v (n - 1) = n - 1
  · rw [if_pos c1.symm]
    refine ok_f (by decide) ?_
    refine ok_v ⟨?_, fin _ _ _ _ _ hR1 f1⟩
    simp only [nxN, if_pos c1, oI]
  · rw [if_neg (show ¬ (n - 1 = dg n v (n - 1)) from fun e => c1 e.symm)]
    refine ok_t rfl ?_
    refine ok_b (gR_of o1 rfl) ?_
    refine ok_b (ob_of hR1.1) ?_
    have hne : ovF n (fun k => k) t (n - 1) ≠ ovF n (dg n v) b (n - 1) := by rw [e1, e2]; exact fun e => c1 e.symm
    refine ok_m (moveForStep_ok hR1 h5 h2 ht' hb' hne hk hF) (fun M2 hM2 => ?_)
    have f2 : Fr M M2 (a + 1) (a + 5) := f1.tr (fun q hq => hM2.2 q (by omega) (by omega))
    have o2 : M2 a = _ := (f2 a (by omega)).trans h0
    refine ok_b (gR_of o2 rfl) ?_
    refine ok_b (ob_of hM2.1.1) ?_
    refine ok_b (codeNow_ok hM2.1 h5 (stT_PM hk ht' hb' h2 hne) (stB_PM hk ht' hb' h2 hne) hF) ?_
    refine ok_v ⟨?_, fin _ _ _ _ _ hM2.1 f2⟩
    simp only [nxN, if_neg c1, oI]
    congr 1
    have p1 : pl (ovF n (fun k => k) t) (dg n v (n - 1)) n = pl (fun k => k) (dg n v (n - 1)) n := pl_cg (fun k hk => by simp [ovF, hk])
    have p2 : pl (ovF n (dg n v) b) (n - 1) n = pl (dg n v) (n - 1) n := pl_cg (fun k hk => by simp [ovF, hk])
    have q1 := ((id_PM n).pls (hp.1 (n - 1) (by omega))).1
    have q2 := (hp.pls (show n - 1 < n by omega)).1
    have et : ∀ i, i < n → stT k (ovF n (fun k => k) t) (ovF n (dg n v) b) n i = stT k (fun j => j) (dg n v) n i := by
      intro i hi
      unfold stT
      split
      · simp [ovF, hi]
      · rw [e2, p1]; exact mvF_cg (by omega) q1 (fun k hk => by simp [ovF, hk]) hi
    have eb : ∀ i, i < n → stB k (ovF n (fun k => k) t) (ovF n (dg n v) b) n i = stB k (fun j => j) (dg n v) n i := by
      intro i hi
      unfold stB
      split
      · rw [e1, p2]; exact mvF_cg (by omega) q2 (fun k hk => by simp [ovF, hk]) hi
      · simp [ovF, hi]
    rw [cdN_cg et eb (Nat.le_refl n), cdN_en]
    rfl
theorem indexOf_ok {cs ds : Nat → Nat} {c v : Nat} (h : SH M a cs ds c) (hc : c ≤ 120) (hcs : ∀ i, i < c → cs i < 100000) (hv : v < 100000) (hF : 1000 ≤ F) : f_X5_indexOf F a (nI v) M = some (if fx cs v c < c then nI (fx cs v c) else -1) := by
  have hle := fx_le cs v c
  unfold f_X5_indexOf
  refine ok_e (ok_loop (I := fun i q => q = nI i) (fx cs v c) ?_ ?_ (fx cs v c) 0 F _ (by omega) (by omega) rfl)
  · rintro k i q hi rfl hk
    have := hcs i (by omega)
    unfold b_X5_indexOf_2
    refine ok_b (gI_of h.1 rfl) ?_
    refine ok_f (nI_ge (by omega) (by omega)) ?_
    refine ok_b (gR_of h.1 rfl) ?_
    refine ok_b (h.2.2.1.rd i rfl (by omega) (by decide)) ?_
    refine ok_f (fun e => fx_no hi (nI_inj (by omega) (by omega) e)) ?_
    exact hk _ (e1 i)
  · rintro k q rfl
    unfold b_X5_indexOf_2
    refine ok_b (gI_of h.1 rfl) ?_
    by_cases e : fx cs v c < c
    · rw [if_pos e]
      refine ok_f (nI_ge e (by omega)) ?_
      refine ok_b (gR_of h.1 rfl) ?_
      refine ok_b (h.2.2.1.rd (fx cs v c) rfl (by omega) (by decide)) ?_
      exact ok_t (by rw [fx_yes e]) (ok_v rfl)
    · rw [if_neg e]
      exact ok_t (nI_le (by omega) (by omega)) (ok_v rfl)
theorem note_ok {s : BS} {x : Option Nat} {d : Nat} (h : SH M a s.1 s.2.1 s.2.2) (h2 : 2 ≤ n) (h5 : n ≤ 5) (hs : okB n s ∨ s.2.2 = 0) (hx : ∀ w, x = some w → vC n w) (hd : d ≤ 1000) (hF : 1000 ≤ F) :
    Ok (f_X5_note F a (oI x) (nI d) M) (fun M' => SH M' a (ad x d s).1 (ad x d s).2.1 (ad x d s).2.2 ∧ Fr M M' a (a + 7)) := by
  unfold f_X5_note
  cases x with
  | none => exact ok_t rfl (ok_v ⟨h, Fr.rf⟩)
  | some v =>
    have hv := hx v rfl
    have hvl := vC_lt h5 hv
    have hc : s.2.2 ≤ 120 := by
      rcases hs with hs | hs
      · exact hs.c h2 h5
      · omega
    have hcs : ∀ i, i < s.2.2 → s.1 i < 100000 := fun i hi => by
      rcases hs with hs | hs
      · exact vC_lt h5 (hs.2.1 i hi)
      · omega
    refine ok_f (fun e => ?_) ?_
    · have e2 := congrArg Int32.toInt e
      simp only [oI] at e2
      rw [nI_toInt (by omega), show ((-5 : Int32).toInt) = -5 from rfl] at e2
      omega
    refine ok_b (ob_of h.1) ?_
    refine ok_b (indexOf_ok h hc hcs hvl hF) ?_
    simp only [ad]
    by_cases e : fx s.1 v s.2.2 < s.2.2
    · rw [if_pos e, if_pos e]
      refine ok_f (nI_m1 (by omega)) ?_
      exact ok_v ⟨h, Fr.rf⟩
    · rw [if_neg e, if_neg e]
      have hlt : s.2.2 < 120 := by
        rcases hs with hs | hs
        · have := (hs.adk h2 h5 (x := some v) (d := d) (fun w e => by cases e; exact hv) hd).1.c h2 h5
          simp only [ad, if_neg e] at this
          omega
        · omega
      refine ok_t rfl ?_
      refine ok_b (gI_of h.1 rfl) ?_
      refine ok_t (nI_lt (b := 120) hlt (by omega)) ?_
      refine ok_b (gR_of h.1 rfl) ?_
      refine ok_b (gI_of h.1 rfl) ?_
      obtain ⟨h0, ⟨n0, t, b, l, h1⟩, h3, h4⟩ := h
      refine ok_m (h3.wr s.2.2 v rfl rfl hlt (by decide)) (fun M1 hM1 => ?_)
      have o1 : M1 a = _ := (hM1.2 a (by omega)).trans h0
      refine ok_b (gR_of o1 rfl) ?_
      refine ok_b (gI_of o1 rfl) ?_
      refine ok_m (IA.wr (h4.fr (hM1.2 _ (by omega))) s.2.2 d rfl rfl hlt (by decide)) (fun M2 hM2 => ?_)
      have o2 : M2 a = _ := (hM2.2 a (by omega)).trans o1
      refine ok_b (gI_of o2 rfl) ?_
      refine ok_b (put_of o2 (by simp)) ?_
      have fr2 : Fr M M2 a (a + 7) := fun q hq => (hM2.2 q (by omega)).trans (hM1.2 q (by omega))
      refine ok_v ⟨⟨?_, ⟨n0, t, b, l, h1.fr (fun q a1 a2 => ?_)⟩, ?_, ?_⟩, fr2.tr (Fr.up (by omega) (by omega))⟩
      · rw [up_s]; simp only [List.set]; rw [e1]
      · rw [up_n (by omega), hM2.2 q (by omega), hM1.2 q (by omega)]
      · exact (hM1.1.fr (hM2.2 _ (by omega))).fr (up_n (by omega))
      · exact hM2.1.fr (up_n (by omega))
theorem explore_ok {cs ds : Nat → Nat} {c v0 : Nat} (h : SH M a cs ds c) (h2 : 2 ≤ n) (h5 : n ≤ 5) (hv : vC n v0) (hF : 1000 ≤ F) :
    Ok (f_X5_explore F a (nI v0) (nI n) M) (fun M' => (∃ cs' ds', SH M' a cs' ds' (bf n v0 120).2.2 ∧ ∀ i, i < (bf n v0 120).2.2 → cs' i = (bf n v0 120).1 i ∧ ds' i = (bf n v0 120).2.1 i) ∧ Fr M M' a (a + 7)) := by
  unfold f_X5_explore
  obtain ⟨h0, ⟨n0, t, b, l, h1⟩, h3, h4⟩ := h
  refine ok_b (put_of h0 (by simp)) ?_
  generalize hm : x_up M a (.inr (5, [Value.ref (a + 1), .ref (a + 5), .ref (a + 6), .int (nI c)].set 3 (.int 0))) = M0
  have f0 : Fr M M0 a (a + 7) := by subst hm; exact Fr.up (by omega) (by omega)
  have hS0 : SH M0 a cs ds 0 := by
    subst hm
    exact ⟨up_s, ⟨n0, t, b, l, h1.fr (fun q a1 a2 => up_n (by omega))⟩, h3.fr (up_n (by omega)), h4.fr (up_n (by omega))⟩
  refine ok_b (ob_of hS0.1) ?_
  have hv1 : ∀ w, some v0 = some w → vC n w := fun w e => by cases e; exact hv
  refine ok_m (note_ok (F := F) (n := n) (s := (cs, ds, 0)) (x := some v0) (d := 0) hS0 h2 h5 (Or.inr rfl) hv1 (by omega) hF) (fun M1 hM1 => ?_)
  have f1 := f0.tr hM1.2
  have hS1 : SH M1 a (upN cs 0 v0) (upN ds 0 0) 1 := by
    have := hM1.1
    simp only [ad, Nat.not_lt_zero, if_false] at this
    exact this
  -- the found codes, in front of what else the rows hold
  refine ok_w (P := fun M' => (∃ cs' ds', SH M' a cs' ds' (bf n v0 120).2.2 ∧ ∀ i, i < (bf n v0 120).2.2 → cs' i = (bf n v0 120).1 i ∧ ds' i = (bf n v0 120).2.1 i) ∧ Fr M M' a (a + 7)) ?_ (fun _ h => h)
  refine ok_loop (I := fun i q => q.1 = nI i ∧ (∃ cs' ds', SH q.2 a cs' ds' (bf n v0 i).2.2 ∧ ∀ j, j < (bf n v0 i).2.2 → cs' j = (bf n v0 i).1 j ∧ ds' j = (bf n v0 i).2.1 j) ∧ Fr M q.2 a (a + 7)) 120 ?_ ?_ 120 0 F _ (by omega) (by omega) ⟨rfl, ⟨_, _, hS1, fun j hj => ?_⟩, f1⟩
  · rintro k i ⟨q1, q2⟩ hi ⟨rfl, ⟨cs', ds', hS, he⟩, fr⟩ hk
    dsimp only at hS fr
    obtain ⟨hB, hdep⟩ := bf_ok h2 h5 hv i (by omega)
    have hc := hB.c h2 h5
    unfold b_X5_explore_13
    refine ok_b (gI_of hS.1 rfl) ?_
    by_cases c1 : (bf n v0 i).2.2 ≤ i
    · refine ok_t (nI_le c1 (by omega)) ?_
      have e := bf_end c1 (120 - i)
      rw [show i + (120 - i) = 120 by omega] at e
      rw [e]
      exact ok_v ⟨⟨cs', ds', hS, he⟩, fr⟩
    · refine ok_f (nI_ge (by omega) (by omega)) ?_
      refine ok_f (nI_ge (b := 120) hi (by omega)) ?_
      have hci : cs' i = (bf n v0 i).1 i := (he i (by omega)).1
      have hdi : ds' i = (bf n v0 i).2.1 i := (he i (by omega)).2
      have hvi : vC n (cs' i) := by rw [hci]; exact hB.2.1 i (by omega)
      have hd1 : ds' i + 1 ≤ 1000 := by rw [hdi]; have := hdep i (by omega); omega
      refine ok_b (gR_of hS.1 rfl) ?_
      refine ok_b (hS.2.2.1.rd i rfl (by omega) (by decide)) ?_
      refine ok_b (ob_of hS.1) ?_
      refine ok_m (follow_ok (k := 0) hS h2 h5 hvi (by omega) (by omega)) (fun r2 hr2 => ?_)
      have hS2 := hr2.2.1
      have okA : okB n (cs', ds', (bf n v0 i).2.2) := ⟨hB.1, fun j hj => by show vC n (cs' j); rw [(he j hj).1]; exact hB.2.1 j hj, fun j j2 h1 h2 => by show cs' j ≠ cs' j2; rw [(he j (Nat.lt_trans h1 h2)).1, (he j2 h2).1]; exact hB.2.2.1 j j2 h1 h2, fun j hj => by show ds' j ≤ 1000; rw [(he j hj).2]; exact hB.2.2.2 j hj⟩
      have nx0 : ∀ w, nxN n (cs' i) 0 = some w → vC n w := fun w e => vC_nx h2 h5 hvi (by omega) e
      have nx1 : ∀ w, nxN n (cs' i) 1 = some w → vC n w := fun w e => vC_nx h2 h5 hvi (by omega) e
      refine ok_b (gR_of hS2.1 rfl) ?_
      refine ok_b (hS2.2.2.2.rd i rfl (by omega) (by decide)) ?_
      refine ok_b (ob_of hS2.1) ?_
      dsimp only
      rw [e1, hr2.1]
      refine ok_m (note_ok (F := F) (n := n) (s := (cs', ds', (bf n v0 i).2.2)) (x := nxN n (cs' i) 0) (d := ds' i + 1) hS2 h2 h5 (Or.inl okA) nx0 hd1 hF) (fun M3 hM3 => ?_)
      have hS3 := hM3.1
      obtain ⟨okC, hsame, hmono⟩ := okB.adk okA h2 h5 nx0 hd1
      have s1 := hsame i (show i < (bf n v0 i).2.2 by omega)
      have hc3 := okC.c h2 h5
      refine ok_b (gR_of hS3.1 rfl) ?_
      refine ok_b (hS3.2.2.1.rd i rfl (by omega) (by decide)) ?_
      refine ok_b (ob_of hS3.1) ?_
      rw [s1.1]
      refine ok_m (follow_ok (k := 1) hS3 h2 h5 hvi (by omega) (by omega)) (fun r4 hr4 => ?_)
      have hS4 := hr4.2.1
      refine ok_b (gR_of hS4.1 rfl) ?_
      refine ok_b (hS4.2.2.2.rd i rfl (by omega) (by decide)) ?_
      refine ok_b (ob_of hS4.1) ?_
      rw [s1.2, e1, hr4.1]
      refine ok_m (note_ok (F := F) (n := n) (s := ad (nxN n (cs' i) 0) (ds' i + 1) (cs', ds', (bf n v0 i).2.2)) (x := nxN n (cs' i) 1) (d := ds' i + 1) hS4 h2 h5 (Or.inl okC) nx1 hd1 hF) (fun M5 hM5 => ?_)
      have hag : Ag (ad (nxN n (cs' i) 1) (ds' i + 1) (ad (nxN n (cs' i) 0) (ds' i + 1) (cs', ds', (bf n v0 i).2.2))) (bf n v0 (i + 1)) := by
        simp only [bf]
        rw [if_pos (show i < (bf n v0 i).2.2 by omega), ← hci, ← hdi]
        have h0 : Ag (cs', ds', (bf n v0 i).2.2) (bf n v0 i) := ⟨rfl, he⟩
        exact ag_ad (ag_ad h0 _ _) _ _
      refine hk _ ⟨e1 i, ⟨_, _, hag.1 ▸ hM5.1, fun j hj => hag.2 j (by rw [hag.1]; exact hj)⟩, fr.tr ((hr2.2.2.mono a (a + 7) (by omega) (by omega)).tr (hM3.2.tr ((hr4.2.2.mono a (a + 7) (by omega) (by omega)).tr hM5.2)))⟩
  · rintro k ⟨q1, q2⟩ ⟨rfl, ⟨cs', ds', hS, he⟩, fr⟩
    dsimp only at hS fr
    have hc := (bf_ok h2 h5 hv 120 (by omega)).1.c h2 h5
    unfold b_X5_explore_13
    refine ok_b (gI_of hS.1 rfl) ?_
    exact ok_t (nI_le hc (by omega)) (ok_v ⟨⟨cs', ds', hS, he⟩, fr⟩)
  · simp only [bf] at hj ⊢
    have : j = 0 := by omega
    subst this
    exact ⟨upN_s, upN_s⟩
end SHAPES
