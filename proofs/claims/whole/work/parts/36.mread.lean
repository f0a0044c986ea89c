-- THE REFERENCE: CLAUSES, READING
section MREAD
variable {M : XM} {F y : Nat} {pc ft : Int32} {w wi dd tx si : Nat → Nat} {hi : Bool} {dm tl : Nat} {so : Nat → Int32} {it : Nat → Int64}
/-- what a clause at a place comes to -/
def CP (y : Nat) (s0 : Int32) (p : Nat) (w : Nat → Nat) (hi : Bool) (wi : Nat → Nat) (dm : Nat) (dd : Nat → Nat) (tl : Nat) (tx : Nat → Nat) (so : Nat → Int32) (si : Nat → Nat) (it : Nat → Int64) (r : Int32 × XM) : Prop := (clG tl tx p ∧ r.1 = s0 ∧ MJ r.2 y (nI (e2p tl tx p)) (-1) w hi wi dm dd tl tx so si it ∧ ∃ t, JA r.2 (y + 6) 2 t ∧ (0 < m1 (tx p) → t 0 = nI (clA tl tx p)) ∧ (0 < m2 (tx p) → t 1 = nI (clB tl tx p))) ∨ (¬ clG tl tx p ∧ ∃ pc', MJ r.2 y pc' (nI (clF tl tx p)) w hi wi dm dd tl tx so si it)
theorem MJ.t6 (h : MJ M y pc ft w hi wi dm dd tl tx so si it) : ∃ t, JA M (y + 6) 2 t := h.2.2.2.1 6 (by omega) (by omega) (by omega) (by omega)
theorem cl0 {p : Nat} (h : MJ M y (nI p) (-1) w hi wi dm dd tl tx so si it) (hp : p < tl) (hk : kn (tx p)) (h1 : m1 (tx p) = 0) (h2 : m2 (tx p) = 0) (s0 : Int32) : Ok ((x_gI M y 9 8).bind fun v5 => (x_put M y 9 8 (.int (v5 + (1 : Int32)))).bind fun m6 => some (s0, m6)) (fun r => CP y s0 p w hi wi dm dd tl tx so si it r ∧ Fr M r.2 y (y + 17)) := by
  obtain ⟨⟨cm, c⟩, -⟩ := id h
  refine ok_b (gI_of c rfl) ?_
  refine ok_m (mput8 h _) (fun M1 hM1 => ?_)
  rw [e1] at hM1
  obtain ⟨t, ht⟩ := hM1.1.t6
  refine ok_v ⟨Or.inl ⟨⟨hp, hk, fun z => by omega, fun z => by omega⟩, rfl, ?_, t, ht, fun z => by omega, fun z => by omega⟩, fun q hq => hM1.2 q (by omega)⟩
  have e : e2p tl tx p = p + 1 := by unfold e2p e1p; rw [h1, h2]; rfl
  rw [e]; exact hM1.1
theorem cl1 {p mx : Nat} (h : MJ M y (nI p) (-1) w hi wi dm dd tl tx so si it) (ht : tl ≤ 100) (hx : ∀ k, k < tl → tx k < 128) (hp : p < tl) (hk : kn (tx p)) (h1 : m1 (tx p) = mx) (h2 : m2 (tx p) = 0) (h0 : 0 < mx) (h5 : mx ≤ 5) (s0 : Int32) (hF : 1000 ≤ F) : Ok ((x_gI M y 9 8).bind fun v5 => (x_put M y 9 8 (.int (v5 + (1 : Int32)))).bind fun m6 => (x_gR m6 y 9 10).bind fun v7 => (x_ob m6 y 9).bind fun u8 => (f_X9_digitsTold F y (nI mx) m6).bind fun p9 => (x_w32 .int p9.2 v7 (0 : Int32) p9.1).bind fun m10 => some (s0, m10)) (fun r => CP y s0 p w hi wi dm dd tl tx so si it r ∧ Fr M r.2 y (y + 17)) := by
  obtain ⟨⟨cm, c⟩, -⟩ := id h
  refine ok_b (gI_of c rfl) ?_
  refine ok_m (mput8 h _) (fun M1 hM1 => ?_)
  rw [e1] at hM1
  obtain ⟨⟨cm1, c1⟩, -⟩ := id hM1.1
  refine ok_b (gR_of c1 rfl) (ok_b (ob_of c1) ?_)
  refine ok_m (digits_ok hM1.1 ht hx (by omega) h5 h0 hF) (fun r2 hr2 => ?_)
  obtain ⟨v2, J2, f2⟩ := hr2
  obtain ⟨t, ht6⟩ := J2.t6
  refine ok_m (ht6.wr 0 r2.1 rfl (by omega) (by decide)) (fun M3 hM3 => ?_)
  have J3 := J2.told6 hM3.1 hM3.2
  have fr3 : Fr M M3 y (y + 17) := fun q hq => (hM3.2 q (by omega)).trans ((f2 q (by omega)).trans (hM1.2 q (by omega)))
  refine ok_v ⟨?_, fr3⟩
  by_cases z : dgC tl tx (p + 1) mx = 0
  · rw [if_pos z] at J3
    refine Or.inr ⟨fun g => by have := g.2.2.1 (by omega); rw [h1] at this; omega, nI (p + 1 + dgC tl tx (p + 1) mx), ?_⟩
    unfold clF
    rw [if_pos ⟨hp, hk⟩, if_neg (fun g => by rw [h1] at g; have := g h0; omega)]
    exact J3
  · rw [if_neg z] at J3
    have e : e2p tl tx p = p + 1 + dgC tl tx (p + 1) mx := by unfold e2p e1p; rw [h1, h2]; rfl
    refine Or.inl ⟨⟨hp, hk, fun _ => by rw [h1]; omega, fun g => by omega⟩, rfl, by rw [e]; exact J3, _, hM3.1, fun _ => ?_, fun g => by omega⟩
    show upJ t 0 r2.1 0 = _
    rw [show upJ t 0 r2.1 0 = r2.1 from if_pos rfl, v2]
    unfold clA
    rw [h1]
theorem cl2 {p n1 n2 : Nat} (h : MJ M y (nI p) (-1) w hi wi dm dd tl tx so si it) (ht : tl ≤ 100) (hx : ∀ k, k < tl → tx k < 128) (hp : p < tl) (hk : kn (tx p)) (h1 : m1 (tx p) = n1) (h2 : m2 (tx p) = n2) (h0 : 0 < n1) (h5 : n1 ≤ 5) (h02 : 0 < n2) (h52 : n2 ≤ 5) (s0 : Int32) (hF : 1000 ≤ F) : Ok ((x_gI M y 9 8).bind fun v15 => (x_put M y 9 8 (.int (v15 + (1 : Int32)))).bind fun m16 => (x_gR m16 y 9 10).bind fun v17 => (x_ob m16 y 9).bind fun u18 => (f_X9_digitsTold F y (nI n1) m16).bind fun p19 => (x_w32 .int p19.2 v17 (0 : Int32) p19.1).bind fun m20 => (x_gR m20 y 9 10).bind fun v21 => (x_gI m20 y 9 9).bind fun v22 => if 0 ≤ v22 then (x_w32 .int m20 v21 (1 : Int32) (0 : Int32)).bind fun m24 => some (s0, m24) else (x_ob m20 y 9).bind fun u25 => (f_X9_digitsTold F y (nI n2) m20).bind fun p26 => (x_w32 .int p26.2 v21 (1 : Int32) p26.1).bind fun m27 => some (s0, m27)) (fun r => CP y s0 p w hi wi dm dd tl tx so si it r ∧ Fr M r.2 y (y + 17)) := by
  obtain ⟨⟨cm, c⟩, -⟩ := id h
  refine ok_b (gI_of c rfl) ?_
  refine ok_m (mput8 h _) (fun M1 hM1 => ?_)
  rw [e1] at hM1
  obtain ⟨⟨cm1, c1⟩, -⟩ := id hM1.1
  refine ok_b (gR_of c1 rfl) (ok_b (ob_of c1) ?_)
  refine ok_m (digits_ok hM1.1 ht hx (by omega) h5 h0 hF) (fun r2 hr2 => ?_)
  obtain ⟨v2, J2, f2⟩ := hr2
  obtain ⟨t, ht6⟩ := J2.t6
  refine ok_m (ht6.wr 0 r2.1 rfl (by omega) (by decide)) (fun M3 hM3 => ?_)
  have J3 := J2.told6 hM3.1 hM3.2
  have fr3 : Fr M M3 y (y + 17) := fun q hq => (hM3.2 q (by omega)).trans ((f2 q (by omega)).trans (hM1.2 q (by omega)))
  have e1p' : e1p tl tx p = p + 1 + dgC tl tx (p + 1) n1 := by unfold e1p; rw [h1]
  have hle1 := e1p_le (tx := tx) hp
  by_cases z : dgC tl tx (p + 1) n1 = 0
  · rw [if_pos z] at J3
    obtain ⟨⟨cm3, c3⟩, -⟩ := id J3
    refine ok_b (gR_of c3 rfl) (ok_b (gI_of c3 rfl) (ok_t (nI_pos' (by omega)) ?_))
    refine ok_m (JA.wr hM3.1 1 0 rfl (by omega) (by decide)) (fun M4 hM4 => ?_)
    have J4 := J3.told6 hM4.1 hM4.2
    refine ok_v ⟨Or.inr ⟨fun g => by have := g.2.2.1 (by omega); rw [h1] at this; omega, nI (p + 1 + dgC tl tx (p + 1) n1), ?_⟩, fun q hq => (hM4.2 q (by omega)).trans (fr3 q hq)⟩
    unfold clF
    rw [if_pos ⟨hp, hk⟩, if_neg (fun g => by rw [h1] at g; have := g h0; omega)]
    exact J4
  · rw [if_neg z, ← e1p'] at J3
    obtain ⟨⟨cm3, c3⟩, -⟩ := id J3
    refine ok_b (gR_of c3 rfl) (ok_b (gI_of c3 rfl) (ok_f (by decide) (ok_b (ob_of c3) ?_)))
    refine ok_m (digits_ok J3 ht hx (by omega) h52 h02 hF) (fun r4 hr4 => ?_)
    obtain ⟨v4, J4, f4⟩ := hr4
    have t4 : JA r4.2 (y + 6) 2 (upJ t 0 r2.1) := hM3.1.fr (f4 _ (by omega))
    refine ok_m (JA.wr t4 1 r4.1 rfl (by omega) (by decide)) (fun M5 hM5 => ?_)
    have J5 := J4.told6 hM5.1 hM5.2
    have fr5 : Fr M M5 y (y + 17) := fun q hq => (hM5.2 q (by omega)).trans ((f4 q (by omega)).trans (fr3 q hq))
    refine ok_v ⟨?_, fr5⟩
    by_cases z2 : dgC tl tx (e1p tl tx p) n2 = 0
    · rw [if_pos z2] at J5
      refine Or.inr ⟨fun g => by have := g.2.2.2 (by omega); rw [h2] at this; omega, nI (e1p tl tx p + dgC tl tx (e1p tl tx p) n2), ?_⟩
      unfold clF
      rw [if_pos ⟨hp, hk⟩, if_pos (fun _ => by rw [h1]; omega)]
      exact J5
    · rw [if_neg z2] at J5
      have e2' : e2p tl tx p = e1p tl tx p + dgC tl tx (e1p tl tx p) n2 := by unfold e2p; rw [h2]
      refine Or.inl ⟨⟨hp, hk, fun _ => by rw [h1]; omega, fun _ => by rw [h2]; omega⟩, rfl, by rw [e2']; exact J5, _, hM5.1, fun _ => ?_, fun _ => ?_⟩
      · show upJ (upJ t 0 r2.1) 1 r4.1 0 = _
        rw [show upJ (upJ t 0 r2.1) 1 r4.1 0 = r2.1 from rfl, v2]
        unfold clA
        rw [h1]
      · show upJ (upJ t 0 r2.1) 1 r4.1 1 = _
        rw [show upJ (upJ t 0 r2.1) 1 r4.1 1 = r4.1 from rfl, v4]
        unfold clB
        rw [h2]
theorem clause_ok {p : Nat} (h : MJ M y (nI p) (-1) w hi wi dm dd tl tx so si it) (ht : tl ≤ 100) (hx : ∀ k, k < tl → tx k < 128) (hp : p ≤ 100) (hF : 1000 ≤ F) : Ok (f_X9_clause F y M) (fun r => CP y (nI (tx p)) p w hi wi dm dd tl tx so si it r ∧ Fr M r.2 y (y + 17)) := by
  obtain ⟨⟨cm, c⟩, -⟩ := id h
  have un : ∀ (s0 : Int32), ¬ (p < tl ∧ kn (tx p)) → (∀ d, s0 ≠ nI d ∨ ¬ kn d) → Ok (j_X9_clause_24 F y s0 M) (fun r => CP y (nI (tx p)) p w hi wi dm dd tl tx so si it r ∧ Fr M r.2 y (y + 17)) := by
    intro s0 hno hs
    have hd : ∀ d, kn d → s0 ≠ nI d := fun d hk => (hs d).resolve_right (fun z => z hk)
    unfold j_X9_clause_24
    refine ok_f (hd 98 (by unfold kn; omega)) (ok_f (hd 107 (by unfold kn; omega)) (ok_f (hd 108 (by unfold kn; omega)) (ok_f (hd 110 (by unfold kn; omega)) (ok_f (hd 114 (by unfold kn; omega)) (ok_f (hd 115 (by unfold kn; omega)) (ok_f (hd 117 (by unfold kn; omega)) (ok_f (hd 119 (by unfold kn; omega)) ?_)))))))
    refine ok_b (gI_of c rfl) ?_
    refine ok_m (mput9 h _) (fun M1 hM1 => ?_)
    refine ok_v ⟨Or.inr ⟨fun g => hno ⟨g.1, g.2.1⟩, nI p, ?_⟩, fun q hq => hM1.2 q (by omega)⟩
    unfold clF
    rw [if_neg hno]
    exact hM1.1
  unfold f_X9_clause
  refine ok_b (gI_of c rfl) (ok_b (gI_of c rfl) ?_)
  by_cases q : p < tl
  · refine ok_f (nI_ge q (by omega)) (ok_b (gR_of c rfl) (ok_b (gI_of c rfl) (ok_b (h.sign ht q) ?_)))
    have hb := hx p q
    by_cases hk : kn (tx p)
    · unfold j_X9_clause_24
      rcases id hk with e | e | e | e | e | e | e | e
      · exact ok_t (by rw [e]; rfl) (cl1 (mx := 1) h ht hx q hk (by rw [e]; rfl) (by rw [e]; rfl) (by omega) (by omega) _ hF)
      · exact ok_f (by rw [e]; decide) (ok_t (by rw [e]; rfl) (cl0 h q hk (by rw [e]; rfl) (by rw [e]; rfl) _))
      · exact ok_f (by rw [e]; decide) (ok_f (by rw [e]; decide) (ok_t (by rw [e]; rfl) (cl2 (n1 := 1) (n2 := 3) h ht hx q hk (by rw [e]; rfl) (by rw [e]; rfl) (by omega) (by omega) (by omega) (by omega) _ hF)))
      · exact ok_f (by rw [e]; decide) (ok_f (by rw [e]; decide) (ok_f (by rw [e]; decide) (ok_t (by rw [e]; rfl) (cl1 (mx := 1) h ht hx q hk (by rw [e]; rfl) (by rw [e]; rfl) (by omega) (by omega) _ hF))))
      · exact ok_f (by rw [e]; decide) (ok_f (by rw [e]; decide) (ok_f (by rw [e]; decide) (ok_f (by rw [e]; decide) (ok_t (by rw [e]; rfl) (cl1 (mx := 5) h ht hx q hk (by rw [e]; rfl) (by rw [e]; rfl) (by omega) (by omega) _ hF)))))
      · exact ok_f (by rw [e]; decide) (ok_f (by rw [e]; decide) (ok_f (by rw [e]; decide) (ok_f (by rw [e]; decide) (ok_f (by rw [e]; decide) (ok_t (by rw [e]; rfl) (cl0 h q hk (by rw [e]; rfl) (by rw [e]; rfl) _))))))
      · exact ok_f (by rw [e]; decide) (ok_f (by rw [e]; decide) (ok_f (by rw [e]; decide) (ok_f (by rw [e]; decide) (ok_f (by rw [e]; decide) (ok_f (by rw [e]; decide) (ok_t (by rw [e]; rfl) (cl0 h q hk (by rw [e]; rfl) (by rw [e]; rfl) _)))))))
      · exact ok_f (by rw [e]; decide) (ok_f (by rw [e]; decide) (ok_f (by rw [e]; decide) (ok_f (by rw [e]; decide) (ok_f (by rw [e]; decide) (ok_f (by rw [e]; decide) (ok_f (by rw [e]; decide) (ok_t (by rw [e]; rfl) (cl2 (n1 := 1) (n2 := 1) h ht hx q hk (by rw [e]; rfl) (by rw [e]; rfl) (by omega) (by omega) (by omega) (by omega) _ hF))))))))
    · refine un _ (fun z => hk z.2) (fun d => ?_)
      by_cases hd : kn d
      · left
        intro e
        have : d < 128 := by unfold kn at hd; omega
        have := nI_inj (by omega) (by omega) e
        rw [this] at hk
        exact hk hd
      · exact Or.inr hd
  · refine ok_t (nI_le (by omega) (by omega)) (un _ (fun z => q z.1) (fun d => ?_))
    by_cases hd : kn d
    · left
      intro e
      have : d < 128 := by unfold kn at hd; omega
      exact nI_m1 (by omega) e.symm
    · exact Or.inr hd
theorem m_does (h : MJ M y pc ft w hi wi dm dd tl tx so si it) (hK : KS w hi wi dm dd tl tx so si it) {c : Nat} (hc : kn c) {a v : Int32} {t : Nat → Int32} (ht : JA M (y + 6) 2 t) (ha : 0 < m1 c → t 0 = a) (hv : 0 < m2 c → t 1 = v) (hF : 1000 ≤ F) : Ok (f_X9_does F y (nI c) M) (fun r => r.1 = (if (sDo c a v w dm dd).1 < 0 then 0 else 1) ∧ MJ r.2 y pc ft (sDo c a v w dm dd).2.1 hi wi (sDo c a v w dm dd).2.2.1 (sDo c a v w dm dd).2.2.2 tl tx so si it ∧ Fr M r.2 y (y + 17)) := by
  obtain ⟨⟨cm, o⟩, -⟩ := id h
  have fin : ∀ {x : Option (Int32 × XM)} {s : Int32 × T3}, Ok x (fun r => r.1 = s.1 ∧ MJ r.2 y pc ft s.2.1 hi wi s.2.2.1 s.2.2.2 tl tx so si it ∧ Fr M r.2 y (y + 17)) → Ok (x.bind fun p => if p.1 < 0 then some ((0 : Int32), p.2) else some ((1 : Int32), p.2)) (fun r => r.1 = (if s.1 < 0 then 0 else 1) ∧ MJ r.2 y pc ft s.2.1 hi wi s.2.2.1 s.2.2.2 tl tx so si it ∧ Fr M r.2 y (y + 17)) := by
    intro x s hx
    refine ok_m hx (fun r hr => ?_)
    by_cases q : r.1 < 0
    · refine ok_t q (ok_v ⟨?_, hr.2⟩)
      rw [if_pos (by rw [← hr.1]; exact q)]
    · refine ok_f q (ok_v ⟨?_, hr.2⟩)
      rw [if_neg (by rw [← hr.1]; exact q)]
  have r0 : ∀ {u}, t 0 = u → x_a32 .int M (y + 6) 0 = some u := fun e => by rw [← e]; exact ht.rd 0 rfl (by omega) (by decide)
  have r1 : ∀ {u}, t 1 = u → x_a32 .int M (y + 6) 1 = some u := fun e => by rw [← e]; exact ht.rd 1 rfl (by omega) (by decide)
  unfold f_X9_does
  rcases hc with rfl | rfl | rfl | rfl | rfl | rfl | rfl | rfl
  · exact ok_t rfl (ok_b (gR_of o rfl) (ok_b (r0 (ha (by decide))) (ok_b (ob_of o) (fin (m_back h hK a hF)))))
  · exact ok_f (by decide) (ok_t rfl (ok_b (ob_of o) (fin (m_keep h hK hF))))
  · exact ok_f (by decide) (ok_f (by decide) (ok_t rfl (ok_b (gR_of o rfl) (ok_b (r0 (ha (by decide))) (ok_b (gR_of o rfl) (ok_b (r1 (hv (by decide))) (ok_b (ob_of o) (fin (m_length h hK a v)))))))))
  · exact ok_f (by decide) (ok_f (by decide) (ok_f (by decide) (ok_t rfl (ok_b (gR_of o rfl) (ok_b (r0 (ha (by decide))) (ok_b (ob_of o) (fin (m_letters h hK a hF))))))))
  · exact ok_f (by decide) (ok_f (by decide) (ok_f (by decide) (ok_f (by decide) (ok_t rfl (ok_b (gR_of o rfl) (ok_b (r0 (ha (by decide))) (ok_b (ob_of o) (fin (m_bottom h hK a hF)))))))))
  · exact ok_f (by decide) (ok_f (by decide) (ok_f (by decide) (ok_f (by decide) (ok_f (by decide) (ok_t rfl (ok_b (ob_of o) (fin (m_step h hK hF))))))))
  · exact ok_f (by decide) (ok_f (by decide) (ok_f (by decide) (ok_f (by decide) (ok_f (by decide) (ok_f (by decide) (ok_t rfl (ok_b (ob_of o) (fin (m_takeBack h hK)))))))))
  · exact ok_f (by decide) (ok_f (by decide) (ok_f (by decide) (ok_f (by decide) (ok_f (by decide) (ok_f (by decide) (ok_f (by decide) (ok_b (gR_of o rfl) (ok_b (r0 (ha (by decide))) (ok_b (gR_of o rfl) (ok_b (r1 (hv (by decide))) (ok_b (ob_of o) (fin (m_swap h hK a v hF)))))))))))))
/-- the end of a clause, in the loop -/
theorem CP.lt {p : Nat} {s0 : Int32} {r : Int32 × XM} (h : CP y s0 p w hi wi dm dd tl tx so si it r) : (clG tl tx p ∧ MJ r.2 y (nI (e2p tl tx p)) (-1) w hi wi dm dd tl tx so si it) ∨ (¬ clG tl tx p ∧ ∃ pc', MJ r.2 y pc' (nI (clF tl tx p)) w hi wi dm dd tl tx so si it) := h.elim (fun z => Or.inl ⟨z.1, z.2.2.1⟩) Or.inr
theorem through_end {i p : Nat} (hil0 : i ≤ lastC tl tx) (hp : p = pp tl tx i) (ht : tl ≤ 100) (hx : ∀ k, k < tl → tx k < 128) {r2 : XM} (hr : (clG tl tx p ∧ MJ r2 y (nI (e2p tl tx p)) (-1) w hi wi dm dd tl tx so si it) ∨ (¬ clG tl tx p ∧ ∃ pc', MJ r2 y pc' (nI (clF tl tx p)) w hi wi dm dd tl tx so si it)) {cnt a1 : Int32} {k17 : (Int32 × Int32 × Int32 × XM) → Option (Int32 × XM)} {Q : Int32 × XM → Prop} (fr0 : Fr M r2 y (y + 17))
    (h1 : ∀ M', i < lastC tl tx → MJ M' y (nI (pp tl tx (i + 1))) (-1) w hi wi dm dd tl tx so si it → Fr M M' y (y + 17) → Ok (k17 (cnt, nI (i + 1), 1, M')) Q)
    (h2 : ∀ M' pc' ft', i = lastC tl tx → MJ M' y pc' ft' w hi wi dm dd tl tx so si it → (good tl tx → ft' = -1) → (¬ good tl tx → ft' = nI (fault tl tx)) → Fr M M' y (y + 17) → Ok (k17 (cnt, nI (i + 1), 0, M')) Q) : Ok (j_X9_goesThrough_54 F y a1 cnt (nI (i + 1)) r2 k17) Q := by
  have hN := last_lt (tl := tl) (tx := tx)
  have hle := pp_le (tl := tl) (tx := tx) hil0
  have j115 : ∀ (M1 : XM) (pc ft go : Int32), MJ M1 y pc ft w hi wi dm dd tl tx so si it → (∀ M2, MJ M2 y (pc + 1) ft w hi wi dm dd tl tx so si it → (∀ q, q ≠ y → M2 q = M1 q) → Ok (k17 (cnt, nI (i + 1), go, M2)) Q) → Ok (j_X9_goesThrough_115 F y a1 cnt (nI (i + 1)) go M1 k17) Q := by
    intro M1 pc ft go hJ hk
    obtain ⟨⟨cm, c⟩, -⟩ := id hJ
    unfold j_X9_goesThrough_115
    refine ok_b (gI_of c rfl) ?_
    exact ok_m (mput8 hJ _) (fun M2 hM2 => hk M2 hM2.1 hM2.2)
  have j104 : ∀ (p : Nat), ¬ good tl tx → fault tl tx = p → i = lastC tl tx → MJ r2 y (nI p) (-1) w hi wi dm dd tl tx so si it → Ok (j_X9_goesThrough_104 F y a1 cnt (nI (i + 1)) r2 k17) Q := by
    intro p hng hf hil hJ
    obtain ⟨⟨cm, c⟩, -⟩ := id hJ
    unfold j_X9_goesThrough_104
    refine ok_b (gI_of c rfl) ?_
    refine ok_m (mput9 hJ _) (fun M1 hM1 => ?_)
    refine j115 M1 _ _ 0 hM1.1 (fun M2 J2 f2 => h2 M2 _ _ hil J2 (fun g => absurd g hng) (fun _ => by rw [hf]) (fun q hq => (f2 q (by omega)).trans ((hM1.2 q (by omega)).trans (fr0 q hq))))
  unfold j_X9_goesThrough_54
  rcases hr with ⟨g, hJ⟩ | ⟨g, pc', hJ⟩
  · obtain ⟨⟨cm, c⟩, -⟩ := id hJ
    have g' := g
    rw [hp] at g' hJ c
    have hle2 := e2p_le (tx := tx) g'.1
    refine ok_b (gI_of c rfl) (ok_f (by decide) (ok_b (gI_of c rfl) (ok_b (gI_of c rfl) ?_)))
    by_cases z : e2p tl tx (pp tl tx i) = tl
    · refine ok_t (nI_le (by omega) (by omega)) ?_
      have hil : i = lastC tl tx := by
        rcases Nat.lt_or_ge i (lastC tl tx) with q | q
        · have := (last_more q).2.1; omega
        · omega
      have hg : good tl tx := ⟨by rw [← hil]; exact g', by rw [← hil]; exact z⟩
      unfold j_X9_goesThrough_76 j_X9_goesThrough_77
      refine ok_t rfl (j115 r2 _ _ 0 hJ (fun M2 J2 f2 => h2 M2 _ _ hil J2 (fun _ => rfl) (fun q => absurd hg q) (fun q hq => (f2 q (by omega)).trans (fr0 q hq))))
    · refine ok_f (nI_ge (by omega) (by omega)) ?_
      unfold j_X9_goesThrough_77
      refine ok_f (by decide) (ok_b (gR_of c rfl) (ok_b (gI_of c rfl) (ok_b (hJ.sign ht (by omega)) ?_)))
      have ef : i = lastC tl tx → ¬ good tl tx ∧ fault tl tx = e2p tl tx (pp tl tx i) := fun hil => by
        refine ⟨fun q => z (by rw [hil]; exact q.2), ?_⟩
        unfold fault
        rw [← hil, if_pos g']
      by_cases z2 : tx (e2p tl tx (pp tl tx i)) = 59
      · refine ok_t (by rw [z2]; rfl) ?_
        by_cases z3 : i + 1 = 12
        · refine ok_t (by rw [z3]; rfl) ?_
          have hil : i = lastC tl tx := by omega
          exact j104 _ (ef hil).1 (ef hil).2 hil hJ
        · refine ok_f (fun e => z3 (nI_inj (b := 12) (by omega) (by decide) e)) ?_
          have hmo : more tl tx i := ⟨g', by omega, z2, by omega⟩
          have hil : i < lastC tl tx := by
            rcases Nat.lt_or_ge i (lastC tl tx) with q | q
            · exact q
            · have e : i = lastC tl tx := by omega
              rw [e] at hmo
              exact absurd hmo last_no
          refine j115 r2 _ _ 1 hJ (fun M2 J2 f2 => h1 M2 hil ?_ (fun q hq => (f2 q (by omega)).trans (fr0 q hq)))
          rw [e1] at J2
          exact J2
      · have hb := hx (e2p tl tx (pp tl tx i)) (by omega)
        refine ok_f (fun e => z2 (nI_inj (b := 59) (by omega) (by decide) e)) ?_
        have hil : i = lastC tl tx := by
          rcases Nat.lt_or_ge i (lastC tl tx) with q | q
          · exact absurd (last_more q).2.2.1 z2
          · omega
        exact j104 _ (ef hil).1 (ef hil).2 hil hJ
  · obtain ⟨⟨cm, c⟩, -⟩ := id hJ
    rw [hp] at g hJ c
    have hil : i = lastC tl tx := by
      rcases Nat.lt_or_ge i (lastC tl tx) with q | q
      · exact absurd (last_more q).1 g
      · omega
    have hng : ¬ good tl tx := fun q => g (by rw [hil]; exact q.1)
    have ef : fault tl tx = clF tl tx (pp tl tx i) := by unfold fault; rw [← hil, if_neg g]
    have hb : clF tl tx (pp tl tx i) ≤ 1000 := by
      unfold clF
      split
      · rename_i q; have := e1p_le (tx := tx) q.1
        split <;> omega
      · omega
    refine ok_b (gI_of c rfl) (ok_t (nI_pos' (by omega)) ?_)
    unfold j_X9_goesThrough_76 j_X9_goesThrough_77
    exact ok_t rfl (j115 r2 _ _ 0 hJ (fun M2 J2 f2 => h2 M2 _ _ hil J2 (fun q => absurd q hng) (fun _ => by rw [ef]) (fun q hq => (f2 q (by omega)).trans (fr0 q hq))))
theorem through0 (h : MJ M y pc ft w hi wi dm dd tl tx so si it) (ht : tl ≤ 100) (hx : ∀ k, k < tl → tx k < 128) (hF : 1000 ≤ F) : Ok (f_X9_goesThrough F y 0 M) (fun r => (∃ pc' ft', MJ r.2 y pc' ft' w hi wi dm dd tl tx so si it ∧ (good tl tx → ft' = -1) ∧ (¬ good tl tx → ft' = nI (fault tl tx))) ∧ Fr M r.2 y (y + 17)) := by
  have hN := last_lt (tl := tl) (tx := tx)
  unfold f_X9_goesThrough
  refine ok_m (mput8 h _) (fun M1 hM1 => ?_)
  refine ok_m (mput9 hM1.1 _) (fun M2 hM2 => ?_)
  refine ok_loop (I := fun i q => q.2.1 = nI i ∧ Fr M q.2.2.2 y (y + 17) ∧ ((i ≤ lastC tl tx ∧ q.2.2.1 = 1 ∧ MJ q.2.2.2 y (nI (pp tl tx i)) (-1) w hi wi dm dd tl tx so si it) ∨ (i = lastC tl tx + 1 ∧ q.2.2.1 = 0 ∧ ∃ pc' ft', MJ q.2.2.2 y pc' ft' w hi wi dm dd tl tx so si it ∧ (good tl tx → ft' = -1) ∧ (¬ good tl tx → ft' = nI (fault tl tx))))) (lastC tl tx + 1) ?_ ?_ (lastC tl tx + 1) 0 F _ (by omega) (by omega) ⟨rfl, fun q hq => (hM2.2 q (by omega)).trans (hM1.2 q (by omega)), Or.inl ⟨by omega, rfl, hM2.1⟩⟩
  · rintro k i ⟨q1, q2, q3, q4⟩ hi ⟨g1, fr, g2⟩ hk
    dsimp only at g1 fr g2
    rcases g2 with ⟨hil, rfl, hJ⟩ | ⟨hil, -⟩
    · subst g1
      obtain ⟨⟨cm, c⟩, -⟩ := id hJ
      have hle := pp_le (tl := tl) (tx := tx) hil
      unfold b_X9_goesThrough_17
      dsimp only
      refine ok_f (by decide) (ok_b (ob_of c) ?_)
      refine ok_m (clause_ok hJ ht hx (by omega) hF) (fun r hr => ?_)
      refine ok_t rfl ?_
      rw [e1]
      have fr0 : Fr M r.2 y (y + 17) := fr.tr hr.2
      exact through_end hil rfl ht hx hr.1.lt fr0 (fun M' hl J' f' => hk _ ⟨rfl, f', Or.inl ⟨by omega, rfl, J'⟩⟩) (fun M' pc' ft' hl J' e1 e2 f' => hk _ ⟨rfl, f', Or.inr ⟨by omega, rfl, pc', ft', J', e1, e2⟩⟩)
    · omega
  · rintro k ⟨q1, q2, q3, q4⟩ ⟨g1, fr, g2⟩
    dsimp only at g1 fr g2
    rcases g2 with ⟨hil, -⟩ | ⟨hil, rfl, hJ⟩
    · omega
    · unfold b_X9_goesThrough_17
      exact ok_t rfl (ok_v ⟨hJ, fr⟩)
theorem through1 (h : MJ M y pc ft w hi wi dm dd tl tx so si it) (hg : good tl tx) (ht : tl ≤ 100) (hx : ∀ k, k < tl → tx k < 128) (hKj : ∀ j, j ≤ lastC tl tx → KS (rdS tl tx w dm dd j).2.1 hi wi (rdS tl tx w dm dd j).2.2.1 (rdS tl tx w dm dd j).2.2.2 tl tx so si it) (hF : 1000 ≤ F) : Ok (f_X9_goesThrough F y 1 M) (fun r => r.1 = nI (rdS tl tx w dm dd (lastC tl tx + 1)).1 ∧ (∃ pc' ft', MJ r.2 y pc' ft' (rdS tl tx w dm dd (lastC tl tx + 1)).2.1 hi wi (rdS tl tx w dm dd (lastC tl tx + 1)).2.2.1 (rdS tl tx w dm dd (lastC tl tx + 1)).2.2.2 tl tx so si it) ∧ Fr M r.2 y (y + 17)) := by
  have hN := last_lt (tl := tl) (tx := tx)
  unfold f_X9_goesThrough
  refine ok_m (mput8 h _) (fun M1 hM1 => ?_)
  refine ok_m (mput9 hM1.1 _) (fun M2 hM2 => ?_)
  refine ok_loop (I := fun i q => q.1 = nI (rdS tl tx w dm dd i).1 ∧ q.2.1 = nI i ∧ Fr M q.2.2.2 y (y + 17) ∧ ((i ≤ lastC tl tx ∧ q.2.2.1 = 1 ∧ MJ q.2.2.2 y (nI (pp tl tx i)) (-1) (rdS tl tx w dm dd i).2.1 hi wi (rdS tl tx w dm dd i).2.2.1 (rdS tl tx w dm dd i).2.2.2 tl tx so si it) ∨ (i = lastC tl tx + 1 ∧ q.2.2.1 = 0 ∧ ∃ pc' ft', MJ q.2.2.2 y pc' ft' (rdS tl tx w dm dd i).2.1 hi wi (rdS tl tx w dm dd i).2.2.1 (rdS tl tx w dm dd i).2.2.2 tl tx so si it))) (lastC tl tx + 1) ?_ ?_ (lastC tl tx + 1) 0 F _ (by omega) (by omega) ⟨rfl, rfl, fun q hq => (hM2.2 q (by omega)).trans (hM1.2 q (by omega)), Or.inl ⟨by omega, rfl, hM2.1⟩⟩
  · rintro k i ⟨q1, q2, q3, q4⟩ hi ⟨g0, g1, fr, g2⟩ hk
    dsimp only at g0 g1 fr g2
    rcases g2 with ⟨hil, rfl, hJ⟩ | ⟨hil, -⟩
    · subst g0 g1
      obtain ⟨⟨cm, c⟩, -⟩ := id hJ
      have hle := pp_le (tl := tl) (tx := tx) hil
      unfold b_X9_goesThrough_17
      dsimp only
      refine ok_f (by decide) (ok_b (ob_of c) ?_)
      refine ok_m (clause_ok hJ ht hx (by omega) hF) (fun r hr => ?_)
      obtain ⟨hr1, fr1⟩ := hr
      have hG := last_G hg (show i < lastC tl tx + 1 by omega)
      rcases hr1 with ⟨g, v, J1, t, t6, tA, tB⟩ | ⟨g, -⟩
      · obtain ⟨⟨cm1, c1⟩, -⟩ := id J1
        refine ok_f (by decide) (ok_b (gI_of c1 rfl) (ok_f (by decide) (ok_b (ob_of c1) ?_)))
        rw [v]
        refine ok_m (m_does J1 (hKj i hil) hG.2.1 t6 tA tB hF) (fun r2 hr2 => ?_)
        obtain ⟨v2, J2, f2⟩ := hr2
        generalize hs : sDo (tx (pp tl tx i)) (nI (clA tl tx (pp tl tx i))) (nI (clB tl tx (pp tl tx i))) (rdS tl tx w dm dd i).2.1 (rdS tl tx w dm dd i).2.2.1 (rdS tl tx w dm dd i).2.2.2 = s at *
        have er : rdS tl tx w dm dd (i + 1) = (if s.1 < 0 then (rdS tl tx w dm dd i).1 else (rdS tl tx w dm dd i).1 + 1, s.2) := by
          simp only [rdS, hs]
        have eb : f_X9_bit r2.1 r2.2 = some r2.1 := by
          rw [v2]
          by_cases z : s.1 < 0
          · rw [if_pos z]; rfl
          · rw [if_neg z]; rfl
        refine ok_b eb ?_
        have ec : nI (rdS tl tx w dm dd i).1 + r2.1 = nI (rdS tl tx w dm dd (i + 1)).1 := by
          rw [er, v2]
          by_cases z : s.1 < 0
          · simp only [if_pos z]; exact Int32.add_zero _
          · simp only [if_neg z]; exact e1 _
        rw [ec, e1]
        rw [show s.2 = (rdS tl tx w dm dd (i + 1)).2 by rw [er]] at J2
        exact through_end hil rfl ht hx (Or.inl ⟨g, J2⟩) ((fr.tr fr1).tr f2) (fun M' hl J' f' => hk _ ⟨rfl, rfl, f', Or.inl ⟨by omega, rfl, J'⟩⟩) (fun M' pc' ft' hl J' e1 e2 f' => hk _ ⟨rfl, rfl, f', Or.inr ⟨by omega, rfl, pc', ft', J'⟩⟩)
      · exact absurd hG g
    · omega
  · rintro k ⟨q1, q2, q3, q4⟩ ⟨g0, g1, fr, g2⟩
    dsimp only at g0 g1 fr g2
    rcases g2 with ⟨hil, -⟩ | ⟨hil, rfl, hJ⟩
    · omega
    · subst g0
      unfold b_X9_goesThrough_17
      exact ok_t rfl (ok_v ⟨rfl, hJ, fr⟩)
end MREAD
