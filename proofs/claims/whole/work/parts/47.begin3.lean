section INIT3
variable {M : XM} {F : Nat}
def arrL (j : Nat) : Nat := if j = 1 then 60 else if j = 2 then 60 else if j = 3 then 180 else if j = 4 then 5 else if j = 5 then 100 else if j = 6 then 2 else if j = 7 then 500 else if j = 8 then 500 else if j = 9 then 5 else if j = 11 then 60 else if j = 12 then 120 else if j = 13 then 120 else 6
def arrE (j : Nat) : XE := if j = 10 then .inl (.boolean, 500, .inl (fun _ => 0)) else if j = 16 then .inl (.long, 360, .inr (.inl (fun _ => 0))) else .inl (.int, arrL j, .inl (fun _ => 0))
def PI (M0 M : XM) (y i : Nat) (L : List Value) : Prop := M y = some (.inr (9, L)) ∧ (∀ j, 1 ≤ j → j ≤ i → M (y + j) = some (arrE j)) ∧ ∀ q, (q < y ∨ y + 17 ≤ q) → M q = M0 q
theorem ms {M0 : XM} {y i a fld : Nat} {e : XE} {L L' : List Value} {k : XM → Option XM} {Q : XM → Prop} (h : PI M0 M y i L) (hi : i < 16) (ha : a = y + (i + 1)) (he : e = arrE (i + 1)) (hf : fld < L.length) (hL : L.set fld (.ref a) = L') (hk : ∀ M', PI M0 M' y (i + 1) L' → Ok (k M') Q) : Ok ((x_nw M a e).bind fun m => (x_put m y 9 fld (.ref a)).bind fun m2 => k m2) Q := by
  obtain ⟨c, hj, fr⟩ := h
  refine ok_b rfl ?_
  generalize h1 : x_up M a e = M1
  have c1 := (up_f h1 (q := y) (by omega)).trans c
  refine ok_b (put_of c1 hf) ?_
  refine hk _ ⟨by rw [up_s, hL], fun j j1 j2 => ?_, fun q hq => (up_n (by omega)).trans ((up_f h1 (by omega)).trans (fr q hq))⟩
  rw [up_n (by omega)]
  by_cases z : j = i + 1
  · rw [z, ← ha, up_e h1, he]
  · rw [up_f h1 (by omega)]; exact hj j j1 (by omega)
theorem minit {y s : Nat} (h : M y = some (.inr (9, [.null, .null, .int 0, .null, .int 0, .null, .null, .int 0, .int 0, .int 0, .null, .null, .null, .null, .null, .null, .null, .null, .int 0, .null, .null, .null]))) (hs : s = y + 1) (hF : 1000 ≤ F) : Ok (f_X9_init F y s M) (fun M' => MJ M' y 0 0 w0 false w0 0 z0 0 z0 (fun _ => -1) z0 (fun _ => 0) ∧ Fr M M' y (y + 17)) := by
  subst hs
  unfold f_X9_init
  have P0 : PI M M y 0 [.null, .null, .int 0, .null, .int 0, .null, .null, .int 0, .int 0, .int 0, .null, .null, .null, .null, .null, .null, .null, .null, .int 0, .null, .null, .null] := ⟨h, fun j j1 j2 => by omega, fun _ _ => rfl⟩
  refine ms (i := 0) (L' := [.ref (y + 1), .null, .int 0, .null, .int 0, .null, .null, .int 0, .int 0, .int 0, .null, .null, .null, .null, .null, .null, .null, .null, .int 0, .null, .null, .null]) P0 (by omega) (by omega) rfl (by simp) rfl (fun M1 P1 => ?_)
  refine ms (i := 1) (L' := [.ref (y + 1), .ref (y + 2), .int 0, .null, .int 0, .null, .null, .int 0, .int 0, .int 0, .null, .null, .null, .null, .null, .null, .null, .null, .int 0, .null, .null, .null]) P1 (by omega) (by omega) rfl (by simp) rfl (fun M2 P2 => ?_)
  refine ms (i := 2) (L' := [.ref (y + 1), .ref (y + 2), .int 0, .ref (y + 3), .int 0, .null, .null, .int 0, .int 0, .int 0, .null, .null, .null, .null, .null, .null, .null, .null, .int 0, .null, .null, .null]) P2 (by omega) (by omega) rfl (by simp) rfl (fun M3 P3 => ?_)
  refine ms (i := 3) (L' := [.ref (y + 1), .ref (y + 2), .int 0, .ref (y + 3), .int 0, .ref (y + 4), .null, .int 0, .int 0, .int 0, .null, .null, .null, .null, .null, .null, .null, .null, .int 0, .null, .null, .null]) P3 (by omega) (by omega) rfl (by simp) rfl (fun M4 P4 => ?_)
  refine ms (i := 4) (L' := [.ref (y + 1), .ref (y + 2), .int 0, .ref (y + 3), .int 0, .ref (y + 4), .ref (y + 5), .int 0, .int 0, .int 0, .null, .null, .null, .null, .null, .null, .null, .null, .int 0, .null, .null, .null]) P4 (by omega) (by omega) rfl (by simp) rfl (fun M5 P5 => ?_)
  refine ms (i := 5) (L' := [.ref (y + 1), .ref (y + 2), .int 0, .ref (y + 3), .int 0, .ref (y + 4), .ref (y + 5), .int 0, .int 0, .int 0, .ref (y + 6), .null, .null, .null, .null, .null, .null, .null, .int 0, .null, .null, .null]) P5 (by omega) (by omega) rfl (by simp) rfl (fun M6 P6 => ?_)
  refine ms (i := 6) (L' := [.ref (y + 1), .ref (y + 2), .int 0, .ref (y + 3), .int 0, .ref (y + 4), .ref (y + 5), .int 0, .int 0, .int 0, .ref (y + 6), .ref (y + 7), .null, .null, .null, .null, .null, .null, .int 0, .null, .null, .null]) P6 (by omega) (by omega) rfl (by simp) rfl (fun M7 P7 => ?_)
  refine ms (i := 7) (L' := [.ref (y + 1), .ref (y + 2), .int 0, .ref (y + 3), .int 0, .ref (y + 4), .ref (y + 5), .int 0, .int 0, .int 0, .ref (y + 6), .ref (y + 7), .ref (y + 8), .null, .null, .null, .null, .null, .int 0, .null, .null, .null]) P7 (by omega) (by omega) rfl (by simp) rfl (fun M8 P8 => ?_)
  refine ms (i := 8) (L' := [.ref (y + 1), .ref (y + 2), .int 0, .ref (y + 3), .int 0, .ref (y + 4), .ref (y + 5), .int 0, .int 0, .int 0, .ref (y + 6), .ref (y + 7), .ref (y + 8), .ref (y + 9), .null, .null, .null, .null, .int 0, .null, .null, .null]) P8 (by omega) (by omega) rfl (by simp) rfl (fun M9 P9 => ?_)
  refine ms (i := 9) (L' := [.ref (y + 1), .ref (y + 2), .int 0, .ref (y + 3), .int 0, .ref (y + 4), .ref (y + 5), .int 0, .int 0, .int 0, .ref (y + 6), .ref (y + 7), .ref (y + 8), .ref (y + 9), .ref (y + 10), .null, .null, .null, .int 0, .null, .null, .null]) P9 (by omega) (by omega) rfl (by simp) rfl (fun M10 P10 => ?_)
  refine ms (i := 10) (L' := [.ref (y + 1), .ref (y + 2), .int 0, .ref (y + 3), .int 0, .ref (y + 4), .ref (y + 5), .int 0, .int 0, .int 0, .ref (y + 6), .ref (y + 7), .ref (y + 8), .ref (y + 9), .ref (y + 10), .ref (y + 11), .null, .null, .int 0, .null, .null, .null]) P10 (by omega) (by omega) rfl (by simp) rfl (fun M11 P11 => ?_)
  refine ms (i := 11) (L' := [.ref (y + 1), .ref (y + 2), .int 0, .ref (y + 3), .int 0, .ref (y + 4), .ref (y + 5), .int 0, .int 0, .int 0, .ref (y + 6), .ref (y + 7), .ref (y + 8), .ref (y + 9), .ref (y + 10), .ref (y + 11), .ref (y + 12), .null, .int 0, .null, .null, .null]) P11 (by omega) (by omega) rfl (by simp) rfl (fun M12 P12 => ?_)
  refine ms (i := 12) (L' := [.ref (y + 1), .ref (y + 2), .int 0, .ref (y + 3), .int 0, .ref (y + 4), .ref (y + 5), .int 0, .int 0, .int 0, .ref (y + 6), .ref (y + 7), .ref (y + 8), .ref (y + 9), .ref (y + 10), .ref (y + 11), .ref (y + 12), .ref (y + 13), .int 0, .null, .null, .null]) P12 (by omega) (by omega) rfl (by simp) rfl (fun M13 P13 => ?_)
  refine ms (i := 13) (L' := [.ref (y + 1), .ref (y + 2), .int 0, .ref (y + 3), .int 0, .ref (y + 4), .ref (y + 5), .int 0, .int 0, .int 0, .ref (y + 6), .ref (y + 7), .ref (y + 8), .ref (y + 9), .ref (y + 10), .ref (y + 11), .ref (y + 12), .ref (y + 13), .int 0, .ref (y + 14), .null, .null]) P13 (by omega) (by omega) rfl (by simp) rfl (fun M14 P14 => ?_)
  refine ms (i := 14) (L' := [.ref (y + 1), .ref (y + 2), .int 0, .ref (y + 3), .int 0, .ref (y + 4), .ref (y + 5), .int 0, .int 0, .int 0, .ref (y + 6), .ref (y + 7), .ref (y + 8), .ref (y + 9), .ref (y + 10), .ref (y + 11), .ref (y + 12), .ref (y + 13), .int 0, .ref (y + 14), .ref (y + 15), .null]) P14 (by omega) (by omega) rfl (by simp) rfl (fun M15 P15 => ?_)
  refine ms (i := 15) (L' := [.ref (y + 1), .ref (y + 2), .int 0, .ref (y + 3), .int 0, .ref (y + 4), .ref (y + 5), .int 0, .int 0, .int 0, .ref (y + 6), .ref (y + 7), .ref (y + 8), .ref (y + 9), .ref (y + 10), .ref (y + 11), .ref (y + 12), .ref (y + 13), .int 0, .ref (y + 14), .ref (y + 15), .ref (y + 16)]) P15 (by omega) (by omega) rfl (by simp) rfl (fun M16 P16 => ?_)
  obtain ⟨c, hj, fr⟩ := P16
  have c' : M16 y = some (.inr (9, MOb y 0 0 0 0 0 0)) := c
  have ia : ∀ j, 1 ≤ j → j < 16 → j ≠ 10 → IA M16 (y + j) (arrL j) z0 := fun j j1 j2 j3 => ⟨fun _ => 0, (hj j j1 (by omega)).trans (by unfold arrE; rw [if_neg j3, if_neg (by omega)]), fun _ _ => rfl⟩
  refine ok_b (ob_of c') ?_
  refine ok_m (mbegins_ok (w := z0) c' (ia 1 (by omega) (by omega) (by omega)) (m := 3) (by omega) (by omega) (by omega)) (fun M17 hM17 => ?_)
  obtain ⟨c17, W17, f17⟩ := hM17
  refine ok_loop (I := fun i q => q.1 = nI i ∧ (∃ t, JA q.2 (y + 14) 6 t ∧ ∀ k, k < i → t k = -1) ∧ ∀ z, z ≠ y + 14 → q.2 z = M17 z) 6 ?_ ?_ 6 0 F _ (by omega) (by omega) ⟨rfl, ⟨_, JA.fr (ia 14 (by omega) (by omega) (by omega)) (f17 _ (by omega) (by omega)), fun k hk => absurd hk (Nat.not_lt_zero k)⟩, fun _ _ => rfl⟩
  · rintro k i ⟨q1, q2⟩ hi ⟨rfl, ⟨t, ht, htk⟩, gf⟩ hk
    dsimp only at ht gf
    have o : q2 y = _ := (gf y (by omega)).trans c17
    unfold b_X9_init_141
    refine ok_f (nI_ge (b := 6) hi (by omega)) (ok_b (gR_of o rfl) ?_)
    refine ok_m (ht.wr i (-1) rfl hi (by decide)) (fun M3 hM3 => ?_)
    refine hk _ ⟨e1 i, ⟨_, hM3.1, fun k hk => ?_⟩, fun z hz => (hM3.2 z hz).trans (gf z hz)⟩
    simp only [upJ]
    by_cases z : k = i
    · rw [if_pos z]
    · rw [if_neg z]; exact htk k (by omega)
  · rintro k ⟨q1, q2⟩ ⟨rfl, ⟨t, ht, htk⟩, gf⟩
    dsimp only at ht gf
    have o : q2 y = _ := (gf y (by omega)).trans c17
    have k16 : ∀ q, q ≠ y → q ≠ y + 1 → q ≠ y + 14 → q2 q = M16 q := fun q q1 q2 q3 => (gf q q3).trans (f17 q q1 q2)
    have ib : ∀ j, 2 ≤ j → j < 16 → j ≠ 10 → j ≠ 14 → IA q2 (y + j) (arrL j) z0 := fun j j1 j2 j3 j4 => JA.fr (ia j (by omega) j2 j3) (k16 _ (by omega) (by omega) (by omega))
    unfold b_X9_init_141
    refine ok_t (nI_le (a := 6) (b := 6) (Nat.le_refl _) (by omega)) (ok_v ⟨⟨⟨0, o⟩, W17.fr (gf _ (by omega)), ⟨⟨z0, ib 2 (by omega) (by omega) (by omega) (by omega), fun z => absurd z (by decide)⟩, ⟨z0, ib 3 (by omega) (by omega) (by omega) (by omega), fun k hk => absurd hk (Nat.not_lt_zero k)⟩, ⟨z0, ib 5 (by omega) (by omega) (by omega) (by omega), fun k hk => absurd hk (Nat.not_lt_zero k)⟩, ht.cg (fun k hk => htk k hk), ib 15 (by omega) (by omega) (by omega) (by omega), ⟨fun _ => 0, (k16 _ (by omega) (by omega) (by omega)).trans (hj 16 (by omega) (by omega)), fun _ _ => rfl⟩⟩, ⟨fun k k1 k2 k3 k4 => ?_, ⟨fun _ => 0, fun _ => 0, (k16 _ (by omega) (by omega) (by omega)).trans (hj 10 (by omega) (by omega)), fun _ _ => rfl⟩⟩⟩, fun q hq => (k16 q (by omega) (by omega) (by omega)).trans (fr q hq)⟩)
    have e : arrL k = sl k := by
      rcases (show k = 4 ∨ k = 6 ∨ k = 7 ∨ k = 8 ∨ k = 9 ∨ k = 11 ∨ k = 12 ∨ k = 13 by omega) with rfl | rfl | rfl | rfl | rfl | rfl | rfl | rfl <;> rfl
    rw [← e]
    exact ⟨_, ib k (by omega) (by omega) k4 (by omega)⟩
end INIT3
