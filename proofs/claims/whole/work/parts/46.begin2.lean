-- A NEW OBJECT, A NEW REFERENCE
def dd0 : Nat → Nat := z0
theorem KS0 : KS w0 false w0 0 z0 0 z0 (fun _ => -1) z0 (fun _ => 0) := by
  have ho : ORw w0 := wB_OR (by omega) (by omega)
  have e : ∀ k, 17 ≤ k → w0 k = 0 := fun k hk => w0_hi hk
  refine ⟨⟨ho, ?_, ?_, ?_, ?_, fun i hi => ?_, fun i hi => ?_, fun i hi => ?_⟩, fun h => absurd h (by decide), KD.z, ⟨by omega, fun k hk => absurd hk (Nat.not_lt_zero k)⟩, fun i hi => ⟨by unfold z0; omega, Or.inl ⟨rfl, rfl⟩⟩⟩
  · show en (revF 3) 3 < 100000
    exact en_b (rev_PM 3) (by omega) (Nat.le_refl 3)
  · rw [e 17 (by omega)]; omega
  · rw [e 26 (by omega)]; omega
  · rw [e 43 (by omega)]; omega
  · rw [e 17 (by omega)] at hi; omega
  · rw [e 26 (by omega)] at hi; omega
  · rw [e 43 (by omega)] at hi; omega
section INIT2
variable {M : XM} {F : Nat}
theorem cinit {x s : Nat} (h : M x = some (.inr (8, [.null, .null, .int 0, .null, .null, .null, .null, .null, .null]))) (hs : s = x + 1) (hF : 1000 ≤ F) : Ok (f_X8_init F x s M) (fun M' => CI M' x w0 false w0 0 z0 0 z0 (fun _ => -1) z0 (fun _ => 0) ∧ Fr M M' x (x + 111)) := by
  subst hs
  unfold f_X8_init
  refine ok_b rfl ?_
  generalize h1 : x_up M (x + 1) _ = M1
  have c1 := (up_f h1 (q := x) (by omega)).trans h
  refine ok_m (sinit (up_e h1) rfl hF) (fun M2 hM2 => ?_)
  obtain ⟨S2, f2⟩ := hM2
  have c2 := (f2 x (by omega)).trans c1
  refine ok_b (put_of c2 (by simp)) ?_
  generalize h3 : x_up M2 x _ = M3
  have c3 : M3 x = some (.inr (8, [.ref (x + 1), .null, .int 0, .null, .null, .null, .null, .null, .null])) := by subst h3; rw [up_s]; rfl
  refine ok_b rfl ?_
  generalize h4 : x_up M3 (x + 1 + 14) _ = M4
  have c4 := (up_f h4 (q := x) (by omega)).trans c3
  refine ok_m (sinit (r := x + 15) (up_e h4) rfl hF) (fun M5 hM5 => ?_)
  obtain ⟨S5, f5⟩ := hM5
  have c5 := (f5 x (by omega)).trans c4
  refine ok_b (put_of c5 (by simp)) ?_
  generalize h6 : x_up M5 x _ = M6
  have c6 : M6 x = some (.inr (8, [.ref (x + 1), .ref (x + 15), .int 0, .null, .null, .null, .null, .null, .null])) := by subst h6; rw [up_s]; rfl
  refine ok_b (put_of c6 (by simp)) ?_
  generalize h7 : x_up M6 x _ = M7
  have c7 : M7 x = some (.inr (8, [.ref (x + 1), .ref (x + 15), .int 0, .null, .null, .null, .null, .null, .null])) := by subst h7; rw [up_s]; rfl
  refine ok_b rfl ?_
  generalize h8 : x_up M7 (x + 1 + 28) _ = M8
  have c8 := (up_f h8 (q := x) (by omega)).trans c7
  refine ok_m (dinit (a := x + 29) (up_e h8) rfl (w0 0) z0 hF) (fun M9 hM9 => ?_)
  obtain ⟨D9, f9⟩ := hM9
  have c9 := (f9 x (by omega)).trans c8
  refine ok_b (put_of c9 (by simp)) ?_
  generalize h10 : x_up M9 x _ = M10
  have c10 : M10 x = some (.inr (8, [.ref (x + 1), .ref (x + 15), .int 0, .ref (x + 29), .null, .null, .null, .null, .null])) := by subst h10; rw [up_s]; rfl
  refine ok_b rfl ?_
  generalize h11 : x_up M10 (x + 1 + 78) _ = M11
  have c11 := (up_f h11 (q := x) (by omega)).trans c10
  refine ok_m (tinit (a := x + 79) (up_e h11) rfl z0) (fun M12 hM12 => ?_)
  obtain ⟨T12, f12⟩ := hM12
  have c12 := (f12 x (by omega)).trans c11
  refine ok_b (put_of c12 (by simp)) ?_
  generalize h13 : x_up M12 x _ = M13
  have c13 : M13 x = some (.inr (8, [.ref (x + 1), .ref (x + 15), .int 0, .ref (x + 29), .ref (x + 79), .null, .null, .null, .null])) := by subst h13; rw [up_s]; rfl
  refine ok_b rfl ?_
  generalize h14 : x_up M13 (x + 1 + 83) _ = M14
  have c14 := (up_f h14 (q := x) (by omega)).trans c13
  refine ok_m (linit (a := x + 84) (up_e h14) rfl) (fun M15 hM15 => ?_)
  obtain ⟨⟨lm, lg, lz, L15⟩, f15⟩ := hM15
  have c15 := (f15 x (by omega)).trans c14
  refine ok_b (put_of c15 (by simp)) ?_
  generalize h16 : x_up M15 x _ = M16
  have c16 : M16 x = some (.inr (8, [.ref (x + 1), .ref (x + 15), .int 0, .ref (x + 29), .ref (x + 79), .ref (x + 84), .null, .null, .null])) := by subst h16; rw [up_s]; rfl
  refine ok_b rfl ?_
  generalize h17 : x_up M16 (x + 1 + 86) _ = M17
  have c17 := (up_f h17 (q := x) (by omega)).trans c16
  refine ok_m (hinit (a := x + 87) (up_e h17) rfl hF) (fun M18 hM18 => ?_)
  obtain ⟨⟨hcs, hds, hcc, H18⟩, f18⟩ := hM18
  have c18 := (f18 x (by omega)).trans c17
  refine ok_b (put_of c18 (by simp)) ?_
  generalize h19 : x_up M18 x _ = M19
  have c19 : M19 x = some (.inr (8, [.ref (x + 1), .ref (x + 15), .int 0, .ref (x + 29), .ref (x + 79), .ref (x + 84), .ref (x + 87), .null, .null])) := by subst h19; rw [up_s]; rfl
  refine ok_b rfl ?_
  generalize h20 : x_up M19 (x + 1 + 93) _ = M20
  have c20 := (up_f h20 (q := x) (by omega)).trans c19
  refine ok_m (rinit (r := x + 94) (up_e h20) rfl hF) (fun M21 hM21 => ?_)
  obtain ⟨R21, f21⟩ := hM21
  have c21 := (f21 x (by omega)).trans c20
  refine ok_b (put_of c21 (by simp)) ?_
  generalize h22 : x_up M21 x _ = M22
  have c22 : M22 x = some (.inr (8, [.ref (x + 1), .ref (x + 15), .int 0, .ref (x + 29), .ref (x + 79), .ref (x + 84), .ref (x + 87), .ref (x + 94), .null])) := by subst h22; rw [up_s]; rfl
  refine ok_b rfl ?_
  generalize h23 : x_up M22 (x + 1 + 97) _ = M23
  have c23 := (up_f h23 (q := x) (by omega)).trans c22
  refine ok_b (put_of c23 (by simp)) ?_
  generalize h24 : x_up M23 x _ = M24
  have C0 : M24 x = some (.inr (8, [.ref (x + 1), .ref (x + 15), .int 0, .ref (x + 29), .ref (x + 79), .ref (x + 84), .ref (x + 87), .ref (x + 94), .ref (x + 98)])) := by subst h24; rw [up_s]; rfl
  have T0 : TG M24 x 0 := ⟨⟨_, (up_f h24 (by omega)).trans (up_e h23), fun j hj => absurd hj (Nat.not_lt_zero j)⟩, fun j hj => absurd hj (Nat.not_lt_zero j)⟩
  refine tgs (i := 0) C0 rfl T0 (by omega) (by omega) (by omega) rfl (fun M40 T1 g1 => ?_)
  have C1 := (g1 x (by omega)).trans C0
  refine tgs (i := 1) C1 rfl T1 (by omega) (by omega) (by omega) rfl (fun M41 T2 g2 => ?_)
  have C2 := (g2 x (by omega)).trans C1
  refine tgs (i := 2) C2 rfl T2 (by omega) (by omega) (by omega) rfl (fun M42 T3 g3 => ?_)
  have C3 := (g3 x (by omega)).trans C2
  refine tgs (i := 3) C3 rfl T3 (by omega) (by omega) (by omega) rfl (fun M43 T4 g4 => ?_)
  have C4 := (g4 x (by omega)).trans C3
  refine tgs (i := 4) C4 rfl T4 (by omega) (by omega) (by omega) rfl (fun M44 T5 g5 => ?_)
  have C5 := (g5 x (by omega)).trans C4
  refine tgs (i := 5) C5 rfl T5 (by omega) (by omega) (by omega) rfl (fun M45 T6 g6 => ?_)
  have C6 := (g6 x (by omega)).trans C5
  -- from here nothing below place 98 is otherwise
  have gg : ∀ q, (q < x + 98 ∨ x + 111 ≤ q) → M45 q = M24 q := fun q hq => (g6 q hq).trans ((g5 q hq).trans ((g4 q hq).trans ((g3 q hq).trans ((g2 q hq).trans (g1 q hq)))))
  have k22 : ∀ q, (q < x + 98 ∨ x + 111 ≤ q) → q ≠ x → M45 q = M21 q := fun q hq q1 => (gg q hq).trans ((up_f h24 q1).trans ((up_f h23 (by omega)).trans (up_f h22 q1)))
  have k18 : ∀ q, (q < x + 94 ∨ x + 111 ≤ q) → q ≠ x → M45 q = M18 q := fun q hq q1 => (k22 q (by omega) q1).trans ((f21 q (by omega)).trans ((up_f h20 (by omega)).trans (up_f h19 q1)))
  have k15 : ∀ q, (q < x + 87 ∨ x + 111 ≤ q) → q ≠ x → M45 q = M15 q := fun q hq q1 => (k18 q (by omega) q1).trans ((f18 q (by omega)).trans ((up_f h17 (by omega)).trans (up_f h16 q1)))
  have k12 : ∀ q, (q < x + 84 ∨ x + 111 ≤ q) → q ≠ x → M45 q = M12 q := fun q hq q1 => (k15 q (by omega) q1).trans ((f15 q (by omega)).trans ((up_f h14 (by omega)).trans (up_f h13 q1)))
  have k9 : ∀ q, (q < x + 79 ∨ x + 111 ≤ q) → q ≠ x → M45 q = M9 q := fun q hq q1 => (k12 q (by omega) q1).trans ((f12 q (by omega)).trans ((up_f h11 (by omega)).trans (up_f h10 q1)))
  have k5 : ∀ q, (q < x + 29 ∨ x + 111 ≤ q) → q ≠ x → M45 q = M5 q := fun q hq q1 => (k9 q (by omega) q1).trans ((f9 q (by omega)).trans ((up_f h8 (by omega)).trans ((up_f h7 q1).trans (up_f h6 q1))))
  have k2 : ∀ q, (q < x + 15 ∨ x + 111 ≤ q) → q ≠ x → M45 q = M2 q := fun q hq q1 => (k5 q (by omega) q1).trans ((f5 q (by omega)).trans ((up_f h4 (by omega)).trans (up_f h3 q1)))
  refine ok_v ⟨⟨C6, S2.fr (fun q a1 a2 => k2 q (by omega) (by omega)), S5.fr (fun q a1 a2 => k5 q (by omega) (by omega)), D9.fr (fun q a1 a2 => k9 q (by omega) (by omega)), T12.fr (fun q a1 a2 => k12 q (by omega) (by omega)), ⟨⟨lm, lg, lz, L15.fr (fun q a1 a2 => k15 q (by omega) (by omega))⟩, ⟨hcs, hds, hcc, H18.fr (fun q a1 a2 => k18 q (by omega) (by omega))⟩, 3, t0, b0, l0, R21.fr (fun q a1 a2 => k22 q (by omega) (by omega))⟩, ⟨T6.1, T6.2⟩, KS0⟩, fun q hq => (k2 q (by omega) (by omega)).trans ((f2 q (by omega)).trans (up_f h1 (by omega)))⟩
end INIT2
