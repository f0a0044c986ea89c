-- A NEW OBJECT
def z0 : Nat → Nat := fun _ => 0
def t0 : Nat → Nat := ovF 3 (fun k => k) z0
def b0 : Nat → Nat := ovF 3 (fun k => 3 - 1 - k) z0
def l0 : Nat → Nat := ovF 3 (fun _ => 1) z0
theorem nwI {M : XM} {a len : Nat} : IA (x_up M a (.inl (.int, len, .inl (fun _ => 0)))) a len z0 := ⟨_, up_s, fun _ _ => rfl⟩
theorem up_e {M M1 : XM} {a : Nat} {e : XE} (h : x_up M a e = M1) : M1 a = some e := by subst h; exact up_s
theorem up_f {M M1 : XM} {a q : Nat} {e : XE} (h : x_up M a e = M1) (hq : q ≠ a) : M1 q = M q := by subst h; exact up_n hq
section INIT
variable {M : XM} {F : Nat}
theorem rinit {r s : Nat} (h : M r = some (.inr (3, [.int 0, .null, .null, .null]))) (hs : s = r + 1) (hF : 1000 ≤ F) : Ok (f_X3_init F r s M) (fun M' => RW M' r 3 t0 b0 l0 ∧ Fr M M' r (r + 4)) := by
  subst hs
  unfold f_X3_init
  refine ok_b rfl ?_
  generalize h1 : x_up M (r + 1) _ = M1
  have c1 := (up_f h1 (q := r) (by omega)).trans h
  have a1 : IA M1 (r + 1) 5 z0 := by subst h1; exact nwI
  have f1 : ∀ q, q ≠ r + 1 → M1 q = M q := fun q hq => by subst h1; exact up_n hq
  refine ok_b (put_of c1 (by simp)) ?_
  generalize h2 : x_up M1 r _ = M2
  have c2 : M2 r = some (.inr (3, [.int 0, .ref (r + 1), .null, .null])) := by subst h2; rw [up_s]; rfl
  have f2 : ∀ q, q ≠ r → M2 q = M1 q := fun q hq => by subst h2; exact up_n hq
  refine ok_b rfl ?_
  generalize h3 : x_up M2 (r + 1 + 1) _ = M3
  have c3 := (up_f h3 (q := r) (by omega)).trans c2
  have a3 : IA M3 (r + 2) 5 z0 := by subst h3; exact nwI
  have f3 : ∀ q, q ≠ r + 2 → M3 q = M2 q := fun q hq => by subst h3; exact up_n hq
  refine ok_b (put_of c3 (by simp)) ?_
  generalize h4 : x_up M3 r _ = M4
  have c4 : M4 r = some (.inr (3, [.int 0, .ref (r + 1), .ref (r + 2), .null])) := by subst h4; rw [up_s]; rfl
  have f4 : ∀ q, q ≠ r → M4 q = M3 q := fun q hq => by subst h4; exact up_n hq
  refine ok_b rfl ?_
  generalize h5 : x_up M4 (r + 1 + 2) _ = M5
  have c5 := (up_f h5 (q := r) (by omega)).trans c4
  have a5 : IA M5 (r + 3) 5 z0 := by subst h5; exact nwI
  have f5 : ∀ q, q ≠ r + 3 → M5 q = M4 q := fun q hq => by subst h5; exact up_n hq
  refine ok_b (put_of c5 (by simp)) ?_
  generalize h6 : x_up M5 r _ = M6
  have c6 : M6 r = some (.inr (3, [.int 0, .ref (r + 1), .ref (r + 2), .ref (r + 3)])) := by subst h6; rw [up_s]; rfl
  have f6 : ∀ q, q ≠ r → M6 q = M5 q := fun q hq => by subst h6; exact up_n hq
  refine ok_b (ob_of c6) ?_
  have hR : RW M6 r 0 z0 z0 z0 := ⟨c6, ((((a1.fr (f2 _ (by omega))).fr (f3 _ (by omega))).fr (f4 _ (by omega))).fr (f5 _ (by omega))).fr (f6 _ (by omega)), ((a3.fr (f4 _ (by omega))).fr (f5 _ (by omega))).fr (f6 _ (by omega)), a5.fr (f6 _ (by omega))⟩
  refine ok_m (begin_ok hR (m := 3) (by omega) (by omega) (by omega)) (fun M7 hM7 => ?_)
  exact ok_v ⟨hM7.1, fun q hq => (hM7.2 q hq).trans ((f6 q (by omega)).trans ((f5 q (by omega)).trans ((f4 q (by omega)).trans ((f3 q (by omega)).trans ((f2 q (by omega)).trans (f1 q (by omega)))))))⟩
theorem ninit {r s c : Nat} (h : M r = some (.inr (2, [.null, .null, .int 0]))) (hs : s = r + 1) (hc : c = 4 ∨ c = 8) : Ok (f_X2_init r (nI c) s M) (fun M' => (∀ f g, NT M' r c 0 f g) ∧ Fr M M' r (r + 3)) := by
  subst hs
  have e1 : (if nI c < (0 : Int32) then (0 : Int32) else nI c) = nI c := if_neg (nI_pos (by omega))
  have e2 : x_nl (nI c) 8 = some () := by rcases hc with rfl | rfl <;> decide
  have e3 : (nI c).toNatClampNeg = c := nIc (by omega)
  unfold f_X2_init
  rw [e1, e3]
  refine ok_b (put_of h (by simp)) (ok_b e2 ?_)
  generalize h0 : x_up M r _ = M0
  have c0 : M0 r = some (.inr (2, [.null, .null, .int 0])) := by subst h0; rw [up_s]; rfl
  have f0 : ∀ q, q ≠ r → M0 q = M q := fun q hq => by subst h0; exact up_n hq
  refine ok_b rfl ?_
  generalize h1 : x_up M0 (r + 1) _ = M1
  have c1 := (up_f h1 (q := r) (by omega)).trans c0
  have a1 : IA M1 (r + 1) c z0 := by subst h1; exact nwI
  have f1 : ∀ q, q ≠ r + 1 → M1 q = M0 q := fun q hq => by subst h1; exact up_n hq
  refine ok_b (put_of c1 (by simp)) (ok_b e2 ?_)
  generalize h2 : x_up M1 r _ = M2
  have c2 : M2 r = some (.inr (2, [.ref (r + 1), .null, .int 0])) := by subst h2; rw [up_s]; rfl
  have f2 : ∀ q, q ≠ r → M2 q = M1 q := fun q hq => by subst h2; exact up_n hq
  refine ok_b rfl ?_
  generalize h3 : x_up M2 (r + 1 + 1) _ = M3
  have c3 := (up_f h3 (q := r) (by omega)).trans c2
  have a3 : IA M3 (r + 2) c z0 := by subst h3; exact nwI
  have f3 : ∀ q, q ≠ r + 2 → M3 q = M2 q := fun q hq => by subst h3; exact up_n hq
  refine ok_b (put_of c3 (by simp)) ?_
  refine ok_v ⟨fun f g => ⟨?_, by omega, z0, z0, ?_, ?_, fun i hi => absurd hi (Nat.not_lt_zero i)⟩, fun q hq => (up_n (by omega)).trans ((f3 q (by omega)).trans ((f2 q (by omega)).trans ((f1 q (by omega)).trans (f0 q (by omega)))))⟩
  · rw [up_s]; rfl
  · exact ((a1.fr (f2 _ (by omega))).fr (f3 _ (by omega))).fr (up_n (by omega))
  · exact a3.fr (up_n (by omega))
def w0 : Nat → Nat := wB z0 3
theorem w0_hi {k : Nat} (h : 17 ≤ k) : w0 k = 0 := wB_o h
theorem sinit {r s : Nat} (h : M r = some (.inr (4, [.null, .int 0, .null, .null, .null]))) (hs : s = r + 1) (hF : 1000 ≤ F) : Ok (f_X4_init F r s M) (fun M' => SU M' r w0 ∧ Fr M M' r (r + 14)) := by
  subst hs
  unfold f_X4_init
  refine ok_b rfl ?_
  generalize h1 : x_up M (r + 1) _ = M1
  have c1 := (up_f h1 (q := r) (by omega)).trans h
  have d1 := up_e h1
  have f1 : ∀ q, q ≠ r + 1 → M1 q = M q := fun q hq => by subst h1; exact up_n hq
  refine ok_m (rinit d1 rfl hF) (fun M2 hM2 => ?_)
  obtain ⟨R2, f2⟩ := hM2
  have c2 : M2 r = _ := (f2 r (by omega)).trans c1
  refine ok_b (put_of c2 (by simp)) ?_
  generalize h3 : x_up M2 r _ = M3
  have c3 : M3 r = some (.inr (4, [.ref (r + 1), .int 0, .null, .null, .null])) := by subst h3; rw [up_s]; rfl
  have f3 : ∀ q, q ≠ r → M3 q = M2 q := fun q hq => by subst h3; exact up_n hq
  have R3 : RW M3 (r + 1) 3 t0 b0 l0 := R2.fr (fun q a1 a2 => f3 q (by omega))
  have o0 := begin_OR (m := 3) (t := z0) (b := z0) (l := z0) (by omega) (by omega)
  refine ok_b (gR_of c3 rfl) (ok_b (ob_of R3.1) (ok_b (codeNow_ok R3 (by omega) o0.2.2.1 o0.2.2.2.1 (by omega)) ?_))
  refine ok_b (put_of c3 (by simp)) ?_
  generalize h4 : x_up M3 r _ = M4
  have c4 : M4 r = some (.inr (4, [.ref (r + 1), .int (nI (w0 1)), .null, .null, .null])) := by subst h4; rw [up_s]; rfl
  have f4 : ∀ q, q ≠ r → M4 q = M3 q := fun q hq => by subst h4; exact up_n hq
  refine ok_b rfl ?_
  generalize h5 : x_up M4 (r + 1 + 4) _ = M5
  have c5 := (up_f h5 (q := r) (by omega)).trans c4
  have d5 := up_e h5
  have f5 : ∀ q, q ≠ r + 5 → M5 q = M4 q := fun q hq => by subst h5; exact up_n hq
  refine ok_m (ninit (r := r + 5) (c := 4) d5 rfl (Or.inl rfl)) (fun M6 hM6 => ?_)
  obtain ⟨N6, f6⟩ := hM6
  have c6 : M6 r = _ := (f6 r (by omega)).trans c5
  refine ok_b (put_of c6 (by simp)) ?_
  generalize h7 : x_up M6 r _ = M7
  have c7 : M7 r = some (.inr (4, [.ref (r + 1), .int (nI (w0 1)), .ref (r + 5), .null, .null])) := by subst h7; rw [up_s]; rfl
  have f7 : ∀ q, q ≠ r → M7 q = M6 q := fun q hq => by subst h7; exact up_n hq
  refine ok_b rfl ?_
  generalize h8 : x_up M7 (r + 1 + 7) _ = M8
  have c8 := (up_f h8 (q := r) (by omega)).trans c7
  have d8 := up_e h8
  have f8 : ∀ q, q ≠ r + 8 → M8 q = M7 q := fun q hq => by subst h8; exact up_n hq
  refine ok_m (ninit (r := r + 8) (c := 8) d8 rfl (Or.inr rfl)) (fun M9 hM9 => ?_)
  obtain ⟨N9, f9⟩ := hM9
  have c9 : M9 r = _ := (f9 r (by omega)).trans c8
  refine ok_b (put_of c9 (by simp)) ?_
  generalize h10 : x_up M9 r _ = M10
  have c10 : M10 r = some (.inr (4, [.ref (r + 1), .int (nI (w0 1)), .ref (r + 5), .ref (r + 8), .null])) := by subst h10; rw [up_s]; rfl
  have f10 : ∀ q, q ≠ r → M10 q = M9 q := fun q hq => by subst h10; exact up_n hq
  refine ok_b rfl ?_
  generalize h11 : x_up M10 (r + 1 + 10) _ = M11
  have c11 := (up_f h11 (q := r) (by omega)).trans c10
  have d11 := up_e h11
  have f11 : ∀ q, q ≠ r + 11 → M11 q = M10 q := fun q hq => by subst h11; exact up_n hq
  refine ok_m (ninit (r := r + 11) (c := 8) d11 rfl (Or.inr rfl)) (fun M12 hM12 => ?_)
  obtain ⟨N12, f12⟩ := hM12
  have c12 : M12 r = _ := (f12 r (by omega)).trans c11
  refine ok_b (put_of c12 (by simp)) ?_
  generalize h13 : x_up M12 r _ = M13
  have c13 : M13 r = some (.inr (4, [.ref (r + 1), .int (nI (w0 1)), .ref (r + 5), .ref (r + 8), .ref (r + 11)])) := by subst h13; rw [up_s]; rfl
  have f13 : ∀ q, q ≠ r → M13 q = M12 q := fun q hq => by subst h13; exact up_n hq
  refine ok_v ⟨⟨c13, ?_, ?_, ?_, ?_⟩, fun q hq => (f13 q (by omega)).trans ((f12 q (by omega)).trans ((f11 q (by omega)).trans ((f10 q (by omega)).trans ((f9 q (by omega)).trans ((f8 q (by omega)).trans ((f7 q (by omega)).trans ((f6 q (by omega)).trans ((f5 q (by omega)).trans ((f4 q (by omega)).trans ((f3 q (by omega)).trans ((f2 q (by omega)).trans (f1 q (by omega)))))))))))))⟩
  · have R : RW M13 (r + 1) 3 t0 b0 l0 := R3.fr (fun q a1 a2 => (f13 q (by omega)).trans ((f12 q (by omega)).trans ((f11 q (by omega)).trans ((f10 q (by omega)).trans ((f9 q (by omega)).trans ((f8 q (by omega)).trans ((f7 q (by omega)).trans ((f6 q (by omega)).trans ((f5 q (by omega)).trans (f4 q (by omega)))))))))))
    exact R.cg (fun k hk => (wB_T (w := z0) (m := 3) hk).symm) (fun k hk => (wB_B (w := z0) (m := 3) hk).symm) (fun k hk => (wB_L (w := z0) (m := 3) hk).symm)
  · rw [w0_hi (by omega)]
    exact (N6 _ _).fr (fun q a1 a2 => (f13 q (by omega)).trans ((f12 q (by omega)).trans ((f11 q (by omega)).trans ((f10 q (by omega)).trans ((f9 q (by omega)).trans ((f8 q (by omega)).trans (f7 q (by omega))))))))
  · rw [w0_hi (by omega)]
    exact (N9 _ _).fr (fun q a1 a2 => (f13 q (by omega)).trans ((f12 q (by omega)).trans ((f11 q (by omega)).trans (f10 q (by omega)))))
  · rw [w0_hi (by omega)]
    exact (N12 _ _).fr (fun q a1 a2 => f13 q (by omega))
/-- the ring of rows, so many of them made -/
def RG (M : XM) (a i : Nat) : Prop := M a = some (.inr (0, [.ref (a + 1), .int 0, .int 0])) ∧ (∃ g : Nat → Option Nat, M (a + 1) = some (.inl (.object RX3, 12, .inr (.inr (.inr (.inr g))))) ∧ ∀ j, j < i → g j = some (a + 2 + 4 * j)) ∧ ∀ j, j < i → RW M (a + 2 + 4 * j) 3 t0 b0 l0
theorem ring {a i r s : Nat} {ii : Int32} {k : XM → Option XM} {Q : XM → Prop} (h : RG M a i) (hi : i < 12) (hr : r = a + 2 + 4 * i) (hs : s = r + 1) (hii : ii = nI i) (hF : 1000 ≤ F) (hk : ∀ M', RG M' a (i + 1) → (∀ q, (q < a ∨ a + 50 ≤ q) → M' q = M q) → Ok (k M') Q) : Ok ((x_gR M a 0 0).bind fun v5 => (x_nw M r (.inr (3, [.int 0, .null, .null, .null]))).bind fun m6 => (f_X3_init F r s m6).bind fun p7 => (x_ob p7 r 3).bind fun u8 => (x_wQ (.object RX3) p7 v5 ii r).bind fun m9 => k m9) Q := by
  obtain ⟨c, ⟨g, hg, hgj⟩, hR⟩ := h
  refine ok_b (gR_of c rfl) (ok_b rfl ?_)
  generalize h1 : x_up M r _ = M1
  have d1 := up_e h1
  have f1 : ∀ q, q ≠ r → M1 q = M q := fun q hq => by subst h1; exact up_n hq
  refine ok_m (rinit d1 hs hF) (fun M2 hM2 => ?_)
  obtain ⟨R2, f2⟩ := hM2
  refine ok_b (ob_of R2.1) ?_
  have g2 : M2 (a + 1) = _ := (f2 _ (by omega)).trans ((f1 _ (by omega)).trans hg)
  have hw : x_wQ (.object RX3) M2 (a + 1) ii r = some (x_up M2 (a + 1) (.inl (.object RX3, 12, .inr (.inr (.inr (.inr (fun j => if j = i then some r else g j))))))) := by
    subst hii
    simp only [x_wQ, g2, if_true, x_in_nI hi (by decide), nIc (show i < 2147483648 by omega)]
    rfl
  refine ok_b hw ?_
  refine hk _ ⟨?_, ⟨_, up_s, fun j hj => ?_⟩, fun j hj => ?_⟩ (fun q hq => (up_n (by omega)).trans ((f2 q (by omega)).trans (f1 q (by omega))))
  · rw [up_n (by omega), f2 _ (by omega), f1 _ (by omega)]; exact c
  · by_cases z : j = i
    · rw [if_pos z, hr, z]
    · rw [if_neg z]; exact hgj j (by omega)
  · by_cases z : j = i
    · subst z
      rw [← hr]
      exact R2.fr (fun q a1 a2 => up_n (by omega))
    · exact (hR j (by omega)).fr (fun q a1 a2 => (up_n (by omega)).trans ((f2 q (by omega)).trans (f1 q (by omega))))
theorem dinit {a s : Nat} (h : M a = some (.inr (0, [.null, .int 0, .int 0]))) (hs : s = a + 1) (n : Nat) (dd : Nat → Nat) (hF : 1000 ≤ F) : Ok (f_X0_init F a s M) (fun M' => DD M' a n 0 dd ∧ Fr M M' a (a + 50)) := by
  subst hs
  unfold f_X0_init
  refine ok_b rfl ?_
  generalize h1 : x_up M (a + 1) _ = M1
  have c1 := (up_f h1 (q := a) (by omega)).trans h
  refine ok_b (put_of c1 (by simp)) ?_
  generalize h2 : x_up M1 a _ = M2
  have c2 : M2 a = some (.inr (0, [.ref (a + 1), .int 0, .int 0])) := by subst h2; rw [up_s]; rfl
  refine ok_b (put_of c2 (by simp)) ?_
  generalize h3 : x_up M2 a _ = M3
  have c3 : M3 a = some (.inr (0, [.ref (a + 1), .int 0, .int 0])) := by subst h3; rw [up_s]; rfl
  refine ok_b (put_of c3 (by simp)) ?_
  generalize h4 : x_up M3 a _ = M4
  have c4 : M4 a = some (.inr (0, [.ref (a + 1), .int 0, .int 0])) := by subst h4; rw [up_s]; rfl
  have f4 : ∀ q, q ≠ a → q ≠ a + 1 → M4 q = M q := fun q q1 q2 => (up_f h4 q1).trans ((up_f h3 q1).trans ((up_f h2 q1).trans (up_f h1 q2)))
  have G0 : RG M4 a 0 := ⟨c4, ⟨_, (up_f h4 (by omega)).trans ((up_f h3 (by omega)).trans ((up_f h2 (by omega)).trans (up_e h1))), fun j hj => absurd hj (Nat.not_lt_zero j)⟩, fun j hj => absurd hj (Nat.not_lt_zero j)⟩
  refine ring (i := 0) G0 (by omega) (by omega) (by omega) rfl hF (fun M10 G1 g1 => ?_)
  refine ring (i := 1) G1 (by omega) (by omega) (by omega) rfl hF (fun M11 G2 g2 => ?_)
  refine ring (i := 2) G2 (by omega) (by omega) (by omega) rfl hF (fun M12 G3 g3 => ?_)
  refine ring (i := 3) G3 (by omega) (by omega) (by omega) rfl hF (fun M13 G4 g4 => ?_)
  refine ring (i := 4) G4 (by omega) (by omega) (by omega) rfl hF (fun M14 G5 g5 => ?_)
  refine ring (i := 5) G5 (by omega) (by omega) (by omega) rfl hF (fun M15 G6 g6 => ?_)
  refine ring (i := 6) G6 (by omega) (by omega) (by omega) rfl hF (fun M16 G7 g7 => ?_)
  refine ring (i := 7) G7 (by omega) (by omega) (by omega) rfl hF (fun M17 G8 g8 => ?_)
  refine ring (i := 8) G8 (by omega) (by omega) (by omega) rfl hF (fun M18 G9 g9 => ?_)
  refine ring (i := 9) G9 (by omega) (by omega) (by omega) rfl hF (fun M19 G10 g10 => ?_)
  refine ring (i := 10) G10 (by omega) (by omega) (by omega) rfl hF (fun M20 G11 g11 => ?_)
  refine ring (i := 11) G11 (by omega) (by omega) (by omega) rfl hF (fun M21 G12 g12 => ?_)
  obtain ⟨c, ⟨g, hg, hgj⟩, hR⟩ := G12
  refine ok_v ⟨⟨0, by omega, by omega, c, ⟨g, hg, hgj⟩, fun i hi => ⟨3, t0, b0, l0, hR i hi⟩, fun j hj => absurd hj (Nat.not_lt_zero j)⟩, fun q hq => ?_⟩
  exact (g12 q hq).trans ((g11 q hq).trans ((g10 q hq).trans ((g9 q hq).trans ((g8 q hq).trans ((g7 q hq).trans ((g6 q hq).trans ((g5 q hq).trans ((g4 q hq).trans ((g3 q hq).trans ((g2 q hq).trans ((g1 q hq).trans (f4 q (by omega) (by omega)))))))))))))
theorem tinit {a s : Nat} (h : M a = some (.inr (7, [.null, .int 0, .int 0, .int 0, .null, .null, .null]))) (hs : s = a + 1) (tx : Nat → Nat) : Ok (f_X7_init a s M) (fun M' => TX M' a 0 tx ∧ Fr M M' a (a + 5)) := by
  subst hs
  unfold f_X7_init
  refine ok_b rfl ?_
  generalize h1 : x_up M (a + 1) _ = M1
  have c1 := (up_f h1 (q := a) (by omega)).trans h
  refine ok_b (put_of c1 (by simp)) ?_
  generalize h2 : x_up M1 a _ = M2
  have c2 : M2 a = some (.inr (7, [.ref (a + 1), .int 0, .int 0, .int 0, .null, .null, .null])) := by subst h2; rw [up_s]; rfl
  refine ok_b (put_of c2 (by simp)) ?_
  generalize h3 : x_up M2 a _ = M3
  have c3 : M3 a = some (.inr (7, [.ref (a + 1), .int 0, .int 0, .int 0, .null, .null, .null])) := by subst h3; rw [up_s]; rfl
  refine ok_b (put_of c3 (by simp)) ?_
  generalize h4 : x_up M3 a _ = M4
  have c4 : M4 a = some (.inr (7, [.ref (a + 1), .int 0, .int 0, .int 0, .null, .null, .null])) := by subst h4; rw [up_s]; rfl
  refine ok_b (put_of c4 (by simp)) ?_
  generalize h5 : x_up M4 a _ = M5
  have c5 : M5 a = some (.inr (7, [.ref (a + 1), .int 0, .int 0, .int 0, .null, .null, .null])) := by subst h5; rw [up_s]; rfl
  refine ok_b rfl ?_
  generalize h6 : x_up M5 (a + 1 + 1) _ = M6
  have c6 := (up_f h6 (q := a) (by omega)).trans c5
  refine ok_b (put_of c6 (by simp)) ?_
  generalize h7 : x_up M6 a _ = M7
  have c7 : M7 a = some (.inr (7, [.ref (a + 1), .int 0, .int 0, .int 0, .ref (a + 2), .null, .null])) := by subst h7; rw [up_s]; rfl
  refine ok_b rfl ?_
  generalize h8 : x_up M7 (a + 1 + 2) _ = M8
  have c8 := (up_f h8 (q := a) (by omega)).trans c7
  refine ok_b (put_of c8 (by simp)) ?_
  generalize h9 : x_up M8 a _ = M9
  have c9 : M9 a = some (.inr (7, [.ref (a + 1), .int 0, .int 0, .int 0, .ref (a + 2), .ref (a + 3), .null])) := by subst h9; rw [up_s]; rfl
  refine ok_b rfl ?_
  generalize h10 : x_up M9 (a + 1 + 3) _ = M10
  have c10 := (up_f h10 (q := a) (by omega)).trans c9
  refine ok_b (put_of c10 (by simp)) ?_
  generalize h11 : x_up M10 a _ = M11
  have c11 : M11 a = some (.inr (7, [.ref (a + 1), .int 0, .int 0, .int 0, .ref (a + 2), .ref (a + 3), .ref (a + 4)])) := by subst h11; rw [up_s]; rfl
  have p1 : ∀ q, q ≠ a → q ≠ a + 2 → q ≠ a + 3 → q ≠ a + 4 → M11 q = M1 q := fun q q1 q2 q3 q4 => (up_f h11 q1).trans ((up_f h10 q4).trans ((up_f h9 q1).trans ((up_f h8 q3).trans ((up_f h7 q1).trans ((up_f h6 q2).trans ((up_f h5 q1).trans ((up_f h4 q1).trans ((up_f h3 q1).trans (up_f h2 q1)))))))))
  refine ok_v ⟨⟨⟨0, 0, c11⟩, ⟨_, ⟨_, (p1 _ (by omega) (by omega) (by omega) (by omega)).trans (up_e h1), fun _ _ => rfl⟩, fun k hk => absurd hk (Nat.not_lt_zero k)⟩, ⟨_, ⟨_, (up_f h11 (by omega)).trans ((up_f h10 (by omega)).trans ((up_f h9 (by omega)).trans ((up_f h8 (by omega)).trans ((up_f h7 (by omega)).trans (up_e h6))))), fun _ _ => rfl⟩⟩, ⟨_, ⟨_, (up_f h11 (by omega)).trans ((up_f h10 (by omega)).trans ((up_f h9 (by omega)).trans (up_e h8))), fun _ _ => rfl⟩⟩, _, ⟨_, (up_f h11 (by omega)).trans (up_e h10), fun _ _ => rfl⟩⟩, fun q hq => (p1 q (by omega) (by omega) (by omega) (by omega)).trans (up_f h1 (by omega))⟩
theorem linit {a s : Nat} (h : M a = some (.inr (1, [.null, .null, .int 0]))) (hs : s = a + 1) : Ok (f_X1_init a s M) (fun M' => (∃ m g z, LN M' a m g z) ∧ Fr M M' a (a + 3)) := by
  subst hs
  unfold f_X1_init
  refine ok_b rfl ?_
  generalize h1 : x_up M (a + 1) _ = M1
  have c1 := (up_f h1 (q := a) (by omega)).trans h
  refine ok_b (put_of c1 (by simp)) ?_
  generalize h2 : x_up M1 a _ = M2
  have c2 : M2 a = some (.inr (1, [.ref (a + 1), .null, .int 0])) := by subst h2; rw [up_s]; rfl
  refine ok_b rfl ?_
  generalize h3 : x_up M2 (a + 1 + 1) _ = M3
  have c3 := (up_f h3 (q := a) (by omega)).trans c2
  refine ok_b (put_of c3 (by simp)) ?_
  generalize h4 : x_up M3 a _ = M4
  have c4 : M4 a = some (.inr (1, [.ref (a + 1), .ref (a + 2), .int 0])) := by subst h4; rw [up_s]; rfl
  refine ok_b (put_of c4 (by simp)) ?_
  generalize h5 : x_up M4 a _ = M5
  have c5 : M5 a = some (.inr (1, [.ref (a + 1), .ref (a + 2), .int 0])) := by subst h5; rw [up_s]; rfl
  refine ok_v ⟨⟨0, z0, fun _ => 0, c5, ⟨_, (up_f h5 (by omega)).trans ((up_f h4 (by omega)).trans ((up_f h3 (by omega)).trans ((up_f h2 (by omega)).trans (up_e h1)))), fun _ _ => rfl⟩, ⟨_, (up_f h5 (by omega)).trans ((up_f h4 (by omega)).trans (up_e h3)), fun _ _ => rfl⟩⟩, fun q hq => (up_f h5 (by omega)).trans ((up_f h4 (by omega)).trans ((up_f h3 (by omega)).trans ((up_f h2 (by omega)).trans (up_f h1 (by omega)))))⟩
theorem hinit {a s : Nat} (h : M a = some (.inr (5, [.null, .null, .null, .int 0]))) (hs : s = a + 1) (hF : 1000 ≤ F) : Ok (f_X5_init F a s M) (fun M' => (∃ cs ds c, SH M' a cs ds c) ∧ Fr M M' a (a + 7)) := by
  subst hs
  unfold f_X5_init
  refine ok_b rfl ?_
  generalize h1 : x_up M (a + 1) _ = M1
  have c1 := (up_f h1 (q := a) (by omega)).trans h
  refine ok_m (rinit (up_e h1) rfl hF) (fun M2 hM2 => ?_)
  obtain ⟨R2, f2⟩ := hM2
  have c2 := (f2 a (by omega)).trans c1
  refine ok_b (put_of c2 (by simp)) ?_
  generalize h3 : x_up M2 a _ = M3
  have c3 : M3 a = some (.inr (5, [.ref (a + 1), .null, .null, .int 0])) := by subst h3; rw [up_s]; rfl
  refine ok_b rfl ?_
  generalize h4 : x_up M3 (a + 1 + 4) _ = M4
  have c4 := (up_f h4 (q := a) (by omega)).trans c3
  refine ok_b (put_of c4 (by simp)) ?_
  generalize h5 : x_up M4 a _ = M5
  have c5 : M5 a = some (.inr (5, [.ref (a + 1), .ref (a + 5), .null, .int 0])) := by subst h5; rw [up_s]; rfl
  refine ok_b rfl ?_
  generalize h6 : x_up M5 (a + 1 + 5) _ = M6
  have c6 := (up_f h6 (q := a) (by omega)).trans c5
  refine ok_b (put_of c6 (by simp)) ?_
  generalize h7 : x_up M6 a _ = M7
  have c7 : M7 a = some (.inr (5, [.ref (a + 1), .ref (a + 5), .ref (a + 6), .int 0])) := by subst h7; rw [up_s]; rfl
  refine ok_b (put_of c7 (by simp)) ?_
  generalize h8 : x_up M7 a _ = M8
  have c8 : M8 a = some (.inr (5, [.ref (a + 1), .ref (a + 5), .ref (a + 6), .int 0])) := by subst h8; rw [up_s]; rfl
  have p2 : ∀ q, q ≠ a → q ≠ a + 5 → q ≠ a + 6 → M8 q = M2 q := fun q q1 q2 q3 => (up_f h8 q1).trans ((up_f h7 q1).trans ((up_f h6 q3).trans ((up_f h5 q1).trans ((up_f h4 q2).trans (up_f h3 q1)))))
  refine ok_v ⟨⟨z0, z0, 0, c8, ⟨3, t0, b0, l0, R2.fr (fun q a1 a2 => p2 q (by omega) (by omega) (by omega))⟩, ⟨_, (up_f h8 (by omega)).trans ((up_f h7 (by omega)).trans ((up_f h6 (by omega)).trans ((up_f h5 (by omega)).trans (up_e h4)))), fun _ _ => rfl⟩, ⟨_, (up_f h8 (by omega)).trans ((up_f h7 (by omega)).trans (up_e h6)), fun _ _ => rfl⟩⟩, fun q hq => (p2 q (by omega) (by omega) (by omega)).trans ((f2 q (by omega)).trans (up_f h1 (by omega)))⟩
/-- tapes, so many of them made -/
def TG (M : XM) (x i : Nat) : Prop := (∃ g : Nat → Option Nat, M (x + 98) = some (.inl (.object RX6, 6, .inr (.inr (.inr (.inr g))))) ∧ ∀ j, j < i → g j = some (x + 99 + 2 * j)) ∧ ∀ j, j < i → M (x + 99 + 2 * j) = some (.inr (6, [.int (-1), .int (nI 0), .ref (x + 99 + 2 * j + 1)])) ∧ LA M (x + 99 + 2 * j + 1) 60 (fun _ => 0)
theorem tgs {x i r s : Nat} {ii : Int32} {fs : List Value} {k : XM → Option XM} {Q : XM → Prop} (c : M x = some (.inr (8, fs))) (c8 : fs[8]? = some (.ref (x + 98))) (h : TG M x i) (hi : i < 6) (hr : r = x + 99 + 2 * i) (hs : s = r + 1) (hii : ii = nI i) (hk : ∀ M', TG M' x (i + 1) → (∀ q, (q < x + 98 ∨ x + 111 ≤ q) → M' q = M q) → Ok (k M') Q) : Ok ((x_gR M x 8 8).bind fun v25 => (x_nw M r (.inr (6, [.int 0, .int 0, .null]))).bind fun m26 => (f_X6_init r s m26).bind fun p27 => (x_ob p27 r 6).bind fun u28 => (x_wQ (.object RX6) p27 v25 ii r).bind fun m29 => k m29) Q := by
  obtain ⟨⟨g, hg, hgj⟩, hR⟩ := h
  subst hs
  refine ok_b (gR_of c c8) (ok_b rfl ?_)
  generalize h1 : x_up M r _ = M1
  unfold f_X6_init
  refine ok_m (P := fun M' => M' r = some (.inr (6, [.int (-1), .int (nI 0), .ref (r + 1)])) ∧ LA M' (r + 1) 60 (fun _ => 0) ∧ ∀ q, q ≠ r → q ≠ r + 1 → M' q = M1 q) ?_ (fun M2 hM2 => ?_)
  · refine ok_b (put_of (up_e h1) (by simp)) ?_
    generalize h2 : x_up M1 r _ = M2
    have c2 : M2 r = some (.inr (6, [.int (-1), .int 0, .null])) := by subst h2; rw [up_s]; rfl
    refine ok_b (put_of c2 (by simp)) ?_
    generalize h3 : x_up M2 r _ = M3
    have c3 : M3 r = some (.inr (6, [.int (-1), .int 0, .null])) := by subst h3; rw [up_s]; rfl
    refine ok_b rfl ?_
    generalize h4 : x_up M3 (r + 1) _ = M4
    have c4 := (up_f h4 (q := r) (by omega)).trans c3
    refine ok_b (put_of c4 (by simp)) ?_
    refine ok_v ⟨?_, ⟨_, (up_n (by omega)).trans (up_e h4), fun _ _ => rfl⟩, fun q q1 q2 => (up_n q1).trans ((up_f h4 q2).trans ((up_f h3 q1).trans (up_f h2 q1)))⟩
    rw [up_s]; rfl
  obtain ⟨c2, L2, f2⟩ := hM2
  refine ok_b (ob_of c2) ?_
  have g2 : M2 (x + 98) = _ := (f2 _ (by omega) (by omega)).trans ((up_f h1 (by omega)).trans hg)
  have hw : x_wQ (.object RX6) M2 (x + 98) ii r = some (x_up M2 (x + 98) (.inl (.object RX6, 6, .inr (.inr (.inr (.inr (fun j => if j = i then some r else g j))))))) := by
    subst hii
    simp only [x_wQ, g2, if_true, x_in_nI hi (by decide), nIc (show i < 2147483648 by omega)]
    rfl
  refine ok_b hw ?_
  refine hk _ ⟨⟨_, up_s, fun j hj => ?_⟩, fun j hj => ?_⟩ (fun q hq => (up_n (by omega)).trans ((f2 q (by omega) (by omega)).trans (up_f h1 (by omega))))
  · by_cases z : j = i
    · rw [if_pos z, hr, z]
    · rw [if_neg z]; exact hgj j (by omega)
  · by_cases z : j = i
    · subst z
      rw [← hr]
      exact ⟨(up_n (by omega)).trans c2, L2.fr (up_n (by omega))⟩
    · obtain ⟨z1, z2⟩ := hR j (by omega)
      exact ⟨(up_n (by omega)).trans ((f2 _ (by omega) (by omega)).trans ((up_f h1 (by omega)).trans z1)), z2.fr ((up_n (by omega)).trans ((f2 _ (by omega) (by omega)).trans (up_f h1 (by omega))))⟩
end INIT
