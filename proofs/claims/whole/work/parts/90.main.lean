theorem law_true (sz b L : Nat) (xs : Nat → Int32) (hL : L ≤ 3072) : ∃ F, f_L_law F sz b L xs (fun _ => none) = some () := by
  refine ⟨20000, ?_⟩
  have key : Ok (f_L_law 20000 sz b L xs (fun _ => none)) (fun r => r = ()) := by
    unfold f_L_law
    refine ok_b rfl ?_
    generalize h1 : x_up (fun _ => none) sz _ = M1
    refine ok_m (cinit (up_e h1) rfl (by omega)) (fun M2 hM2 => ?_)
    obtain ⟨hC, f2⟩ := hM2
    refine ok_b rfl ?_
    generalize h3 : x_up M2 (sz + 111) _ = M3
    refine ok_m (minit (up_e h3) rfl (by omega)) (fun M4 hM4 => ?_)
    obtain ⟨hJ, f4⟩ := hM4
    have h0 : INV M4 sz := INV.mk hC hJ (fun q hq => (f4 q (by omega)).trans (up_f h3 (by omega)))
    refine ok_loop (I := fun t q => q.1 = nI (6 * t) ∧ INV q.2 sz) (L / 6) ?_ ?_ (L / 6) 0 20000 _ (by omega) (by omega) ⟨rfl, h0⟩
    · rintro k t ⟨q1, q2⟩ ht ⟨rfl, hI⟩ hk
      exact law_step hL (by omega) (by omega) hI (fun M' hM' => hk _ ⟨rfl, hM'⟩)
    · rintro k ⟨q1, q2⟩ ⟨rfl, hI⟩
      unfold b_L_law_18
      refine ok_t ?_ (ok_v rfl)
      show nI L - nI 6 < nI (6 * (L / 6))
      rw [fa_lt, fb_subI]
      · rw [nI_toInt (by omega), nI_toInt (by omega), nI_toInt (by omega)]; omega
      · rw [nI_toInt (by omega), nI_toInt (by omega)]; omega
      · rw [nI_toInt (by omega), nI_toInt (by omega)]; omega
  obtain ⟨r, h, rfl⟩ := key
  exact h
