-- SwappedIntervals.fits(II)I
abbrev rm_X8_fits : Room := { frames := 3, cells := 0, slots := 0, locals := 69 }
theorem me_X8_fits : x_Me yX8_fits cX8_fits 6 (some .int) 2 := ⟨by decide +kernel, w_co_yX8_fits, w_in_SwappedIntervals, by decide +kernel, by decide +kernel, by decide +kernel⟩
def b_X8_fits_48 (F : Nat) (a0 : Nat) (a1 : Int32) (a2 : Int32)  (k48 : (Int32 × Int32 × Int32 × XM) → Option (Int32 × XM)) (q : Int32 × Int32 × Int32 × XM) : Option (Int32 × XM) := if (40 : Int32) < q.2.2.1 then if a2 = 0 then some (q.1, q.2.2.2) else some (q.2.1, q.2.2.2) else (x_gR q.2.2.2 a0 8 7).bind fun v15 => (x_gR q.2.2.2 v15 3 3).bind fun v16 => (x_w32 .int q.2.2.2 v16 a1 q.2.2.1).bind fun m17 => (x_gR m17 a0 8 7).bind fun v18 => (x_ob m17 a0 8).bind fun u19 => (f_X8_isAllSeen F a0 v18 m17).bind fun p20 => if p20 = 0 then k48 (q.1, q.2.1, (q.2.2.1 + (1 : Int32)), m17) else if q.2.1 = (-5 : Int32) then k48 ((q.1 + (1 : Int32)), q.2.2.1, (q.2.2.1 + (1 : Int32)), m17) else k48 ((q.1 + (1 : Int32)), q.2.1, (q.2.2.1 + (1 : Int32)), m17)
set_option maxHeartbeats 4000000 in
set_option maxRecDepth 100000 in
theorem lp_X8_fits_48 (l : Launch) (D : va_G) (aC : FieldType → ClassId) (bs : Nat) (sz : Nat) (F : Nat) (a0 : Nat) (a1 : Int32) (a2 : Int32)   : ∀ (n : Nat) (b0 : Int32) (b1 : Int32) (b2 : Int32) (b3 : XM) (r : Int32 × XM), x_it (b_X8_fits_48 F a0 a1 a2 ) n (b0, b1, b2, b3) = some r → x_V l D aC bs yX8_fits cX8_fits 6 (some .int) rm_X8_fits (x_Z D aC bs (some (.int r.1)) sz r.2 rm_X8_fits) 48 [(0, .ref a0), (1, .int a1), (2, .int a2), (3, .int b0), (4, .int b1), (5, .int b2)] [] sz b3 0 0 := by
  suffices H : ∀ (n : Nat) (q : Int32 × Int32 × Int32 × XM) (r : Int32 × XM), x_it (b_X8_fits_48 F a0 a1 a2 ) n q = some r → x_V l D aC bs yX8_fits cX8_fits 6 (some .int) rm_X8_fits (x_Z D aC bs (some (.int r.1)) sz r.2 rm_X8_fits) 48 [(0, .ref a0), (1, .int a1), (2, .int a2), (3, .int q.1), (4, .int q.2.1), (5, .int q.2.2.1)] [] sz q.2.2.2 0 0 from fun n b0 b1 b2 b3 r h => H n (b0, b1, b2, b3) r h
  refine x_loop (P := fun (q : Int32 × Int32 × Int32 × XM) (r : Int32 × XM) => x_V l D aC bs yX8_fits cX8_fits 6 (some .int) rm_X8_fits (x_Z D aC bs (some (.int r.1)) sz r.2 rm_X8_fits) 48 [(0, .ref a0), (1, .int a1), (2, .int a2), (3, .int q.1), (4, .int q.2.1), (5, .int q.2.2.1)] [] sz q.2.2.2 0 0) (fun k48 hk0 q r h => ?_)
  have hk48 : ∀ (b0 : Int32) (b1 : Int32) (b2 : Int32) (b3 : XM) (r : Int32 × XM), k48 (b0, b1, b2, b3) = some r → x_V l D aC bs yX8_fits cX8_fits 6 (some .int) rm_X8_fits (x_Z D aC bs (some (.int r.1)) sz r.2 rm_X8_fits) 48 [(0, .ref a0), (1, .int a1), (2, .int a2), (3, .int b0), (4, .int b1), (5, .int b2)] [] sz b3 0 0 := fun b0 b1 b2 b3 r h => hk0 (b0, b1, b2, b3) r h
  unfold b_X8_fits_48 at h
  refine x_iload dX8_fits_48 5 rfl ?_
  refine x_bipush (v := (40 : Int32)) dX8_fits_50 (by decide) ?_
  refine x_icmp_gt 97 dX8_fits_52 (by decide) (fun c13 => ?_) (fun c13 => ?_)
  · have h := (if_pos c13).symm.trans h
    refine x_iload_n dX8_fits_97 2 rfl ?_
    refine x_if_ne 105 dX8_fits_98 (by decide) (fun c14 => ?_) (fun c14 => ?_)
    · have h := (if_neg c14).symm.trans h
      refine x_iload dX8_fits_105 4 rfl ?_
      obtain rfl := Option.some.inj h
      exact x_iret dX8_fits_107 (Nat.le_of_ble_eq_true rfl) (Nat.le_of_ble_eq_true rfl)
    have h := (if_pos c14).symm.trans h
    refine x_iload_n dX8_fits_101 3 rfl ?_
    refine x_goto 107 dX8_fits_102 (by decide) ?_
    obtain rfl := Option.some.inj h
    exact x_iret dX8_fits_107 (Nat.le_of_ble_eq_true rfl) (Nat.le_of_ble_eq_true rfl)
  have h := (if_neg c13).symm.trans h
  refine x_aload_n dX8_fits_55 0 rfl ?_
  obtain ⟨v15, ev15, h⟩ := x_bd h
  refine x_getR clX8 w_fl_RX8_56 (by decide) dX8_fits_56 ev15 ?_
  obtain ⟨v16, ev16, h⟩ := x_bd h
  refine x_getR clX3 w_fl_RX8_99 (by decide) dX8_fits_59 ev16 ?_
  refine x_iload_n dX8_fits_62 1 rfl ?_
  refine x_iload dX8_fits_63 5 rfl ?_
  obtain ⟨m17, em17, h⟩ := x_bd h
  refine x_iast dX8_fits_65 em17 ?_
  refine x_aload_n dX8_fits_66 0 rfl ?_
  refine x_aload_n dX8_fits_67 0 rfl ?_
  obtain ⟨v18, ev18, h⟩ := x_bd h
  refine x_getR clX8 w_fl_RX8_56 (by decide) dX8_fits_68 ev18 ?_
  obtain ⟨u19, eu19, h⟩ := x_bd h
  obtain ⟨p20, ep20, h⟩ := x_bd h
  refine x_callVI [.ref v18] [] clX8 me_X8_isAllSeen w_ml_RX8_272 w_im_yX8_isAllSeen w_se_yX8_isAllSeen (Nat.le_of_ble_eq_true rfl) (Nat.le_of_ble_eq_true rfl) rfl (Nat.le_of_ble_eq_true rfl) (Nat.le_of_ble_eq_true rfl) (Nat.le_of_ble_eq_true rfl) dX8_fits_71 eu19 (c_X8_isAllSeen l D aC bs sz F ep20) rfl ?_
  refine x_if_eq 91 dX8_fits_74 (by decide) (fun c21 => ?_) (fun c21 => ?_)
  · have h := (if_pos c21).symm.trans h
    refine x_iinc (1 : Int32) 5 [(5, .int (q.2.2.1 + (1 : Int32))), (0, .ref a0), (1, .int a1), (2, .int a2), (3, .int q.1), (4, .int q.2.1)] dX8_fits_91 rfl (by decide) (by decide) rfl ?_
    refine x_goto 48 dX8_fits_94 (by decide) ?_
    exact x_sub [1, 2, 3, 4, 5, 0] rfl (hk48 _ _ _ _ _ h)
  have h := (if_neg c21).symm.trans h
  refine x_iinc (1 : Int32) 3 [(3, .int (q.1 + (1 : Int32))), (0, .ref a0), (1, .int a1), (2, .int a2), (4, .int q.2.1), (5, .int q.2.2.1)] dX8_fits_77 rfl (by decide) (by decide) rfl ?_
  refine x_iload dX8_fits_80 4 rfl ?_
  refine x_bipush (v := (-5 : Int32)) dX8_fits_82 (by decide) ?_
  refine x_icmp_ne 91 dX8_fits_84 (by decide) (fun c22 => ?_) (fun c22 => ?_)
  · have h := (if_neg c22).symm.trans h
    refine x_iinc (1 : Int32) 5 [(5, .int (q.2.2.1 + (1 : Int32))), (3, .int (q.1 + (1 : Int32))), (0, .ref a0), (1, .int a1), (2, .int a2), (4, .int q.2.1)] dX8_fits_91 rfl (by decide) (by decide) rfl ?_
    refine x_goto 48 dX8_fits_94 (by decide) ?_
    exact x_sub [2, 3, 4, 1, 5, 0] rfl (hk48 _ _ _ _ _ h)
  have h := (if_pos c22).symm.trans h
  refine x_iload dX8_fits_87 5 rfl ?_
  refine x_istore [(4, .int q.2.2.1), (3, .int (q.1 + (1 : Int32))), (0, .ref a0), (1, .int a1), (2, .int a2), (5, .int q.2.2.1)] dX8_fits_89 (by decide) rfl ?_
  refine x_iinc (1 : Int32) 5 [(5, .int (q.2.2.1 + (1 : Int32))), (4, .int q.2.2.1), (3, .int (q.1 + (1 : Int32))), (0, .ref a0), (1, .int a1), (2, .int a2)] dX8_fits_91 rfl (by decide) (by decide) rfl ?_
  refine x_goto 48 dX8_fits_94 (by decide) ?_
  exact x_sub [3, 4, 5, 2, 1, 0] rfl (hk48 _ _ _ _ _ h)
def f_X8_fits (F : Nat) (a0 : Nat) (a1 : Int32) (a2 : Int32) (M : XM) : Option (Int32 × XM) := (x_gR M a0 8 0).bind fun v1 => (x_gR M v1 4 0).bind fun v2 => (x_ob M v2 3).bind fun u3 => (f_X3_hasLetter v2 a1 M).bind fun p4 => if p4 = 0 then some ((-1 : Int32), M) else if a2 < 0 then some ((-1 : Int32), M) else if a2 ≤ (1 : Int32) then (x_gR M a0 8 7).bind fun v8 => (x_gR M a0 8 0).bind fun v9 => (x_gR M v9 4 0).bind fun v10 => (x_ob M v8 3).bind fun u11 => (f_X3_copyFrom F v8 v10 M).bind fun p12 => x_it (b_X8_fits_48 F (a0) (a1) (a2)) F ((0 : Int32), (-5 : Int32), (1 : Int32), p12) else some ((-1 : Int32), M)
set_option maxHeartbeats 4000000 in
set_option maxRecDepth 100000 in
theorem c_X8_fits (l : Launch) (D : va_G) (aC : FieldType → ClassId) (bs sz : Nat) (F : Nat) {a0 : Nat} {a1 : Int32} {a2 : Int32} {M : XM} {r : Int32 × XM} (h : f_X8_fits F a0 a1 a2 M = some r) : x_Cn l D aC bs yX8_fits cX8_fits 6 (some .int) rm_X8_fits [.ref a0, .int a1, .int a2] sz M (some (.int r.1)) sz r.2 := by
  unfold f_X8_fits at h
  refine x_enter2 [(0, .ref a0), (1, .int a1), (2, .int a2)] me_X8_fits (Nat.le_of_ble_eq_true rfl) rfl ?_
  refine x_aload_n dX8_fits_0 0 rfl ?_
  obtain ⟨v1, ev1, h⟩ := x_bd h
  refine x_getR clX8 w_fl_RX8_14 (by decide) dX8_fits_1 ev1 ?_
  obtain ⟨v2, ev2, h⟩ := x_bd h
  refine x_getR clX4 w_fl_RX8_67 (by decide) dX8_fits_4 ev2 ?_
  refine x_iload_n dX8_fits_7 1 rfl ?_
  obtain ⟨u3, eu3, h⟩ := x_bd h
  obtain ⟨p4, ep4, h⟩ := x_bd h
  refine x_callVI [.int a1] [] clX3 me_X3_hasLetter w_ml_RX8_88 w_im_yX3_hasLetter w_se_yX3_hasLetter (Nat.le_of_ble_eq_true rfl) (Nat.le_of_ble_eq_true rfl) rfl (Nat.le_of_ble_eq_true rfl) (Nat.le_of_ble_eq_true rfl) (Nat.le_of_ble_eq_true rfl) dX8_fits_8 eu3 (c_X3_hasLetter l D aC bs sz ep4) rfl ?_
  refine x_if_eq 23 dX8_fits_11 (by decide) (fun c5 => ?_) (fun c5 => ?_)
  · have h := (if_pos c5).symm.trans h
    refine x_iconst (v := (-1 : Int32)) dX8_fits_23 (by decide) ?_
    obtain rfl := Option.some.inj h
    exact x_iret dX8_fits_24 (Nat.le_of_ble_eq_true rfl) (Nat.le_of_ble_eq_true rfl)
  have h := (if_neg c5).symm.trans h
  refine x_iload_n dX8_fits_14 2 rfl ?_
  refine x_if_lt 23 dX8_fits_15 (by decide) (fun c6 => ?_) (fun c6 => ?_)
  · have h := (if_pos c6).symm.trans h
    refine x_iconst (v := (-1 : Int32)) dX8_fits_23 (by decide) ?_
    obtain rfl := Option.some.inj h
    exact x_iret dX8_fits_24 (Nat.le_of_ble_eq_true rfl) (Nat.le_of_ble_eq_true rfl)
  have h := (if_neg c6).symm.trans h
  refine x_iload_n dX8_fits_18 2 rfl ?_
  refine x_iconst (v := (1 : Int32)) dX8_fits_19 (by decide) ?_
  refine x_icmp_le 25 dX8_fits_20 (by decide) (fun c7 => ?_) (fun c7 => ?_)
  · have h := (if_pos c7).symm.trans h
    refine x_aload_n dX8_fits_25 0 rfl ?_
    obtain ⟨v8, ev8, h⟩ := x_bd h
    refine x_getR clX8 w_fl_RX8_56 (by decide) dX8_fits_26 ev8 ?_
    refine x_aload_n dX8_fits_29 0 rfl ?_
    obtain ⟨v9, ev9, h⟩ := x_bd h
    refine x_getR clX8 w_fl_RX8_14 (by decide) dX8_fits_30 ev9 ?_
    obtain ⟨v10, ev10, h⟩ := x_bd h
    refine x_getR clX4 w_fl_RX8_67 (by decide) dX8_fits_33 ev10 ?_
    obtain ⟨u11, eu11, h⟩ := x_bd h
    obtain ⟨p12, ep12, h⟩ := x_bd h
    refine x_callVV [.ref v10] [] clX3 me_X3_copyFrom w_ml_RX8_229 w_im_yX3_copyFrom w_se_yX3_copyFrom (Nat.le_of_ble_eq_true rfl) (Nat.le_of_ble_eq_true rfl) rfl (Nat.le_of_ble_eq_true rfl) (Nat.le_of_ble_eq_true rfl) (Nat.le_of_ble_eq_true rfl) dX8_fits_36 eu11 (c_X3_copyFrom l D aC bs sz F ep12) rfl ?_
    refine x_iconst (v := (0 : Int32)) dX8_fits_39 (by decide) ?_
    refine x_istore_n 3 [(3, .int (0 : Int32)), (0, .ref a0), (1, .int a1), (2, .int a2)] dX8_fits_40 rfl (by decide) rfl ?_
    refine x_bipush (v := (-5 : Int32)) dX8_fits_41 (by decide) ?_
    refine x_istore [(4, .int (-5 : Int32)), (3, .int (0 : Int32)), (0, .ref a0), (1, .int a1), (2, .int a2)] dX8_fits_43 (by decide) rfl ?_
    refine x_iconst (v := (1 : Int32)) dX8_fits_45 (by decide) ?_
    refine x_istore [(5, .int (1 : Int32)), (4, .int (-5 : Int32)), (3, .int (0 : Int32)), (0, .ref a0), (1, .int a1), (2, .int a2)] dX8_fits_46 (by decide) rfl ?_
    exact x_sub [3, 4, 5, 2, 1, 0] rfl (lp_X8_fits_48 l D aC bs sz F (a0) (a1) (a2)  F _ _ _ _ _ h)
  have h := (if_neg c7).symm.trans h
  refine x_iconst (v := (-1 : Int32)) dX8_fits_23 (by decide) ?_
  obtain rfl := Option.some.inj h
  exact x_iret dX8_fits_24 (Nat.le_of_ble_eq_true rfl) (Nat.le_of_ble_eq_true rfl)

-- SwappedIntervals.greatestDivisor(II)I
abbrev rm_X8_greatestDivisor : Room := { frames := 0, cells := 0, slots := 0, locals := 0 }
theorem me_X8_greatestDivisor : x_Me yX8_greatestDivisor cX8_greatestDivisor 6 (some .int) 2 := ⟨by decide +kernel, w_co_yX8_greatestDivisor, w_in_SwappedIntervals, by decide +kernel, by decide +kernel, by decide +kernel⟩
def b_X8_greatestDivisor_7 (F : Nat)  (M : XM)  (k7 : (Int32 × Int32 × Int32) → Option (Int32)) (q : Int32 × Int32 × Int32) : Option (Int32) := if (64 : Int32) ≤ q.2.2 then some q.1 else if q.2.1 = 0 then some q.1 else (x_n0 q.2.1).bind fun u3 => k7 (q.2.1, (q.1 - q.1 / q.2.1 * q.2.1), (q.2.2 + (1 : Int32)))
set_option maxHeartbeats 4000000 in
set_option maxRecDepth 100000 in
theorem lp_X8_greatestDivisor_7 (l : Launch) (D : va_G) (aC : FieldType → ClassId) (bs : Nat) (sz : Nat) (F : Nat)  (M : XM)   : ∀ (n : Nat) (b0 : Int32) (b1 : Int32) (b2 : Int32) (r : Int32), x_it (b_X8_greatestDivisor_7 F  M ) n (b0, b1, b2) = some r → x_V l D aC bs yX8_greatestDivisor cX8_greatestDivisor 6 (some .int) rm_X8_greatestDivisor (x_Z D aC bs (some (.int r)) sz M rm_X8_greatestDivisor) 7 [(2, .int b0), (3, .int b1), (4, .int b2)] [] sz M 0 0 := by
  suffices H : ∀ (n : Nat) (q : Int32 × Int32 × Int32) (r : Int32), x_it (b_X8_greatestDivisor_7 F  M ) n q = some r → x_V l D aC bs yX8_greatestDivisor cX8_greatestDivisor 6 (some .int) rm_X8_greatestDivisor (x_Z D aC bs (some (.int r)) sz M rm_X8_greatestDivisor) 7 [(2, .int q.1), (3, .int q.2.1), (4, .int q.2.2)] [] sz M 0 0 from fun n b0 b1 b2 r h => H n (b0, b1, b2) r h
  refine x_loop (P := fun (q : Int32 × Int32 × Int32) (r : Int32) => x_V l D aC bs yX8_greatestDivisor cX8_greatestDivisor 6 (some .int) rm_X8_greatestDivisor (x_Z D aC bs (some (.int r)) sz M rm_X8_greatestDivisor) 7 [(2, .int q.1), (3, .int q.2.1), (4, .int q.2.2)] [] sz M 0 0) (fun k7 hk0 q r h => ?_)
  have hk7 : ∀ (b0 : Int32) (b1 : Int32) (b2 : Int32) (r : Int32), k7 (b0, b1, b2) = some r → x_V l D aC bs yX8_greatestDivisor cX8_greatestDivisor 6 (some .int) rm_X8_greatestDivisor (x_Z D aC bs (some (.int r)) sz M rm_X8_greatestDivisor) 7 [(2, .int b0), (3, .int b1), (4, .int b2)] [] sz M 0 0 := fun b0 b1 b2 r h => hk0 (b0, b1, b2) r h
  unfold b_X8_greatestDivisor_7 at h
  refine x_iload dX8_greatestDivisor_7 2 rfl ?_
  refine x_bipush (v := (64 : Int32)) dX8_greatestDivisor_9 (by decide) ?_
  refine x_icmp_ge 34 dX8_greatestDivisor_11 (by decide) (fun c1 => ?_) (fun c1 => ?_)
  · have h := (if_pos c1).symm.trans h
    refine x_iload_n dX8_greatestDivisor_34 0 rfl ?_
    obtain rfl := Option.some.inj h
    exact x_iret dX8_greatestDivisor_35 (Nat.le_of_ble_eq_true rfl) (Nat.le_of_ble_eq_true rfl)
  have h := (if_neg c1).symm.trans h
  refine x_iload_n dX8_greatestDivisor_14 1 rfl ?_
  refine x_if_eq 34 dX8_greatestDivisor_15 (by decide) (fun c2 => ?_) (fun c2 => ?_)
  · have h := (if_pos c2).symm.trans h
    refine x_iload_n dX8_greatestDivisor_34 0 rfl ?_
    obtain rfl := Option.some.inj h
    exact x_iret dX8_greatestDivisor_35 (Nat.le_of_ble_eq_true rfl) (Nat.le_of_ble_eq_true rfl)
  have h := (if_neg c2).symm.trans h
  refine x_iload_n dX8_greatestDivisor_18 0 rfl ?_
  refine x_iload_n dX8_greatestDivisor_19 1 rfl ?_
  obtain ⟨u3, eu3, h⟩ := x_bd h
  refine x_irem dX8_greatestDivisor_20 (x_n0_sp eu3) ?_
  refine x_istore [(5, .int (q.1 - q.1 / q.2.1 * q.2.1)), (2, .int q.1), (3, .int q.2.1), (4, .int q.2.2)] dX8_greatestDivisor_21 (by decide) rfl ?_
  refine x_iload_n dX8_greatestDivisor_23 2 rfl ?_
  refine x_istore_n 2 [(2, .int q.2.1), (5, .int (q.1 - q.1 / q.2.1 * q.2.1)), (3, .int q.2.1), (4, .int q.2.2)] dX8_greatestDivisor_24 rfl (by decide) rfl ?_
  refine x_iload dX8_greatestDivisor_25 1 rfl ?_
  refine x_istore_n 3 [(3, .int (q.1 - q.1 / q.2.1 * q.2.1)), (2, .int q.2.1), (5, .int (q.1 - q.1 / q.2.1 * q.2.1)), (4, .int q.2.2)] dX8_greatestDivisor_27 rfl (by decide) rfl ?_
  refine x_iinc (1 : Int32) 3 [(4, .int (q.2.2 + (1 : Int32))), (3, .int (q.1 - q.1 / q.2.1 * q.2.1)), (2, .int q.2.1), (5, .int (q.1 - q.1 / q.2.1 * q.2.1))] dX8_greatestDivisor_28 rfl (by decide) (by decide) rfl ?_
  refine x_goto 7 dX8_greatestDivisor_31 (by decide) ?_
  exact x_sub [2, 1, 0] rfl (hk7 _ _ _ _ h)
def f_X8_greatestDivisor (F : Nat) (a0 : Int32) (a1 : Int32) (M : XM) : Option (Int32) := x_it (b_X8_greatestDivisor_7 F M) F (a0, a1, (0 : Int32))
set_option maxHeartbeats 4000000 in
set_option maxRecDepth 100000 in
theorem c_X8_greatestDivisor (l : Launch) (D : va_G) (aC : FieldType → ClassId) (bs sz : Nat) (F : Nat) {a0 : Int32} {a1 : Int32} {M : XM} {r : Int32} (h : f_X8_greatestDivisor F a0 a1 M = some r) : x_Cn l D aC bs yX8_greatestDivisor cX8_greatestDivisor 6 (some .int) rm_X8_greatestDivisor [.int a0, .int a1] sz M (some (.int r)) sz M := by
  unfold f_X8_greatestDivisor at h
  refine x_enter2 [(0, .int a0), (1, .int a1)] me_X8_greatestDivisor (Nat.le_of_ble_eq_true rfl) rfl ?_
  refine x_iload_n dX8_greatestDivisor_0 0 rfl ?_
  refine x_istore_n 2 [(2, .int a0), (0, .int a0), (1, .int a1)] dX8_greatestDivisor_1 rfl (by decide) rfl ?_
  refine x_iload_n dX8_greatestDivisor_2 2 rfl ?_
  refine x_istore_n 3 [(3, .int a1), (2, .int a0), (0, .int a0), (1, .int a1)] dX8_greatestDivisor_3 rfl (by decide) rfl ?_
  refine x_iconst (v := (0 : Int32)) dX8_greatestDivisor_4 (by decide) ?_
  refine x_istore [(4, .int (0 : Int32)), (3, .int a1), (2, .int a0), (0, .int a0), (1, .int a1)] dX8_greatestDivisor_5 (by decide) rfl ?_
  exact x_sub [2, 1, 0] rfl (lp_X8_greatestDivisor_7 l D aC bs sz F M  F _ _ _ _ h)

-- SwappedIntervals.partInLowestTerms(III)J
abbrev rm_X8_partInLowestTerms : Room := { frames := 1, cells := 0, slots := 0, locals := 25 }
theorem me_X8_partInLowestTerms : x_Me yX8_partInLowestTerms cX8_partInLowestTerms 4 (some .long) 3 := ⟨by decide +kernel, w_co_yX8_partInLowestTerms, w_in_SwappedIntervals, by decide +kernel, by decide +kernel, by decide +kernel⟩
def j_X8_partInLowestTerms_13 (F : Nat) (a0 : Int32) (a1 : Int32) (a2 : Int32) (M : XM)  : Option (Int64) := (f_X8_greatestDivisor F a0 a1 M).bind fun p2 => if (1 : Int32) ≤ p2 then if a2 = 0 then (x_n0 p2).bind fun u6 => some ((a0 / p2).toInt64) else (x_n0 p2).bind fun u5 => some ((a1 / p2).toInt64) else some (-9223372036854775808 : Int64)
set_option maxHeartbeats 4000000 in
set_option maxRecDepth 100000 in
theorem jp_X8_partInLowestTerms_13 (l : Launch) (D : va_G) (aC : FieldType → ClassId) (bs : Nat) (sz : Nat) (F : Nat) (a0 : Int32) (a1 : Int32) (a2 : Int32) (M : XM)   {r : Int64} (h : j_X8_partInLowestTerms_13 F a0 a1 a2 M  = some r) : x_V l D aC bs yX8_partInLowestTerms cX8_partInLowestTerms 4 (some .long) rm_X8_partInLowestTerms (x_Z D aC bs (some (.long r)) sz M rm_X8_partInLowestTerms) 13 [(0, .int a0), (1, .int a1), (2, .int a2)] [] sz M 0 0 := by
  unfold j_X8_partInLowestTerms_13 at h
  refine x_iload_n dX8_partInLowestTerms_13 0 rfl ?_
  refine x_iload_n dX8_partInLowestTerms_14 1 rfl ?_
  obtain ⟨p2, ep2, h⟩ := x_bd h
  refine x_callSI [.int a0, .int a1] [] me_X8_greatestDivisor w_ml_RX8_293 w_st_yX8_greatestDivisor (Nat.le_of_ble_eq_true rfl) (Nat.le_of_ble_eq_true rfl) rfl (Nat.le_of_ble_eq_true rfl) (Nat.le_of_ble_eq_true rfl) (Nat.le_of_ble_eq_true rfl) dX8_partInLowestTerms_15 (c_X8_greatestDivisor l D aC bs sz F ep2) rfl ?_
  refine x_istore_n 3 [(3, .int p2), (0, .int a0), (1, .int a1), (2, .int a2)] dX8_partInLowestTerms_18 rfl (by decide) rfl ?_
  refine x_iload_n dX8_partInLowestTerms_19 0 rfl ?_
  refine x_iconst (v := (1 : Int32)) dX8_partInLowestTerms_20 (by decide) ?_
  refine x_icmp_ge 28 dX8_partInLowestTerms_21 (by decide) (fun c3 => ?_) (fun c3 => ?_)
  · have h := (if_pos c3).symm.trans h
    refine x_iload_n dX8_partInLowestTerms_28 3 rfl ?_
    refine x_if_ne 39 dX8_partInLowestTerms_29 (by decide) (fun c4 => ?_) (fun c4 => ?_)
    · have h := (if_neg c4).symm.trans h
      refine x_iload_n dX8_partInLowestTerms_39 2 rfl ?_
      refine x_iload_n dX8_partInLowestTerms_40 0 rfl ?_
      obtain ⟨u5, eu5, h⟩ := x_bd h
      refine x_idiv dX8_partInLowestTerms_41 (x_n0_sp eu5) ?_
      refine x_i2l dX8_partInLowestTerms_42 ?_
      obtain rfl := Option.some.inj h
      exact x_lret dX8_partInLowestTerms_43 (Nat.le_of_ble_eq_true rfl) (Nat.le_of_ble_eq_true rfl)
    have h := (if_pos c4).symm.trans h
    refine x_iload_n dX8_partInLowestTerms_32 1 rfl ?_
    refine x_iload_n dX8_partInLowestTerms_33 0 rfl ?_
    obtain ⟨u6, eu6, h⟩ := x_bd h
    refine x_idiv dX8_partInLowestTerms_34 (x_n0_sp eu6) ?_
    refine x_i2l dX8_partInLowestTerms_35 ?_
    refine x_goto 43 dX8_partInLowestTerms_36 (by decide) ?_
    obtain rfl := Option.some.inj h
    exact x_lret dX8_partInLowestTerms_43 (Nat.le_of_ble_eq_true rfl) (Nat.le_of_ble_eq_true rfl)
  have h := (if_neg c3).symm.trans h
  refine x_ldc2 (v := (-9223372036854775808 : Int64)) dX8_partInLowestTerms_24 w_cn_RX8_291 ?_
  obtain rfl := Option.some.inj h
  exact x_lret dX8_partInLowestTerms_27 (Nat.le_of_ble_eq_true rfl) (Nat.le_of_ble_eq_true rfl)
def f_X8_partInLowestTerms (F : Nat) (a0 : Int32) (a1 : Int32) (a2 : Int32) (M : XM) : Option (Int64) := if a2 = 0 then j_X8_partInLowestTerms_13 F (a0) (a1) (a2) M else if a2 = (1 : Int32) then j_X8_partInLowestTerms_13 F (a0) (a1) (a2) M else some (-9223372036854775808 : Int64)
set_option maxHeartbeats 4000000 in
set_option maxRecDepth 100000 in
theorem c_X8_partInLowestTerms (l : Launch) (D : va_G) (aC : FieldType → ClassId) (bs sz : Nat) (F : Nat) {a0 : Int32} {a1 : Int32} {a2 : Int32} {M : XM} {r : Int64} (h : f_X8_partInLowestTerms F a0 a1 a2 M = some r) : x_Cn l D aC bs yX8_partInLowestTerms cX8_partInLowestTerms 4 (some .long) rm_X8_partInLowestTerms [.int a0, .int a1, .int a2] sz M (some (.long r)) sz M := by
  unfold f_X8_partInLowestTerms at h
  refine x_enter2 [(0, .int a0), (1, .int a1), (2, .int a2)] me_X8_partInLowestTerms (Nat.le_of_ble_eq_true rfl) rfl ?_
  refine x_iload_n dX8_partInLowestTerms_0 2 rfl ?_
  refine x_if_eq 13 dX8_partInLowestTerms_1 (by decide) (fun c1 => ?_) (fun c1 => ?_)
  · have h := (if_pos c1).symm.trans h
    exact jp_X8_partInLowestTerms_13 l D aC bs sz F (a0) (a1) (a2) M  h
  have h := (if_neg c1).symm.trans h
  refine x_iload_n dX8_partInLowestTerms_4 2 rfl ?_
  refine x_iconst (v := (1 : Int32)) dX8_partInLowestTerms_5 (by decide) ?_
  refine x_icmp_eq 13 dX8_partInLowestTerms_6 (by decide) (fun c7 => ?_) (fun c7 => ?_)
  · have h := (if_pos c7).symm.trans h
    exact jp_X8_partInLowestTerms_13 l D aC bs sz F (a0) (a1) (a2) M  h
  have h := (if_neg c7).symm.trans h
  refine x_ldc2 (v := (-9223372036854775808 : Int64)) dX8_partInLowestTerms_9 w_cn_RX8_291 ?_
  obtain rfl := Option.some.inj h
  exact x_lret dX8_partInLowestTerms_12 (Nat.le_of_ble_eq_true rfl) (Nat.le_of_ble_eq_true rfl)

-- SwappedIntervals.odds(I)J
abbrev rm_X8_odds : Room := { frames := 2, cells := 0, slots := 0, locals := 49 }
theorem me_X8_odds : x_Me yX8_odds cX8_odds 2 (some .long) 1 := ⟨by decide +kernel, w_co_yX8_odds, w_in_SwappedIntervals, by decide +kernel, by decide +kernel, by decide +kernel⟩
def f_X8_odds (F : Nat) (a0 : Nat) (a1 : Int32) (M : XM) : Option (Int64 × XM) := (x_gR M a0 8 5).bind fun v1 => (x_gR M a0 8 0).bind fun v2 => (x_gR M v2 4 0).bind fun v3 => (x_ob M v1 1).bind fun u4 => (f_X1_lay F v1 v3 M).bind fun p5 => (x_gR p5 a0 8 5).bind fun v6 => (x_ob p5 v6 1).bind fun u7 => (f_X1_goingDown F v6 p5).bind fun p8 => (x_gR p5 a0 8 5).bind fun v9 => (x_gI p5 v9 1 2).bind fun v10 => (f_X8_partInLowestTerms F p8 v10 a1 p5).bind fun p11 => some (p11, p5)
set_option maxHeartbeats 4000000 in
set_option maxRecDepth 100000 in
theorem c_X8_odds (l : Launch) (D : va_G) (aC : FieldType → ClassId) (bs sz : Nat) (F : Nat) {a0 : Nat} {a1 : Int32} {M : XM} {r : Int64 × XM} (h : f_X8_odds F a0 a1 M = some r) : x_Cn l D aC bs yX8_odds cX8_odds 2 (some .long) rm_X8_odds [.ref a0, .int a1] sz M (some (.long r.1)) sz r.2 := by
  unfold f_X8_odds at h
  refine x_enter2 [(0, .ref a0), (1, .int a1)] me_X8_odds (Nat.le_of_ble_eq_true rfl) rfl ?_
  refine x_aload_n dX8_odds_0 0 rfl ?_
  obtain ⟨v1, ev1, h⟩ := x_bd h
  refine x_getR clX8 w_fl_RX8_42 (by decide) dX8_odds_1 ev1 ?_
  refine x_aload_n dX8_odds_4 0 rfl ?_
  obtain ⟨v2, ev2, h⟩ := x_bd h
  refine x_getR clX8 w_fl_RX8_14 (by decide) dX8_odds_5 ev2 ?_
  obtain ⟨v3, ev3, h⟩ := x_bd h
  refine x_getR clX4 w_fl_RX8_67 (by decide) dX8_odds_8 ev3 ?_
  obtain ⟨u4, eu4, h⟩ := x_bd h
  obtain ⟨p5, ep5, h⟩ := x_bd h
  refine x_callVV [.ref v3] [] clX1 me_X1_lay w_ml_RX8_225 w_im_yX1_lay w_se_yX1_lay (Nat.le_of_ble_eq_true rfl) (Nat.le_of_ble_eq_true rfl) rfl (Nat.le_of_ble_eq_true rfl) (Nat.le_of_ble_eq_true rfl) (Nat.le_of_ble_eq_true rfl) dX8_odds_11 eu4 (c_X1_lay l D aC bs sz F ep5) rfl ?_
  refine x_aload_n dX8_odds_14 0 rfl ?_
  obtain ⟨v6, ev6, h⟩ := x_bd h
  refine x_getR clX8 w_fl_RX8_42 (by decide) dX8_odds_15 ev6 ?_
  obtain ⟨u7, eu7, h⟩ := x_bd h
  obtain ⟨p8, ep8, h⟩ := x_bd h
  refine x_callVI [] [] clX1 me_X1_goingDown w_ml_RX8_279 w_im_yX1_goingDown w_se_yX1_goingDown (Nat.le_of_ble_eq_true rfl) (Nat.le_of_ble_eq_true rfl) rfl (Nat.le_of_ble_eq_true rfl) (Nat.le_of_ble_eq_true rfl) (Nat.le_of_ble_eq_true rfl) dX8_odds_18 eu7 (c_X1_goingDown l D aC bs sz F ep8) rfl ?_
  refine x_aload_n dX8_odds_21 0 rfl ?_
  obtain ⟨v9, ev9, h⟩ := x_bd h
  refine x_getR clX8 w_fl_RX8_42 (by decide) dX8_odds_22 ev9 ?_
  obtain ⟨v10, ev10, h⟩ := x_bd h
  refine x_getI clX1 w_fl_RX8_282 (by decide) dX8_odds_25 ev10 ?_
  refine x_iload_n dX8_odds_28 1 rfl ?_
  obtain ⟨p11, ep11, h⟩ := x_bd h
  refine x_callSJ [.int p8, .int v10, .int a1] [] me_X8_partInLowestTerms w_ml_RX8_284 w_st_yX8_partInLowestTerms (Nat.le_of_ble_eq_true rfl) (Nat.le_of_ble_eq_true rfl) rfl (Nat.le_of_ble_eq_true rfl) (Nat.le_of_ble_eq_true rfl) (Nat.le_of_ble_eq_true rfl) dX8_odds_29 (c_X8_partInLowestTerms l D aC bs sz F ep11) rfl ?_
  obtain rfl := Option.some.inj h
  exact x_lret dX8_odds_32 (Nat.le_of_ble_eq_true rfl) (Nat.le_of_ble_eq_true rfl)

-- SwappedIntervals.mean(I)J
abbrev rm_X8_mean : Room := { frames := 2, cells := 0, slots := 0, locals := 49 }
theorem me_X8_mean : x_Me yX8_mean cX8_mean 2 (some .long) 1 := ⟨by decide +kernel, w_co_yX8_mean, w_in_SwappedIntervals, by decide +kernel, by decide +kernel, by decide +kernel⟩
def f_X8_mean (F : Nat) (a0 : Nat) (a1 : Int32) (M : XM) : Option (Int64 × XM) := (x_gR M a0 8 5).bind fun v1 => (x_gR M a0 8 0).bind fun v2 => (x_gR M v2 4 0).bind fun v3 => (x_ob M v1 1).bind fun u4 => (f_X1_lay F v1 v3 M).bind fun p5 => (x_gR p5 a0 8 5).bind fun v6 => (x_ob p5 v6 1).bind fun u7 => (f_X1_wayTogether F v6 p5).bind fun p8 => (x_gR p5 a0 8 5).bind fun v9 => (x_gI p5 v9 1 2).bind fun v10 => (f_X8_partInLowestTerms F p8 v10 a1 p5).bind fun p11 => some (p11, p5)
set_option maxHeartbeats 4000000 in
set_option maxRecDepth 100000 in
theorem c_X8_mean (l : Launch) (D : va_G) (aC : FieldType → ClassId) (bs sz : Nat) (F : Nat) {a0 : Nat} {a1 : Int32} {M : XM} {r : Int64 × XM} (h : f_X8_mean F a0 a1 M = some r) : x_Cn l D aC bs yX8_mean cX8_mean 2 (some .long) rm_X8_mean [.ref a0, .int a1] sz M (some (.long r.1)) sz r.2 := by
  unfold f_X8_mean at h
  refine x_enter2 [(0, .ref a0), (1, .int a1)] me_X8_mean (Nat.le_of_ble_eq_true rfl) rfl ?_
  refine x_aload_n dX8_mean_0 0 rfl ?_
  obtain ⟨v1, ev1, h⟩ := x_bd h
  refine x_getR clX8 w_fl_RX8_42 (by decide) dX8_mean_1 ev1 ?_
  refine x_aload_n dX8_mean_4 0 rfl ?_
  obtain ⟨v2, ev2, h⟩ := x_bd h
  refine x_getR clX8 w_fl_RX8_14 (by decide) dX8_mean_5 ev2 ?_
  obtain ⟨v3, ev3, h⟩ := x_bd h
  refine x_getR clX4 w_fl_RX8_67 (by decide) dX8_mean_8 ev3 ?_
  obtain ⟨u4, eu4, h⟩ := x_bd h
  obtain ⟨p5, ep5, h⟩ := x_bd h
  refine x_callVV [.ref v3] [] clX1 me_X1_lay w_ml_RX8_225 w_im_yX1_lay w_se_yX1_lay (Nat.le_of_ble_eq_true rfl) (Nat.le_of_ble_eq_true rfl) rfl (Nat.le_of_ble_eq_true rfl) (Nat.le_of_ble_eq_true rfl) (Nat.le_of_ble_eq_true rfl) dX8_mean_11 eu4 (c_X1_lay l D aC bs sz F ep5) rfl ?_
  refine x_aload_n dX8_mean_14 0 rfl ?_
  obtain ⟨v6, ev6, h⟩ := x_bd h
  refine x_getR clX8 w_fl_RX8_42 (by decide) dX8_mean_15 ev6 ?_
  obtain ⟨u7, eu7, h⟩ := x_bd h
  obtain ⟨p8, ep8, h⟩ := x_bd h
  refine x_callVI [] [] clX1 me_X1_wayTogether w_ml_RX8_288 w_im_yX1_wayTogether w_se_yX1_wayTogether (Nat.le_of_ble_eq_true rfl) (Nat.le_of_ble_eq_true rfl) rfl (Nat.le_of_ble_eq_true rfl) (Nat.le_of_ble_eq_true rfl) (Nat.le_of_ble_eq_true rfl) dX8_mean_18 eu7 (c_X1_wayTogether l D aC bs sz F ep8) rfl ?_
  refine x_aload_n dX8_mean_21 0 rfl ?_
  obtain ⟨v9, ev9, h⟩ := x_bd h
  refine x_getR clX8 w_fl_RX8_42 (by decide) dX8_mean_22 ev9 ?_
  obtain ⟨v10, ev10, h⟩ := x_bd h
  refine x_getI clX1 w_fl_RX8_282 (by decide) dX8_mean_25 ev10 ?_
  refine x_iload_n dX8_mean_28 1 rfl ?_
  obtain ⟨p11, ep11, h⟩ := x_bd h
  refine x_callSJ [.int p8, .int v10, .int a1] [] me_X8_partInLowestTerms w_ml_RX8_284 w_st_yX8_partInLowestTerms (Nat.le_of_ble_eq_true rfl) (Nat.le_of_ble_eq_true rfl) rfl (Nat.le_of_ble_eq_true rfl) (Nat.le_of_ble_eq_true rfl) (Nat.le_of_ble_eq_true rfl) dX8_mean_29 (c_X8_partInLowestTerms l D aC bs sz F ep11) rfl ?_
  obtain rfl := Option.some.inj h
  exact x_lret dX8_mean_32 (Nat.le_of_ble_eq_true rfl) (Nat.le_of_ble_eq_true rfl)

-- SwappedIntervals.event(II)I
abbrev rm_X8_event : Room := { frames := 1, cells := 0, slots := 0, locals := 22 }
theorem me_X8_event : x_Me yX8_event cX8_event 3 (some .int) 2 := ⟨by decide +kernel, w_co_yX8_event, w_in_SwappedIntervals, by decide +kernel, by decide +kernel, by decide +kernel⟩
def j_X8_event_73 (a0 : Nat) (a1 : Int32) (a2 : Int32) (M : XM)  : Option (Int32 × XM) := (x_gR M a0 8 0).bind fun v7 => (x_gR M v7 4 3).bind fun v8 => (x_ob M v8 2).bind fun u9 => (f_X2_add v8 a1 a2 M).bind fun p10 => some (p10.1, p10.2)
set_option maxHeartbeats 4000000 in
set_option maxRecDepth 100000 in
theorem jp_X8_event_73 (l : Launch) (D : va_G) (aC : FieldType → ClassId) (bs : Nat) (sz : Nat) (a0 : Nat) (a1 : Int32) (a2 : Int32) (M : XM)   {r : Int32 × XM} (h : j_X8_event_73 a0 a1 a2 M  = some r) : x_V l D aC bs yX8_event cX8_event 3 (some .int) rm_X8_event (x_Z D aC bs (some (.int r.1)) sz r.2 rm_X8_event) 73 [(0, .ref a0), (1, .int a1), (2, .int a2)] [] sz M 0 0 := by
  unfold j_X8_event_73 at h
  refine x_aload_n dX8_event_73 0 rfl ?_
  obtain ⟨v7, ev7, h⟩ := x_bd h
  refine x_getR clX8 w_fl_RX8_14 (by decide) dX8_event_74 ev7 ?_
  obtain ⟨v8, ev8, h⟩ := x_bd h
  refine x_getR clX4 w_fl_RX8_296 (by decide) dX8_event_77 ev8 ?_
  refine x_iload_n dX8_event_80 1 rfl ?_
  refine x_iload_n dX8_event_81 2 rfl ?_
  obtain ⟨u9, eu9, h⟩ := x_bd h
  obtain ⟨p10, ep10, h⟩ := x_bd h
  refine x_callVI [.int a1, .int a2] [] clX2 me_X2_add w_ml_RX8_270 w_im_yX2_add w_se_yX2_add (Nat.le_of_ble_eq_true rfl) (Nat.le_of_ble_eq_true rfl) rfl (Nat.le_of_ble_eq_true rfl) (Nat.le_of_ble_eq_true rfl) (Nat.le_of_ble_eq_true rfl) dX8_event_82 eu9 (c_X2_add l D aC bs sz ep10) rfl ?_
  obtain rfl := Option.some.inj h
  exact x_iret dX8_event_85 (Nat.le_of_ble_eq_true rfl) (Nat.le_of_ble_eq_true rfl)
def j_X8_event_62 (a0 : Nat) (a1 : Int32) (a2 : Int32) (M : XM)  : Option (Int32 × XM) := if a1 = 0 then if a2 = 0 then j_X8_event_73 (a0) (a1) (a2) M else some ((-2 : Int32), M) else j_X8_event_73 (a0) (a1) (a2) M
set_option maxHeartbeats 4000000 in
set_option maxRecDepth 100000 in
theorem jp_X8_event_62 (l : Launch) (D : va_G) (aC : FieldType → ClassId) (bs : Nat) (sz : Nat) (a0 : Nat) (a1 : Int32) (a2 : Int32) (M : XM)   {r : Int32 × XM} (h : j_X8_event_62 a0 a1 a2 M  = some r) : x_V l D aC bs yX8_event cX8_event 3 (some .int) rm_X8_event (x_Z D aC bs (some (.int r.1)) sz r.2 rm_X8_event) 62 [(0, .ref a0), (1, .int a1), (2, .int a2)] [] sz M 0 0 := by
  unfold j_X8_event_62 at h
  refine x_iload_n dX8_event_62 1 rfl ?_
  refine x_if_ne 73 dX8_event_63 (by decide) (fun c6 => ?_) (fun c6 => ?_)
  · have h := (if_neg c6).symm.trans h
    exact jp_X8_event_73 l D aC bs sz (a0) (a1) (a2) M  h
  have h := (if_pos c6).symm.trans h
  refine x_iload_n dX8_event_66 2 rfl ?_
  refine x_if_eq 73 dX8_event_67 (by decide) (fun c11 => ?_) (fun c11 => ?_)
  · have h := (if_pos c11).symm.trans h
    exact jp_X8_event_73 l D aC bs sz (a0) (a1) (a2) M  h
  have h := (if_neg c11).symm.trans h
  refine x_bipush (v := (-2 : Int32)) dX8_event_70 (by decide) ?_
  obtain rfl := Option.some.inj h
  exact x_iret dX8_event_72 (Nat.le_of_ble_eq_true rfl) (Nat.le_of_ble_eq_true rfl)
def j_X8_event_48 (a0 : Nat) (a1 : Int32) (a2 : Int32) (M : XM)  : Option (Int32 × XM) := if a1 = (2 : Int32) then (f_X8_isKind a2 M).bind fun p12 => if p12 = 0 then some ((-1 : Int32), M) else j_X8_event_62 (a0) (a1) (a2) M else j_X8_event_62 (a0) (a1) (a2) M
set_option maxHeartbeats 4000000 in
set_option maxRecDepth 100000 in
theorem jp_X8_event_48 (l : Launch) (D : va_G) (aC : FieldType → ClassId) (bs : Nat) (sz : Nat) (a0 : Nat) (a1 : Int32) (a2 : Int32) (M : XM)   {r : Int32 × XM} (h : j_X8_event_48 a0 a1 a2 M  = some r) : x_V l D aC bs yX8_event cX8_event 3 (some .int) rm_X8_event (x_Z D aC bs (some (.int r.1)) sz r.2 rm_X8_event) 48 [(0, .ref a0), (1, .int a1), (2, .int a2)] [] sz M 0 0 := by
  unfold j_X8_event_48 at h
  refine x_iload_n dX8_event_48 1 rfl ?_
  refine x_iconst (v := (2 : Int32)) dX8_event_49 (by decide) ?_
  refine x_icmp_ne 62 dX8_event_50 (by decide) (fun c5 => ?_) (fun c5 => ?_)
  · have h := (if_neg c5).symm.trans h
    exact jp_X8_event_62 l D aC bs sz (a0) (a1) (a2) M  h
  have h := (if_pos c5).symm.trans h
  refine x_iload_n dX8_event_53 2 rfl ?_
  obtain ⟨p12, ep12, h⟩ := x_bd h
  refine x_callSI [.int a2] [] me_X8_isKind w_ml_RX8_114 w_st_yX8_isKind (Nat.le_of_ble_eq_true rfl) (Nat.le_of_ble_eq_true rfl) rfl (Nat.le_of_ble_eq_true rfl) (Nat.le_of_ble_eq_true rfl) (Nat.le_of_ble_eq_true rfl) dX8_event_54 (c_X8_isKind l D aC bs sz ep12) rfl ?_
  refine x_if_ne 62 dX8_event_57 (by decide) (fun c13 => ?_) (fun c13 => ?_)
  · have h := (if_neg c13).symm.trans h
    exact jp_X8_event_62 l D aC bs sz (a0) (a1) (a2) M  h
  have h := (if_pos c13).symm.trans h
  refine x_iconst (v := (-1 : Int32)) dX8_event_60 (by decide) ?_
  obtain rfl := Option.some.inj h
  exact x_iret dX8_event_61 (Nat.le_of_ble_eq_true rfl) (Nat.le_of_ble_eq_true rfl)
def f_X8_event (a0 : Nat) (a1 : Int32) (a2 : Int32) (M : XM) : Option (Int32 × XM) := if a1 = (-1 : Int32) then (x_gR M a0 8 0).bind fun v19 => (x_gR M v19 4 3).bind fun v20 => (x_ob M v20 2).bind fun u21 => (f_X2_clear v20 M).bind fun p22 => some (p22.1, p22.2) else if a1 < 0 then some ((-1 : Int32), M) else if a1 ≤ (2 : Int32) then if a1 = (1 : Int32) then (x_gR M a0 8 0).bind fun v14 => (x_gR M v14 4 0).bind fun v15 => (x_ob M v15 3).bind fun u16 => (f_X3_hasLetter v15 a2 M).bind fun p17 => if p17 = 0 then some ((-1 : Int32), M) else j_X8_event_48 (a0) (a1) (a2) M else j_X8_event_48 (a0) (a1) (a2) M else some ((-1 : Int32), M)
set_option maxHeartbeats 4000000 in
set_option maxRecDepth 100000 in
theorem c_X8_event (l : Launch) (D : va_G) (aC : FieldType → ClassId) (bs sz : Nat) {a0 : Nat} {a1 : Int32} {a2 : Int32} {M : XM} {r : Int32 × XM} (h : f_X8_event a0 a1 a2 M = some r) : x_Cn l D aC bs yX8_event cX8_event 3 (some .int) rm_X8_event [.ref a0, .int a1, .int a2] sz M (some (.int r.1)) sz r.2 := by
  unfold f_X8_event at h
  refine x_enter2 [(0, .ref a0), (1, .int a1), (2, .int a2)] me_X8_event (Nat.le_of_ble_eq_true rfl) rfl ?_
  refine x_iload_n dX8_event_0 1 rfl ?_
  refine x_iconst (v := (-1 : Int32)) dX8_event_1 (by decide) ?_
  refine x_icmp_ne 16 dX8_event_2 (by decide) (fun c1 => ?_) (fun c1 => ?_)
  · have h := (if_neg c1).symm.trans h
    refine x_iload_n dX8_event_16 1 rfl ?_
    refine x_if_lt 25 dX8_event_17 (by decide) (fun c2 => ?_) (fun c2 => ?_)
    · have h := (if_pos c2).symm.trans h
      refine x_iconst (v := (-1 : Int32)) dX8_event_25 (by decide) ?_
      obtain rfl := Option.some.inj h
      exact x_iret dX8_event_26 (Nat.le_of_ble_eq_true rfl) (Nat.le_of_ble_eq_true rfl)
    have h := (if_neg c2).symm.trans h
    refine x_iload_n dX8_event_20 1 rfl ?_
    refine x_iconst (v := (2 : Int32)) dX8_event_21 (by decide) ?_
    refine x_icmp_le 27 dX8_event_22 (by decide) (fun c3 => ?_) (fun c3 => ?_)
    · have h := (if_pos c3).symm.trans h
      refine x_iload_n dX8_event_27 1 rfl ?_
      refine x_iconst (v := (1 : Int32)) dX8_event_28 (by decide) ?_
      refine x_icmp_ne 48 dX8_event_29 (by decide) (fun c4 => ?_) (fun c4 => ?_)
      · have h := (if_neg c4).symm.trans h
        exact jp_X8_event_48 l D aC bs sz (a0) (a1) (a2) M  h
      have h := (if_pos c4).symm.trans h
      refine x_aload_n dX8_event_32 0 rfl ?_
      obtain ⟨v14, ev14, h⟩ := x_bd h
      refine x_getR clX8 w_fl_RX8_14 (by decide) dX8_event_33 ev14 ?_
      obtain ⟨v15, ev15, h⟩ := x_bd h
      refine x_getR clX4 w_fl_RX8_67 (by decide) dX8_event_36 ev15 ?_
      refine x_iload_n dX8_event_39 2 rfl ?_
      obtain ⟨u16, eu16, h⟩ := x_bd h
      obtain ⟨p17, ep17, h⟩ := x_bd h
      refine x_callVI [.int a2] [] clX3 me_X3_hasLetter w_ml_RX8_88 w_im_yX3_hasLetter w_se_yX3_hasLetter (Nat.le_of_ble_eq_true rfl) (Nat.le_of_ble_eq_true rfl) rfl (Nat.le_of_ble_eq_true rfl) (Nat.le_of_ble_eq_true rfl) (Nat.le_of_ble_eq_true rfl) dX8_event_40 eu16 (c_X3_hasLetter l D aC bs sz ep17) rfl ?_
      refine x_if_ne 48 dX8_event_43 (by decide) (fun c18 => ?_) (fun c18 => ?_)
      · have h := (if_neg c18).symm.trans h
        exact jp_X8_event_48 l D aC bs sz (a0) (a1) (a2) M  h
      have h := (if_pos c18).symm.trans h
      refine x_iconst (v := (-1 : Int32)) dX8_event_46 (by decide) ?_
      obtain rfl := Option.some.inj h
      exact x_iret dX8_event_47 (Nat.le_of_ble_eq_true rfl) (Nat.le_of_ble_eq_true rfl)
    have h := (if_neg c3).symm.trans h
    refine x_iconst (v := (-1 : Int32)) dX8_event_25 (by decide) ?_
    obtain rfl := Option.some.inj h
    exact x_iret dX8_event_26 (Nat.le_of_ble_eq_true rfl) (Nat.le_of_ble_eq_true rfl)
  have h := (if_pos c1).symm.trans h
  refine x_aload_n dX8_event_5 0 rfl ?_
  obtain ⟨v19, ev19, h⟩ := x_bd h
  refine x_getR clX8 w_fl_RX8_14 (by decide) dX8_event_6 ev19 ?_
  obtain ⟨v20, ev20, h⟩ := x_bd h
  refine x_getR clX4 w_fl_RX8_296 (by decide) dX8_event_9 ev20 ?_
  obtain ⟨u21, eu21, h⟩ := x_bd h
  obtain ⟨p22, ep22, h⟩ := x_bd h
  refine x_callVI [] [] clX2 me_X2_clear w_ml_RX8_263 w_im_yX2_clear w_se_yX2_clear (Nat.le_of_ble_eq_true rfl) (Nat.le_of_ble_eq_true rfl) rfl (Nat.le_of_ble_eq_true rfl) (Nat.le_of_ble_eq_true rfl) (Nat.le_of_ble_eq_true rfl) dX8_event_12 eu21 (c_X2_clear l D aC bs sz ep22) rfl ?_
  obtain rfl := Option.some.inj h
  exact x_iret dX8_event_15 (Nat.le_of_ble_eq_true rfl) (Nat.le_of_ble_eq_true rfl)

-- SwappedIntervals.after(I)I
abbrev rm_X8_after : Room := { frames := 4, cells := 0, slots := 0, locals := 94 }
theorem me_X8_after : x_Me yX8_after cX8_after 3 (some .int) 1 := ⟨by decide +kernel, w_co_yX8_after, w_in_SwappedIntervals, by decide +kernel, by decide +kernel, by decide +kernel⟩
def b_X8_after_27 (F : Nat) (a0 : Nat) (a1 : Int32)  (k27 : (Int32 × XM) → Option (Int32 × XM)) (q : Int32 × XM) : Option (Int32 × XM) := (x_gR q.2 a0 8 0).bind fun v8 => (x_gR q.2 v8 4 3).bind fun v9 => (x_gI q.2 v9 2 2).bind fun v10 => if v10 ≤ q.1 then if a1 = (0 : Int32) then (x_gR q.2 a0 8 7).bind fun v13 => (x_ob q.2 v13 3).bind fun u14 => (f_X3_points F v13 q.2).bind fun p15 => some (p15, q.2) else if a1 = (1 : Int32) then (x_gR q.2 a0 8 7).bind fun v17 => (x_ob q.2 v17 3).bind fun u18 => (f_X3_codeNow F v17 q.2).bind fun p19 => some (p19, q.2) else (x_gR q.2 a0 8 7).bind fun v20 => (x_ob q.2 v20 3).bind fun u21 => (f_X3_isWhole F v20 q.2).bind fun p22 => if p22 = 0 then some ((0 : Int32), q.2) else some ((1 : Int32), q.2) else (x_gR q.2 a0 8 7).bind fun v24 => (x_gR q.2 a0 8 0).bind fun v25 => (x_gR q.2 v25 4 3).bind fun v26 => (x_gR q.2 v26 2 0).bind fun v27 => (x_a32 .int q.2 v27 q.1).bind fun v28 => (x_gR q.2 a0 8 0).bind fun v29 => (x_gR q.2 v29 4 3).bind fun v30 => (x_gR q.2 v30 2 1).bind fun v31 => (x_a32 .int q.2 v31 q.1).bind fun v32 => (x_ob q.2 v24 3).bind fun u33 => (f_X3_happen F v24 v28 v32 q.2).bind fun p34 => k27 ((q.1 + (1 : Int32)), p34)
set_option maxHeartbeats 4000000 in
set_option maxRecDepth 100000 in
theorem lp_X8_after_27 (l : Launch) (D : va_G) (aC : FieldType → ClassId) (bs : Nat) (sz : Nat) (F : Nat) (a0 : Nat) (a1 : Int32)   : ∀ (n : Nat) (b0 : Int32) (b1 : XM) (r : Int32 × XM), x_it (b_X8_after_27 F a0 a1 ) n (b0, b1) = some r → x_V l D aC bs yX8_after cX8_after 3 (some .int) rm_X8_after (x_Z D aC bs (some (.int r.1)) sz r.2 rm_X8_after) 27 [(0, .ref a0), (1, .int a1), (2, .int b0)] [] sz b1 0 0 := by
  suffices H : ∀ (n : Nat) (q : Int32 × XM) (r : Int32 × XM), x_it (b_X8_after_27 F a0 a1 ) n q = some r → x_V l D aC bs yX8_after cX8_after 3 (some .int) rm_X8_after (x_Z D aC bs (some (.int r.1)) sz r.2 rm_X8_after) 27 [(0, .ref a0), (1, .int a1), (2, .int q.1)] [] sz q.2 0 0 from fun n b0 b1 r h => H n (b0, b1) r h
  refine x_loop (P := fun (q : Int32 × XM) (r : Int32 × XM) => x_V l D aC bs yX8_after cX8_after 3 (some .int) rm_X8_after (x_Z D aC bs (some (.int r.1)) sz r.2 rm_X8_after) 27 [(0, .ref a0), (1, .int a1), (2, .int q.1)] [] sz q.2 0 0) (fun k27 hk0 q r h => ?_)
  have hk27 : ∀ (b0 : Int32) (b1 : XM) (r : Int32 × XM), k27 (b0, b1) = some r → x_V l D aC bs yX8_after cX8_after 3 (some .int) rm_X8_after (x_Z D aC bs (some (.int r.1)) sz r.2 rm_X8_after) 27 [(0, .ref a0), (1, .int a1), (2, .int b0)] [] sz b1 0 0 := fun b0 b1 r h => hk0 (b0, b1) r h
  unfold b_X8_after_27 at h
  refine x_iload_n dX8_after_27 2 rfl ?_
  refine x_aload_n dX8_after_28 0 rfl ?_
  obtain ⟨v8, ev8, h⟩ := x_bd h
  refine x_getR clX8 w_fl_RX8_14 (by decide) dX8_after_29 ev8 ?_
  obtain ⟨v9, ev9, h⟩ := x_bd h
  refine x_getR clX4 w_fl_RX8_296 (by decide) dX8_after_32 ev9 ?_
  obtain ⟨v10, ev10, h⟩ := x_bd h
  refine x_getI clX2 w_fl_RX8_276 (by decide) dX8_after_35 ev10 ?_
  refine x_icmp_ge 78 dX8_after_38 (by decide) (fun c11 => ?_) (fun c11 => ?_)
  · have h := (if_pos c11).symm.trans h
    refine x_iload_n dX8_after_78 1 rfl ?_
    by_cases c12 : a1 = (0 : Int32)
    · have h := (if_pos c12).symm.trans h
      refine x_lkup 104 dX8_after_79 (by decide) (by rw [c12] <;> rfl) (by decide) ?_
      refine x_aload_n dX8_after_104 0 rfl ?_
      obtain ⟨v13, ev13, h⟩ := x_bd h
      refine x_getR clX8 w_fl_RX8_56 (by decide) dX8_after_105 ev13 ?_
      obtain ⟨u14, eu14, h⟩ := x_bd h
      obtain ⟨p15, ep15, h⟩ := x_bd h
      refine x_callVI [] [] clX3 me_X3_points w_ml_RX8_124 w_im_yX3_points w_se_yX3_points (Nat.le_of_ble_eq_true rfl) (Nat.le_of_ble_eq_true rfl) rfl (Nat.le_of_ble_eq_true rfl) (Nat.le_of_ble_eq_true rfl) (Nat.le_of_ble_eq_true rfl) dX8_after_108 eu14 (c_X3_points l D aC bs sz F ep15) rfl ?_
      obtain rfl := Option.some.inj h
      exact x_iret dX8_after_111 (Nat.le_of_ble_eq_true rfl) (Nat.le_of_ble_eq_true rfl)
    have h := (if_neg c12).symm.trans h
    by_cases c16 : a1 = (1 : Int32)
    · have h := (if_pos c16).symm.trans h
      refine x_lkup 112 dX8_after_79 (by decide) (by rw [c16] <;> rfl) (by decide) ?_
      refine x_aload_n dX8_after_112 0 rfl ?_
      obtain ⟨v17, ev17, h⟩ := x_bd h
      refine x_getR clX8 w_fl_RX8_56 (by decide) dX8_after_113 ev17 ?_
      obtain ⟨u18, eu18, h⟩ := x_bd h
      obtain ⟨p19, ep19, h⟩ := x_bd h
      refine x_callVI [] [] clX3 me_X3_codeNow w_ml_RX8_133 w_im_yX3_codeNow w_se_yX3_codeNow (Nat.le_of_ble_eq_true rfl) (Nat.le_of_ble_eq_true rfl) rfl (Nat.le_of_ble_eq_true rfl) (Nat.le_of_ble_eq_true rfl) (Nat.le_of_ble_eq_true rfl) dX8_after_116 eu18 (c_X3_codeNow l D aC bs sz F ep19) rfl ?_
      obtain rfl := Option.some.inj h
      exact x_iret dX8_after_119 (Nat.le_of_ble_eq_true rfl) (Nat.le_of_ble_eq_true rfl)
    have h := (if_neg c16).symm.trans h
    have nc12 := lv_neT c12 (a := 0) (by decide)
    have nc16 := lv_neT c16 (a := 1) (by decide)
    refine x_lkup 120 dX8_after_79 (by decide) (off := 41) (by simp [Op.lookupswitch.offset, Ne.symm nc12, Ne.symm nc16]) (by decide) ?_
    refine x_aload_n dX8_after_120 0 rfl ?_
    obtain ⟨v20, ev20, h⟩ := x_bd h
    refine x_getR clX8 w_fl_RX8_56 (by decide) dX8_after_121 ev20 ?_
    obtain ⟨u21, eu21, h⟩ := x_bd h
    obtain ⟨p22, ep22, h⟩ := x_bd h
    refine x_callVI [] [] clX3 me_X3_isWhole w_ml_RX8_194 w_im_yX3_isWhole w_se_yX3_isWhole (Nat.le_of_ble_eq_true rfl) (Nat.le_of_ble_eq_true rfl) rfl (Nat.le_of_ble_eq_true rfl) (Nat.le_of_ble_eq_true rfl) (Nat.le_of_ble_eq_true rfl) dX8_after_124 eu21 (c_X3_isWhole l D aC bs sz F ep22) rfl ?_
    refine x_if_eq 134 dX8_after_127 (by decide) (fun c23 => ?_) (fun c23 => ?_)
    · have h := (if_pos c23).symm.trans h
      refine x_iconst (v := (0 : Int32)) dX8_after_134 (by decide) ?_
      obtain rfl := Option.some.inj h
      exact x_iret dX8_after_135 (Nat.le_of_ble_eq_true rfl) (Nat.le_of_ble_eq_true rfl)
    have h := (if_neg c23).symm.trans h
    refine x_iconst (v := (1 : Int32)) dX8_after_130 (by decide) ?_
    refine x_goto 135 dX8_after_131 (by decide) ?_
    obtain rfl := Option.some.inj h
    exact x_iret dX8_after_135 (Nat.le_of_ble_eq_true rfl) (Nat.le_of_ble_eq_true rfl)
  have h := (if_neg c11).symm.trans h
  refine x_aload_n dX8_after_41 0 rfl ?_
  obtain ⟨v24, ev24, h⟩ := x_bd h
  refine x_getR clX8 w_fl_RX8_56 (by decide) dX8_after_42 ev24 ?_
  refine x_aload_n dX8_after_45 0 rfl ?_
  obtain ⟨v25, ev25, h⟩ := x_bd h
  refine x_getR clX8 w_fl_RX8_14 (by decide) dX8_after_46 ev25 ?_
  obtain ⟨v26, ev26, h⟩ := x_bd h
  refine x_getR clX4 w_fl_RX8_296 (by decide) dX8_after_49 ev26 ?_
  obtain ⟨v27, ev27, h⟩ := x_bd h
  refine x_getR clX2 w_fl_RX8_277 (by decide) dX8_after_52 ev27 ?_
  refine x_iload_n dX8_after_55 2 rfl ?_
  obtain ⟨v28, ev28, h⟩ := x_bd h
  refine x_iald dX8_after_56 ev28 ?_
  refine x_aload_n dX8_after_57 0 rfl ?_
  obtain ⟨v29, ev29, h⟩ := x_bd h
  refine x_getR clX8 w_fl_RX8_14 (by decide) dX8_after_58 ev29 ?_
  obtain ⟨v30, ev30, h⟩ := x_bd h
  refine x_getR clX4 w_fl_RX8_296 (by decide) dX8_after_61 ev30 ?_
  obtain ⟨v31, ev31, h⟩ := x_bd h
  refine x_getR clX2 w_fl_RX8_278 (by decide) dX8_after_64 ev31 ?_
  refine x_iload_n dX8_after_67 2 rfl ?_
  obtain ⟨v32, ev32, h⟩ := x_bd h
  refine x_iald dX8_after_68 ev32 ?_
  obtain ⟨u33, eu33, h⟩ := x_bd h
  obtain ⟨p34, ep34, h⟩ := x_bd h
  refine x_callVV [.int v28, .int v32] [] clX3 me_X3_happen w_ml_RX8_299 w_im_yX3_happen w_se_yX3_happen (Nat.le_of_ble_eq_true rfl) (Nat.le_of_ble_eq_true rfl) rfl (Nat.le_of_ble_eq_true rfl) (Nat.le_of_ble_eq_true rfl) (Nat.le_of_ble_eq_true rfl) dX8_after_69 eu33 (c_X3_happen l D aC bs sz F ep34) rfl ?_
  refine x_iinc (1 : Int32) 2 [(2, .int (q.1 + (1 : Int32))), (0, .ref a0), (1, .int a1)] dX8_after_72 rfl (by decide) (by decide) rfl ?_
  refine x_goto 27 dX8_after_75 (by decide) ?_
  exact x_sub [1, 2, 0] rfl (hk27 _ _ _ h)
def f_X8_after (F : Nat) (a0 : Nat) (a1 : Int32) (M : XM) : Option (Int32 × XM) := if a1 < 0 then some ((-1 : Int32), M) else if a1 ≤ (2 : Int32) then (x_gR M a0 8 7).bind fun v3 => (x_gR M a0 8 0).bind fun v4 => (x_gR M v4 4 0).bind fun v5 => (x_ob M v3 3).bind fun u6 => (f_X3_copyFrom F v3 v5 M).bind fun p7 => x_it (b_X8_after_27 F (a0) (a1)) F ((0 : Int32), p7) else some ((-1 : Int32), M)
set_option maxHeartbeats 4000000 in
set_option maxRecDepth 100000 in
theorem c_X8_after (l : Launch) (D : va_G) (aC : FieldType → ClassId) (bs sz : Nat) (F : Nat) {a0 : Nat} {a1 : Int32} {M : XM} {r : Int32 × XM} (h : f_X8_after F a0 a1 M = some r) : x_Cn l D aC bs yX8_after cX8_after 3 (some .int) rm_X8_after [.ref a0, .int a1] sz M (some (.int r.1)) sz r.2 := by
  unfold f_X8_after at h
  refine x_enter2 [(0, .ref a0), (1, .int a1)] me_X8_after (Nat.le_of_ble_eq_true rfl) rfl ?_
  refine x_iload_n dX8_after_0 1 rfl ?_
  refine x_if_lt 9 dX8_after_1 (by decide) (fun c1 => ?_) (fun c1 => ?_)
  · have h := (if_pos c1).symm.trans h
    refine x_iconst (v := (-1 : Int32)) dX8_after_9 (by decide) ?_
    obtain rfl := Option.some.inj h
    exact x_iret dX8_after_10 (Nat.le_of_ble_eq_true rfl) (Nat.le_of_ble_eq_true rfl)
  have h := (if_neg c1).symm.trans h
  refine x_iload_n dX8_after_4 1 rfl ?_
  refine x_iconst (v := (2 : Int32)) dX8_after_5 (by decide) ?_
  refine x_icmp_le 11 dX8_after_6 (by decide) (fun c2 => ?_) (fun c2 => ?_)
  · have h := (if_pos c2).symm.trans h
    refine x_aload_n dX8_after_11 0 rfl ?_
    obtain ⟨v3, ev3, h⟩ := x_bd h
    refine x_getR clX8 w_fl_RX8_56 (by decide) dX8_after_12 ev3 ?_
    refine x_aload_n dX8_after_15 0 rfl ?_
    obtain ⟨v4, ev4, h⟩ := x_bd h
    refine x_getR clX8 w_fl_RX8_14 (by decide) dX8_after_16 ev4 ?_
    obtain ⟨v5, ev5, h⟩ := x_bd h
    refine x_getR clX4 w_fl_RX8_67 (by decide) dX8_after_19 ev5 ?_
    obtain ⟨u6, eu6, h⟩ := x_bd h
    obtain ⟨p7, ep7, h⟩ := x_bd h
    refine x_callVV [.ref v5] [] clX3 me_X3_copyFrom w_ml_RX8_229 w_im_yX3_copyFrom w_se_yX3_copyFrom (Nat.le_of_ble_eq_true rfl) (Nat.le_of_ble_eq_true rfl) rfl (Nat.le_of_ble_eq_true rfl) (Nat.le_of_ble_eq_true rfl) (Nat.le_of_ble_eq_true rfl) dX8_after_22 eu6 (c_X3_copyFrom l D aC bs sz F ep7) rfl ?_
    refine x_iconst (v := (0 : Int32)) dX8_after_25 (by decide) ?_
    refine x_istore_n 2 [(2, .int (0 : Int32)), (0, .ref a0), (1, .int a1)] dX8_after_26 rfl (by decide) rfl ?_
    exact x_sub [1, 2, 0] rfl (lp_X8_after_27 l D aC bs sz F (a0) (a1)  F _ _ _ h)
  have h := (if_neg c2).symm.trans h
  refine x_iconst (v := (-1 : Int32)) dX8_after_9 (by decide) ?_
  obtain rfl := Option.some.inj h
  exact x_iret dX8_after_10 (Nat.le_of_ble_eq_true rfl) (Nat.le_of_ble_eq_true rfl)

-- SwappedIntervals.book(II)I
abbrev rm_X8_book : Room := { frames := 1, cells := 0, slots := 0, locals := 22 }
theorem me_X8_book : x_Me yX8_book cX8_book 3 (some .int) 2 := ⟨by decide +kernel, w_co_yX8_book, w_in_SwappedIntervals, by decide +kernel, by decide +kernel, by decide +kernel⟩
def f_X8_book (a0 : Nat) (a1 : Int32) (a2 : Int32) (M : XM) : Option (Int32 × XM) := if a1 = (-1 : Int32) then (x_gR M a0 8 0).bind fun v13 => (x_gR M v13 4 4).bind fun v14 => (x_ob M v14 2).bind fun u15 => (f_X2_clear v14 M).bind fun p16 => some (p16.1, p16.2) else (x_gR M a0 8 0).bind fun v2 => (x_gR M v2 4 0).bind fun v3 => (x_ob M v3 3).bind fun u4 => (f_X3_hasLetter v3 a1 M).bind fun p5 => if p5 = 0 then some ((-1 : Int32), M) else (f_X8_isLength a2 M).bind fun p7 => if p7 = 0 then some ((-2 : Int32), M) else (x_gR M a0 8 0).bind fun v9 => (x_gR M v9 4 4).bind fun v10 => (x_ob M v10 2).bind fun u11 => (f_X2_add v10 a1 a2 M).bind fun p12 => some (p12.1, p12.2)
set_option maxHeartbeats 4000000 in
set_option maxRecDepth 100000 in
theorem c_X8_book (l : Launch) (D : va_G) (aC : FieldType → ClassId) (bs sz : Nat) {a0 : Nat} {a1 : Int32} {a2 : Int32} {M : XM} {r : Int32 × XM} (h : f_X8_book a0 a1 a2 M = some r) : x_Cn l D aC bs yX8_book cX8_book 3 (some .int) rm_X8_book [.ref a0, .int a1, .int a2] sz M (some (.int r.1)) sz r.2 := by
  unfold f_X8_book at h
  refine x_enter2 [(0, .ref a0), (1, .int a1), (2, .int a2)] me_X8_book (Nat.le_of_ble_eq_true rfl) rfl ?_
  refine x_iload_n dX8_book_0 1 rfl ?_
  refine x_iconst (v := (-1 : Int32)) dX8_book_1 (by decide) ?_
  refine x_icmp_ne 16 dX8_book_2 (by decide) (fun c1 => ?_) (fun c1 => ?_)
  · have h := (if_neg c1).symm.trans h
    refine x_aload_n dX8_book_16 0 rfl ?_
    obtain ⟨v2, ev2, h⟩ := x_bd h
    refine x_getR clX8 w_fl_RX8_14 (by decide) dX8_book_17 ev2 ?_
    obtain ⟨v3, ev3, h⟩ := x_bd h
    refine x_getR clX4 w_fl_RX8_67 (by decide) dX8_book_20 ev3 ?_
    refine x_iload_n dX8_book_23 1 rfl ?_
    obtain ⟨u4, eu4, h⟩ := x_bd h
    obtain ⟨p5, ep5, h⟩ := x_bd h
    refine x_callVI [.int a1] [] clX3 me_X3_hasLetter w_ml_RX8_88 w_im_yX3_hasLetter w_se_yX3_hasLetter (Nat.le_of_ble_eq_true rfl) (Nat.le_of_ble_eq_true rfl) rfl (Nat.le_of_ble_eq_true rfl) (Nat.le_of_ble_eq_true rfl) (Nat.le_of_ble_eq_true rfl) dX8_book_24 eu4 (c_X3_hasLetter l D aC bs sz ep5) rfl ?_
    refine x_if_ne 32 dX8_book_27 (by decide) (fun c6 => ?_) (fun c6 => ?_)
    · have h := (if_neg c6).symm.trans h
      refine x_iload_n dX8_book_32 2 rfl ?_
      obtain ⟨p7, ep7, h⟩ := x_bd h
      refine x_callSI [.int a2] [] me_X8_isLength w_ml_RX8_92 w_st_yX8_isLength (Nat.le_of_ble_eq_true rfl) (Nat.le_of_ble_eq_true rfl) rfl (Nat.le_of_ble_eq_true rfl) (Nat.le_of_ble_eq_true rfl) (Nat.le_of_ble_eq_true rfl) dX8_book_33 (c_X8_isLength l D aC bs sz ep7) rfl ?_
      refine x_if_ne 42 dX8_book_36 (by decide) (fun c8 => ?_) (fun c8 => ?_)
      · have h := (if_neg c8).symm.trans h
        refine x_aload_n dX8_book_42 0 rfl ?_
        obtain ⟨v9, ev9, h⟩ := x_bd h
        refine x_getR clX8 w_fl_RX8_14 (by decide) dX8_book_43 ev9 ?_
        obtain ⟨v10, ev10, h⟩ := x_bd h
        refine x_getR clX4 w_fl_RX8_302 (by decide) dX8_book_46 ev10 ?_
        refine x_iload_n dX8_book_49 1 rfl ?_
        refine x_iload_n dX8_book_50 2 rfl ?_
        obtain ⟨u11, eu11, h⟩ := x_bd h
        obtain ⟨p12, ep12, h⟩ := x_bd h
        refine x_callVI [.int a1, .int a2] [] clX2 me_X2_add w_ml_RX8_270 w_im_yX2_add w_se_yX2_add (Nat.le_of_ble_eq_true rfl) (Nat.le_of_ble_eq_true rfl) rfl (Nat.le_of_ble_eq_true rfl) (Nat.le_of_ble_eq_true rfl) (Nat.le_of_ble_eq_true rfl) dX8_book_51 eu11 (c_X2_add l D aC bs sz ep12) rfl ?_
        obtain rfl := Option.some.inj h
        exact x_iret dX8_book_54 (Nat.le_of_ble_eq_true rfl) (Nat.le_of_ble_eq_true rfl)
      have h := (if_pos c8).symm.trans h
      refine x_bipush (v := (-2 : Int32)) dX8_book_39 (by decide) ?_
      obtain rfl := Option.some.inj h
      exact x_iret dX8_book_41 (Nat.le_of_ble_eq_true rfl) (Nat.le_of_ble_eq_true rfl)
    have h := (if_pos c6).symm.trans h
    refine x_iconst (v := (-1 : Int32)) dX8_book_30 (by decide) ?_
    obtain rfl := Option.some.inj h
    exact x_iret dX8_book_31 (Nat.le_of_ble_eq_true rfl) (Nat.le_of_ble_eq_true rfl)
  have h := (if_pos c1).symm.trans h
  refine x_aload_n dX8_book_5 0 rfl ?_
  obtain ⟨v13, ev13, h⟩ := x_bd h
  refine x_getR clX8 w_fl_RX8_14 (by decide) dX8_book_6 ev13 ?_
  obtain ⟨v14, ev14, h⟩ := x_bd h
  refine x_getR clX4 w_fl_RX8_302 (by decide) dX8_book_9 ev14 ?_
  obtain ⟨u15, eu15, h⟩ := x_bd h
  obtain ⟨p16, ep16, h⟩ := x_bd h
  refine x_callVI [] [] clX2 me_X2_clear w_ml_RX8_263 w_im_yX2_clear w_se_yX2_clear (Nat.le_of_ble_eq_true rfl) (Nat.le_of_ble_eq_true rfl) rfl (Nat.le_of_ble_eq_true rfl) (Nat.le_of_ble_eq_true rfl) (Nat.le_of_ble_eq_true rfl) dX8_book_12 eu15 (c_X2_clear l D aC bs sz ep16) rfl ?_
  obtain rfl := Option.some.inj h
  exact x_iret dX8_book_15 (Nat.le_of_ble_eq_true rfl) (Nat.le_of_ble_eq_true rfl)

-- SwappedIntervals.looked()I
abbrev rm_X8_looked : Room := { frames := 1, cells := 0, slots := 0, locals := 21 }
theorem me_X8_looked : x_Me yX8_looked cX8_looked 3 (some .int) 0 := ⟨by decide +kernel, w_co_yX8_looked, w_in_SwappedIntervals, by decide +kernel, by decide +kernel, by decide +kernel⟩
def b_X8_looked_2 (F : Nat) (a0 : Nat) (M : XM)  (k2 : Int32 → Option (Int32)) (q : Int32) : Option (Int32) := (x_gR M a0 8 0).bind fun v1 => (x_gR M v1 4 4).bind fun v2 => (x_gI M v2 2 2).bind fun v3 => if v3 ≤ q then some (-5 : Int32) else (x_gR M a0 8 0).bind fun v5 => (x_gR M v5 4 4).bind fun v6 => (x_gR M v6 2 0).bind fun v7 => (x_a32 .int M v7 q).bind fun v8 => (x_gR M a0 8 0).bind fun v9 => (x_gR M v9 4 0).bind fun v10 => (x_ob M v10 3).bind fun u11 => (f_X3_hasLetter v10 v8 M).bind fun p12 => if p12 = 0 then some q else (x_gR M a0 8 0).bind fun v14 => (x_gR M v14 4 0).bind fun v15 => (x_gR M v15 3 3).bind fun v16 => (x_a32 .int M v16 v8).bind fun v17 => (x_gR M a0 8 0).bind fun v18 => (x_gR M v18 4 4).bind fun v19 => (x_gR M v19 2 1).bind fun v20 => (x_a32 .int M v20 q).bind fun v21 => if v17 = v21 then k2 (q + (1 : Int32)) else some q
set_option maxHeartbeats 4000000 in
set_option maxRecDepth 100000 in
theorem lp_X8_looked_2 (l : Launch) (D : va_G) (aC : FieldType → ClassId) (bs : Nat) (sz : Nat) (F : Nat) (a0 : Nat) (M : XM)   : ∀ (n : Nat) (b0 : Int32) (r : Int32), x_it (b_X8_looked_2 F a0 M ) n b0 = some r → x_V l D aC bs yX8_looked cX8_looked 3 (some .int) rm_X8_looked (x_Z D aC bs (some (.int r)) sz M rm_X8_looked) 2 [(0, .ref a0), (1, .int b0)] [] sz M 0 0 := by
  suffices H : ∀ (n : Nat) (q : Int32) (r : Int32), x_it (b_X8_looked_2 F a0 M ) n q = some r → x_V l D aC bs yX8_looked cX8_looked 3 (some .int) rm_X8_looked (x_Z D aC bs (some (.int r)) sz M rm_X8_looked) 2 [(0, .ref a0), (1, .int q)] [] sz M 0 0 from fun n b0 r h => H n b0 r h
  refine x_loop (P := fun (q : Int32) (r : Int32) => x_V l D aC bs yX8_looked cX8_looked 3 (some .int) rm_X8_looked (x_Z D aC bs (some (.int r)) sz M rm_X8_looked) 2 [(0, .ref a0), (1, .int q)] [] sz M 0 0) (fun k2 hk0 q r h => ?_)
  have hk2 : ∀ (b0 : Int32) (r : Int32), k2 b0 = some r → x_V l D aC bs yX8_looked cX8_looked 3 (some .int) rm_X8_looked (x_Z D aC bs (some (.int r)) sz M rm_X8_looked) 2 [(0, .ref a0), (1, .int b0)] [] sz M 0 0 := fun b0 r h => hk0 b0 r h
  unfold b_X8_looked_2 at h
  refine x_iload_n dX8_looked_2 1 rfl ?_
  refine x_aload_n dX8_looked_3 0 rfl ?_
  obtain ⟨v1, ev1, h⟩ := x_bd h
  refine x_getR clX8 w_fl_RX8_14 (by decide) dX8_looked_4 ev1 ?_
  obtain ⟨v2, ev2, h⟩ := x_bd h
  refine x_getR clX4 w_fl_RX8_302 (by decide) dX8_looked_7 ev2 ?_
  obtain ⟨v3, ev3, h⟩ := x_bd h
  refine x_getI clX2 w_fl_RX8_276 (by decide) dX8_looked_10 ev3 ?_
  refine x_icmp_ge 78 dX8_looked_13 (by decide) (fun c4 => ?_) (fun c4 => ?_)
  · have h := (if_pos c4).symm.trans h
    refine x_bipush (v := (-5 : Int32)) dX8_looked_78 (by decide) ?_
    obtain rfl := Option.some.inj h
    exact x_iret dX8_looked_80 (Nat.le_of_ble_eq_true rfl) (Nat.le_of_ble_eq_true rfl)
  have h := (if_neg c4).symm.trans h
  refine x_aload_n dX8_looked_16 0 rfl ?_
  obtain ⟨v5, ev5, h⟩ := x_bd h
  refine x_getR clX8 w_fl_RX8_14 (by decide) dX8_looked_17 ev5 ?_
  obtain ⟨v6, ev6, h⟩ := x_bd h
  refine x_getR clX4 w_fl_RX8_302 (by decide) dX8_looked_20 ev6 ?_
  obtain ⟨v7, ev7, h⟩ := x_bd h
  refine x_getR clX2 w_fl_RX8_277 (by decide) dX8_looked_23 ev7 ?_
  refine x_iload_n dX8_looked_26 1 rfl ?_
  obtain ⟨v8, ev8, h⟩ := x_bd h
  refine x_iald dX8_looked_27 ev8 ?_
  refine x_istore_n 2 [(2, .int v8), (0, .ref a0), (1, .int q)] dX8_looked_28 rfl (by decide) rfl ?_
  refine x_aload_n dX8_looked_29 1 rfl ?_
  obtain ⟨v9, ev9, h⟩ := x_bd h
  refine x_getR clX8 w_fl_RX8_14 (by decide) dX8_looked_30 ev9 ?_
  obtain ⟨v10, ev10, h⟩ := x_bd h
  refine x_getR clX4 w_fl_RX8_67 (by decide) dX8_looked_33 ev10 ?_
  refine x_iload_n dX8_looked_36 0 rfl ?_
  obtain ⟨u11, eu11, h⟩ := x_bd h
  obtain ⟨p12, ep12, h⟩ := x_bd h
  refine x_callVI [.int v8] [] clX3 me_X3_hasLetter w_ml_RX8_88 w_im_yX3_hasLetter w_se_yX3_hasLetter (Nat.le_of_ble_eq_true rfl) (Nat.le_of_ble_eq_true rfl) rfl (Nat.le_of_ble_eq_true rfl) (Nat.le_of_ble_eq_true rfl) (Nat.le_of_ble_eq_true rfl) dX8_looked_37 eu11 (c_X3_hasLetter l D aC bs sz ep12) rfl ?_
  refine x_if_eq 70 dX8_looked_40 (by decide) (fun c13 => ?_) (fun c13 => ?_)
  · have h := (if_pos c13).symm.trans h
    refine x_iload_n dX8_looked_70 2 rfl ?_
    obtain rfl := Option.some.inj h
    exact x_iret dX8_looked_71 (Nat.le_of_ble_eq_true rfl) (Nat.le_of_ble_eq_true rfl)
  have h := (if_neg c13).symm.trans h
  refine x_aload_n dX8_looked_43 1 rfl ?_
  obtain ⟨v14, ev14, h⟩ := x_bd h
  refine x_getR clX8 w_fl_RX8_14 (by decide) dX8_looked_44 ev14 ?_
  obtain ⟨v15, ev15, h⟩ := x_bd h
  refine x_getR clX4 w_fl_RX8_67 (by decide) dX8_looked_47 ev15 ?_
  obtain ⟨v16, ev16, h⟩ := x_bd h
  refine x_getR clX3 w_fl_RX8_99 (by decide) dX8_looked_50 ev16 ?_
  refine x_iload_n dX8_looked_53 0 rfl ?_
  obtain ⟨v17, ev17, h⟩ := x_bd h
  refine x_iald dX8_looked_54 ev17 ?_
  refine x_aload_n dX8_looked_55 1 rfl ?_
  obtain ⟨v18, ev18, h⟩ := x_bd h
  refine x_getR clX8 w_fl_RX8_14 (by decide) dX8_looked_56 ev18 ?_
  obtain ⟨v19, ev19, h⟩ := x_bd h
  refine x_getR clX4 w_fl_RX8_302 (by decide) dX8_looked_59 ev19 ?_
  obtain ⟨v20, ev20, h⟩ := x_bd h
  refine x_getR clX2 w_fl_RX8_278 (by decide) dX8_looked_62 ev20 ?_
  refine x_iload_n dX8_looked_65 2 rfl ?_
  obtain ⟨v21, ev21, h⟩ := x_bd h
  refine x_iald dX8_looked_66 ev21 ?_
  refine x_icmp_eq 72 dX8_looked_67 (by decide) (fun c22 => ?_) (fun c22 => ?_)
  · have h := (if_pos c22).symm.trans h
    refine x_iinc (1 : Int32) 2 [(1, .int (q + (1 : Int32))), (2, .int v8), (0, .ref a0)] dX8_looked_72 rfl (by decide) (by decide) rfl ?_
    refine x_goto 2 dX8_looked_75 (by decide) ?_
    exact x_sub [2, 0] rfl (hk2 _ _ h)
  have h := (if_neg c22).symm.trans h
  refine x_iload_n dX8_looked_70 2 rfl ?_
  obtain rfl := Option.some.inj h
  exact x_iret dX8_looked_71 (Nat.le_of_ble_eq_true rfl) (Nat.le_of_ble_eq_true rfl)
def f_X8_looked (F : Nat) (a0 : Nat) (M : XM) : Option (Int32) := x_it (b_X8_looked_2 F (a0) M) F (0 : Int32)
set_option maxHeartbeats 4000000 in
set_option maxRecDepth 100000 in
theorem c_X8_looked (l : Launch) (D : va_G) (aC : FieldType → ClassId) (bs sz : Nat) (F : Nat) {a0 : Nat} {M : XM} {r : Int32} (h : f_X8_looked F a0 M = some r) : x_Cn l D aC bs yX8_looked cX8_looked 3 (some .int) rm_X8_looked [.ref a0] sz M (some (.int r)) sz M := by
  unfold f_X8_looked at h
  refine x_enter2 [(0, .ref a0)] me_X8_looked (Nat.le_of_ble_eq_true rfl) rfl ?_
  refine x_iconst (v := (0 : Int32)) dX8_looked_0 (by decide) ?_
  refine x_istore_n 1 [(1, .int (0 : Int32)), (0, .ref a0)] dX8_looked_1 rfl (by decide) rfl ?_
  exact x_sub [1, 0] rfl (lp_X8_looked_2 l D aC bs sz F (a0) M  F _ _ h)

-- SwappedIntervals.isTape(I)Z
abbrev rm_X8_isTape : Room := { frames := 0, cells := 0, slots := 0, locals := 0 }
theorem me_X8_isTape : x_Me yX8_isTape cX8_isTape 1 (some .boolean) 1 := ⟨by decide +kernel, w_co_yX8_isTape, w_in_SwappedIntervals, by decide +kernel, by decide +kernel, by decide +kernel⟩
def f_X8_isTape (a0 : Int32) (M : XM) : Option (Int32) := if a0 < 0 then some (0 : Int32) else if (6 : Int32) ≤ a0 then some (0 : Int32) else some (1 : Int32)
set_option maxHeartbeats 4000000 in
set_option maxRecDepth 100000 in
theorem c_X8_isTape (l : Launch) (D : va_G) (aC : FieldType → ClassId) (bs sz : Nat) {a0 : Int32} {M : XM} {r : Int32} (h : f_X8_isTape a0 M = some r) : x_Cn l D aC bs yX8_isTape cX8_isTape 1 (some .boolean) rm_X8_isTape [.int a0] sz M (some (.int r)) sz M := by
  unfold f_X8_isTape at h
  refine x_enter2 [(0, .int a0)] me_X8_isTape (Nat.le_of_ble_eq_true rfl) rfl ?_
  refine x_iload_n dX8_isTape_0 0 rfl ?_
  refine x_if_lt 14 dX8_isTape_1 (by decide) (fun c1 => ?_) (fun c1 => ?_)
  · have h := (if_pos c1).symm.trans h
    refine x_iconst (v := (0 : Int32)) dX8_isTape_14 (by decide) ?_
    obtain rfl := Option.some.inj h
    exact x_zret dX8_isTape_15 (Or.inl rfl) (Nat.le_of_ble_eq_true rfl) (Nat.le_of_ble_eq_true rfl)
  have h := (if_neg c1).symm.trans h
  refine x_iload_n dX8_isTape_4 0 rfl ?_
  refine x_bipush (v := (6 : Int32)) dX8_isTape_5 (by decide) ?_
  refine x_icmp_ge 14 dX8_isTape_7 (by decide) (fun c2 => ?_) (fun c2 => ?_)
  · have h := (if_pos c2).symm.trans h
    refine x_iconst (v := (0 : Int32)) dX8_isTape_14 (by decide) ?_
    obtain rfl := Option.some.inj h
    exact x_zret dX8_isTape_15 (Or.inl rfl) (Nat.le_of_ble_eq_true rfl) (Nat.le_of_ble_eq_true rfl)
  have h := (if_neg c2).symm.trans h
  refine x_iconst (v := (1 : Int32)) dX8_isTape_10 (by decide) ?_
  refine x_goto 15 dX8_isTape_11 (by decide) ?_
  obtain rfl := Option.some.inj h
  exact x_zret dX8_isTape_15 (Or.inr rfl) (Nat.le_of_ble_eq_true rfl) (Nat.le_of_ble_eq_true rfl)

-- SwappedIntervals.judge(II)I
abbrev rm_X8_judge : Room := { frames := 1, cells := 0, slots := 0, locals := 20 }
theorem me_X8_judge : x_Me yX8_judge cX8_judge 5 (some .int) 2 := ⟨by decide +kernel, w_co_yX8_judge, w_in_SwappedIntervals, by decide +kernel, by decide +kernel, by decide +kernel⟩
def b_X8_judge_48 (F : Nat) (a0 : Nat) (a2 : Int32) (a3 : Nat) (M : XM)  (k48 : Int32 → Option (Int32)) (q : Int32) : Option (Int32) := (x_gR M a0 8 0).bind fun v10 => (x_gR M v10 4 0).bind fun v11 => (x_gI M v11 3 0).bind fun v12 => if v12 ≤ q then some (-5 : Int32) else (x_gI M a3 6 1).bind fun v14 => if a2 < (v14 - q) then (x_gR M a3 6 2).bind fun v16 => (x_a64 M v16 (a2 + q)).bind fun v17 => (x_gR M a0 8 0).bind fun v18 => (x_gR M v18 4 0).bind fun v19 => (x_gR M v19 3 3).bind fun v20 => (x_a32 .int M v20 q).bind fun v21 => if (lg_cmp v17 v21.toInt64) = 0 then k48 (q + (1 : Int32)) else some q else some ((100 : Int32) + q)
set_option maxHeartbeats 4000000 in
set_option maxRecDepth 100000 in
theorem lp_X8_judge_48 (l : Launch) (D : va_G) (aC : FieldType → ClassId) (bs : Nat) (sz : Nat) (F : Nat) (a0 : Nat) (a2 : Int32) (a3 : Nat) (M : XM)   : ∀ (n : Nat) (b0 : Int32) (r : Int32), x_it (b_X8_judge_48 F a0 a2 a3 M ) n b0 = some r → x_V l D aC bs yX8_judge cX8_judge 5 (some .int) rm_X8_judge (x_Z D aC bs (some (.int r)) sz M rm_X8_judge) 48 [(0, .ref a0), (2, .int a2), (3, .ref a3), (4, .int b0)] [] sz M 0 0 := by
  suffices H : ∀ (n : Nat) (q : Int32) (r : Int32), x_it (b_X8_judge_48 F a0 a2 a3 M ) n q = some r → x_V l D aC bs yX8_judge cX8_judge 5 (some .int) rm_X8_judge (x_Z D aC bs (some (.int r)) sz M rm_X8_judge) 48 [(0, .ref a0), (2, .int a2), (3, .ref a3), (4, .int q)] [] sz M 0 0 from fun n b0 r h => H n b0 r h
  refine x_loop (P := fun (q : Int32) (r : Int32) => x_V l D aC bs yX8_judge cX8_judge 5 (some .int) rm_X8_judge (x_Z D aC bs (some (.int r)) sz M rm_X8_judge) 48 [(0, .ref a0), (2, .int a2), (3, .ref a3), (4, .int q)] [] sz M 0 0) (fun k48 hk0 q r h => ?_)
  have hk48 : ∀ (b0 : Int32) (r : Int32), k48 b0 = some r → x_V l D aC bs yX8_judge cX8_judge 5 (some .int) rm_X8_judge (x_Z D aC bs (some (.int r)) sz M rm_X8_judge) 48 [(0, .ref a0), (2, .int a2), (3, .ref a3), (4, .int b0)] [] sz M 0 0 := fun b0 r h => hk0 b0 r h
  unfold b_X8_judge_48 at h
  refine x_iload dX8_judge_48 3 rfl ?_
  refine x_aload_n dX8_judge_50 0 rfl ?_
  obtain ⟨v10, ev10, h⟩ := x_bd h
  refine x_getR clX8 w_fl_RX8_14 (by decide) dX8_judge_51 ev10 ?_
  obtain ⟨v11, ev11, h⟩ := x_bd h
  refine x_getR clX4 w_fl_RX8_67 (by decide) dX8_judge_54 ev11 ?_
  obtain ⟨v12, ev12, h⟩ := x_bd h
  refine x_getI clX3 w_fl_RX8_70 (by decide) dX8_judge_57 ev12 ?_
  refine x_icmp_ge 116 dX8_judge_60 (by decide) (fun c13 => ?_) (fun c13 => ?_)
  · have h := (if_pos c13).symm.trans h
    refine x_bipush (v := (-5 : Int32)) dX8_judge_116 (by decide) ?_
    obtain rfl := Option.some.inj h
    exact x_iret dX8_judge_118 (Nat.le_of_ble_eq_true rfl) (Nat.le_of_ble_eq_true rfl)
  have h := (if_neg c13).symm.trans h
  refine x_iload_n dX8_judge_63 1 rfl ?_
  refine x_aload_n dX8_judge_64 2 rfl ?_
  obtain ⟨v14, ev14, h⟩ := x_bd h
  refine x_getI clX6 w_fl_RX8_311 (by decide) dX8_judge_65 ev14 ?_
  refine x_iload dX8_judge_68 3 rfl ?_
  refine x_isub dX8_judge_70 ?_
  refine x_icmp_lt 80 dX8_judge_71 (by decide) (fun c15 => ?_) (fun c15 => ?_)
  · have h := (if_pos c15).symm.trans h
    refine x_aload_n dX8_judge_80 2 rfl ?_
    obtain ⟨v16, ev16, h⟩ := x_bd h
    refine x_getR clX6 w_fl_RX8_312 (by decide) dX8_judge_81 ev16 ?_
    refine x_iload_n dX8_judge_84 1 rfl ?_
    refine x_iload dX8_judge_85 3 rfl ?_
    refine x_iadd dX8_judge_87 ?_
    obtain ⟨v17, ev17, h⟩ := x_bd h
    refine x_lald dX8_judge_88 ev17 ?_
    refine x_aload_n dX8_judge_89 0 rfl ?_
    obtain ⟨v18, ev18, h⟩ := x_bd h
    refine x_getR clX8 w_fl_RX8_14 (by decide) dX8_judge_90 ev18 ?_
    obtain ⟨v19, ev19, h⟩ := x_bd h
    refine x_getR clX4 w_fl_RX8_67 (by decide) dX8_judge_93 ev19 ?_
    obtain ⟨v20, ev20, h⟩ := x_bd h
    refine x_getR clX3 w_fl_RX8_99 (by decide) dX8_judge_96 ev20 ?_
    refine x_iload dX8_judge_99 3 rfl ?_
    obtain ⟨v21, ev21, h⟩ := x_bd h
    refine x_iald dX8_judge_101 ev21 ?_
    refine x_i2l dX8_judge_102 ?_
    refine x_lcmp dX8_judge_103 ?_
    refine x_if_eq 110 dX8_judge_104 (by decide) (fun c22 => ?_) (fun c22 => ?_)
    · have h := (if_pos c22).symm.trans h
      refine x_iinc (1 : Int32) 3 [(4, .int (q + (1 : Int32))), (0, .ref a0), (2, .int a2), (3, .ref a3)] dX8_judge_110 rfl (by decide) (by decide) rfl ?_
      refine x_goto 48 dX8_judge_113 (by decide) ?_
      exact x_sub [1, 2, 3, 0] rfl (hk48 _ _ h)
    have h := (if_neg c22).symm.trans h
    refine x_iload dX8_judge_107 3 rfl ?_
    obtain rfl := Option.some.inj h
    exact x_iret dX8_judge_109 (Nat.le_of_ble_eq_true rfl) (Nat.le_of_ble_eq_true rfl)
  have h := (if_neg c15).symm.trans h
  refine x_bipush (v := (100 : Int32)) dX8_judge_74 (by decide) ?_
  refine x_iload dX8_judge_76 3 rfl ?_
  refine x_iadd dX8_judge_78 ?_
  obtain rfl := Option.some.inj h
  exact x_iret dX8_judge_79 (Nat.le_of_ble_eq_true rfl) (Nat.le_of_ble_eq_true rfl)
def f_X8_judge (F : Nat) (a0 : Nat) (a1 : Int32) (a2 : Int32) (M : XM) : Option (Int32) := (f_X8_isTape a1 M).bind fun p1 => if p1 = 0 then some (-1 : Int32) else (x_gR M a0 8 8).bind fun v3 => (x_aQ (.object RX6) M v3 a1).bind fun v4 => (x_gI M v4 6 0).bind fun v5 => if v5 = (-1 : Int32) then some (100 : Int32) else (x_gI M v4 6 0).bind fun v7 => if v7 = (1 : Int32) then if 0 ≤ a2 then x_it (b_X8_judge_48 F (a0) (a2) (v4) M) F (0 : Int32) else some (100 : Int32) else some (-12 : Int32)
set_option maxHeartbeats 4000000 in
set_option maxRecDepth 100000 in
theorem c_X8_judge (l : Launch) (D : va_G) (aC : FieldType → ClassId) (bs sz : Nat) (F : Nat) {a0 : Nat} {a1 : Int32} {a2 : Int32} {M : XM} {r : Int32} (h : f_X8_judge F a0 a1 a2 M = some r) : x_Cn l D aC bs yX8_judge cX8_judge 5 (some .int) rm_X8_judge [.ref a0, .int a1, .int a2] sz M (some (.int r)) sz M := by
  unfold f_X8_judge at h
  refine x_enter2 [(0, .ref a0), (1, .int a1), (2, .int a2)] me_X8_judge (Nat.le_of_ble_eq_true rfl) rfl ?_
  refine x_iload_n dX8_judge_0 1 rfl ?_
  obtain ⟨p1, ep1, h⟩ := x_bd h
  refine x_callSI [.int a1] [] me_X8_isTape w_ml_RX8_305 w_st_yX8_isTape (Nat.le_of_ble_eq_true rfl) (Nat.le_of_ble_eq_true rfl) rfl (Nat.le_of_ble_eq_true rfl) (Nat.le_of_ble_eq_true rfl) (Nat.le_of_ble_eq_true rfl) dX8_judge_1 (c_X8_isTape l D aC bs sz ep1) rfl ?_
  refine x_if_ne 9 dX8_judge_4 (by decide) (fun c2 => ?_) (fun c2 => ?_)
  · have h := (if_neg c2).symm.trans h
    refine x_aload_n dX8_judge_9 0 rfl ?_
    obtain ⟨v3, ev3, h⟩ := x_bd h
    refine x_getR clX8 w_fl_RX8_62 (by decide) dX8_judge_10 ev3 ?_
    refine x_iload_n dX8_judge_13 1 rfl ?_
    obtain ⟨v4, ev4, h⟩ := x_bd h
    refine x_aald (t0 := 5) rfl dX8_judge_14 ev4 ?_
    refine x_astore_n 3 [(3, .ref v4), (0, .ref a0), (1, .int a1), (2, .int a2)] dX8_judge_15 rfl (by decide) rfl ?_
    refine x_aload_n dX8_judge_16 0 rfl ?_
    obtain ⟨v5, ev5, h⟩ := x_bd h
    refine x_getI clX6 w_fl_RX8_308 (by decide) dX8_judge_17 ev5 ?_
    refine x_iconst (v := (-1 : Int32)) dX8_judge_20 (by decide) ?_
    refine x_icmp_ne 27 dX8_judge_21 (by decide) (fun c6 => ?_) (fun c6 => ?_)
    · have h := (if_neg c6).symm.trans h
      refine x_aload_n dX8_judge_27 0 rfl ?_
      obtain ⟨v7, ev7, h⟩ := x_bd h
      refine x_getI clX6 w_fl_RX8_308 (by decide) dX8_judge_28 ev7 ?_
      refine x_iconst (v := (1 : Int32)) dX8_judge_31 (by decide) ?_
      refine x_icmp_eq 38 dX8_judge_32 (by decide) (fun c8 => ?_) (fun c8 => ?_)
      · have h := (if_pos c8).symm.trans h
        refine x_iload_n dX8_judge_38 3 rfl ?_
        refine x_if_ge 45 dX8_judge_39 (by decide) (fun c9 => ?_) (fun c9 => ?_)
        · have h := (if_pos c9).symm.trans h
          refine x_iconst (v := (0 : Int32)) dX8_judge_45 (by decide) ?_
          refine x_istore [(4, .int (0 : Int32)), (3, .ref v4), (0, .ref a0), (1, .int a1), (2, .int a2)] dX8_judge_46 (by decide) rfl ?_
          exact x_sub [2, 4, 1, 0] rfl (lp_X8_judge_48 l D aC bs sz F (a0) (a2) (v4) M  F _ _ h)
        have h := (if_neg c9).symm.trans h
        refine x_bipush (v := (100 : Int32)) dX8_judge_42 (by decide) ?_
        obtain rfl := Option.some.inj h
        exact x_iret dX8_judge_44 (Nat.le_of_ble_eq_true rfl) (Nat.le_of_ble_eq_true rfl)
      have h := (if_neg c8).symm.trans h
      refine x_bipush (v := (-12 : Int32)) dX8_judge_35 (by decide) ?_
      obtain rfl := Option.some.inj h
      exact x_iret dX8_judge_37 (Nat.le_of_ble_eq_true rfl) (Nat.le_of_ble_eq_true rfl)
    have h := (if_pos c6).symm.trans h
    refine x_bipush (v := (100 : Int32)) dX8_judge_24 (by decide) ?_
    obtain rfl := Option.some.inj h
    exact x_iret dX8_judge_26 (Nat.le_of_ble_eq_true rfl) (Nat.le_of_ble_eq_true rfl)
  have h := (if_pos c2).symm.trans h
  refine x_iconst (v := (-1 : Int32)) dX8_judge_7 (by decide) ?_
  obtain rfl := Option.some.inj h
  exact x_iret dX8_judge_8 (Nat.le_of_ble_eq_true rfl) (Nat.le_of_ble_eq_true rfl)

-- SwappedIntervals.image()I
abbrev rm_X8_image : Room := { frames := 3, cells := 0, slots := 0, locals := 65 }
theorem me_X8_image : x_Me yX8_image cX8_image 1 (some .int) 0 := ⟨by decide +kernel, w_co_yX8_image, w_in_SwappedIntervals, by decide +kernel, by decide +kernel, by decide +kernel⟩
def f_X8_image (F : Nat) (a0 : Nat) (M : XM) : Option (Int32 × XM) := (x_gR M a0 8 1).bind fun v1 => (x_gR M a0 8 0).bind fun v2 => (x_ob M v1 4).bind fun u3 => (f_X4_copyFrom F v1 v2 M).bind fun p4 => (x_put p4 a0 8 2 (.int (1 : Int32))).bind fun m5 => (x_gR m5 a0 8 0).bind fun v6 => (x_gR m5 v6 4 0).bind fun v7 => (x_ob m5 v7 3).bind fun u8 => (f_X3_points F v7 m5).bind fun p9 => some (p9, m5)
set_option maxHeartbeats 4000000 in
set_option maxRecDepth 100000 in
theorem c_X8_image (l : Launch) (D : va_G) (aC : FieldType → ClassId) (bs sz : Nat) (F : Nat) {a0 : Nat} {M : XM} {r : Int32 × XM} (h : f_X8_image F a0 M = some r) : x_Cn l D aC bs yX8_image cX8_image 1 (some .int) rm_X8_image [.ref a0] sz M (some (.int r.1)) sz r.2 := by
  unfold f_X8_image at h
  refine x_enter2 [(0, .ref a0)] me_X8_image (Nat.le_of_ble_eq_true rfl) rfl ?_
  refine x_aload_n dX8_image_0 0 rfl ?_
  obtain ⟨v1, ev1, h⟩ := x_bd h
  refine x_getR clX8 w_fl_RX8_18 (by decide) dX8_image_1 ev1 ?_
  refine x_aload_n dX8_image_4 0 rfl ?_
  obtain ⟨v2, ev2, h⟩ := x_bd h
  refine x_getR clX8 w_fl_RX8_14 (by decide) dX8_image_5 ev2 ?_
  obtain ⟨u3, eu3, h⟩ := x_bd h
  obtain ⟨p4, ep4, h⟩ := x_bd h
  refine x_callVV [.ref v2] [] clX4 me_X4_copyFrom w_ml_RX8_316 w_im_yX4_copyFrom w_se_yX4_copyFrom (Nat.le_of_ble_eq_true rfl) (Nat.le_of_ble_eq_true rfl) rfl (Nat.le_of_ble_eq_true rfl) (Nat.le_of_ble_eq_true rfl) (Nat.le_of_ble_eq_true rfl) dX8_image_8 eu3 (c_X4_copyFrom l D aC bs sz F ep4) rfl ?_
  refine x_aload_n dX8_image_11 0 rfl ?_
  refine x_iconst (v := (1 : Int32)) dX8_image_12 (by decide) ?_
  obtain ⟨m5, em5, h⟩ := x_bd h
  refine x_putV clX8 w_fl_RX8_21 (by decide) rfl rfl rfl dX8_image_13 em5 ?_
  refine x_aload_n dX8_image_16 0 rfl ?_
  obtain ⟨v6, ev6, h⟩ := x_bd h
  refine x_getR clX8 w_fl_RX8_14 (by decide) dX8_image_17 ev6 ?_
  obtain ⟨v7, ev7, h⟩ := x_bd h
  refine x_getR clX4 w_fl_RX8_67 (by decide) dX8_image_20 ev7 ?_
  obtain ⟨u8, eu8, h⟩ := x_bd h
  obtain ⟨p9, ep9, h⟩ := x_bd h
  refine x_callVI [] [] clX3 me_X3_points w_ml_RX8_124 w_im_yX3_points w_se_yX3_points (Nat.le_of_ble_eq_true rfl) (Nat.le_of_ble_eq_true rfl) rfl (Nat.le_of_ble_eq_true rfl) (Nat.le_of_ble_eq_true rfl) (Nat.le_of_ble_eq_true rfl) dX8_image_23 eu8 (c_X3_points l D aC bs sz F ep9) rfl ?_
  obtain rfl := Option.some.inj h
  exact x_iret dX8_image_26 (Nat.le_of_ble_eq_true rfl) (Nat.le_of_ble_eq_true rfl)

-- SwappedIntervals.undo()I
abbrev rm_X8_undo : Room := { frames := 3, cells := 0, slots := 0, locals := 65 }
theorem me_X8_undo : x_Me yX8_undo cX8_undo 1 (some .int) 0 := ⟨by decide +kernel, w_co_yX8_undo, w_in_SwappedIntervals, by decide +kernel, by decide +kernel, by decide +kernel⟩
def f_X8_undo (F : Nat) (a0 : Nat) (M : XM) : Option (Int32 × XM) := (x_gI M a0 8 2).bind fun v1 => if v1 = 0 then some ((-3 : Int32), M) else (x_gR M a0 8 0).bind fun v3 => (x_gR M a0 8 1).bind fun v4 => (x_ob M v3 4).bind fun u5 => (f_X4_copyFrom F v3 v4 M).bind fun p6 => (x_gR p6 a0 8 3).bind fun v7 => (x_ob p6 v7 0).bind fun u8 => (f_X0_forget v7 p6).bind fun p9 => (x_gR p9 a0 8 0).bind fun v10 => (x_gR p9 v10 4 0).bind fun v11 => (x_ob p9 v11 3).bind fun u12 => (f_X3_points F v11 p9).bind fun p13 => some (p13, p9)
set_option maxHeartbeats 4000000 in
set_option maxRecDepth 100000 in
theorem c_X8_undo (l : Launch) (D : va_G) (aC : FieldType → ClassId) (bs sz : Nat) (F : Nat) {a0 : Nat} {M : XM} {r : Int32 × XM} (h : f_X8_undo F a0 M = some r) : x_Cn l D aC bs yX8_undo cX8_undo 1 (some .int) rm_X8_undo [.ref a0] sz M (some (.int r.1)) sz r.2 := by
  unfold f_X8_undo at h
  refine x_enter2 [(0, .ref a0)] me_X8_undo (Nat.le_of_ble_eq_true rfl) rfl ?_
  refine x_aload_n dX8_undo_0 0 rfl ?_
  obtain ⟨v1, ev1, h⟩ := x_bd h
  refine x_getI clX8 w_fl_RX8_21 (by decide) dX8_undo_1 ev1 ?_
  refine x_if_ne 10 dX8_undo_4 (by decide) (fun c2 => ?_) (fun c2 => ?_)
  · have h := (if_neg c2).symm.trans h
    refine x_aload_n dX8_undo_10 0 rfl ?_
    obtain ⟨v3, ev3, h⟩ := x_bd h
    refine x_getR clX8 w_fl_RX8_14 (by decide) dX8_undo_11 ev3 ?_
    refine x_aload_n dX8_undo_14 0 rfl ?_
    obtain ⟨v4, ev4, h⟩ := x_bd h
    refine x_getR clX8 w_fl_RX8_18 (by decide) dX8_undo_15 ev4 ?_
    obtain ⟨u5, eu5, h⟩ := x_bd h
    obtain ⟨p6, ep6, h⟩ := x_bd h
    refine x_callVV [.ref v4] [] clX4 me_X4_copyFrom w_ml_RX8_316 w_im_yX4_copyFrom w_se_yX4_copyFrom (Nat.le_of_ble_eq_true rfl) (Nat.le_of_ble_eq_true rfl) rfl (Nat.le_of_ble_eq_true rfl) (Nat.le_of_ble_eq_true rfl) (Nat.le_of_ble_eq_true rfl) dX8_undo_18 eu5 (c_X4_copyFrom l D aC bs sz F ep6) rfl ?_
    refine x_aload_n dX8_undo_21 0 rfl ?_
    obtain ⟨v7, ev7, h⟩ := x_bd h
    refine x_getR clX8 w_fl_RX8_28 (by decide) dX8_undo_22 ev7 ?_
    obtain ⟨u8, eu8, h⟩ := x_bd h
    obtain ⟨p9, ep9, h⟩ := x_bd h
    refine x_callVV [] [] clX0 me_X0_forget w_ml_RX8_78 w_im_yX0_forget w_se_yX0_forget (Nat.le_of_ble_eq_true rfl) (Nat.le_of_ble_eq_true rfl) rfl (Nat.le_of_ble_eq_true rfl) (Nat.le_of_ble_eq_true rfl) (Nat.le_of_ble_eq_true rfl) dX8_undo_25 eu8 (c_X0_forget l D aC bs sz ep9) rfl ?_
    refine x_aload_n dX8_undo_28 0 rfl ?_
    obtain ⟨v10, ev10, h⟩ := x_bd h
    refine x_getR clX8 w_fl_RX8_14 (by decide) dX8_undo_29 ev10 ?_
    obtain ⟨v11, ev11, h⟩ := x_bd h
    refine x_getR clX4 w_fl_RX8_67 (by decide) dX8_undo_32 ev11 ?_
    obtain ⟨u12, eu12, h⟩ := x_bd h
    obtain ⟨p13, ep13, h⟩ := x_bd h
    refine x_callVI [] [] clX3 me_X3_points w_ml_RX8_124 w_im_yX3_points w_se_yX3_points (Nat.le_of_ble_eq_true rfl) (Nat.le_of_ble_eq_true rfl) rfl (Nat.le_of_ble_eq_true rfl) (Nat.le_of_ble_eq_true rfl) (Nat.le_of_ble_eq_true rfl) dX8_undo_35 eu12 (c_X3_points l D aC bs sz F ep13) rfl ?_
    obtain rfl := Option.some.inj h
    exact x_iret dX8_undo_38 (Nat.le_of_ble_eq_true rfl) (Nat.le_of_ble_eq_true rfl)
  have h := (if_pos c2).symm.trans h
  refine x_bipush (v := (-3 : Int32)) dX8_undo_7 (by decide) ?_
  obtain rfl := Option.some.inj h
  exact x_iret dX8_undo_9 (Nat.le_of_ble_eq_true rfl) (Nat.le_of_ble_eq_true rfl)

-- SwappedIntervals.count(I)I
abbrev rm_X8_count : Room := { frames := 0, cells := 0, slots := 0, locals := 0 }
theorem me_X8_count : x_Me yX8_count cX8_count 2 (some .int) 1 := ⟨by decide +kernel, w_co_yX8_count, w_in_SwappedIntervals, by decide +kernel, by decide +kernel, by decide +kernel⟩
def f_X8_count (a0 : Nat) (a1 : Int32) (M : XM) : Option (Int32) := if a1 = (0 : Int32) then (x_gR M a0 8 0).bind fun v2 => (x_gR M v2 4 2).bind fun v3 => (x_gI M v3 2 2).bind fun v4 => some v4 else if a1 = (1 : Int32) then (x_gR M a0 8 0).bind fun v6 => (x_gR M v6 4 3).bind fun v7 => (x_gI M v7 2 2).bind fun v8 => some v8 else if a1 = (2 : Int32) then (x_gR M a0 8 0).bind fun v10 => (x_gR M v10 4 4).bind fun v11 => (x_gI M v11 2 2).bind fun v12 => some v12 else if a1 = (3 : Int32) then (x_gR M a0 8 4).bind fun v14 => (x_gI M v14 7 2).bind fun v15 => some v15 else if a1 = (4 : Int32) then (x_gR M a0 8 3).bind fun v17 => (x_gI M v17 0 2).bind fun v18 => some v18 else some (-2 : Int32)
set_option maxHeartbeats 4000000 in
set_option maxRecDepth 100000 in
theorem c_X8_count (l : Launch) (D : va_G) (aC : FieldType → ClassId) (bs sz : Nat) {a0 : Nat} {a1 : Int32} {M : XM} {r : Int32} (h : f_X8_count a0 a1 M = some r) : x_Cn l D aC bs yX8_count cX8_count 2 (some .int) rm_X8_count [.ref a0, .int a1] sz M (some (.int r)) sz M := by
  unfold f_X8_count at h
  refine x_enter2 [(0, .ref a0), (1, .int a1)] me_X8_count (Nat.le_of_ble_eq_true rfl) rfl ?_
  refine x_iload_n dX8_count_0 1 rfl ?_
  by_cases c1 : a1 = (0 : Int32)
  · have h := (if_pos c1).symm.trans h
    refine x_tabIn 0 36 dX8_count_1 (by rw [c1]; decide) (by decide) (by decide) rfl (by decide) ?_
    refine x_aload_n dX8_count_36 0 rfl ?_
    obtain ⟨v2, ev2, h⟩ := x_bd h
    refine x_getR clX8 w_fl_RX8_14 (by decide) dX8_count_37 ev2 ?_
    obtain ⟨v3, ev3, h⟩ := x_bd h
    refine x_getR clX4 w_fl_RX8_259 (by decide) dX8_count_40 ev3 ?_
    obtain ⟨v4, ev4, h⟩ := x_bd h
    refine x_getI clX2 w_fl_RX8_276 (by decide) dX8_count_43 ev4 ?_
    obtain rfl := Option.some.inj h
    exact x_iret dX8_count_46 (Nat.le_of_ble_eq_true rfl) (Nat.le_of_ble_eq_true rfl)
  have h := (if_neg c1).symm.trans h
  by_cases c5 : a1 = (1 : Int32)
  · have h := (if_pos c5).symm.trans h
    refine x_tabIn 1 47 dX8_count_1 (by rw [c5]; decide) (by decide) (by decide) rfl (by decide) ?_
    refine x_aload_n dX8_count_47 0 rfl ?_
    obtain ⟨v6, ev6, h⟩ := x_bd h
    refine x_getR clX8 w_fl_RX8_14 (by decide) dX8_count_48 ev6 ?_
    obtain ⟨v7, ev7, h⟩ := x_bd h
    refine x_getR clX4 w_fl_RX8_296 (by decide) dX8_count_51 ev7 ?_
    obtain ⟨v8, ev8, h⟩ := x_bd h
    refine x_getI clX2 w_fl_RX8_276 (by decide) dX8_count_54 ev8 ?_
    obtain rfl := Option.some.inj h
    exact x_iret dX8_count_57 (Nat.le_of_ble_eq_true rfl) (Nat.le_of_ble_eq_true rfl)
  have h := (if_neg c5).symm.trans h
  by_cases c9 : a1 = (2 : Int32)
  · have h := (if_pos c9).symm.trans h
    refine x_tabIn 2 58 dX8_count_1 (by rw [c9]; decide) (by decide) (by decide) rfl (by decide) ?_
    refine x_aload_n dX8_count_58 0 rfl ?_
    obtain ⟨v10, ev10, h⟩ := x_bd h
    refine x_getR clX8 w_fl_RX8_14 (by decide) dX8_count_59 ev10 ?_
    obtain ⟨v11, ev11, h⟩ := x_bd h
    refine x_getR clX4 w_fl_RX8_302 (by decide) dX8_count_62 ev11 ?_
    obtain ⟨v12, ev12, h⟩ := x_bd h
    refine x_getI clX2 w_fl_RX8_276 (by decide) dX8_count_65 ev12 ?_
    obtain rfl := Option.some.inj h
    exact x_iret dX8_count_68 (Nat.le_of_ble_eq_true rfl) (Nat.le_of_ble_eq_true rfl)
  have h := (if_neg c9).symm.trans h
  by_cases c13 : a1 = (3 : Int32)
  · have h := (if_pos c13).symm.trans h
    refine x_tabIn 3 69 dX8_count_1 (by rw [c13]; decide) (by decide) (by decide) rfl (by decide) ?_
    refine x_aload_n dX8_count_69 0 rfl ?_
    obtain ⟨v14, ev14, h⟩ := x_bd h
    refine x_getR clX8 w_fl_RX8_35 (by decide) dX8_count_70 ev14 ?_
    obtain ⟨v15, ev15, h⟩ := x_bd h
    refine x_getI clX7 w_fl_RX8_319 (by decide) dX8_count_73 ev15 ?_
    obtain rfl := Option.some.inj h
    exact x_iret dX8_count_76 (Nat.le_of_ble_eq_true rfl) (Nat.le_of_ble_eq_true rfl)
  have h := (if_neg c13).symm.trans h
  by_cases c16 : a1 = (4 : Int32)
  · have h := (if_pos c16).symm.trans h
    refine x_tabIn 4 77 dX8_count_1 (by rw [c16]; decide) (by decide) (by decide) rfl (by decide) ?_
    refine x_aload_n dX8_count_77 0 rfl ?_
    obtain ⟨v17, ev17, h⟩ := x_bd h
    refine x_getR clX8 w_fl_RX8_28 (by decide) dX8_count_78 ev17 ?_
    obtain ⟨v18, ev18, h⟩ := x_bd h
    refine x_getI clX0 w_fl_RX8_127 (by decide) dX8_count_81 ev18 ?_
    obtain rfl := Option.some.inj h
    exact x_iret dX8_count_84 (Nat.le_of_ble_eq_true rfl) (Nat.le_of_ble_eq_true rfl)
  have h := (if_neg c16).symm.trans h
  have nc1 := lv_neT c1 (a := 0) (by decide)
  have nc5 := lv_neT c5 (a := 1) (by decide)
  have nc9 := lv_neT c9 (a := 2) (by decide)
  have nc13 := lv_neT c13 (a := 3) (by decide)
  have nc16 := lv_neT c16 (a := 4) (by decide)
  refine x_tabD 85 dX8_count_1 ?_ (by decide) ?_
  · by_cases r1 : (a1).toInt < 0
    · exact Or.inl r1
    by_cases r2 : 4 < (a1).toInt
    · exact Or.inr (Or.inl r2)
    exfalso
    omega
  refine x_bipush (v := (-2 : Int32)) dX8_count_85 (by decide) ?_
  obtain rfl := Option.some.inj h
  exact x_iret dX8_count_87 (Nat.le_of_ble_eq_true rfl) (Nat.le_of_ble_eq_true rfl)

-- SwappedIntervals.tape(III)I
abbrev rm_X8_tape : Room := { frames := 2, cells := 0, slots := 0, locals := 46 }
theorem me_X8_tape : x_Me yX8_tape cX8_tape 4 (some .int) 3 := ⟨by decide +kernel, w_co_yX8_tape, w_in_SwappedIntervals, by decide +kernel, by decide +kernel, by decide +kernel⟩
def f_X8_tape (F : Nat) (a0 : Nat) (a1 : Int32) (a2 : Int32) (a3 : Int32) (M : XM) : Option (Int32 × XM) := (f_X8_isTape a1 M).bind fun p1 => if p1 = 0 then some ((-1 : Int32), M) else if a2 = (-1 : Int32) then (x_gR M a0 8 8).bind fun v12 => (x_aQ (.object RX6) M v12 a1).bind fun v13 => (x_ob M v13 6).bind fun u14 => (f_X6_become F v13 (-1 : Int32) (0 : Int32) M).bind fun p15 => some ((1 : Int32), p15) else if a2 < 0 then some ((-2 : Int32), M) else if (4 : Int32) < a2 then some ((-2 : Int32), M) else if a3 ≤ (60 : Int32) then if 0 ≤ a3 then (x_gR M a0 8 8).bind fun v8 => (x_aQ (.object RX6) M v8 a1).bind fun v9 => (x_ob M v9 6).bind fun u10 => (f_X6_become F v9 a2 a3 M).bind fun p11 => some ((1 : Int32), p11) else some ((-14 : Int32), M) else some ((-2 : Int32), M)
set_option maxHeartbeats 4000000 in
set_option maxRecDepth 100000 in
theorem c_X8_tape (l : Launch) (D : va_G) (aC : FieldType → ClassId) (bs sz : Nat) (F : Nat) {a0 : Nat} {a1 : Int32} {a2 : Int32} {a3 : Int32} {M : XM} {r : Int32 × XM} (h : f_X8_tape F a0 a1 a2 a3 M = some r) : x_Cn l D aC bs yX8_tape cX8_tape 4 (some .int) rm_X8_tape [.ref a0, .int a1, .int a2, .int a3] sz M (some (.int r.1)) sz r.2 := by
  unfold f_X8_tape at h
  refine x_enter2 [(0, .ref a0), (1, .int a1), (2, .int a2), (3, .int a3)] me_X8_tape (Nat.le_of_ble_eq_true rfl) rfl ?_
  refine x_iload_n dX8_tape_0 1 rfl ?_
  obtain ⟨p1, ep1, h⟩ := x_bd h
  refine x_callSI [.int a1] [] me_X8_isTape w_ml_RX8_305 w_st_yX8_isTape (Nat.le_of_ble_eq_true rfl) (Nat.le_of_ble_eq_true rfl) rfl (Nat.le_of_ble_eq_true rfl) (Nat.le_of_ble_eq_true rfl) (Nat.le_of_ble_eq_true rfl) dX8_tape_1 (c_X8_isTape l D aC bs sz ep1) rfl ?_
  refine x_if_ne 9 dX8_tape_4 (by decide) (fun c2 => ?_) (fun c2 => ?_)
  · have h := (if_neg c2).symm.trans h
    refine x_iload_n dX8_tape_9 2 rfl ?_
    refine x_iconst (v := (-1 : Int32)) dX8_tape_10 (by decide) ?_
    refine x_icmp_ne 27 dX8_tape_11 (by decide) (fun c3 => ?_) (fun c3 => ?_)
    · have h := (if_neg c3).symm.trans h
      refine x_iload_n dX8_tape_27 2 rfl ?_
      refine x_if_lt 42 dX8_tape_28 (by decide) (fun c4 => ?_) (fun c4 => ?_)
      · have h := (if_pos c4).symm.trans h
        refine x_bipush (v := (-2 : Int32)) dX8_tape_42 (by decide) ?_
        obtain rfl := Option.some.inj h
        exact x_iret dX8_tape_44 (Nat.le_of_ble_eq_true rfl) (Nat.le_of_ble_eq_true rfl)
      have h := (if_neg c4).symm.trans h
      refine x_iload_n dX8_tape_31 2 rfl ?_
      refine x_iconst (v := (4 : Int32)) dX8_tape_32 (by decide) ?_
      refine x_icmp_gt 42 dX8_tape_33 (by decide) (fun c5 => ?_) (fun c5 => ?_)
      · have h := (if_pos c5).symm.trans h
        refine x_bipush (v := (-2 : Int32)) dX8_tape_42 (by decide) ?_
        obtain rfl := Option.some.inj h
        exact x_iret dX8_tape_44 (Nat.le_of_ble_eq_true rfl) (Nat.le_of_ble_eq_true rfl)
      have h := (if_neg c5).symm.trans h
      refine x_iload_n dX8_tape_36 3 rfl ?_
      refine x_bipush (v := (60 : Int32)) dX8_tape_37 (by decide) ?_
      refine x_icmp_le 45 dX8_tape_39 (by decide) (fun c6 => ?_) (fun c6 => ?_)
      · have h := (if_pos c6).symm.trans h
        refine x_iload_n dX8_tape_45 3 rfl ?_
        refine x_if_ge 52 dX8_tape_46 (by decide) (fun c7 => ?_) (fun c7 => ?_)
        · have h := (if_pos c7).symm.trans h
          refine x_aload_n dX8_tape_52 0 rfl ?_
          obtain ⟨v8, ev8, h⟩ := x_bd h
          refine x_getR clX8 w_fl_RX8_62 (by decide) dX8_tape_53 ev8 ?_
          refine x_iload_n dX8_tape_56 1 rfl ?_
          obtain ⟨v9, ev9, h⟩ := x_bd h
          refine x_aald (t0 := 5) rfl dX8_tape_57 ev9 ?_
          refine x_iload_n dX8_tape_58 2 rfl ?_
          refine x_iload_n dX8_tape_59 3 rfl ?_
          obtain ⟨u10, eu10, h⟩ := x_bd h
          obtain ⟨p11, ep11, h⟩ := x_bd h
          refine x_callVV [.int a2, .int a3] [] clX6 me_X6_become w_ml_RX8_320 w_im_yX6_become w_se_yX6_become (Nat.le_of_ble_eq_true rfl) (Nat.le_of_ble_eq_true rfl) rfl (Nat.le_of_ble_eq_true rfl) (Nat.le_of_ble_eq_true rfl) (Nat.le_of_ble_eq_true rfl) dX8_tape_60 eu10 (c_X6_become l D aC bs sz F ep11) rfl ?_
          refine x_iconst (v := (1 : Int32)) dX8_tape_63 (by decide) ?_
          obtain rfl := Option.some.inj h
          exact x_iret dX8_tape_64 (Nat.le_of_ble_eq_true rfl) (Nat.le_of_ble_eq_true rfl)
        have h := (if_neg c7).symm.trans h
        refine x_bipush (v := (-14 : Int32)) dX8_tape_49 (by decide) ?_
        obtain rfl := Option.some.inj h
        exact x_iret dX8_tape_51 (Nat.le_of_ble_eq_true rfl) (Nat.le_of_ble_eq_true rfl)
      have h := (if_neg c6).symm.trans h
      refine x_bipush (v := (-2 : Int32)) dX8_tape_42 (by decide) ?_
      obtain rfl := Option.some.inj h
      exact x_iret dX8_tape_44 (Nat.le_of_ble_eq_true rfl) (Nat.le_of_ble_eq_true rfl)
    have h := (if_pos c3).symm.trans h
    refine x_aload_n dX8_tape_14 0 rfl ?_
    obtain ⟨v12, ev12, h⟩ := x_bd h
    refine x_getR clX8 w_fl_RX8_62 (by decide) dX8_tape_15 ev12 ?_
    refine x_iload_n dX8_tape_18 1 rfl ?_
    obtain ⟨v13, ev13, h⟩ := x_bd h
    refine x_aald (t0 := 5) rfl dX8_tape_19 ev13 ?_
    refine x_iconst (v := (-1 : Int32)) dX8_tape_20 (by decide) ?_
    refine x_iconst (v := (0 : Int32)) dX8_tape_21 (by decide) ?_
    obtain ⟨u14, eu14, h⟩ := x_bd h
    obtain ⟨p15, ep15, h⟩ := x_bd h
    refine x_callVV [.int (-1 : Int32), .int (0 : Int32)] [] clX6 me_X6_become w_ml_RX8_320 w_im_yX6_become w_se_yX6_become (Nat.le_of_ble_eq_true rfl) (Nat.le_of_ble_eq_true rfl) rfl (Nat.le_of_ble_eq_true rfl) (Nat.le_of_ble_eq_true rfl) (Nat.le_of_ble_eq_true rfl) dX8_tape_22 eu14 (c_X6_become l D aC bs sz F ep15) rfl ?_
    refine x_iconst (v := (1 : Int32)) dX8_tape_25 (by decide) ?_
    obtain rfl := Option.some.inj h
    exact x_iret dX8_tape_26 (Nat.le_of_ble_eq_true rfl) (Nat.le_of_ble_eq_true rfl)
  have h := (if_pos c2).symm.trans h
  refine x_iconst (v := (-1 : Int32)) dX8_tape_7 (by decide) ?_
  obtain rfl := Option.some.inj h
  exact x_iret dX8_tape_8 (Nat.le_of_ble_eq_true rfl) (Nat.le_of_ble_eq_true rfl)

-- SwappedIntervals.item(IIJ)I
abbrev rm_X8_item : Room := { frames := 2, cells := 0, slots := 0, locals := 44 }
theorem me_X8_item : x_Me yX8_item cX8_item 5 (some .int) 3 := ⟨by decide +kernel, w_co_yX8_item, w_in_SwappedIntervals, by decide +kernel, by decide +kernel, by decide +kernel⟩
def f_X8_item (a0 : Nat) (a1 : Int32) (a2 : Int32) (a3 : Int64) (M : XM) : Option (Int32 × XM) := (f_X8_isTape a1 M).bind fun p1 => if p1 = 0 then some ((-1 : Int32), M) else (x_gR M a0 8 8).bind fun v3 => (x_aQ (.object RX6) M v3 a1).bind fun v4 => (x_gI M v4 6 0).bind fun v5 => if v5 = (-1 : Int32) then some ((-11 : Int32), M) else (x_gR M a0 8 8).bind fun v7 => (x_aQ (.object RX6) M v7 a1).bind fun v8 => (x_ob M v8 6).bind fun u9 => (f_X6_hasPlace v8 a2 M).bind fun p10 => if p10 = 0 then some ((-13 : Int32), M) else (x_gR M a0 8 8).bind fun v12 => (x_aQ (.object RX6) M v12 a1).bind fun v13 => (x_ob M v13 6).bind fun u14 => (f_X6_put v13 a2 a3 M).bind fun p15 => some ((1 : Int32), p15)
set_option maxHeartbeats 4000000 in
set_option maxRecDepth 100000 in
theorem c_X8_item (l : Launch) (D : va_G) (aC : FieldType → ClassId) (bs sz : Nat) {a0 : Nat} {a1 : Int32} {a2 : Int32} {a3 : Int64} {M : XM} {r : Int32 × XM} (h : f_X8_item a0 a1 a2 a3 M = some r) : x_Cn l D aC bs yX8_item cX8_item 5 (some .int) rm_X8_item [.ref a0, .int a1, .int a2, .long a3] sz M (some (.int r.1)) sz r.2 := by
  unfold f_X8_item at h
  refine x_enter2 [(0, .ref a0), (1, .int a1), (2, .int a2), (3, .long a3)] me_X8_item (Nat.le_of_ble_eq_true rfl) rfl ?_
  refine x_iload_n dX8_item_0 1 rfl ?_
  obtain ⟨p1, ep1, h⟩ := x_bd h
  refine x_callSI [.int a1] [] me_X8_isTape w_ml_RX8_305 w_st_yX8_isTape (Nat.le_of_ble_eq_true rfl) (Nat.le_of_ble_eq_true rfl) rfl (Nat.le_of_ble_eq_true rfl) (Nat.le_of_ble_eq_true rfl) (Nat.le_of_ble_eq_true rfl) dX8_item_1 (c_X8_isTape l D aC bs sz ep1) rfl ?_
  refine x_if_ne 9 dX8_item_4 (by decide) (fun c2 => ?_) (fun c2 => ?_)
  · have h := (if_neg c2).symm.trans h
    refine x_aload_n dX8_item_9 0 rfl ?_
    obtain ⟨v3, ev3, h⟩ := x_bd h
    refine x_getR clX8 w_fl_RX8_62 (by decide) dX8_item_10 ev3 ?_
    refine x_iload_n dX8_item_13 1 rfl ?_
    obtain ⟨v4, ev4, h⟩ := x_bd h
    refine x_aald (t0 := 5) rfl dX8_item_14 ev4 ?_
    obtain ⟨v5, ev5, h⟩ := x_bd h
    refine x_getI clX6 w_fl_RX8_308 (by decide) dX8_item_15 ev5 ?_
    refine x_iconst (v := (-1 : Int32)) dX8_item_18 (by decide) ?_
    refine x_icmp_ne 25 dX8_item_19 (by decide) (fun c6 => ?_) (fun c6 => ?_)
    · have h := (if_neg c6).symm.trans h
      refine x_aload_n dX8_item_25 0 rfl ?_
      obtain ⟨v7, ev7, h⟩ := x_bd h
      refine x_getR clX8 w_fl_RX8_62 (by decide) dX8_item_26 ev7 ?_
      refine x_iload_n dX8_item_29 1 rfl ?_
      obtain ⟨v8, ev8, h⟩ := x_bd h
      refine x_aald (t0 := 5) rfl dX8_item_30 ev8 ?_
      refine x_iload_n dX8_item_31 2 rfl ?_
      obtain ⟨u9, eu9, h⟩ := x_bd h
      obtain ⟨p10, ep10, h⟩ := x_bd h
      refine x_callVI [.int a2] [] clX6 me_X6_hasPlace w_ml_RX8_323 w_im_yX6_hasPlace w_se_yX6_hasPlace (Nat.le_of_ble_eq_true rfl) (Nat.le_of_ble_eq_true rfl) rfl (Nat.le_of_ble_eq_true rfl) (Nat.le_of_ble_eq_true rfl) (Nat.le_of_ble_eq_true rfl) dX8_item_32 eu9 (c_X6_hasPlace l D aC bs sz ep10) rfl ?_
      refine x_if_ne 41 dX8_item_35 (by decide) (fun c11 => ?_) (fun c11 => ?_)
      · have h := (if_neg c11).symm.trans h
        refine x_aload_n dX8_item_41 0 rfl ?_
        obtain ⟨v12, ev12, h⟩ := x_bd h
        refine x_getR clX8 w_fl_RX8_62 (by decide) dX8_item_42 ev12 ?_
        refine x_iload_n dX8_item_45 1 rfl ?_
        obtain ⟨v13, ev13, h⟩ := x_bd h
        refine x_aald (t0 := 5) rfl dX8_item_46 ev13 ?_
        refine x_iload_n dX8_item_47 2 rfl ?_
        refine x_lload_n dX8_item_48 3 rfl ?_
        obtain ⟨u14, eu14, h⟩ := x_bd h
        obtain ⟨p15, ep15, h⟩ := x_bd h
        refine x_callVV [.int a2, .long a3] [] clX6 me_X6_put w_ml_RX8_326 w_im_yX6_put w_se_yX6_put (Nat.le_of_ble_eq_true rfl) (Nat.le_of_ble_eq_true rfl) rfl (Nat.le_of_ble_eq_true rfl) (Nat.le_of_ble_eq_true rfl) (Nat.le_of_ble_eq_true rfl) dX8_item_49 eu14 (c_X6_put l D aC bs sz ep15) rfl ?_
        refine x_iconst (v := (1 : Int32)) dX8_item_52 (by decide) ?_
        obtain rfl := Option.some.inj h
        exact x_iret dX8_item_53 (Nat.le_of_ble_eq_true rfl) (Nat.le_of_ble_eq_true rfl)
      have h := (if_pos c11).symm.trans h
      refine x_bipush (v := (-13 : Int32)) dX8_item_38 (by decide) ?_
      obtain rfl := Option.some.inj h
      exact x_iret dX8_item_40 (Nat.le_of_ble_eq_true rfl) (Nat.le_of_ble_eq_true rfl)
    have h := (if_pos c6).symm.trans h
    refine x_bipush (v := (-11 : Int32)) dX8_item_22 (by decide) ?_
    obtain rfl := Option.some.inj h
    exact x_iret dX8_item_24 (Nat.le_of_ble_eq_true rfl) (Nat.le_of_ble_eq_true rfl)
  have h := (if_pos c2).symm.trans h
  refine x_iconst (v := (-1 : Int32)) dX8_item_7 (by decide) ?_
  obtain rfl := Option.some.inj h
  exact x_iret dX8_item_8 (Nat.le_of_ble_eq_true rfl) (Nat.le_of_ble_eq_true rfl)

-- SwappedIntervals.peek(II)J
abbrev rm_X8_peek : Room := { frames := 1, cells := 0, slots := 0, locals := 21 }
theorem me_X8_peek : x_Me yX8_peek cX8_peek 3 (some .long) 2 := ⟨by decide +kernel, w_co_yX8_peek, w_in_SwappedIntervals, by decide +kernel, by decide +kernel, by decide +kernel⟩
def f_X8_peek (a0 : Nat) (a1 : Int32) (a2 : Int32) (M : XM) : Option (Int64) := (f_X8_isTape a1 M).bind fun p1 => if p1 = 0 then some (-9223372036854775808 : Int64) else (x_gR M a0 8 8).bind fun v3 => (x_aQ (.object RX6) M v3 a1).bind fun v4 => (x_ob M v4 6).bind fun u5 => (f_X6_hasPlace v4 a2 M).bind fun p6 => if p6 = 0 then some (-9223372036854775808 : Int64) else (x_gR M a0 8 8).bind fun v8 => (x_aQ (.object RX6) M v8 a1).bind fun v9 => (x_gR M v9 6 2).bind fun v10 => (x_a64 M v10 a2).bind fun v11 => some v11
set_option maxHeartbeats 4000000 in
set_option maxRecDepth 100000 in
theorem c_X8_peek (l : Launch) (D : va_G) (aC : FieldType → ClassId) (bs sz : Nat) {a0 : Nat} {a1 : Int32} {a2 : Int32} {M : XM} {r : Int64} (h : f_X8_peek a0 a1 a2 M = some r) : x_Cn l D aC bs yX8_peek cX8_peek 3 (some .long) rm_X8_peek [.ref a0, .int a1, .int a2] sz M (some (.long r)) sz M := by
  unfold f_X8_peek at h
  refine x_enter2 [(0, .ref a0), (1, .int a1), (2, .int a2)] me_X8_peek (Nat.le_of_ble_eq_true rfl) rfl ?_
  refine x_iload_n dX8_peek_0 1 rfl ?_
  obtain ⟨p1, ep1, h⟩ := x_bd h
  refine x_callSI [.int a1] [] me_X8_isTape w_ml_RX8_305 w_st_yX8_isTape (Nat.le_of_ble_eq_true rfl) (Nat.le_of_ble_eq_true rfl) rfl (Nat.le_of_ble_eq_true rfl) (Nat.le_of_ble_eq_true rfl) (Nat.le_of_ble_eq_true rfl) dX8_peek_1 (c_X8_isTape l D aC bs sz ep1) rfl ?_
  refine x_if_eq 20 dX8_peek_4 (by decide) (fun c2 => ?_) (fun c2 => ?_)
  · have h := (if_pos c2).symm.trans h
    refine x_ldc2 (v := (-9223372036854775808 : Int64)) dX8_peek_20 w_cn_RX8_291 ?_
    obtain rfl := Option.some.inj h
    exact x_lret dX8_peek_23 (Nat.le_of_ble_eq_true rfl) (Nat.le_of_ble_eq_true rfl)
  have h := (if_neg c2).symm.trans h
  refine x_aload_n dX8_peek_7 0 rfl ?_
  obtain ⟨v3, ev3, h⟩ := x_bd h
  refine x_getR clX8 w_fl_RX8_62 (by decide) dX8_peek_8 ev3 ?_
  refine x_iload_n dX8_peek_11 1 rfl ?_
  obtain ⟨v4, ev4, h⟩ := x_bd h
  refine x_aald (t0 := 5) rfl dX8_peek_12 ev4 ?_
  refine x_iload_n dX8_peek_13 2 rfl ?_
  obtain ⟨u5, eu5, h⟩ := x_bd h
  obtain ⟨p6, ep6, h⟩ := x_bd h
  refine x_callVI [.int a2] [] clX6 me_X6_hasPlace w_ml_RX8_323 w_im_yX6_hasPlace w_se_yX6_hasPlace (Nat.le_of_ble_eq_true rfl) (Nat.le_of_ble_eq_true rfl) rfl (Nat.le_of_ble_eq_true rfl) (Nat.le_of_ble_eq_true rfl) (Nat.le_of_ble_eq_true rfl) dX8_peek_14 eu5 (c_X6_hasPlace l D aC bs sz ep6) rfl ?_
  refine x_if_ne 24 dX8_peek_17 (by decide) (fun c7 => ?_) (fun c7 => ?_)
  · have h := (if_neg c7).symm.trans h
    refine x_aload_n dX8_peek_24 0 rfl ?_
    obtain ⟨v8, ev8, h⟩ := x_bd h
    refine x_getR clX8 w_fl_RX8_62 (by decide) dX8_peek_25 ev8 ?_
    refine x_iload_n dX8_peek_28 1 rfl ?_
    obtain ⟨v9, ev9, h⟩ := x_bd h
    refine x_aald (t0 := 5) rfl dX8_peek_29 ev9 ?_
    obtain ⟨v10, ev10, h⟩ := x_bd h
    refine x_getR clX6 w_fl_RX8_312 (by decide) dX8_peek_30 ev10 ?_
    refine x_iload_n dX8_peek_33 2 rfl ?_
    obtain ⟨v11, ev11, h⟩ := x_bd h
    refine x_lald dX8_peek_34 ev11 ?_
    obtain rfl := Option.some.inj h
    exact x_lret dX8_peek_35 (Nat.le_of_ble_eq_true rfl) (Nat.le_of_ble_eq_true rfl)
  have h := (if_pos c7).symm.trans h
  refine x_ldc2 (v := (-9223372036854775808 : Int64)) dX8_peek_20 w_cn_RX8_291 ?_
  obtain rfl := Option.some.inj h
  exact x_lret dX8_peek_23 (Nat.le_of_ble_eq_true rfl) (Nat.le_of_ble_eq_true rfl)

-- SwappedIntervals.shift(IIIII)I
abbrev rm_X8_shift : Room := { frames := 1, cells := 0, slots := 0, locals := 26 }
theorem me_X8_shift : x_Me yX8_shift cX8_shift 8 (some .int) 5 := ⟨by decide +kernel, w_co_yX8_shift, w_in_SwappedIntervals, by decide +kernel, by decide +kernel, by decide +kernel⟩
def f_X8_shift (a0 : Nat) (a1 : Int32) (a2 : Int32) (a3 : Int32) (a4 : Int32) (a5 : Int32) (M : XM) : Option (Int32 × XM) := (f_X8_isTape a1 M).bind fun p1 => if p1 = 0 then some ((-1 : Int32), M) else (f_X8_isTape a3 M).bind fun p3 => if p3 = 0 then some ((-1 : Int32), M) else (x_gR M a0 8 8).bind fun v5 => (x_aQ (.object RX6) M v5 a1).bind fun v6 => (x_gR M a0 8 8).bind fun v7 => (x_aQ (.object RX6) M v7 a3).bind fun v8 => (x_gI M v6 6 0).bind fun v9 => if v9 = (-1 : Int32) then some ((-11 : Int32), M) else (x_gI M v8 6 0).bind fun v11 => if v11 = (-1 : Int32) then some ((-11 : Int32), M) else (x_gI M v6 6 0).bind fun v13 => (x_gI M v8 6 0).bind fun v14 => if v13 = v14 then (x_ob M v6 6).bind fun u16 => (f_X6_hasRun v6 a2 a5 M).bind fun p17 => if p17 = 0 then some ((-13 : Int32), M) else (x_ob M v8 6).bind fun u19 => (f_X6_hasRun v8 a4 a5 M).bind fun p20 => if p20 = 0 then some ((-13 : Int32), M) else (x_gR M v6 6 2).bind fun v22 => (x_gR M v8 6 2).bind fun v23 => (x_cpL M v22 a2 v23 a4 a5).bind fun m24 => some (a5, m24) else some ((-12 : Int32), M)
set_option maxHeartbeats 4000000 in
set_option maxRecDepth 100000 in
theorem c_X8_shift (l : Launch) (D : va_G) (aC : FieldType → ClassId) (bs sz : Nat) {a0 : Nat} {a1 : Int32} {a2 : Int32} {a3 : Int32} {a4 : Int32} {a5 : Int32} {M : XM} {r : Int32 × XM} (h : f_X8_shift a0 a1 a2 a3 a4 a5 M = some r) : x_Cn l D aC bs yX8_shift cX8_shift 8 (some .int) rm_X8_shift [.ref a0, .int a1, .int a2, .int a3, .int a4, .int a5] sz M (some (.int r.1)) sz r.2 := by
  unfold f_X8_shift at h
  refine x_enter2 [(0, .ref a0), (1, .int a1), (2, .int a2), (3, .int a3), (4, .int a4), (5, .int a5)] me_X8_shift (Nat.le_of_ble_eq_true rfl) rfl ?_
  refine x_iload_n dX8_shift_0 1 rfl ?_
  obtain ⟨p1, ep1, h⟩ := x_bd h
  refine x_callSI [.int a1] [] me_X8_isTape w_ml_RX8_305 w_st_yX8_isTape (Nat.le_of_ble_eq_true rfl) (Nat.le_of_ble_eq_true rfl) rfl (Nat.le_of_ble_eq_true rfl) (Nat.le_of_ble_eq_true rfl) (Nat.le_of_ble_eq_true rfl) dX8_shift_1 (c_X8_isTape l D aC bs sz ep1) rfl ?_
  refine x_if_eq 14 dX8_shift_4 (by decide) (fun c2 => ?_) (fun c2 => ?_)
  · have h := (if_pos c2).symm.trans h
    refine x_iconst (v := (-1 : Int32)) dX8_shift_14 (by decide) ?_
    obtain rfl := Option.some.inj h
    exact x_iret dX8_shift_15 (Nat.le_of_ble_eq_true rfl) (Nat.le_of_ble_eq_true rfl)
  have h := (if_neg c2).symm.trans h
  refine x_iload_n dX8_shift_7 3 rfl ?_
  obtain ⟨p3, ep3, h⟩ := x_bd h
  refine x_callSI [.int a3] [] me_X8_isTape w_ml_RX8_305 w_st_yX8_isTape (Nat.le_of_ble_eq_true rfl) (Nat.le_of_ble_eq_true rfl) rfl (Nat.le_of_ble_eq_true rfl) (Nat.le_of_ble_eq_true rfl) (Nat.le_of_ble_eq_true rfl) dX8_shift_8 (c_X8_isTape l D aC bs sz ep3) rfl ?_
  refine x_if_ne 16 dX8_shift_11 (by decide) (fun c4 => ?_) (fun c4 => ?_)
  · have h := (if_neg c4).symm.trans h
    refine x_aload_n dX8_shift_16 0 rfl ?_
    obtain ⟨v5, ev5, h⟩ := x_bd h
    refine x_getR clX8 w_fl_RX8_62 (by decide) dX8_shift_17 ev5 ?_
    refine x_iload_n dX8_shift_20 1 rfl ?_
    obtain ⟨v6, ev6, h⟩ := x_bd h
    refine x_aald (t0 := 5) rfl dX8_shift_21 ev6 ?_
    refine x_astore [(6, .ref v6), (0, .ref a0), (1, .int a1), (2, .int a2), (3, .int a3), (4, .int a4), (5, .int a5)] dX8_shift_22 (by decide) rfl ?_
    refine x_aload_n dX8_shift_24 1 rfl ?_
    obtain ⟨v7, ev7, h⟩ := x_bd h
    refine x_getR clX8 w_fl_RX8_62 (by decide) dX8_shift_25 ev7 ?_
    refine x_iload_n dX8_shift_28 4 rfl ?_
    obtain ⟨v8, ev8, h⟩ := x_bd h
    refine x_aald (t0 := 5) rfl dX8_shift_29 ev8 ?_
    refine x_astore [(7, .ref v8), (6, .ref v6), (0, .ref a0), (1, .int a1), (2, .int a2), (3, .int a3), (4, .int a4), (5, .int a5)] dX8_shift_30 (by decide) rfl ?_
    refine x_aload dX8_shift_32 1 rfl ?_
    obtain ⟨v9, ev9, h⟩ := x_bd h
    refine x_getI clX6 w_fl_RX8_308 (by decide) dX8_shift_34 ev9 ?_
    refine x_iconst (v := (-1 : Int32)) dX8_shift_37 (by decide) ?_
    refine x_icmp_eq 50 dX8_shift_38 (by decide) (fun c10 => ?_) (fun c10 => ?_)
    · have h := (if_pos c10).symm.trans h
      refine x_bipush (v := (-11 : Int32)) dX8_shift_50 (by decide) ?_
      obtain rfl := Option.some.inj h
      exact x_iret dX8_shift_52 (Nat.le_of_ble_eq_true rfl) (Nat.le_of_ble_eq_true rfl)
    have h := (if_neg c10).symm.trans h
    refine x_aload dX8_shift_41 0 rfl ?_
    obtain ⟨v11, ev11, h⟩ := x_bd h
    refine x_getI clX6 w_fl_RX8_308 (by decide) dX8_shift_43 ev11 ?_
    refine x_iconst (v := (-1 : Int32)) dX8_shift_46 (by decide) ?_
    refine x_icmp_ne 53 dX8_shift_47 (by decide) (fun c12 => ?_) (fun c12 => ?_)
    · have h := (if_neg c12).symm.trans h
      refine x_aload dX8_shift_53 1 rfl ?_
      obtain ⟨v13, ev13, h⟩ := x_bd h
      refine x_getI clX6 w_fl_RX8_308 (by decide) dX8_shift_55 ev13 ?_
      refine x_aload dX8_shift_58 0 rfl ?_
      obtain ⟨v14, ev14, h⟩ := x_bd h
      refine x_getI clX6 w_fl_RX8_308 (by decide) dX8_shift_60 ev14 ?_
      refine x_icmp_eq 69 dX8_shift_63 (by decide) (fun c15 => ?_) (fun c15 => ?_)
      · have h := (if_pos c15).symm.trans h
        refine x_aload dX8_shift_69 1 rfl ?_
        refine x_iload_n dX8_shift_71 4 rfl ?_
        refine x_iload dX8_shift_72 7 rfl ?_
        obtain ⟨u16, eu16, h⟩ := x_bd h
        obtain ⟨p17, ep17, h⟩ := x_bd h
        refine x_callVI [.int a2, .int a5] [] clX6 me_X6_hasRun w_ml_RX8_330 w_im_yX6_hasRun w_se_yX6_hasRun (Nat.le_of_ble_eq_true rfl) (Nat.le_of_ble_eq_true rfl) rfl (Nat.le_of_ble_eq_true rfl) (Nat.le_of_ble_eq_true rfl) (Nat.le_of_ble_eq_true rfl) dX8_shift_74 eu16 (c_X6_hasRun l D aC bs sz ep17) rfl ?_
        refine x_if_eq 92 dX8_shift_77 (by decide) (fun c18 => ?_) (fun c18 => ?_)
        · have h := (if_pos c18).symm.trans h
          refine x_bipush (v := (-13 : Int32)) dX8_shift_92 (by decide) ?_
          obtain rfl := Option.some.inj h
          exact x_iret dX8_shift_94 (Nat.le_of_ble_eq_true rfl) (Nat.le_of_ble_eq_true rfl)
        have h := (if_neg c18).symm.trans h
        refine x_aload dX8_shift_80 0 rfl ?_
        refine x_iload dX8_shift_82 6 rfl ?_
        refine x_iload dX8_shift_84 7 rfl ?_
        obtain ⟨u19, eu19, h⟩ := x_bd h
        obtain ⟨p20, ep20, h⟩ := x_bd h
        refine x_callVI [.int a4, .int a5] [] clX6 me_X6_hasRun w_ml_RX8_330 w_im_yX6_hasRun w_se_yX6_hasRun (Nat.le_of_ble_eq_true rfl) (Nat.le_of_ble_eq_true rfl) rfl (Nat.le_of_ble_eq_true rfl) (Nat.le_of_ble_eq_true rfl) (Nat.le_of_ble_eq_true rfl) dX8_shift_86 eu19 (c_X6_hasRun l D aC bs sz ep20) rfl ?_
        refine x_if_ne 95 dX8_shift_89 (by decide) (fun c21 => ?_) (fun c21 => ?_)
        · have h := (if_neg c21).symm.trans h
          refine x_aload dX8_shift_95 1 rfl ?_
          obtain ⟨v22, ev22, h⟩ := x_bd h
          refine x_getR clX6 w_fl_RX8_312 (by decide) dX8_shift_97 ev22 ?_
          refine x_iload_n dX8_shift_100 4 rfl ?_
          refine x_aload dX8_shift_101 0 rfl ?_
          obtain ⟨v23, ev23, h⟩ := x_bd h
          refine x_getR clX6 w_fl_RX8_312 (by decide) dX8_shift_103 ev23 ?_
          refine x_iload dX8_shift_106 6 rfl ?_
          refine x_iload dX8_shift_108 7 rfl ?_
          obtain ⟨m24, em24, h⟩ := x_bd h
          refine x_acL w_ml_RX8_333 w_na_arraycopyName w_st_arraycopyName w_in_java_lang_System (Nat.le_of_ble_eq_true rfl) (Nat.le_of_ble_eq_true rfl) dX8_shift_110 em24 ?_
          refine x_iload dX8_shift_113 7 rfl ?_
          obtain rfl := Option.some.inj h
          exact x_iret dX8_shift_115 (Nat.le_of_ble_eq_true rfl) (Nat.le_of_ble_eq_true rfl)
        have h := (if_pos c21).symm.trans h
        refine x_bipush (v := (-13 : Int32)) dX8_shift_92 (by decide) ?_
        obtain rfl := Option.some.inj h
        exact x_iret dX8_shift_94 (Nat.le_of_ble_eq_true rfl) (Nat.le_of_ble_eq_true rfl)
      have h := (if_neg c15).symm.trans h
      refine x_bipush (v := (-12 : Int32)) dX8_shift_66 (by decide) ?_
      obtain rfl := Option.some.inj h
      exact x_iret dX8_shift_68 (Nat.le_of_ble_eq_true rfl) (Nat.le_of_ble_eq_true rfl)
    have h := (if_pos c12).symm.trans h
    refine x_bipush (v := (-11 : Int32)) dX8_shift_50 (by decide) ?_
    obtain rfl := Option.some.inj h
    exact x_iret dX8_shift_52 (Nat.le_of_ble_eq_true rfl) (Nat.le_of_ble_eq_true rfl)
  have h := (if_pos c4).symm.trans h
  refine x_iconst (v := (-1 : Int32)) dX8_shift_14 (by decide) ?_
  obtain rfl := Option.some.inj h
  exact x_iret dX8_shift_15 (Nat.le_of_ble_eq_true rfl) (Nat.le_of_ble_eq_true rfl)

-- SwappedIntervalsModel.begins(I)V
abbrev rm_X9_begins : Room := { frames := 0, cells := 0, slots := 0, locals := 0 }
theorem me_X9_begins : x_Me yX9_begins cX9_begins 3 none 1 := ⟨by decide +kernel, w_co_yX9_begins, w_in_SwappedIntervalsModel, by decide +kernel, by decide +kernel, by decide +kernel⟩
def b_X9_begins_16 (F : Nat) (a0 : Nat) (a1 : Int32)  (k16 : (Int32 × XM) → Option (XM)) (q : Int32 × XM) : Option (XM) := if a1 ≤ q.1 then (x_put q.2 a0 9 4 (.int (0 : Int32))).bind fun m6 => some m6 else (x_gR q.2 a0 9 0).bind fun v7 => (x_w32 .int q.2 v7 ((2 : Int32) + q.1) q.1).bind fun m8 => (x_gR m8 a0 9 0).bind fun v9 => (x_w32 .int m8 v9 ((7 : Int32) + q.1) ((a1 - (1 : Int32)) - q.1)).bind fun m10 => (x_gR m10 a0 9 0).bind fun v11 => (x_w32 .int m10 v11 ((12 : Int32) + q.1) (1 : Int32)).bind fun m12 => (x_gR m12 a0 9 0).bind fun v13 => (x_gR m12 a0 9 0).bind fun v14 => (x_a32 .int m12 v14 (1 : Int32)).bind fun v15 => (x_w32 .int m12 v13 (1 : Int32) ((((10 : Int32) * v15) + a1) - q.1)).bind fun m16 => k16 ((q.1 + (1 : Int32)), m16)
set_option maxHeartbeats 4000000 in
set_option maxRecDepth 100000 in
theorem lp_X9_begins_16 (l : Launch) (D : va_G) (aC : FieldType → ClassId) (bs : Nat) (sz : Nat) (F : Nat) (a0 : Nat) (a1 : Int32)   : ∀ (n : Nat) (b0 : Int32) (b1 : XM) (r : XM), x_it (b_X9_begins_16 F a0 a1 ) n (b0, b1) = some r → x_V l D aC bs yX9_begins cX9_begins 3 none rm_X9_begins (x_Z D aC bs none sz r rm_X9_begins) 16 [(0, .ref a0), (1, .int a1), (2, .int b0)] [] sz b1 0 0 := by
  suffices H : ∀ (n : Nat) (q : Int32 × XM) (r : XM), x_it (b_X9_begins_16 F a0 a1 ) n q = some r → x_V l D aC bs yX9_begins cX9_begins 3 none rm_X9_begins (x_Z D aC bs none sz r rm_X9_begins) 16 [(0, .ref a0), (1, .int a1), (2, .int q.1)] [] sz q.2 0 0 from fun n b0 b1 r h => H n (b0, b1) r h
  refine x_loop (P := fun (q : Int32 × XM) (r : XM) => x_V l D aC bs yX9_begins cX9_begins 3 none rm_X9_begins (x_Z D aC bs none sz r rm_X9_begins) 16 [(0, .ref a0), (1, .int a1), (2, .int q.1)] [] sz q.2 0 0) (fun k16 hk0 q r h => ?_)
  have hk16 : ∀ (b0 : Int32) (b1 : XM) (r : XM), k16 (b0, b1) = some r → x_V l D aC bs yX9_begins cX9_begins 3 none rm_X9_begins (x_Z D aC bs none sz r rm_X9_begins) 16 [(0, .ref a0), (1, .int a1), (2, .int b0)] [] sz b1 0 0 := fun b0 b1 r h => hk0 (b0, b1) r h
  unfold b_X9_begins_16 at h
  refine x_iload_n dX9_begins_16 2 rfl ?_
  refine x_iload_n dX9_begins_17 1 rfl ?_
  refine x_icmp_ge 79 dX9_begins_18 (by decide) (fun c5 => ?_) (fun c5 => ?_)
  · have h := (if_pos c5).symm.trans h
    refine x_aload_n dX9_begins_79 0 rfl ?_
    refine x_iconst (v := (0 : Int32)) dX9_begins_80 (by decide) ?_
    obtain ⟨m6, em6, h⟩ := x_bd h
    refine x_putV clX9 w_fl_RX9_70 (by decide) rfl rfl rfl dX9_begins_81 em6 ?_
    obtain rfl := Option.some.inj h
    exact x_vret dX9_begins_84 (Nat.le_of_ble_eq_true rfl) (Nat.le_of_ble_eq_true rfl)
  have h := (if_neg c5).symm.trans h
  refine x_aload_n dX9_begins_21 0 rfl ?_
  obtain ⟨v7, ev7, h⟩ := x_bd h
  refine x_getR clX9 w_fl_RX9_11 (by decide) dX9_begins_22 ev7 ?_
  refine x_iconst (v := (2 : Int32)) dX9_begins_25 (by decide) ?_
  refine x_iload_n dX9_begins_26 2 rfl ?_
  refine x_iadd dX9_begins_27 ?_
  refine x_iload_n dX9_begins_28 2 rfl ?_
  obtain ⟨m8, em8, h⟩ := x_bd h
  refine x_iast dX9_begins_29 em8 ?_
  refine x_aload_n dX9_begins_30 0 rfl ?_
  obtain ⟨v9, ev9, h⟩ := x_bd h
  refine x_getR clX9 w_fl_RX9_11 (by decide) dX9_begins_31 ev9 ?_
  refine x_bipush (v := (7 : Int32)) dX9_begins_34 (by decide) ?_
  refine x_iload_n dX9_begins_36 2 rfl ?_
  refine x_iadd dX9_begins_37 ?_
  refine x_iload_n dX9_begins_38 1 rfl ?_
  refine x_iconst (v := (1 : Int32)) dX9_begins_39 (by decide) ?_
  refine x_isub dX9_begins_40 ?_
  refine x_iload_n dX9_begins_41 2 rfl ?_
  refine x_isub dX9_begins_42 ?_
  obtain ⟨m10, em10, h⟩ := x_bd h
  refine x_iast dX9_begins_43 em10 ?_
  refine x_aload_n dX9_begins_44 0 rfl ?_
  obtain ⟨v11, ev11, h⟩ := x_bd h
  refine x_getR clX9 w_fl_RX9_11 (by decide) dX9_begins_45 ev11 ?_
  refine x_bipush (v := (12 : Int32)) dX9_begins_48 (by decide) ?_
  refine x_iload_n dX9_begins_50 2 rfl ?_
  refine x_iadd dX9_begins_51 ?_
  refine x_iconst (v := (1 : Int32)) dX9_begins_52 (by decide) ?_
  obtain ⟨m12, em12, h⟩ := x_bd h
  refine x_iast dX9_begins_53 em12 ?_
  refine x_aload_n dX9_begins_54 0 rfl ?_
  obtain ⟨v13, ev13, h⟩ := x_bd h
  refine x_getR clX9 w_fl_RX9_11 (by decide) dX9_begins_55 ev13 ?_
  refine x_iconst (v := (1 : Int32)) dX9_begins_58 (by decide) ?_
  refine x_bipush (v := (10 : Int32)) dX9_begins_59 (by decide) ?_
  refine x_aload_n dX9_begins_61 0 rfl ?_
  obtain ⟨v14, ev14, h⟩ := x_bd h
  refine x_getR clX9 w_fl_RX9_11 (by decide) dX9_begins_62 ev14 ?_
  refine x_iconst (v := (1 : Int32)) dX9_begins_65 (by decide) ?_
  obtain ⟨v15, ev15, h⟩ := x_bd h
  refine x_iald dX9_begins_66 ev15 ?_
  refine x_imul dX9_begins_67 ?_
  refine x_iload_n dX9_begins_68 1 rfl ?_
  refine x_iadd dX9_begins_69 ?_
  refine x_iload_n dX9_begins_70 2 rfl ?_
  refine x_isub dX9_begins_71 ?_
  obtain ⟨m16, em16, h⟩ := x_bd h
  refine x_iast dX9_begins_72 em16 ?_
  refine x_iinc (1 : Int32) 2 [(2, .int (q.1 + (1 : Int32))), (0, .ref a0), (1, .int a1)] dX9_begins_73 rfl (by decide) (by decide) rfl ?_
  refine x_goto 16 dX9_begins_76 (by decide) ?_
  exact x_sub [1, 2, 0] rfl (hk16 _ _ _ h)
def f_X9_begins (F : Nat) (a0 : Nat) (a1 : Int32) (M : XM) : Option (XM) := (x_gR M a0 9 0).bind fun v1 => (x_w32 .int M v1 (0 : Int32) a1).bind fun m2 => (x_gR m2 a0 9 0).bind fun v3 => (x_w32 .int m2 v3 (1 : Int32) (0 : Int32)).bind fun m4 => x_it (b_X9_begins_16 F (a0) (a1)) F ((0 : Int32), m4)
set_option maxHeartbeats 4000000 in
set_option maxRecDepth 100000 in
theorem c_X9_begins (l : Launch) (D : va_G) (aC : FieldType → ClassId) (bs sz : Nat) (F : Nat) {a0 : Nat} {a1 : Int32} {M : XM} {r : XM} (h : f_X9_begins F a0 a1 M = some r) : x_Cn l D aC bs yX9_begins cX9_begins 3 none rm_X9_begins [.ref a0, .int a1] sz M none sz r := by
  unfold f_X9_begins at h
  refine x_enter2 [(0, .ref a0), (1, .int a1)] me_X9_begins (Nat.le_of_ble_eq_true rfl) rfl ?_
  refine x_aload_n dX9_begins_0 0 rfl ?_
  obtain ⟨v1, ev1, h⟩ := x_bd h
  refine x_getR clX9 w_fl_RX9_11 (by decide) dX9_begins_1 ev1 ?_
  refine x_iconst (v := (0 : Int32)) dX9_begins_4 (by decide) ?_
  refine x_iload_n dX9_begins_5 1 rfl ?_
  obtain ⟨m2, em2, h⟩ := x_bd h
  refine x_iast dX9_begins_6 em2 ?_
  refine x_aload_n dX9_begins_7 0 rfl ?_
  obtain ⟨v3, ev3, h⟩ := x_bd h
  refine x_getR clX9 w_fl_RX9_11 (by decide) dX9_begins_8 ev3 ?_
  refine x_iconst (v := (1 : Int32)) dX9_begins_11 (by decide) ?_
  refine x_iconst (v := (0 : Int32)) dX9_begins_12 (by decide) ?_
  obtain ⟨m4, em4, h⟩ := x_bd h
  refine x_iast dX9_begins_13 em4 ?_
  refine x_iconst (v := (0 : Int32)) dX9_begins_14 (by decide) ?_
  refine x_istore_n 2 [(2, .int (0 : Int32)), (0, .ref a0), (1, .int a1)] dX9_begins_15 rfl (by decide) rfl ?_
  exact x_sub [1, 2, 0] rfl (lp_X9_begins_16 l D aC bs sz F (a0) (a1)  F _ _ _ h)

-- SwappedIntervalsModel.<init>()V
abbrev rm_X9_init : Room := { frames := 1, cells := 16, slots := 2584, locals := 22 }
abbrev mc_X9_init : Nat := 16
theorem me_X9_init : x_Me yX9_init cX9_init 2 none 0 := ⟨by decide +kernel, w_co_yX9_init, w_in_SwappedIntervalsModel, by decide +kernel, by decide +kernel, by decide +kernel⟩
def b_X9_init_141 (F : Nat) (sz : Nat) (a0 : Nat)  (k141 : (Int32 × XM) → Option (XM)) (q : Int32 × XM) : Option (XM) := if (6 : Int32) ≤ q.1 then some q.2 else (x_gR q.2 a0 9 19).bind fun v36 => (x_w32 .int q.2 v36 q.1 (-1 : Int32)).bind fun m37 => k141 ((q.1 + (1 : Int32)), m37)
set_option maxHeartbeats 4000000 in
set_option maxRecDepth 100000 in
theorem lp_X9_init_141 (l : Launch) (D : va_G) (aC : FieldType → ClassId) (bs : Nat) (F : Nat) (sz : Nat) (a0 : Nat)   : ∀ (n : Nat) (b0 : Int32) (b1 : XM) (r : XM), x_it (b_X9_init_141 F sz a0 ) n (b0, b1) = some r → x_V l D aC bs yX9_init cX9_init 2 none rm_X9_init (x_Z D aC bs none (sz + mc_X9_init) r rm_X9_init) 141 [(0, .ref a0), (1, .int b0)] [] (sz + 16) b1 16 2584 := by
  suffices H : ∀ (n : Nat) (q : Int32 × XM) (r : XM), x_it (b_X9_init_141 F sz a0 ) n q = some r → x_V l D aC bs yX9_init cX9_init 2 none rm_X9_init (x_Z D aC bs none (sz + mc_X9_init) r rm_X9_init) 141 [(0, .ref a0), (1, .int q.1)] [] (sz + 16) q.2 16 2584 from fun n b0 b1 r h => H n (b0, b1) r h
  refine x_loop (P := fun (q : Int32 × XM) (r : XM) => x_V l D aC bs yX9_init cX9_init 2 none rm_X9_init (x_Z D aC bs none (sz + mc_X9_init) r rm_X9_init) 141 [(0, .ref a0), (1, .int q.1)] [] (sz + 16) q.2 16 2584) (fun k141 hk0 q r h => ?_)
  have hk141 : ∀ (b0 : Int32) (b1 : XM) (r : XM), k141 (b0, b1) = some r → x_V l D aC bs yX9_init cX9_init 2 none rm_X9_init (x_Z D aC bs none (sz + mc_X9_init) r rm_X9_init) 141 [(0, .ref a0), (1, .int b0)] [] (sz + 16) b1 16 2584 := fun b0 b1 r h => hk0 (b0, b1) r h
  unfold b_X9_init_141 at h
  refine x_iload_n dX9_init_141 1 rfl ?_
  refine x_bipush (v := (6 : Int32)) dX9_init_142 (by decide) ?_
  refine x_icmp_ge 160 dX9_init_144 (by decide) (fun c35 => ?_) (fun c35 => ?_)
  · have h := (if_pos c35).symm.trans h
    obtain rfl := Option.some.inj h
    exact x_vret dX9_init_160 (Nat.le_of_ble_eq_true rfl) (Nat.le_of_ble_eq_true rfl)
  have h := (if_neg c35).symm.trans h
  refine x_aload_n dX9_init_147 0 rfl ?_
  obtain ⟨v36, ev36, h⟩ := x_bd h
  refine x_getR clX9 w_fl_RX9_52 (by decide) dX9_init_148 ev36 ?_
  refine x_iload_n dX9_init_151 1 rfl ?_
  refine x_iconst (v := (-1 : Int32)) dX9_init_152 (by decide) ?_
  obtain ⟨m37, em37, h⟩ := x_bd h
  refine x_iast dX9_init_153 em37 ?_
  refine x_iinc (1 : Int32) 1 [(1, .int (q.1 + (1 : Int32))), (0, .ref a0)] dX9_init_154 rfl (by decide) (by decide) rfl ?_
  refine x_goto 141 dX9_init_157 (by decide) ?_
  exact x_sub [1, 0] rfl (hk141 _ _ _ h)
def f_X9_init (F : Nat) (a0 : Nat) (sz : Nat) (M : XM) : Option (XM) := (x_nw M sz (.inl (.int, 60, .inl (fun _ => 0)))).bind fun m1 => (x_put m1 a0 9 0 (.ref sz)).bind fun m2 => (x_nw m2 (sz + 1) (.inl (.int, 60, .inl (fun _ => 0)))).bind fun m3 => (x_put m3 a0 9 1 (.ref (sz + 1))).bind fun m4 => (x_nw m4 (sz + 2) (.inl (.int, 180, .inl (fun _ => 0)))).bind fun m5 => (x_put m5 a0 9 3 (.ref (sz + 2))).bind fun m6 => (x_nw m6 (sz + 3) (.inl (.int, 5, .inl (fun _ => 0)))).bind fun m7 => (x_put m7 a0 9 5 (.ref (sz + 3))).bind fun m8 => (x_nw m8 (sz + 4) (.inl (.int, 100, .inl (fun _ => 0)))).bind fun m9 => (x_put m9 a0 9 6 (.ref (sz + 4))).bind fun m10 => (x_nw m10 (sz + 5) (.inl (.int, 2, .inl (fun _ => 0)))).bind fun m11 => (x_put m11 a0 9 10 (.ref (sz + 5))).bind fun m12 => (x_nw m12 (sz + 6) (.inl (.int, 500, .inl (fun _ => 0)))).bind fun m13 => (x_put m13 a0 9 11 (.ref (sz + 6))).bind fun m14 => (x_nw m14 (sz + 7) (.inl (.int, 500, .inl (fun _ => 0)))).bind fun m15 => (x_put m15 a0 9 12 (.ref (sz + 7))).bind fun m16 => (x_nw m16 (sz + 8) (.inl (.int, 5, .inl (fun _ => 0)))).bind fun m17 => (x_put m17 a0 9 13 (.ref (sz + 8))).bind fun m18 => (x_nw m18 (sz + 9) (.inl (.boolean, 500, .inl (fun _ => 0)))).bind fun m19 => (x_put m19 a0 9 14 (.ref (sz + 9))).bind fun m20 => (x_nw m20 (sz + 10) (.inl (.int, 60, .inl (fun _ => 0)))).bind fun m21 => (x_put m21 a0 9 15 (.ref (sz + 10))).bind fun m22 => (x_nw m22 (sz + 11) (.inl (.int, 120, .inl (fun _ => 0)))).bind fun m23 => (x_put m23 a0 9 16 (.ref (sz + 11))).bind fun m24 => (x_nw m24 (sz + 12) (.inl (.int, 120, .inl (fun _ => 0)))).bind fun m25 => (x_put m25 a0 9 17 (.ref (sz + 12))).bind fun m26 => (x_nw m26 (sz + 13) (.inl (.int, 6, .inl (fun _ => 0)))).bind fun m27 => (x_put m27 a0 9 19 (.ref (sz + 13))).bind fun m28 => (x_nw m28 (sz + 14) (.inl (.int, 6, .inl (fun _ => 0)))).bind fun m29 => (x_put m29 a0 9 20 (.ref (sz + 14))).bind fun m30 => (x_nw m30 (sz + 15) (.inl (.long, 360, .inr (.inl (fun _ => 0))))).bind fun m31 => (x_put m31 a0 9 21 (.ref (sz + 15))).bind fun m32 => (x_ob m32 a0 9).bind fun u33 => (f_X9_begins F a0 (3 : Int32) m32).bind fun p34 => x_it (b_X9_init_141 F sz (a0)) F ((0 : Int32), p34)
set_option maxHeartbeats 4000000 in
set_option maxRecDepth 100000 in
theorem c_X9_init (l : Launch) (D : va_G) (aC : FieldType → ClassId) (bs sz : Nat) (F : Nat) {a0 : Nat} {M : XM} {r : XM} (h : f_X9_init F a0 sz M = some r) : x_Cn l D aC bs yX9_init cX9_init 2 none rm_X9_init [.ref a0] sz M none (sz + mc_X9_init) r := by
  unfold f_X9_init at h
  refine x_enter2 [(0, .ref a0)] me_X9_init (Nat.le_of_ble_eq_true rfl) rfl ?_
  refine x_aload_n dX9_init_0 0 rfl ?_
  refine x_objInit w_ml_RX9_5 w_im_Lib_objectInit w_co_Lib_objectInit (Nat.le_of_ble_eq_true rfl) (Nat.le_of_ble_eq_true rfl) dX9_init_1 ?_
  refine x_aload_n dX9_init_4 0 rfl ?_
  refine x_bipush (v := (60 : Int32)) dX9_init_5 (by decide) ?_
  obtain ⟨m1, em1, h⟩ := x_bd h
  refine x_newI 60 60 w_ac_int (by decide) (by decide) (Nat.le_refl _) (by decide) (Nat.le_of_ble_eq_true rfl) (Nat.le_of_ble_eq_true rfl) dX9_init_7 ?_
  refine x_castM (Option.some.inj em1) ?_
  obtain ⟨m2, em2, h⟩ := x_bd h
  refine x_putF clX9 w_fl_RX9_11 (by decide) rfl rfl rfl rfl rfl dX9_init_9 em2 ?_
  refine x_aload_n dX9_init_12 0 rfl ?_
  refine x_bipush (v := (60 : Int32)) dX9_init_13 (by decide) ?_
  obtain ⟨m3, em3, h⟩ := x_bd h
  refine x_newI 60 60 w_ac_int (by decide) (by decide) (Nat.le_refl _) (by decide) (Nat.le_of_ble_eq_true rfl) (Nat.le_of_ble_eq_true rfl) dX9_init_15 ?_
  refine x_castM (Option.some.inj em3) ?_
  obtain ⟨m4, em4, h⟩ := x_bd h
  refine x_putF clX9 w_fl_RX9_15 (by decide) rfl rfl rfl rfl rfl dX9_init_17 em4 ?_
  refine x_aload_n dX9_init_20 0 rfl ?_
  refine x_sipush (v := (180 : Int32)) dX9_init_21 (by decide) ?_
  obtain ⟨m5, em5, h⟩ := x_bd h
  refine x_newI 180 180 w_ac_int (by decide) (by decide) (Nat.le_refl _) (by decide) (Nat.le_of_ble_eq_true rfl) (Nat.le_of_ble_eq_true rfl) dX9_init_24 ?_
  refine x_castM (Option.some.inj em5) ?_
  obtain ⟨m6, em6, h⟩ := x_bd h
  refine x_putF clX9 w_fl_RX9_18 (by decide) rfl rfl rfl rfl rfl dX9_init_26 em6 ?_
  refine x_aload_n dX9_init_29 0 rfl ?_
  refine x_iconst (v := (5 : Int32)) dX9_init_30 (by decide) ?_
  obtain ⟨m7, em7, h⟩ := x_bd h
  refine x_newI 5 5 w_ac_int (by decide) (by decide) (Nat.le_refl _) (by decide) (Nat.le_of_ble_eq_true rfl) (Nat.le_of_ble_eq_true rfl) dX9_init_31 ?_
  refine x_castM (Option.some.inj em7) ?_
  obtain ⟨m8, em8, h⟩ := x_bd h
  refine x_putF clX9 w_fl_RX9_21 (by decide) rfl rfl rfl rfl rfl dX9_init_33 em8 ?_
  refine x_aload_n dX9_init_36 0 rfl ?_
  refine x_bipush (v := (100 : Int32)) dX9_init_37 (by decide) ?_
  obtain ⟨m9, em9, h⟩ := x_bd h
  refine x_newI 100 100 w_ac_int (by decide) (by decide) (Nat.le_refl _) (by decide) (Nat.le_of_ble_eq_true rfl) (Nat.le_of_ble_eq_true rfl) dX9_init_39 ?_
  refine x_castM (Option.some.inj em9) ?_
  obtain ⟨m10, em10, h⟩ := x_bd h
  refine x_putF clX9 w_fl_RX9_24 (by decide) rfl rfl rfl rfl rfl dX9_init_41 em10 ?_
  refine x_aload_n dX9_init_44 0 rfl ?_
  refine x_iconst (v := (2 : Int32)) dX9_init_45 (by decide) ?_
  obtain ⟨m11, em11, h⟩ := x_bd h
  refine x_newI 2 2 w_ac_int (by decide) (by decide) (Nat.le_refl _) (by decide) (Nat.le_of_ble_eq_true rfl) (Nat.le_of_ble_eq_true rfl) dX9_init_46 ?_
  refine x_castM (Option.some.inj em11) ?_
  obtain ⟨m12, em12, h⟩ := x_bd h
  refine x_putF clX9 w_fl_RX9_27 (by decide) rfl rfl rfl rfl rfl dX9_init_48 em12 ?_
  refine x_aload_n dX9_init_51 0 rfl ?_
  refine x_sipush (v := (500 : Int32)) dX9_init_52 (by decide) ?_
  obtain ⟨m13, em13, h⟩ := x_bd h
  refine x_newI 500 500 w_ac_int (by decide) (by decide) (Nat.le_refl _) (by decide) (Nat.le_of_ble_eq_true rfl) (Nat.le_of_ble_eq_true rfl) dX9_init_55 ?_
  refine x_castM (Option.some.inj em13) ?_
  obtain ⟨m14, em14, h⟩ := x_bd h
  refine x_putF clX9 w_fl_RX9_30 (by decide) rfl rfl rfl rfl rfl dX9_init_57 em14 ?_
  refine x_aload_n dX9_init_60 0 rfl ?_
  refine x_sipush (v := (500 : Int32)) dX9_init_61 (by decide) ?_
  obtain ⟨m15, em15, h⟩ := x_bd h
  refine x_newI 500 500 w_ac_int (by decide) (by decide) (Nat.le_refl _) (by decide) (Nat.le_of_ble_eq_true rfl) (Nat.le_of_ble_eq_true rfl) dX9_init_64 ?_
  refine x_castM (Option.some.inj em15) ?_
  obtain ⟨m16, em16, h⟩ := x_bd h
  refine x_putF clX9 w_fl_RX9_33 (by decide) rfl rfl rfl rfl rfl dX9_init_66 em16 ?_
  refine x_aload_n dX9_init_69 0 rfl ?_
  refine x_iconst (v := (5 : Int32)) dX9_init_70 (by decide) ?_
  obtain ⟨m17, em17, h⟩ := x_bd h
  refine x_newI 5 5 w_ac_int (by decide) (by decide) (Nat.le_refl _) (by decide) (Nat.le_of_ble_eq_true rfl) (Nat.le_of_ble_eq_true rfl) dX9_init_71 ?_
  refine x_castM (Option.some.inj em17) ?_
  obtain ⟨m18, em18, h⟩ := x_bd h
  refine x_putF clX9 w_fl_RX9_36 (by decide) rfl rfl rfl rfl rfl dX9_init_73 em18 ?_
  refine x_aload_n dX9_init_76 0 rfl ?_
  refine x_sipush (v := (500 : Int32)) dX9_init_77 (by decide) ?_
  obtain ⟨m19, em19, h⟩ := x_bd h
  refine x_newZ 500 500 w_ac_boolean (by decide) (by decide) (Nat.le_refl _) (by decide) (Nat.le_of_ble_eq_true rfl) (Nat.le_of_ble_eq_true rfl) dX9_init_80 ?_
  refine x_castM (Option.some.inj em19) ?_
  obtain ⟨m20, em20, h⟩ := x_bd h
  refine x_putF clX9 w_fl_RX9_39 (by decide) rfl rfl rfl rfl rfl dX9_init_82 em20 ?_
  refine x_aload_n dX9_init_85 0 rfl ?_
  refine x_bipush (v := (60 : Int32)) dX9_init_86 (by decide) ?_
  obtain ⟨m21, em21, h⟩ := x_bd h
  refine x_newI 60 60 w_ac_int (by decide) (by decide) (Nat.le_refl _) (by decide) (Nat.le_of_ble_eq_true rfl) (Nat.le_of_ble_eq_true rfl) dX9_init_88 ?_
  refine x_castM (Option.some.inj em21) ?_
  obtain ⟨m22, em22, h⟩ := x_bd h
  refine x_putF clX9 w_fl_RX9_43 (by decide) rfl rfl rfl rfl rfl dX9_init_90 em22 ?_
  refine x_aload_n dX9_init_93 0 rfl ?_
  refine x_bipush (v := (120 : Int32)) dX9_init_94 (by decide) ?_
  obtain ⟨m23, em23, h⟩ := x_bd h
  refine x_newI 120 120 w_ac_int (by decide) (by decide) (Nat.le_refl _) (by decide) (Nat.le_of_ble_eq_true rfl) (Nat.le_of_ble_eq_true rfl) dX9_init_96 ?_
  refine x_castM (Option.some.inj em23) ?_
  obtain ⟨m24, em24, h⟩ := x_bd h
  refine x_putF clX9 w_fl_RX9_46 (by decide) rfl rfl rfl rfl rfl dX9_init_98 em24 ?_
  refine x_aload_n dX9_init_101 0 rfl ?_
  refine x_bipush (v := (120 : Int32)) dX9_init_102 (by decide) ?_
  obtain ⟨m25, em25, h⟩ := x_bd h
  refine x_newI 120 120 w_ac_int (by decide) (by decide) (Nat.le_refl _) (by decide) (Nat.le_of_ble_eq_true rfl) (Nat.le_of_ble_eq_true rfl) dX9_init_104 ?_
  refine x_castM (Option.some.inj em25) ?_
  obtain ⟨m26, em26, h⟩ := x_bd h
  refine x_putF clX9 w_fl_RX9_49 (by decide) rfl rfl rfl rfl rfl dX9_init_106 em26 ?_
  refine x_aload_n dX9_init_109 0 rfl ?_
  refine x_bipush (v := (6 : Int32)) dX9_init_110 (by decide) ?_
  obtain ⟨m27, em27, h⟩ := x_bd h
  refine x_newI 6 6 w_ac_int (by decide) (by decide) (Nat.le_refl _) (by decide) (Nat.le_of_ble_eq_true rfl) (Nat.le_of_ble_eq_true rfl) dX9_init_112 ?_
  refine x_castM (Option.some.inj em27) ?_
  obtain ⟨m28, em28, h⟩ := x_bd h
  refine x_putF clX9 w_fl_RX9_52 (by decide) rfl rfl rfl rfl rfl dX9_init_114 em28 ?_
  refine x_aload_n dX9_init_117 0 rfl ?_
  refine x_bipush (v := (6 : Int32)) dX9_init_118 (by decide) ?_
  obtain ⟨m29, em29, h⟩ := x_bd h
  refine x_newI 6 6 w_ac_int (by decide) (by decide) (Nat.le_refl _) (by decide) (Nat.le_of_ble_eq_true rfl) (Nat.le_of_ble_eq_true rfl) dX9_init_120 ?_
  refine x_castM (Option.some.inj em29) ?_
  obtain ⟨m30, em30, h⟩ := x_bd h
  refine x_putF clX9 w_fl_RX9_55 (by decide) rfl rfl rfl rfl rfl dX9_init_122 em30 ?_
  refine x_aload_n dX9_init_125 0 rfl ?_
  refine x_sipush (v := (360 : Int32)) dX9_init_126 (by decide) ?_
  obtain ⟨m31, em31, h⟩ := x_bd h
  refine x_newL 360 360 w_ac_long (by decide) (by decide) (Nat.le_refl _) (by decide) (Nat.le_of_ble_eq_true rfl) (Nat.le_of_ble_eq_true rfl) dX9_init_129 ?_
  refine x_castM (Option.some.inj em31) ?_
  obtain ⟨m32, em32, h⟩ := x_bd h
  refine x_putF clX9 w_fl_RX9_58 (by decide) rfl rfl rfl rfl rfl dX9_init_131 em32 ?_
  refine x_aload_n dX9_init_134 0 rfl ?_
  refine x_iconst (v := (3 : Int32)) dX9_init_135 (by decide) ?_
  obtain ⟨u33, eu33, h⟩ := x_bd h
  obtain ⟨p34, ep34, h⟩ := x_bd h
  refine x_callVV [.int (3 : Int32)] [] clX9 me_X9_begins w_ml_RX9_62 w_im_yX9_begins w_se_yX9_begins (Nat.le_of_ble_eq_true rfl) (Nat.le_of_ble_eq_true rfl) rfl (Nat.le_of_ble_eq_true rfl) (Nat.le_of_ble_eq_true rfl) (Nat.le_of_ble_eq_true rfl) dX9_init_136 eu33 (c_X9_begins l D aC bs (sz + 16) F ep34) rfl ?_
  refine x_iconst (v := (0 : Int32)) dX9_init_139 (by decide) ?_
  refine x_istore_n 1 [(1, .int (0 : Int32)), (0, .ref a0)] dX9_init_140 rfl (by decide) rfl ?_
  exact x_sub [1, 0] rfl (lp_X9_init_141 l D aC bs F sz (a0)  F _ _ _ h)

-- SwappedIntervalsModel.in(JJJ)Z
abbrev rm_X9_in : Room := { frames := 0, cells := 0, slots := 0, locals := 0 }
theorem me_X9_in : x_Me yX9_in cX9_in 6 (some .boolean) 3 := ⟨by decide +kernel, w_co_yX9_in, w_in_SwappedIntervalsModel, by decide +kernel, by decide +kernel, by decide +kernel⟩
def f_X9_in (a0 : Int64) (a2 : Int64) (a4 : Int64) (M : XM) : Option (Int32) := if (lg_cmp a0 a2) < 0 then some (0 : Int32) else if 0 < (lg_cmp a0 a4) then some (0 : Int32) else some (1 : Int32)
set_option maxHeartbeats 4000000 in
set_option maxRecDepth 100000 in
theorem c_X9_in (l : Launch) (D : va_G) (aC : FieldType → ClassId) (bs sz : Nat) {a0 : Int64} {a2 : Int64} {a4 : Int64} {M : XM} {r : Int32} (h : f_X9_in a0 a2 a4 M = some r) : x_Cn l D aC bs yX9_in cX9_in 6 (some .boolean) rm_X9_in [.long a0, .long a2, .long a4] sz M (some (.int r)) sz M := by
  unfold f_X9_in at h
  refine x_enter2 [(0, .long a0), (2, .long a2), (4, .long a4)] me_X9_in (Nat.le_of_ble_eq_true rfl) rfl ?_
  refine x_lload_n dX9_in_0 0 rfl ?_
  refine x_lload_n dX9_in_1 1 rfl ?_
  refine x_lcmp dX9_in_2 ?_
  refine x_if_lt 17 dX9_in_3 (by decide) (fun c1 => ?_) (fun c1 => ?_)
  · have h := (if_pos c1).symm.trans h
    refine x_iconst (v := (0 : Int32)) dX9_in_17 (by decide) ?_
    obtain rfl := Option.some.inj h
    exact x_zret dX9_in_18 (Or.inl rfl) (Nat.le_of_ble_eq_true rfl) (Nat.le_of_ble_eq_true rfl)
  have h := (if_neg c1).symm.trans h
  refine x_lload_n dX9_in_6 0 rfl ?_
  refine x_lload dX9_in_7 2 rfl ?_
  refine x_lcmp dX9_in_9 ?_
  refine x_if_gt 17 dX9_in_10 (by decide) (fun c2 => ?_) (fun c2 => ?_)
  · have h := (if_pos c2).symm.trans h
    refine x_iconst (v := (0 : Int32)) dX9_in_17 (by decide) ?_
    obtain rfl := Option.some.inj h
    exact x_zret dX9_in_18 (Or.inl rfl) (Nat.le_of_ble_eq_true rfl) (Nat.le_of_ble_eq_true rfl)
  have h := (if_neg c2).symm.trans h
  refine x_iconst (v := (1 : Int32)) dX9_in_13 (by decide) ?_
  refine x_goto 18 dX9_in_14 (by decide) ?_
  obtain rfl := Option.some.inj h
  exact x_zret dX9_in_18 (Or.inr rfl) (Nat.le_of_ble_eq_true rfl) (Nat.le_of_ble_eq_true rfl)

-- SwappedIntervalsModel.bit(Z)I
abbrev rm_X9_bit : Room := { frames := 0, cells := 0, slots := 0, locals := 0 }
theorem me_X9_bit : x_Me yX9_bit cX9_bit 1 (some .int) 1 := ⟨by decide +kernel, w_co_yX9_bit, w_in_SwappedIntervalsModel, by decide +kernel, by decide +kernel, by decide +kernel⟩
def f_X9_bit (a0 : Int32) (M : XM) : Option (Int32) := if a0 = 0 then some (0 : Int32) else some (1 : Int32)
set_option maxHeartbeats 4000000 in
set_option maxRecDepth 100000 in
theorem c_X9_bit (l : Launch) (D : va_G) (aC : FieldType → ClassId) (bs sz : Nat) {a0 : Int32} {M : XM} {r : Int32} (h : f_X9_bit a0 M = some r) : x_Cn l D aC bs yX9_bit cX9_bit 1 (some .int) rm_X9_bit [.int a0] sz M (some (.int r)) sz M := by
  unfold f_X9_bit at h
  refine x_enter2 [(0, .int a0)] me_X9_bit (Nat.le_of_ble_eq_true rfl) rfl ?_
  refine x_iload_n dX9_bit_0 0 rfl ?_
  refine x_if_eq 8 dX9_bit_1 (by decide) (fun c1 => ?_) (fun c1 => ?_)
  · have h := (if_pos c1).symm.trans h
    refine x_iconst (v := (0 : Int32)) dX9_bit_8 (by decide) ?_
    obtain rfl := Option.some.inj h
    exact x_iret dX9_bit_9 (Nat.le_of_ble_eq_true rfl) (Nat.le_of_ble_eq_true rfl)
  have h := (if_neg c1).symm.trans h
  refine x_iconst (v := (1 : Int32)) dX9_bit_4 (by decide) ?_
  refine x_goto 9 dX9_bit_5 (by decide) ?_
  obtain rfl := Option.some.inj h
  exact x_iret dX9_bit_9 (Nat.le_of_ble_eq_true rfl) (Nat.le_of_ble_eq_true rfl)

-- SwappedIntervalsModel.isLetter(I)Z
abbrev rm_X9_isLetter : Room := { frames := 1, cells := 0, slots := 0, locals := 25 }
theorem me_X9_isLetter : x_Me yX9_isLetter cX9_isLetter 2 (some .boolean) 1 := ⟨by decide +kernel, w_co_yX9_isLetter, w_in_SwappedIntervalsModel, by decide +kernel, by decide +kernel, by decide +kernel⟩
def f_X9_isLetter (a0 : Nat) (a1 : Int32) (M : XM) : Option (Int32) := (x_gR M a0 9 0).bind fun v1 => (x_a32 .int M v1 (0 : Int32)).bind fun v2 => (f_X9_in a1.toInt64 (0 : Int64) ((v2 - (1 : Int32)).toInt64) M).bind fun p3 => (x_01 p3).bind fun u4 => some p3
set_option maxHeartbeats 4000000 in
set_option maxRecDepth 100000 in
theorem c_X9_isLetter (l : Launch) (D : va_G) (aC : FieldType → ClassId) (bs sz : Nat) {a0 : Nat} {a1 : Int32} {M : XM} {r : Int32} (h : f_X9_isLetter a0 a1 M = some r) : x_Cn l D aC bs yX9_isLetter cX9_isLetter 2 (some .boolean) rm_X9_isLetter [.ref a0, .int a1] sz M (some (.int r)) sz M := by
  unfold f_X9_isLetter at h
  refine x_enter2 [(0, .ref a0), (1, .int a1)] me_X9_isLetter (Nat.le_of_ble_eq_true rfl) rfl ?_
  refine x_iload_n dX9_isLetter_0 1 rfl ?_
  refine x_i2l dX9_isLetter_1 ?_
  refine x_lconst (v := (0 : Int64)) dX9_isLetter_2 (by decide) ?_
  refine x_aload_n dX9_isLetter_3 0 rfl ?_
  obtain ⟨v1, ev1, h⟩ := x_bd h
  refine x_getR clX9 w_fl_RX9_11 (by decide) dX9_isLetter_4 ev1 ?_
  refine x_iconst (v := (0 : Int32)) dX9_isLetter_7 (by decide) ?_
  obtain ⟨v2, ev2, h⟩ := x_bd h
  refine x_iald dX9_isLetter_8 ev2 ?_
  refine x_iconst (v := (1 : Int32)) dX9_isLetter_9 (by decide) ?_
  refine x_isub dX9_isLetter_10 ?_
  refine x_i2l dX9_isLetter_11 ?_
  obtain ⟨p3, ep3, h⟩ := x_bd h
  refine x_callSI [.long a1.toInt64, .long (0 : Int64), .long ((v2 - (1 : Int32)).toInt64)] [] me_X9_in w_ml_RX9_66 w_st_yX9_in (Nat.le_of_ble_eq_true rfl) (Nat.le_of_ble_eq_true rfl) rfl (Nat.le_of_ble_eq_true rfl) (Nat.le_of_ble_eq_true rfl) (Nat.le_of_ble_eq_true rfl) dX9_isLetter_12 (c_X9_in l D aC bs sz ep3) rfl ?_
  obtain ⟨u4, eu4, h⟩ := x_bd h
  obtain rfl := Option.some.inj h
  exact x_zret dX9_isLetter_15 (x_01_sp eu4) (Nat.le_of_ble_eq_true rfl) (Nat.le_of_ble_eq_true rfl)

-- SwappedIntervalsModel.placeIn(II)I
abbrev rm_X9_placeIn : Room := { frames := 0, cells := 0, slots := 0, locals := 0 }
theorem me_X9_placeIn : x_Me yX9_placeIn cX9_placeIn 4 (some .int) 2 := ⟨by decide +kernel, w_co_yX9_placeIn, w_in_SwappedIntervalsModel, by decide +kernel, by decide +kernel, by decide +kernel⟩
def b_X9_placeIn_2 (F : Nat) (a0 : Nat) (a1 : Int32) (a2 : Int32) (M : XM)  (k2 : Int32 → Option (Int32)) (q : Int32) : Option (Int32) := (x_gR M a0 9 0).bind fun v1 => (x_a32 .int M v1 (a1 + q)).bind fun v2 => if v2 = a2 then some q else k2 (q + (1 : Int32))
set_option maxHeartbeats 4000000 in
set_option maxRecDepth 100000 in
theorem lp_X9_placeIn_2 (l : Launch) (D : va_G) (aC : FieldType → ClassId) (bs : Nat) (sz : Nat) (F : Nat) (a0 : Nat) (a1 : Int32) (a2 : Int32) (M : XM)   : ∀ (n : Nat) (b0 : Int32) (r : Int32), x_it (b_X9_placeIn_2 F a0 a1 a2 M ) n b0 = some r → x_V l D aC bs yX9_placeIn cX9_placeIn 4 (some .int) rm_X9_placeIn (x_Z D aC bs (some (.int r)) sz M rm_X9_placeIn) 2 [(0, .ref a0), (1, .int a1), (2, .int a2), (3, .int b0)] [] sz M 0 0 := by
  suffices H : ∀ (n : Nat) (q : Int32) (r : Int32), x_it (b_X9_placeIn_2 F a0 a1 a2 M ) n q = some r → x_V l D aC bs yX9_placeIn cX9_placeIn 4 (some .int) rm_X9_placeIn (x_Z D aC bs (some (.int r)) sz M rm_X9_placeIn) 2 [(0, .ref a0), (1, .int a1), (2, .int a2), (3, .int q)] [] sz M 0 0 from fun n b0 r h => H n b0 r h
  refine x_loop (P := fun (q : Int32) (r : Int32) => x_V l D aC bs yX9_placeIn cX9_placeIn 4 (some .int) rm_X9_placeIn (x_Z D aC bs (some (.int r)) sz M rm_X9_placeIn) 2 [(0, .ref a0), (1, .int a1), (2, .int a2), (3, .int q)] [] sz M 0 0) (fun k2 hk0 q r h => ?_)
  have hk2 : ∀ (b0 : Int32) (r : Int32), k2 b0 = some r → x_V l D aC bs yX9_placeIn cX9_placeIn 4 (some .int) rm_X9_placeIn (x_Z D aC bs (some (.int r)) sz M rm_X9_placeIn) 2 [(0, .ref a0), (1, .int a1), (2, .int a2), (3, .int b0)] [] sz M 0 0 := fun b0 r h => hk0 b0 r h
  unfold b_X9_placeIn_2 at h
  refine x_aload_n dX9_placeIn_2 0 rfl ?_
  obtain ⟨v1, ev1, h⟩ := x_bd h
  refine x_getR clX9 w_fl_RX9_11 (by decide) dX9_placeIn_3 ev1 ?_
  refine x_iload_n dX9_placeIn_6 1 rfl ?_
  refine x_iload_n dX9_placeIn_7 3 rfl ?_
  refine x_iadd dX9_placeIn_8 ?_
  obtain ⟨v2, ev2, h⟩ := x_bd h
  refine x_iald dX9_placeIn_9 ev2 ?_
  refine x_iload_n dX9_placeIn_10 2 rfl ?_
  refine x_icmp_eq 20 dX9_placeIn_11 (by decide) (fun c3 => ?_) (fun c3 => ?_)
  · have h := (if_pos c3).symm.trans h
    refine x_iload_n dX9_placeIn_20 3 rfl ?_
    obtain rfl := Option.some.inj h
    exact x_iret dX9_placeIn_21 (Nat.le_of_ble_eq_true rfl) (Nat.le_of_ble_eq_true rfl)
  have h := (if_neg c3).symm.trans h
  refine x_iinc (1 : Int32) 3 [(3, .int (q + (1 : Int32))), (0, .ref a0), (1, .int a1), (2, .int a2)] dX9_placeIn_14 rfl (by decide) (by decide) rfl ?_
  refine x_goto 2 dX9_placeIn_17 (by decide) ?_
  exact x_sub [1, 2, 3, 0] rfl (hk2 _ _ h)
def f_X9_placeIn (F : Nat) (a0 : Nat) (a1 : Int32) (a2 : Int32) (M : XM) : Option (Int32) := x_it (b_X9_placeIn_2 F (a0) (a1) (a2) M) F (0 : Int32)
set_option maxHeartbeats 4000000 in
set_option maxRecDepth 100000 in
theorem c_X9_placeIn (l : Launch) (D : va_G) (aC : FieldType → ClassId) (bs sz : Nat) (F : Nat) {a0 : Nat} {a1 : Int32} {a2 : Int32} {M : XM} {r : Int32} (h : f_X9_placeIn F a0 a1 a2 M = some r) : x_Cn l D aC bs yX9_placeIn cX9_placeIn 4 (some .int) rm_X9_placeIn [.ref a0, .int a1, .int a2] sz M (some (.int r)) sz M := by
  unfold f_X9_placeIn at h
  refine x_enter2 [(0, .ref a0), (1, .int a1), (2, .int a2)] me_X9_placeIn (Nat.le_of_ble_eq_true rfl) rfl ?_
  refine x_iconst (v := (0 : Int32)) dX9_placeIn_0 (by decide) ?_
  refine x_istore_n 3 [(3, .int (0 : Int32)), (0, .ref a0), (1, .int a1), (2, .int a2)] dX9_placeIn_1 rfl (by decide) rfl ?_
  exact x_sub [1, 2, 3, 0] rfl (lp_X9_placeIn_2 l D aC bs sz F (a0) (a1) (a2) M  F _ _ h)

-- SwappedIntervalsModel.lastIn(I)I
abbrev rm_X9_lastIn : Room := { frames := 0, cells := 0, slots := 0, locals := 0 }
theorem me_X9_lastIn : x_Me yX9_lastIn cX9_lastIn 2 (some .int) 1 := ⟨by decide +kernel, w_co_yX9_lastIn, w_in_SwappedIntervalsModel, by decide +kernel, by decide +kernel, by decide +kernel⟩
def f_X9_lastIn (a0 : Nat) (a1 : Int32) (M : XM) : Option (Int32) := (x_gR M a0 9 0).bind fun v1 => (x_gR M a0 9 0).bind fun v2 => (x_a32 .int M v2 (0 : Int32)).bind fun v3 => (x_a32 .int M v1 ((a1 + v3) - (1 : Int32))).bind fun v4 => some v4
set_option maxHeartbeats 4000000 in
set_option maxRecDepth 100000 in
theorem c_X9_lastIn (l : Launch) (D : va_G) (aC : FieldType → ClassId) (bs sz : Nat) {a0 : Nat} {a1 : Int32} {M : XM} {r : Int32} (h : f_X9_lastIn a0 a1 M = some r) : x_Cn l D aC bs yX9_lastIn cX9_lastIn 2 (some .int) rm_X9_lastIn [.ref a0, .int a1] sz M (some (.int r)) sz M := by
  unfold f_X9_lastIn at h
  refine x_enter2 [(0, .ref a0), (1, .int a1)] me_X9_lastIn (Nat.le_of_ble_eq_true rfl) rfl ?_
  refine x_aload_n dX9_lastIn_0 0 rfl ?_
  obtain ⟨v1, ev1, h⟩ := x_bd h
  refine x_getR clX9 w_fl_RX9_11 (by decide) dX9_lastIn_1 ev1 ?_
  refine x_iload_n dX9_lastIn_4 1 rfl ?_
  refine x_aload_n dX9_lastIn_5 0 rfl ?_
  obtain ⟨v2, ev2, h⟩ := x_bd h
  refine x_getR clX9 w_fl_RX9_11 (by decide) dX9_lastIn_6 ev2 ?_
  refine x_iconst (v := (0 : Int32)) dX9_lastIn_9 (by decide) ?_
  obtain ⟨v3, ev3, h⟩ := x_bd h
  refine x_iald dX9_lastIn_10 ev3 ?_
  refine x_iadd dX9_lastIn_11 ?_
  refine x_iconst (v := (1 : Int32)) dX9_lastIn_12 (by decide) ?_
  refine x_isub dX9_lastIn_13 ?_
  obtain ⟨v4, ev4, h⟩ := x_bd h
  refine x_iald dX9_lastIn_14 ev4 ?_
  obtain rfl := Option.some.inj h
  exact x_iret dX9_lastIn_15 (Nat.le_of_ble_eq_true rfl) (Nat.le_of_ble_eq_true rfl)

-- SwappedIntervalsModel.movesBehind(II)V
abbrev rm_X9_movesBehind : Room := { frames := 1, cells := 0, slots := 0, locals := 23 }
theorem me_X9_movesBehind : x_Me yX9_movesBehind cX9_movesBehind 6 none 2 := ⟨by decide +kernel, w_co_yX9_movesBehind, w_in_SwappedIntervalsModel, by decide +kernel, by decide +kernel, by decide +kernel⟩
def b_X9_movesBehind_26 (F : Nat) (a0 : Nat) (a1 : Int32) (a3 : Int32) (a4 : Int32)  (k26 : (Int32 × XM) → Option (XM)) (q : Int32 × XM) : Option (XM) := if q.1 ≤ a4 then (x_gR q.2 a0 9 0).bind fun v8 => (x_w32 .int q.2 v8 (a1 + a4) a3).bind fun m9 => some m9 else (x_gR q.2 a0 9 0).bind fun v10 => (x_gR q.2 a0 9 0).bind fun v11 => (x_a32 .int q.2 v11 ((a1 + q.1) - (1 : Int32))).bind fun v12 => (x_w32 .int q.2 v10 (a1 + q.1) v12).bind fun m13 => k26 ((q.1 + (-1 : Int32)), m13)
set_option maxHeartbeats 4000000 in
set_option maxRecDepth 100000 in
theorem lp_X9_movesBehind_26 (l : Launch) (D : va_G) (aC : FieldType → ClassId) (bs : Nat) (sz : Nat) (F : Nat) (a0 : Nat) (a1 : Int32) (a3 : Int32) (a4 : Int32)   : ∀ (n : Nat) (b0 : Int32) (b1 : XM) (r : XM), x_it (b_X9_movesBehind_26 F a0 a1 a3 a4 ) n (b0, b1) = some r → x_V l D aC bs yX9_movesBehind cX9_movesBehind 6 none rm_X9_movesBehind (x_Z D aC bs none sz r rm_X9_movesBehind) 26 [(0, .ref a0), (1, .int a1), (3, .int a3), (4, .int a4), (5, .int b0)] [] sz b1 0 0 := by
  suffices H : ∀ (n : Nat) (q : Int32 × XM) (r : XM), x_it (b_X9_movesBehind_26 F a0 a1 a3 a4 ) n q = some r → x_V l D aC bs yX9_movesBehind cX9_movesBehind 6 none rm_X9_movesBehind (x_Z D aC bs none sz r rm_X9_movesBehind) 26 [(0, .ref a0), (1, .int a1), (3, .int a3), (4, .int a4), (5, .int q.1)] [] sz q.2 0 0 from fun n b0 b1 r h => H n (b0, b1) r h
  refine x_loop (P := fun (q : Int32 × XM) (r : XM) => x_V l D aC bs yX9_movesBehind cX9_movesBehind 6 none rm_X9_movesBehind (x_Z D aC bs none sz r rm_X9_movesBehind) 26 [(0, .ref a0), (1, .int a1), (3, .int a3), (4, .int a4), (5, .int q.1)] [] sz q.2 0 0) (fun k26 hk0 q r h => ?_)
  have hk26 : ∀ (b0 : Int32) (b1 : XM) (r : XM), k26 (b0, b1) = some r → x_V l D aC bs yX9_movesBehind cX9_movesBehind 6 none rm_X9_movesBehind (x_Z D aC bs none sz r rm_X9_movesBehind) 26 [(0, .ref a0), (1, .int a1), (3, .int a3), (4, .int a4), (5, .int b0)] [] sz b1 0 0 := fun b0 b1 r h => hk0 (b0, b1) r h
  unfold b_X9_movesBehind_26 at h
  refine x_iload dX9_movesBehind_26 4 rfl ?_
  refine x_iload dX9_movesBehind_28 3 rfl ?_
  refine x_icmp_le 59 dX9_movesBehind_30 (by decide) (fun c7 => ?_) (fun c7 => ?_)
  · have h := (if_pos c7).symm.trans h
    refine x_aload_n dX9_movesBehind_59 0 rfl ?_
    obtain ⟨v8, ev8, h⟩ := x_bd h
    refine x_getR clX9 w_fl_RX9_11 (by decide) dX9_movesBehind_60 ev8 ?_
    refine x_iload_n dX9_movesBehind_63 1 rfl ?_
    refine x_iload dX9_movesBehind_64 3 rfl ?_
    refine x_iadd dX9_movesBehind_66 ?_
    refine x_iload_n dX9_movesBehind_67 2 rfl ?_
    obtain ⟨m9, em9, h⟩ := x_bd h
    refine x_iast dX9_movesBehind_68 em9 ?_
    obtain rfl := Option.some.inj h
    exact x_vret dX9_movesBehind_69 (Nat.le_of_ble_eq_true rfl) (Nat.le_of_ble_eq_true rfl)
  have h := (if_neg c7).symm.trans h
  refine x_aload_n dX9_movesBehind_33 0 rfl ?_
  obtain ⟨v10, ev10, h⟩ := x_bd h
  refine x_getR clX9 w_fl_RX9_11 (by decide) dX9_movesBehind_34 ev10 ?_
  refine x_iload_n dX9_movesBehind_37 1 rfl ?_
  refine x_iload dX9_movesBehind_38 4 rfl ?_
  refine x_iadd dX9_movesBehind_40 ?_
  refine x_aload_n dX9_movesBehind_41 0 rfl ?_
  obtain ⟨v11, ev11, h⟩ := x_bd h
  refine x_getR clX9 w_fl_RX9_11 (by decide) dX9_movesBehind_42 ev11 ?_
  refine x_iload_n dX9_movesBehind_45 1 rfl ?_
  refine x_iload dX9_movesBehind_46 4 rfl ?_
  refine x_iadd dX9_movesBehind_48 ?_
  refine x_iconst (v := (1 : Int32)) dX9_movesBehind_49 (by decide) ?_
  refine x_isub dX9_movesBehind_50 ?_
  obtain ⟨v12, ev12, h⟩ := x_bd h
  refine x_iald dX9_movesBehind_51 ev12 ?_
  obtain ⟨m13, em13, h⟩ := x_bd h
  refine x_iast dX9_movesBehind_52 em13 ?_
  refine x_iinc (-1 : Int32) 4 [(5, .int (q.1 + (-1 : Int32))), (0, .ref a0), (1, .int a1), (3, .int a3), (4, .int a4)] dX9_movesBehind_53 rfl (by decide) (by decide) rfl ?_
  refine x_goto 26 dX9_movesBehind_56 (by decide) ?_
  exact x_sub [1, 2, 3, 4, 0] rfl (hk26 _ _ _ h)
def f_X9_movesBehind (F : Nat) (a0 : Nat) (a1 : Int32) (a2 : Int32) (M : XM) : Option (XM) := (x_ob M a0 9).bind fun u1 => (f_X9_lastIn a0 a1 M).bind fun p2 => (x_ob M a0 9).bind fun u3 => (f_X9_placeIn F a0 a1 a2 M).bind fun p4 => (x_gR M a0 9 0).bind fun v5 => (x_a32 .int M v5 (0 : Int32)).bind fun v6 => x_it (b_X9_movesBehind_26 F (a0) (a1) (p2) (p4 + (1 : Int32))) F ((v6 - (1 : Int32)), M)
set_option maxHeartbeats 4000000 in
set_option maxRecDepth 100000 in
theorem c_X9_movesBehind (l : Launch) (D : va_G) (aC : FieldType → ClassId) (bs sz : Nat) (F : Nat) {a0 : Nat} {a1 : Int32} {a2 : Int32} {M : XM} {r : XM} (h : f_X9_movesBehind F a0 a1 a2 M = some r) : x_Cn l D aC bs yX9_movesBehind cX9_movesBehind 6 none rm_X9_movesBehind [.ref a0, .int a1, .int a2] sz M none sz r := by
  unfold f_X9_movesBehind at h
  refine x_enter2 [(0, .ref a0), (1, .int a1), (2, .int a2)] me_X9_movesBehind (Nat.le_of_ble_eq_true rfl) rfl ?_
  refine x_aload_n dX9_movesBehind_0 0 rfl ?_
  refine x_iload_n dX9_movesBehind_1 1 rfl ?_
  obtain ⟨u1, eu1, h⟩ := x_bd h
  obtain ⟨p2, ep2, h⟩ := x_bd h
  refine x_callVI [.int a1] [] clX9 me_X9_lastIn w_ml_RX9_74 w_im_yX9_lastIn w_se_yX9_lastIn (Nat.le_of_ble_eq_true rfl) (Nat.le_of_ble_eq_true rfl) rfl (Nat.le_of_ble_eq_true rfl) (Nat.le_of_ble_eq_true rfl) (Nat.le_of_ble_eq_true rfl) dX9_movesBehind_2 eu1 (c_X9_lastIn l D aC bs sz ep2) rfl ?_
  refine x_istore_n 3 [(3, .int p2), (0, .ref a0), (1, .int a1), (2, .int a2)] dX9_movesBehind_5 rfl (by decide) rfl ?_
  refine x_aload_n dX9_movesBehind_6 1 rfl ?_
  refine x_iload_n dX9_movesBehind_7 2 rfl ?_
  refine x_iload_n dX9_movesBehind_8 3 rfl ?_
  obtain ⟨u3, eu3, h⟩ := x_bd h
  obtain ⟨p4, ep4, h⟩ := x_bd h
  refine x_callVI [.int a1, .int a2] [] clX9 me_X9_placeIn w_ml_RX9_78 w_im_yX9_placeIn w_se_yX9_placeIn (Nat.le_of_ble_eq_true rfl) (Nat.le_of_ble_eq_true rfl) rfl (Nat.le_of_ble_eq_true rfl) (Nat.le_of_ble_eq_true rfl) (Nat.le_of_ble_eq_true rfl) dX9_movesBehind_9 eu3 (c_X9_placeIn l D aC bs sz F ep4) rfl ?_
  refine x_iconst (v := (1 : Int32)) dX9_movesBehind_12 (by decide) ?_
  refine x_iadd dX9_movesBehind_13 ?_
  refine x_istore [(4, .int (p4 + (1 : Int32))), (3, .int p2), (0, .ref a0), (1, .int a1), (2, .int a2)] dX9_movesBehind_14 (by decide) rfl ?_
  refine x_aload_n dX9_movesBehind_16 2 rfl ?_
  obtain ⟨v5, ev5, h⟩ := x_bd h
  refine x_getR clX9 w_fl_RX9_11 (by decide) dX9_movesBehind_17 ev5 ?_
  refine x_iconst (v := (0 : Int32)) dX9_movesBehind_20 (by decide) ?_
  obtain ⟨v6, ev6, h⟩ := x_bd h
  refine x_iald dX9_movesBehind_21 ev6 ?_
  refine x_iconst (v := (1 : Int32)) dX9_movesBehind_22 (by decide) ?_
  refine x_isub dX9_movesBehind_23 ?_
  refine x_istore [(5, .int (v6 - (1 : Int32))), (4, .int (p4 + (1 : Int32))), (3, .int p2), (0, .ref a0), (1, .int a1), (2, .int a2)] dX9_movesBehind_24 (by decide) rfl ?_
  exact x_sub [3, 4, 2, 1, 0] rfl (lp_X9_movesBehind_26 l D aC bs sz F (a0) (a1) (p2) (p4 + (1 : Int32))  F _ _ _ h)

-- SwappedIntervalsModel.movesToEnd(II)I
abbrev rm_X9_movesToEnd : Room := { frames := 1, cells := 0, slots := 0, locals := 23 }
theorem me_X9_movesToEnd : x_Me yX9_movesToEnd cX9_movesToEnd 6 (some .int) 2 := ⟨by decide +kernel, w_co_yX9_movesToEnd, w_in_SwappedIntervalsModel, by decide +kernel, by decide +kernel, by decide +kernel⟩
def b_X9_movesToEnd_34 (F : Nat) (a0 : Nat) (a1 : Int32) (a4 : Int32)  (k34 : (Int32 × XM) → Option (Int32 × XM)) (q : Int32 × XM) : Option (Int32 × XM) := (x_gR q.2 a0 9 0).bind fun v8 => (x_a32 .int q.2 v8 (0 : Int32)).bind fun v9 => if v9 ≤ (q.1 + (1 : Int32)) then (x_gR q.2 a0 9 0).bind fun v11 => (x_gR q.2 a0 9 0).bind fun v12 => (x_a32 .int q.2 v12 (0 : Int32)).bind fun v13 => (x_w32 .int q.2 v11 ((a1 + v13) - (1 : Int32)) a4).bind fun m14 => some (a4, m14) else (x_gR q.2 a0 9 0).bind fun v15 => (x_gR q.2 a0 9 0).bind fun v16 => (x_a32 .int q.2 v16 ((a1 + q.1) + (1 : Int32))).bind fun v17 => (x_w32 .int q.2 v15 (a1 + q.1) v17).bind fun m18 => k34 ((q.1 + (1 : Int32)), m18)
set_option maxHeartbeats 4000000 in
set_option maxRecDepth 100000 in
theorem lp_X9_movesToEnd_34 (l : Launch) (D : va_G) (aC : FieldType → ClassId) (bs : Nat) (sz : Nat) (F : Nat) (a0 : Nat) (a1 : Int32) (a4 : Int32)   : ∀ (n : Nat) (b0 : Int32) (b1 : XM) (r : Int32 × XM), x_it (b_X9_movesToEnd_34 F a0 a1 a4 ) n (b0, b1) = some r → x_V l D aC bs yX9_movesToEnd cX9_movesToEnd 6 (some .int) rm_X9_movesToEnd (x_Z D aC bs (some (.int r.1)) sz r.2 rm_X9_movesToEnd) 34 [(0, .ref a0), (1, .int a1), (4, .int a4), (5, .int b0)] [] sz b1 0 0 := by
  suffices H : ∀ (n : Nat) (q : Int32 × XM) (r : Int32 × XM), x_it (b_X9_movesToEnd_34 F a0 a1 a4 ) n q = some r → x_V l D aC bs yX9_movesToEnd cX9_movesToEnd 6 (some .int) rm_X9_movesToEnd (x_Z D aC bs (some (.int r.1)) sz r.2 rm_X9_movesToEnd) 34 [(0, .ref a0), (1, .int a1), (4, .int a4), (5, .int q.1)] [] sz q.2 0 0 from fun n b0 b1 r h => H n (b0, b1) r h
  refine x_loop (P := fun (q : Int32 × XM) (r : Int32 × XM) => x_V l D aC bs yX9_movesToEnd cX9_movesToEnd 6 (some .int) rm_X9_movesToEnd (x_Z D aC bs (some (.int r.1)) sz r.2 rm_X9_movesToEnd) 34 [(0, .ref a0), (1, .int a1), (4, .int a4), (5, .int q.1)] [] sz q.2 0 0) (fun k34 hk0 q r h => ?_)
  have hk34 : ∀ (b0 : Int32) (b1 : XM) (r : Int32 × XM), k34 (b0, b1) = some r → x_V l D aC bs yX9_movesToEnd cX9_movesToEnd 6 (some .int) rm_X9_movesToEnd (x_Z D aC bs (some (.int r.1)) sz r.2 rm_X9_movesToEnd) 34 [(0, .ref a0), (1, .int a1), (4, .int a4), (5, .int b0)] [] sz b1 0 0 := fun b0 b1 r h => hk0 (b0, b1) r h
  unfold b_X9_movesToEnd_34 at h
  refine x_iload dX9_movesToEnd_34 3 rfl ?_
  refine x_iconst (v := (1 : Int32)) dX9_movesToEnd_36 (by decide) ?_
  refine x_iadd dX9_movesToEnd_37 ?_
  refine x_aload_n dX9_movesToEnd_38 0 rfl ?_
  obtain ⟨v8, ev8, h⟩ := x_bd h
  refine x_getR clX9 w_fl_RX9_11 (by decide) dX9_movesToEnd_39 ev8 ?_
  refine x_iconst (v := (0 : Int32)) dX9_movesToEnd_42 (by decide) ?_
  obtain ⟨v9, ev9, h⟩ := x_bd h
  refine x_iald dX9_movesToEnd_43 ev9 ?_
  refine x_icmp_ge 73 dX9_movesToEnd_44 (by decide) (fun c10 => ?_) (fun c10 => ?_)
  · have h := (if_pos c10).symm.trans h
    refine x_aload_n dX9_movesToEnd_73 0 rfl ?_
    obtain ⟨v11, ev11, h⟩ := x_bd h
    refine x_getR clX9 w_fl_RX9_11 (by decide) dX9_movesToEnd_74 ev11 ?_
    refine x_iload_n dX9_movesToEnd_77 1 rfl ?_
    refine x_aload_n dX9_movesToEnd_78 0 rfl ?_
    obtain ⟨v12, ev12, h⟩ := x_bd h
    refine x_getR clX9 w_fl_RX9_11 (by decide) dX9_movesToEnd_79 ev12 ?_
    refine x_iconst (v := (0 : Int32)) dX9_movesToEnd_82 (by decide) ?_
    obtain ⟨v13, ev13, h⟩ := x_bd h
    refine x_iald dX9_movesToEnd_83 ev13 ?_
    refine x_iadd dX9_movesToEnd_84 ?_
    refine x_iconst (v := (1 : Int32)) dX9_movesToEnd_85 (by decide) ?_
    refine x_isub dX9_movesToEnd_86 ?_
    refine x_iload dX9_movesToEnd_87 2 rfl ?_
    obtain ⟨m14, em14, h⟩ := x_bd h
    refine x_iast dX9_movesToEnd_89 em14 ?_
    refine x_iload dX9_movesToEnd_90 2 rfl ?_
    obtain rfl := Option.some.inj h
    exact x_iret dX9_movesToEnd_92 (Nat.le_of_ble_eq_true rfl) (Nat.le_of_ble_eq_true rfl)
  have h := (if_neg c10).symm.trans h
  refine x_aload_n dX9_movesToEnd_47 0 rfl ?_
  obtain ⟨v15, ev15, h⟩ := x_bd h
  refine x_getR clX9 w_fl_RX9_11 (by decide) dX9_movesToEnd_48 ev15 ?_
  refine x_iload_n dX9_movesToEnd_51 1 rfl ?_
  refine x_iload dX9_movesToEnd_52 3 rfl ?_
  refine x_iadd dX9_movesToEnd_54 ?_
  refine x_aload_n dX9_movesToEnd_55 0 rfl ?_
  obtain ⟨v16, ev16, h⟩ := x_bd h
  refine x_getR clX9 w_fl_RX9_11 (by decide) dX9_movesToEnd_56 ev16 ?_
  refine x_iload_n dX9_movesToEnd_59 1 rfl ?_
  refine x_iload dX9_movesToEnd_60 3 rfl ?_
  refine x_iadd dX9_movesToEnd_62 ?_
  refine x_iconst (v := (1 : Int32)) dX9_movesToEnd_63 (by decide) ?_
  refine x_iadd dX9_movesToEnd_64 ?_
  obtain ⟨v17, ev17, h⟩ := x_bd h
  refine x_iald dX9_movesToEnd_65 ev17 ?_
  obtain ⟨m18, em18, h⟩ := x_bd h
  refine x_iast dX9_movesToEnd_66 em18 ?_
  refine x_iinc (1 : Int32) 3 [(5, .int (q.1 + (1 : Int32))), (0, .ref a0), (1, .int a1), (4, .int a4)] dX9_movesToEnd_67 rfl (by decide) (by decide) rfl ?_
  refine x_goto 34 dX9_movesToEnd_70 (by decide) ?_
  exact x_sub [1, 2, 3, 0] rfl (hk34 _ _ _ h)
def f_X9_movesToEnd (F : Nat) (a0 : Nat) (a1 : Int32) (a2 : Int32) (M : XM) : Option (Int32 × XM) := (x_ob M a0 9).bind fun u1 => (f_X9_placeIn F a0 a1 a2 M).bind fun p2 => (x_gR M a0 9 0).bind fun v3 => (x_a32 .int M v3 (0 : Int32)).bind fun v4 => if (p2 + (1 : Int32)) = v4 then some ((-1 : Int32), M) else (x_gR M a0 9 0).bind fun v6 => (x_a32 .int M v6 (a1 + (p2 + (1 : Int32)))).bind fun v7 => x_it (b_X9_movesToEnd_34 F (a0) (a1) (v7)) F ((p2 + (1 : Int32)), M)
set_option maxHeartbeats 4000000 in
set_option maxRecDepth 100000 in
theorem c_X9_movesToEnd (l : Launch) (D : va_G) (aC : FieldType → ClassId) (bs sz : Nat) (F : Nat) {a0 : Nat} {a1 : Int32} {a2 : Int32} {M : XM} {r : Int32 × XM} (h : f_X9_movesToEnd F a0 a1 a2 M = some r) : x_Cn l D aC bs yX9_movesToEnd cX9_movesToEnd 6 (some .int) rm_X9_movesToEnd [.ref a0, .int a1, .int a2] sz M (some (.int r.1)) sz r.2 := by
  unfold f_X9_movesToEnd at h
  refine x_enter2 [(0, .ref a0), (1, .int a1), (2, .int a2)] me_X9_movesToEnd (Nat.le_of_ble_eq_true rfl) rfl ?_
  refine x_aload_n dX9_movesToEnd_0 0 rfl ?_
  refine x_iload_n dX9_movesToEnd_1 1 rfl ?_
  refine x_iload_n dX9_movesToEnd_2 2 rfl ?_
  obtain ⟨u1, eu1, h⟩ := x_bd h
  obtain ⟨p2, ep2, h⟩ := x_bd h
  refine x_callVI [.int a1, .int a2] [] clX9 me_X9_placeIn w_ml_RX9_78 w_im_yX9_placeIn w_se_yX9_placeIn (Nat.le_of_ble_eq_true rfl) (Nat.le_of_ble_eq_true rfl) rfl (Nat.le_of_ble_eq_true rfl) (Nat.le_of_ble_eq_true rfl) (Nat.le_of_ble_eq_true rfl) dX9_movesToEnd_3 eu1 (c_X9_placeIn l D aC bs sz F ep2) rfl ?_
  refine x_iconst (v := (1 : Int32)) dX9_movesToEnd_6 (by decide) ?_
  refine x_iadd dX9_movesToEnd_7 ?_
  refine x_istore_n 3 [(3, .int (p2 + (1 : Int32))), (0, .ref a0), (1, .int a1), (2, .int a2)] dX9_movesToEnd_8 rfl (by decide) rfl ?_
  refine x_iload_n dX9_movesToEnd_9 0 rfl ?_
  refine x_aload_n dX9_movesToEnd_10 1 rfl ?_
  obtain ⟨v3, ev3, h⟩ := x_bd h
  refine x_getR clX9 w_fl_RX9_11 (by decide) dX9_movesToEnd_11 ev3 ?_
  refine x_iconst (v := (0 : Int32)) dX9_movesToEnd_14 (by decide) ?_
  obtain ⟨v4, ev4, h⟩ := x_bd h
  refine x_iald dX9_movesToEnd_15 ev4 ?_
  refine x_icmp_ne 21 dX9_movesToEnd_16 (by decide) (fun c5 => ?_) (fun c5 => ?_)
  · have h := (if_neg c5).symm.trans h
    refine x_aload_n dX9_movesToEnd_21 1 rfl ?_
    obtain ⟨v6, ev6, h⟩ := x_bd h
    refine x_getR clX9 w_fl_RX9_11 (by decide) dX9_movesToEnd_22 ev6 ?_
    refine x_iload_n dX9_movesToEnd_25 2 rfl ?_
    refine x_iload_n dX9_movesToEnd_26 0 rfl ?_
    refine x_iadd dX9_movesToEnd_27 ?_
    obtain ⟨v7, ev7, h⟩ := x_bd h
    refine x_iald dX9_movesToEnd_28 ev7 ?_
    refine x_istore [(4, .int v7), (3, .int (p2 + (1 : Int32))), (0, .ref a0), (1, .int a1), (2, .int a2)] dX9_movesToEnd_29 (by decide) rfl ?_
    refine x_iload_n dX9_movesToEnd_31 1 rfl ?_
    refine x_istore [(5, .int (p2 + (1 : Int32))), (4, .int v7), (3, .int (p2 + (1 : Int32))), (0, .ref a0), (1, .int a1), (2, .int a2)] dX9_movesToEnd_32 (by decide) rfl ?_
    exact x_sub [3, 4, 1, 0] rfl (lp_X9_movesToEnd_34 l D aC bs sz F (a0) (a1) (v7)  F _ _ _ h)
  have h := (if_pos c5).symm.trans h
  refine x_iconst (v := (-1 : Int32)) dX9_movesToEnd_19 (by decide) ?_
  obtain rfl := Option.some.inj h
  exact x_iret dX9_movesToEnd_20 (Nat.le_of_ble_eq_true rfl) (Nat.le_of_ble_eq_true rfl)

-- SwappedIntervalsModel.points()I
abbrev rm_X9_points : Room := { frames := 0, cells := 0, slots := 0, locals := 0 }
theorem me_X9_points : x_Me yX9_points cX9_points 3 (some .int) 0 := ⟨by decide +kernel, w_co_yX9_points, w_in_SwappedIntervalsModel, by decide +kernel, by decide +kernel, by decide +kernel⟩
def b_X9_points_4 (F : Nat) (a0 : Nat) (M : XM)  (k4 : (Int32 × Int32) → Option (Int32)) (q : Int32 × Int32) : Option (Int32) := (x_gR M a0 9 0).bind fun v1 => (x_a32 .int M v1 (0 : Int32)).bind fun v2 => if v2 ≤ q.2 then some q.1 else (x_gR M a0 9 0).bind fun v4 => (x_a32 .int M v4 ((12 : Int32) + q.2)).bind fun v5 => k4 ((q.1 + v5), (q.2 + (1 : Int32)))
set_option maxHeartbeats 4000000 in
set_option maxRecDepth 100000 in
theorem lp_X9_points_4 (l : Launch) (D : va_G) (aC : FieldType → ClassId) (bs : Nat) (sz : Nat) (F : Nat) (a0 : Nat) (M : XM)   : ∀ (n : Nat) (b0 : Int32) (b1 : Int32) (r : Int32), x_it (b_X9_points_4 F a0 M ) n (b0, b1) = some r → x_V l D aC bs yX9_points cX9_points 3 (some .int) rm_X9_points (x_Z D aC bs (some (.int r)) sz M rm_X9_points) 4 [(0, .ref a0), (1, .int b0), (2, .int b1)] [] sz M 0 0 := by
  suffices H : ∀ (n : Nat) (q : Int32 × Int32) (r : Int32), x_it (b_X9_points_4 F a0 M ) n q = some r → x_V l D aC bs yX9_points cX9_points 3 (some .int) rm_X9_points (x_Z D aC bs (some (.int r)) sz M rm_X9_points) 4 [(0, .ref a0), (1, .int q.1), (2, .int q.2)] [] sz M 0 0 from fun n b0 b1 r h => H n (b0, b1) r h
  refine x_loop (P := fun (q : Int32 × Int32) (r : Int32) => x_V l D aC bs yX9_points cX9_points 3 (some .int) rm_X9_points (x_Z D aC bs (some (.int r)) sz M rm_X9_points) 4 [(0, .ref a0), (1, .int q.1), (2, .int q.2)] [] sz M 0 0) (fun k4 hk0 q r h => ?_)
  have hk4 : ∀ (b0 : Int32) (b1 : Int32) (r : Int32), k4 (b0, b1) = some r → x_V l D aC bs yX9_points cX9_points 3 (some .int) rm_X9_points (x_Z D aC bs (some (.int r)) sz M rm_X9_points) 4 [(0, .ref a0), (1, .int b0), (2, .int b1)] [] sz M 0 0 := fun b0 b1 r h => hk0 (b0, b1) r h
  unfold b_X9_points_4 at h
  refine x_iload_n dX9_points_4 2 rfl ?_
  refine x_aload_n dX9_points_5 0 rfl ?_
  obtain ⟨v1, ev1, h⟩ := x_bd h
  refine x_getR clX9 w_fl_RX9_11 (by decide) dX9_points_6 ev1 ?_
  refine x_iconst (v := (0 : Int32)) dX9_points_9 (by decide) ?_
  obtain ⟨v2, ev2, h⟩ := x_bd h
  refine x_iald dX9_points_10 ev2 ?_
  refine x_icmp_ge 32 dX9_points_11 (by decide) (fun c3 => ?_) (fun c3 => ?_)
  · have h := (if_pos c3).symm.trans h
    refine x_iload_n dX9_points_32 1 rfl ?_
    obtain rfl := Option.some.inj h
    exact x_iret dX9_points_33 (Nat.le_of_ble_eq_true rfl) (Nat.le_of_ble_eq_true rfl)
  have h := (if_neg c3).symm.trans h
  refine x_iload_n dX9_points_14 1 rfl ?_
  refine x_aload_n dX9_points_15 0 rfl ?_
  obtain ⟨v4, ev4, h⟩ := x_bd h
  refine x_getR clX9 w_fl_RX9_11 (by decide) dX9_points_16 ev4 ?_
  refine x_bipush (v := (12 : Int32)) dX9_points_19 (by decide) ?_
  refine x_iload_n dX9_points_21 2 rfl ?_
  refine x_iadd dX9_points_22 ?_
  obtain ⟨v5, ev5, h⟩ := x_bd h
  refine x_iald dX9_points_23 ev5 ?_
  refine x_iadd dX9_points_24 ?_
  refine x_istore_n 1 [(1, .int (q.1 + v5)), (0, .ref a0), (2, .int q.2)] dX9_points_25 rfl (by decide) rfl ?_
  refine x_iinc (1 : Int32) 2 [(2, .int (q.2 + (1 : Int32))), (1, .int (q.1 + v5)), (0, .ref a0)] dX9_points_26 rfl (by decide) (by decide) rfl ?_
  refine x_goto 4 dX9_points_29 (by decide) ?_
  exact x_sub [2, 1, 0] rfl (hk4 _ _ _ h)
def f_X9_points (F : Nat) (a0 : Nat) (M : XM) : Option (Int32) := x_it (b_X9_points_4 F (a0) M) F ((0 : Int32), (0 : Int32))
set_option maxHeartbeats 4000000 in
set_option maxRecDepth 100000 in
theorem c_X9_points (l : Launch) (D : va_G) (aC : FieldType → ClassId) (bs sz : Nat) (F : Nat) {a0 : Nat} {M : XM} {r : Int32} (h : f_X9_points F a0 M = some r) : x_Cn l D aC bs yX9_points cX9_points 3 (some .int) rm_X9_points [.ref a0] sz M (some (.int r)) sz M := by
  unfold f_X9_points at h
  refine x_enter2 [(0, .ref a0)] me_X9_points (Nat.le_of_ble_eq_true rfl) rfl ?_
  refine x_iconst (v := (0 : Int32)) dX9_points_0 (by decide) ?_
  refine x_istore_n 1 [(1, .int (0 : Int32)), (0, .ref a0)] dX9_points_1 rfl (by decide) rfl ?_
  refine x_iconst (v := (0 : Int32)) dX9_points_2 (by decide) ?_
  refine x_istore_n 2 [(2, .int (0 : Int32)), (1, .int (0 : Int32)), (0, .ref a0)] dX9_points_3 rfl (by decide) rfl ?_
  exact x_sub [2, 1, 0] rfl (lp_X9_points_4 l D aC bs sz F (a0) M  F _ _ _ h)

-- SwappedIntervalsModel.codeNow()I
abbrev rm_X9_codeNow : Room := { frames := 1, cells := 0, slots := 0, locals := 23 }
theorem me_X9_codeNow : x_Me yX9_codeNow cX9_codeNow 3 (some .int) 0 := ⟨by decide +kernel, w_co_yX9_codeNow, w_in_SwappedIntervalsModel, by decide +kernel, by decide +kernel, by decide +kernel⟩
def b_X9_codeNow_4 (F : Nat) (a0 : Nat) (M : XM)  (k4 : (Int32 × Int32) → Option (Int32)) (q : Int32 × Int32) : Option (Int32) := (x_gR M a0 9 0).bind fun v1 => (x_a32 .int M v1 (0 : Int32)).bind fun v2 => if v2 ≤ q.2 then some q.1 else (x_gR M a0 9 0).bind fun v4 => (x_a32 .int M v4 ((7 : Int32) + q.2)).bind fun v5 => (x_ob M a0 9).bind fun u6 => (f_X9_placeIn F a0 (2 : Int32) v5 M).bind fun p7 => k4 (((((10 : Int32) * q.1) + (1 : Int32)) + p7), (q.2 + (1 : Int32)))
set_option maxHeartbeats 4000000 in
set_option maxRecDepth 100000 in
theorem lp_X9_codeNow_4 (l : Launch) (D : va_G) (aC : FieldType → ClassId) (bs : Nat) (sz : Nat) (F : Nat) (a0 : Nat) (M : XM)   : ∀ (n : Nat) (b0 : Int32) (b1 : Int32) (r : Int32), x_it (b_X9_codeNow_4 F a0 M ) n (b0, b1) = some r → x_V l D aC bs yX9_codeNow cX9_codeNow 3 (some .int) rm_X9_codeNow (x_Z D aC bs (some (.int r)) sz M rm_X9_codeNow) 4 [(0, .ref a0), (1, .int b0), (2, .int b1)] [] sz M 0 0 := by
  suffices H : ∀ (n : Nat) (q : Int32 × Int32) (r : Int32), x_it (b_X9_codeNow_4 F a0 M ) n q = some r → x_V l D aC bs yX9_codeNow cX9_codeNow 3 (some .int) rm_X9_codeNow (x_Z D aC bs (some (.int r)) sz M rm_X9_codeNow) 4 [(0, .ref a0), (1, .int q.1), (2, .int q.2)] [] sz M 0 0 from fun n b0 b1 r h => H n (b0, b1) r h
  refine x_loop (P := fun (q : Int32 × Int32) (r : Int32) => x_V l D aC bs yX9_codeNow cX9_codeNow 3 (some .int) rm_X9_codeNow (x_Z D aC bs (some (.int r)) sz M rm_X9_codeNow) 4 [(0, .ref a0), (1, .int q.1), (2, .int q.2)] [] sz M 0 0) (fun k4 hk0 q r h => ?_)
  have hk4 : ∀ (b0 : Int32) (b1 : Int32) (r : Int32), k4 (b0, b1) = some r → x_V l D aC bs yX9_codeNow cX9_codeNow 3 (some .int) rm_X9_codeNow (x_Z D aC bs (some (.int r)) sz M rm_X9_codeNow) 4 [(0, .ref a0), (1, .int b0), (2, .int b1)] [] sz M 0 0 := fun b0 b1 r h => hk0 (b0, b1) r h
  unfold b_X9_codeNow_4 at h
  refine x_iload_n dX9_codeNow_4 2 rfl ?_
  refine x_aload_n dX9_codeNow_5 0 rfl ?_
  obtain ⟨v1, ev1, h⟩ := x_bd h
  refine x_getR clX9 w_fl_RX9_11 (by decide) dX9_codeNow_6 ev1 ?_
  refine x_iconst (v := (0 : Int32)) dX9_codeNow_9 (by decide) ?_
  obtain ⟨v2, ev2, h⟩ := x_bd h
  refine x_iald dX9_codeNow_10 ev2 ?_
  refine x_icmp_ge 42 dX9_codeNow_11 (by decide) (fun c3 => ?_) (fun c3 => ?_)
  · have h := (if_pos c3).symm.trans h
    refine x_iload_n dX9_codeNow_42 1 rfl ?_
    obtain rfl := Option.some.inj h
    exact x_iret dX9_codeNow_43 (Nat.le_of_ble_eq_true rfl) (Nat.le_of_ble_eq_true rfl)
  have h := (if_neg c3).symm.trans h
  refine x_bipush (v := (10 : Int32)) dX9_codeNow_14 (by decide) ?_
  refine x_iload_n dX9_codeNow_16 1 rfl ?_
  refine x_imul dX9_codeNow_17 ?_
  refine x_iconst (v := (1 : Int32)) dX9_codeNow_18 (by decide) ?_
  refine x_iadd dX9_codeNow_19 ?_
  refine x_aload_n dX9_codeNow_20 0 rfl ?_
  refine x_iconst (v := (2 : Int32)) dX9_codeNow_21 (by decide) ?_
  refine x_aload_n dX9_codeNow_22 0 rfl ?_
  obtain ⟨v4, ev4, h⟩ := x_bd h
  refine x_getR clX9 w_fl_RX9_11 (by decide) dX9_codeNow_23 ev4 ?_
  refine x_bipush (v := (7 : Int32)) dX9_codeNow_26 (by decide) ?_
  refine x_iload_n dX9_codeNow_28 2 rfl ?_
  refine x_iadd dX9_codeNow_29 ?_
  obtain ⟨v5, ev5, h⟩ := x_bd h
  refine x_iald dX9_codeNow_30 ev5 ?_
  obtain ⟨u6, eu6, h⟩ := x_bd h
  obtain ⟨p7, ep7, h⟩ := x_bd h
  refine x_callVI [.int (2 : Int32), .int v5] [.int (((10 : Int32) * q.1) + (1 : Int32))] clX9 me_X9_placeIn w_ml_RX9_78 w_im_yX9_placeIn w_se_yX9_placeIn (Nat.le_of_ble_eq_true rfl) (Nat.le_of_ble_eq_true rfl) rfl (Nat.le_of_ble_eq_true rfl) (Nat.le_of_ble_eq_true rfl) (Nat.le_of_ble_eq_true rfl) dX9_codeNow_31 eu6 (c_X9_placeIn l D aC bs sz F ep7) rfl ?_
  refine x_iadd dX9_codeNow_34 ?_
  refine x_istore_n 1 [(1, .int ((((10 : Int32) * q.1) + (1 : Int32)) + p7)), (0, .ref a0), (2, .int q.2)] dX9_codeNow_35 rfl (by decide) rfl ?_
  refine x_iinc (1 : Int32) 2 [(2, .int (q.2 + (1 : Int32))), (1, .int ((((10 : Int32) * q.1) + (1 : Int32)) + p7)), (0, .ref a0)] dX9_codeNow_36 rfl (by decide) (by decide) rfl ?_
  refine x_goto 4 dX9_codeNow_39 (by decide) ?_
  exact x_sub [2, 1, 0] rfl (hk4 _ _ _ h)
def f_X9_codeNow (F : Nat) (a0 : Nat) (M : XM) : Option (Int32) := x_it (b_X9_codeNow_4 F (a0) M) F ((0 : Int32), (0 : Int32))
set_option maxHeartbeats 4000000 in
set_option maxRecDepth 100000 in
theorem c_X9_codeNow (l : Launch) (D : va_G) (aC : FieldType → ClassId) (bs sz : Nat) (F : Nat) {a0 : Nat} {M : XM} {r : Int32} (h : f_X9_codeNow F a0 M = some r) : x_Cn l D aC bs yX9_codeNow cX9_codeNow 3 (some .int) rm_X9_codeNow [.ref a0] sz M (some (.int r)) sz M := by
  unfold f_X9_codeNow at h
  refine x_enter2 [(0, .ref a0)] me_X9_codeNow (Nat.le_of_ble_eq_true rfl) rfl ?_
  refine x_iconst (v := (0 : Int32)) dX9_codeNow_0 (by decide) ?_
  refine x_istore_n 1 [(1, .int (0 : Int32)), (0, .ref a0)] dX9_codeNow_1 rfl (by decide) rfl ?_
  refine x_iconst (v := (0 : Int32)) dX9_codeNow_2 (by decide) ?_
  refine x_istore_n 2 [(2, .int (0 : Int32)), (1, .int (0 : Int32)), (0, .ref a0)] dX9_codeNow_3 rfl (by decide) rfl ?_
  exact x_sub [2, 1, 0] rfl (lp_X9_codeNow_4 l D aC bs sz F (a0) M  F _ _ _ h)
