-- SwappedIntervalsModel.of(II)I
abbrev rm_X9_of : Room := { frames := 2, cells := 0, slots := 0, locals := 46 }
theorem me_X9_of : x_Me yX9_of cX9_of 3 (some .int) 2 := ⟨by decide +kernel, w_co_yX9_of, w_in_SwappedIntervalsModel, by decide +kernel, by decide +kernel, by decide +kernel⟩
def f_X9_of (a0 : Nat) (a1 : Int32) (a2 : Int32) (M : XM) : Option (Int32) := (x_ob M a0 9).bind fun u1 => (f_X9_isLetter a0 a1 M).bind fun p2 => if p2 = 0 then some (-1 : Int32) else (f_X9_in a2.toInt64 (0 : Int64) (2 : Int64) M).bind fun p4 => if p4 = 0 then some (-1 : Int32) else (x_gR M a0 9 0).bind fun v6 => if a2 = 0 then (x_a32 .int M v6 ((2 : Int32) + a1)).bind fun v11 => some v11 else if a2 = (1 : Int32) then (x_a32 .int M v6 ((7 : Int32) + a1)).bind fun v10 => some v10 else (x_a32 .int M v6 ((12 : Int32) + a1)).bind fun v9 => some v9
set_option maxHeartbeats 4000000 in
set_option maxRecDepth 100000 in
theorem c_X9_of (l : Launch) (D : va_G) (aC : FieldType → ClassId) (bs sz : Nat) {a0 : Nat} {a1 : Int32} {a2 : Int32} {M : XM} {r : Int32} (h : f_X9_of a0 a1 a2 M = some r) : x_Cn l D aC bs yX9_of cX9_of 3 (some .int) rm_X9_of [.ref a0, .int a1, .int a2] sz M (some (.int r)) sz M := by
  unfold f_X9_of at h
  refine x_enter2 [(0, .ref a0), (1, .int a1), (2, .int a2)] me_X9_of (Nat.le_of_ble_eq_true rfl) rfl ?_
  refine x_aload_n dX9_of_0 0 rfl ?_
  refine x_iload_n dX9_of_1 1 rfl ?_
  obtain ⟨u1, eu1, h⟩ := x_bd h
  obtain ⟨p2, ep2, h⟩ := x_bd h
  refine x_callVI [.int a1] [] clX9 me_X9_isLetter w_ml_RX9_99 w_im_yX9_isLetter w_se_yX9_isLetter (Nat.le_of_ble_eq_true rfl) (Nat.le_of_ble_eq_true rfl) rfl (Nat.le_of_ble_eq_true rfl) (Nat.le_of_ble_eq_true rfl) (Nat.le_of_ble_eq_true rfl) dX9_of_2 eu1 (c_X9_isLetter l D aC bs sz ep2) rfl ?_
  refine x_if_eq 20 dX9_of_5 (by decide) (fun c3 => ?_) (fun c3 => ?_)
  · have h := (if_pos c3).symm.trans h
    refine x_iconst (v := (-1 : Int32)) dX9_of_20 (by decide) ?_
    obtain rfl := Option.some.inj h
    exact x_iret dX9_of_21 (Nat.le_of_ble_eq_true rfl) (Nat.le_of_ble_eq_true rfl)
  have h := (if_neg c3).symm.trans h
  refine x_iload_n dX9_of_8 2 rfl ?_
  refine x_i2l dX9_of_9 ?_
  refine x_lconst (v := (0 : Int64)) dX9_of_10 (by decide) ?_
  refine x_ldc2 (v := (2 : Int64)) dX9_of_11 w_cn_RX9_95 ?_
  obtain ⟨p4, ep4, h⟩ := x_bd h
  refine x_callSI [.long a2.toInt64, .long (0 : Int64), .long (2 : Int64)] [] me_X9_in w_ml_RX9_66 w_st_yX9_in (Nat.le_of_ble_eq_true rfl) (Nat.le_of_ble_eq_true rfl) rfl (Nat.le_of_ble_eq_true rfl) (Nat.le_of_ble_eq_true rfl) (Nat.le_of_ble_eq_true rfl) dX9_of_14 (c_X9_in l D aC bs sz ep4) rfl ?_
  refine x_if_ne 22 dX9_of_17 (by decide) (fun c5 => ?_) (fun c5 => ?_)
  · have h := (if_neg c5).symm.trans h
    refine x_aload_n dX9_of_22 0 rfl ?_
    obtain ⟨v6, ev6, h⟩ := x_bd h
    refine x_getR clX9 w_fl_RX9_11 (by decide) dX9_of_23 ev6 ?_
    refine x_iload_n dX9_of_26 2 rfl ?_
    refine x_if_ne 36 dX9_of_27 (by decide) (fun c7 => ?_) (fun c7 => ?_)
    · have h := (if_neg c7).symm.trans h
      refine x_iload_n dX9_of_36 2 rfl ?_
      refine x_iconst (v := (1 : Int32)) dX9_of_37 (by decide) ?_
      refine x_icmp_ne 48 dX9_of_38 (by decide) (fun c8 => ?_) (fun c8 => ?_)
      · have h := (if_neg c8).symm.trans h
        refine x_bipush (v := (12 : Int32)) dX9_of_48 (by decide) ?_
        refine x_iload_n dX9_of_50 1 rfl ?_
        refine x_iadd dX9_of_51 ?_
        obtain ⟨v9, ev9, h⟩ := x_bd h
        refine x_iald dX9_of_52 ev9 ?_
        obtain rfl := Option.some.inj h
        exact x_iret dX9_of_53 (Nat.le_of_ble_eq_true rfl) (Nat.le_of_ble_eq_true rfl)
      have h := (if_pos c8).symm.trans h
      refine x_bipush (v := (7 : Int32)) dX9_of_41 (by decide) ?_
      refine x_iload_n dX9_of_43 1 rfl ?_
      refine x_iadd dX9_of_44 ?_
      refine x_goto 52 dX9_of_45 (by decide) ?_
      obtain ⟨v10, ev10, h⟩ := x_bd h
      refine x_iald dX9_of_52 ev10 ?_
      obtain rfl := Option.some.inj h
      exact x_iret dX9_of_53 (Nat.le_of_ble_eq_true rfl) (Nat.le_of_ble_eq_true rfl)
    have h := (if_pos c7).symm.trans h
    refine x_iconst (v := (2 : Int32)) dX9_of_30 (by decide) ?_
    refine x_iload_n dX9_of_31 1 rfl ?_
    refine x_iadd dX9_of_32 ?_
    refine x_goto 52 dX9_of_33 (by decide) ?_
    obtain ⟨v11, ev11, h⟩ := x_bd h
    refine x_iald dX9_of_52 ev11 ?_
    obtain rfl := Option.some.inj h
    exact x_iret dX9_of_53 (Nat.le_of_ble_eq_true rfl) (Nat.le_of_ble_eq_true rfl)
  have h := (if_pos c5).symm.trans h
  refine x_iconst (v := (-1 : Int32)) dX9_of_20 (by decide) ?_
  obtain rfl := Option.some.inj h
  exact x_iret dX9_of_21 (Nat.le_of_ble_eq_true rfl) (Nat.le_of_ble_eq_true rfl)

-- SwappedIntervalsModel.rounds()I
abbrev rm_X9_rounds : Room := { frames := 1, cells := 0, slots := 0, locals := 24 }
theorem me_X9_rounds : x_Me yX9_rounds cX9_rounds 5 (some .int) 0 := ⟨by decide +kernel, w_co_yX9_rounds, w_in_SwappedIntervalsModel, by decide +kernel, by decide +kernel, by decide +kernel⟩
def b_X9_rounds_57 (F : Nat) (a0 : Nat) (a1 : Int32) (a2 : Int32) (a3 : Int32) (k29 : (Int32 × Int32 × XM) → Option (Int32 × XM)) (k57 : (Int32 × XM) → Option (Int32 × XM)) (q : Int32 × XM) : Option (Int32 × XM) := (x_gR q.2 a0 9 14).bind fun v9 => (x_a32 .boolean q.2 v9 q.1).bind fun v10 => if v10 = 0 then (x_gR q.2 a0 9 14).bind fun v12 => (x_w32 .boolean q.2 v12 q.1 (vp_nar .boolean (1 : Int32))).bind fun m13 => (x_gR m13 a0 9 11).bind fun v14 => (x_a32 .int m13 v14 q.1).bind fun v15 => k57 (v15, m13) else k29 (a2, (a3 + (1 : Int32)), q.2)
set_option maxHeartbeats 4000000 in
set_option maxRecDepth 100000 in
theorem lp_X9_rounds_57 (l : Launch) (D : va_G) (aC : FieldType → ClassId) (bs : Nat) (sz : Nat) (F : Nat) (a0 : Nat) (a1 : Int32) (a2 : Int32) (a3 : Int32) (k29 : (Int32 × Int32 × XM) → Option (Int32 × XM)) (hk29 : ∀ (b0 : Int32) (b1 : Int32) (b2 : XM) (r : Int32 × XM), k29 (b0, b1, b2) = some r → x_V l D aC bs yX9_rounds cX9_rounds 5 (some .int) rm_X9_rounds (x_Z D aC bs (some (.int r.1)) sz r.2 rm_X9_rounds) 29 [(0, .ref a0), (1, .int a1), (2, .int b0), (3, .int b1)] [] sz b2 0 0) : ∀ (n : Nat) (b0 : Int32) (b1 : XM) (r : Int32 × XM), x_it (b_X9_rounds_57 F a0 a1 a2 a3 k29) n (b0, b1) = some r → x_V l D aC bs yX9_rounds cX9_rounds 5 (some .int) rm_X9_rounds (x_Z D aC bs (some (.int r.1)) sz r.2 rm_X9_rounds) 57 [(0, .ref a0), (1, .int a1), (2, .int a2), (3, .int a3), (4, .int b0)] [] sz b1 0 0 := by
  suffices H : ∀ (n : Nat) (q : Int32 × XM) (r : Int32 × XM), x_it (b_X9_rounds_57 F a0 a1 a2 a3 k29) n q = some r → x_V l D aC bs yX9_rounds cX9_rounds 5 (some .int) rm_X9_rounds (x_Z D aC bs (some (.int r.1)) sz r.2 rm_X9_rounds) 57 [(0, .ref a0), (1, .int a1), (2, .int a2), (3, .int a3), (4, .int q.1)] [] sz q.2 0 0 from fun n b0 b1 r h => H n (b0, b1) r h
  refine x_loop (P := fun (q : Int32 × XM) (r : Int32 × XM) => x_V l D aC bs yX9_rounds cX9_rounds 5 (some .int) rm_X9_rounds (x_Z D aC bs (some (.int r.1)) sz r.2 rm_X9_rounds) 57 [(0, .ref a0), (1, .int a1), (2, .int a2), (3, .int a3), (4, .int q.1)] [] sz q.2 0 0) (fun k57 hk0 q r h => ?_)
  have hk57 : ∀ (b0 : Int32) (b1 : XM) (r : Int32 × XM), k57 (b0, b1) = some r → x_V l D aC bs yX9_rounds cX9_rounds 5 (some .int) rm_X9_rounds (x_Z D aC bs (some (.int r.1)) sz r.2 rm_X9_rounds) 57 [(0, .ref a0), (1, .int a1), (2, .int a2), (3, .int a3), (4, .int b0)] [] sz b1 0 0 := fun b0 b1 r h => hk0 (b0, b1) r h
  unfold b_X9_rounds_57 at h
  refine x_aload_n dX9_rounds_57 0 rfl ?_
  obtain ⟨v9, ev9, h⟩ := x_bd h
  refine x_getR clX9 w_fl_RX9_39 (by decide) dX9_rounds_58 ev9 ?_
  refine x_iload dX9_rounds_61 4 rfl ?_
  obtain ⟨v10, ev10, h⟩ := x_bd h
  refine x_zald dX9_rounds_63 ev10 ?_
  refine x_if_ne 87 dX9_rounds_64 (by decide) (fun c11 => ?_) (fun c11 => ?_)
  · have h := (if_neg c11).symm.trans h
    refine x_iinc (1 : Int32) 3 [(3, .int (a3 + (1 : Int32))), (0, .ref a0), (1, .int a1), (2, .int a2), (4, .int q.1)] dX9_rounds_87 rfl (by decide) (by decide) rfl ?_
    refine x_goto 29 dX9_rounds_90 (by decide) ?_
    exact x_sub [1, 2, 3, 0] rfl (hk29 _ _ _ _ h)
  have h := (if_pos c11).symm.trans h
  refine x_aload_n dX9_rounds_67 0 rfl ?_
  obtain ⟨v12, ev12, h⟩ := x_bd h
  refine x_getR clX9 w_fl_RX9_39 (by decide) dX9_rounds_68 ev12 ?_
  refine x_iload dX9_rounds_71 4 rfl ?_
  refine x_iconst (v := (1 : Int32)) dX9_rounds_73 (by decide) ?_
  obtain ⟨m13, em13, h⟩ := x_bd h
  refine x_zast dX9_rounds_74 em13 ?_
  refine x_aload_n dX9_rounds_75 0 rfl ?_
  obtain ⟨v14, ev14, h⟩ := x_bd h
  refine x_getR clX9 w_fl_RX9_30 (by decide) dX9_rounds_76 ev14 ?_
  refine x_iload dX9_rounds_79 4 rfl ?_
  obtain ⟨v15, ev15, h⟩ := x_bd h
  refine x_iald dX9_rounds_81 ev15 ?_
  refine x_istore [(4, .int v15), (0, .ref a0), (1, .int a1), (2, .int a2), (3, .int a3)] dX9_rounds_82 (by decide) rfl ?_
  refine x_goto 57 dX9_rounds_84 (by decide) ?_
  exact x_sub [1, 2, 3, 4, 0] rfl (hk57 _ _ _ h)
def j_X9_rounds_49 (F : Nat) (a0 : Nat) (a1 : Int32) (a3 : Int32) (s0 : Int32) (s1 : Int32) (M : XM) (k29 : (Int32 × Int32 × XM) → Option (Int32 × XM)) : Option (Int32 × XM) := (f_X9_bit s0 M).bind fun p8 => x_it (b_X9_rounds_57 F (a0) (a1) (s1 + p8) (a3) k29) F (a3, M)
set_option maxHeartbeats 4000000 in
set_option maxRecDepth 100000 in
theorem jp_X9_rounds_49 (l : Launch) (D : va_G) (aC : FieldType → ClassId) (bs : Nat) (sz : Nat) (F : Nat) (a0 : Nat) (a1 : Int32) (a3 : Int32) (s0 : Int32) (s1 : Int32) (M : XM) (k29 : (Int32 × Int32 × XM) → Option (Int32 × XM)) (hk29 : ∀ (b0 : Int32) (b1 : Int32) (b2 : XM) (r : Int32 × XM), k29 (b0, b1, b2) = some r → x_V l D aC bs yX9_rounds cX9_rounds 5 (some .int) rm_X9_rounds (x_Z D aC bs (some (.int r.1)) sz r.2 rm_X9_rounds) 29 [(0, .ref a0), (1, .int a1), (2, .int b0), (3, .int b1)] [] sz b2 0 0) {r : Int32 × XM} (h : j_X9_rounds_49 F a0 a1 a3 s0 s1 M k29 = some r) : x_V l D aC bs yX9_rounds cX9_rounds 5 (some .int) rm_X9_rounds (x_Z D aC bs (some (.int r.1)) sz r.2 rm_X9_rounds) 49 [(0, .ref a0), (1, .int a1), (3, .int a3)] [.int s0, .int s1] sz M 0 0 := by
  unfold j_X9_rounds_49 at h
  obtain ⟨p8, ep8, h⟩ := x_bd h
  refine x_callSI [.int s0] [.int s1] me_X9_bit w_ml_RX9_181 w_st_yX9_bit (Nat.le_of_ble_eq_true rfl) (Nat.le_of_ble_eq_true rfl) rfl (Nat.le_of_ble_eq_true rfl) (Nat.le_of_ble_eq_true rfl) (Nat.le_of_ble_eq_true rfl) dX9_rounds_49 (c_X9_bit l D aC bs sz ep8) rfl ?_
  refine x_iadd dX9_rounds_52 ?_
  refine x_istore_n 2 [(2, .int (s1 + p8)), (0, .ref a0), (1, .int a1), (3, .int a3)] dX9_rounds_53 rfl (by decide) rfl ?_
  refine x_iload_n dX9_rounds_54 3 rfl ?_
  refine x_istore [(4, .int a3), (2, .int (s1 + p8)), (0, .ref a0), (1, .int a1), (3, .int a3)] dX9_rounds_55 (by decide) rfl ?_
  exact x_sub [2, 3, 1, 4, 0] rfl (lp_X9_rounds_57 l D aC bs sz F (a0) (a1) (s1 + p8) (a3) k29 hk29 F _ _ _ h)
def b_X9_rounds_29 (F : Nat) (a0 : Nat) (a1 : Int32)  (k29 : (Int32 × Int32 × XM) → Option (Int32 × XM)) (q : Int32 × Int32 × XM) : Option (Int32 × XM) := if a1 ≤ q.2.1 then some (q.1, q.2.2) else (x_gR q.2.2 a0 9 14).bind fun v5 => (x_a32 .boolean q.2.2 v5 q.2.1).bind fun v6 => if v6 = 0 then j_X9_rounds_49 F (a0) (a1) (q.2.1) (1 : Int32) (q.1) q.2.2 k29 else j_X9_rounds_49 F (a0) (a1) (q.2.1) (0 : Int32) (q.1) q.2.2 k29
set_option maxHeartbeats 4000000 in
set_option maxRecDepth 100000 in
theorem lp_X9_rounds_29 (l : Launch) (D : va_G) (aC : FieldType → ClassId) (bs : Nat) (sz : Nat) (F : Nat) (a0 : Nat) (a1 : Int32)   : ∀ (n : Nat) (b0 : Int32) (b1 : Int32) (b2 : XM) (r : Int32 × XM), x_it (b_X9_rounds_29 F a0 a1 ) n (b0, b1, b2) = some r → x_V l D aC bs yX9_rounds cX9_rounds 5 (some .int) rm_X9_rounds (x_Z D aC bs (some (.int r.1)) sz r.2 rm_X9_rounds) 29 [(0, .ref a0), (1, .int a1), (2, .int b0), (3, .int b1)] [] sz b2 0 0 := by
  suffices H : ∀ (n : Nat) (q : Int32 × Int32 × XM) (r : Int32 × XM), x_it (b_X9_rounds_29 F a0 a1 ) n q = some r → x_V l D aC bs yX9_rounds cX9_rounds 5 (some .int) rm_X9_rounds (x_Z D aC bs (some (.int r.1)) sz r.2 rm_X9_rounds) 29 [(0, .ref a0), (1, .int a1), (2, .int q.1), (3, .int q.2.1)] [] sz q.2.2 0 0 from fun n b0 b1 b2 r h => H n (b0, b1, b2) r h
  refine x_loop (P := fun (q : Int32 × Int32 × XM) (r : Int32 × XM) => x_V l D aC bs yX9_rounds cX9_rounds 5 (some .int) rm_X9_rounds (x_Z D aC bs (some (.int r.1)) sz r.2 rm_X9_rounds) 29 [(0, .ref a0), (1, .int a1), (2, .int q.1), (3, .int q.2.1)] [] sz q.2.2 0 0) (fun k29 hk0 q r h => ?_)
  have hk29 : ∀ (b0 : Int32) (b1 : Int32) (b2 : XM) (r : Int32 × XM), k29 (b0, b1, b2) = some r → x_V l D aC bs yX9_rounds cX9_rounds 5 (some .int) rm_X9_rounds (x_Z D aC bs (some (.int r.1)) sz r.2 rm_X9_rounds) 29 [(0, .ref a0), (1, .int a1), (2, .int b0), (3, .int b1)] [] sz b2 0 0 := fun b0 b1 b2 r h => hk0 (b0, b1, b2) r h
  unfold b_X9_rounds_29 at h
  refine x_iload_n dX9_rounds_29 3 rfl ?_
  refine x_iload_n dX9_rounds_30 1 rfl ?_
  refine x_icmp_ge 93 dX9_rounds_31 (by decide) (fun c4 => ?_) (fun c4 => ?_)
  · have h := (if_pos c4).symm.trans h
    refine x_iload_n dX9_rounds_93 2 rfl ?_
    obtain rfl := Option.some.inj h
    exact x_iret dX9_rounds_94 (Nat.le_of_ble_eq_true rfl) (Nat.le_of_ble_eq_true rfl)
  have h := (if_neg c4).symm.trans h
  refine x_iload_n dX9_rounds_34 2 rfl ?_
  refine x_aload_n dX9_rounds_35 0 rfl ?_
  obtain ⟨v5, ev5, h⟩ := x_bd h
  refine x_getR clX9 w_fl_RX9_39 (by decide) dX9_rounds_36 ev5 ?_
  refine x_iload_n dX9_rounds_39 3 rfl ?_
  obtain ⟨v6, ev6, h⟩ := x_bd h
  refine x_zald dX9_rounds_40 ev6 ?_
  refine x_if_ne 48 dX9_rounds_41 (by decide) (fun c7 => ?_) (fun c7 => ?_)
  · have h := (if_neg c7).symm.trans h
    refine x_iconst (v := (0 : Int32)) dX9_rounds_48 (by decide) ?_
    exact x_sub [0, 1, 3] rfl (jp_X9_rounds_49 l D aC bs sz F (a0) (a1) (q.2.1) (0 : Int32) (q.1) q.2.2 k29 hk29 h)
  have h := (if_pos c7).symm.trans h
  refine x_iconst (v := (1 : Int32)) dX9_rounds_44 (by decide) ?_
  refine x_goto 49 dX9_rounds_45 (by decide) ?_
  exact x_sub [0, 1, 3] rfl (jp_X9_rounds_49 l D aC bs sz F (a0) (a1) (q.2.1) (1 : Int32) (q.1) q.2.2 k29 hk29 h)
def b_X9_rounds_7 (F : Nat) (a0 : Nat) (a1 : Int32)  (k7 : (Int32 × XM) → Option (Int32 × XM)) (q : Int32 × XM) : Option (Int32 × XM) := if a1 ≤ q.1 then x_it (b_X9_rounds_29 F (a0) (a1)) F ((0 : Int32), (0 : Int32), q.2) else (x_gR q.2 a0 9 14).bind fun v16 => (x_w32 .boolean q.2 v16 q.1 (vp_nar .boolean (0 : Int32))).bind fun m17 => k7 ((q.1 + (1 : Int32)), m17)
set_option maxHeartbeats 4000000 in
set_option maxRecDepth 100000 in
theorem lp_X9_rounds_7 (l : Launch) (D : va_G) (aC : FieldType → ClassId) (bs : Nat) (sz : Nat) (F : Nat) (a0 : Nat) (a1 : Int32)   : ∀ (n : Nat) (b0 : Int32) (b1 : XM) (r : Int32 × XM), x_it (b_X9_rounds_7 F a0 a1 ) n (b0, b1) = some r → x_V l D aC bs yX9_rounds cX9_rounds 5 (some .int) rm_X9_rounds (x_Z D aC bs (some (.int r.1)) sz r.2 rm_X9_rounds) 7 [(0, .ref a0), (1, .int a1), (2, .int b0)] [] sz b1 0 0 := by
  suffices H : ∀ (n : Nat) (q : Int32 × XM) (r : Int32 × XM), x_it (b_X9_rounds_7 F a0 a1 ) n q = some r → x_V l D aC bs yX9_rounds cX9_rounds 5 (some .int) rm_X9_rounds (x_Z D aC bs (some (.int r.1)) sz r.2 rm_X9_rounds) 7 [(0, .ref a0), (1, .int a1), (2, .int q.1)] [] sz q.2 0 0 from fun n b0 b1 r h => H n (b0, b1) r h
  refine x_loop (P := fun (q : Int32 × XM) (r : Int32 × XM) => x_V l D aC bs yX9_rounds cX9_rounds 5 (some .int) rm_X9_rounds (x_Z D aC bs (some (.int r.1)) sz r.2 rm_X9_rounds) 7 [(0, .ref a0), (1, .int a1), (2, .int q.1)] [] sz q.2 0 0) (fun k7 hk0 q r h => ?_)
  have hk7 : ∀ (b0 : Int32) (b1 : XM) (r : Int32 × XM), k7 (b0, b1) = some r → x_V l D aC bs yX9_rounds cX9_rounds 5 (some .int) rm_X9_rounds (x_Z D aC bs (some (.int r.1)) sz r.2 rm_X9_rounds) 7 [(0, .ref a0), (1, .int a1), (2, .int b0)] [] sz b1 0 0 := fun b0 b1 r h => hk0 (b0, b1) r h
  unfold b_X9_rounds_7 at h
  refine x_iload_n dX9_rounds_7 2 rfl ?_
  refine x_iload_n dX9_rounds_8 1 rfl ?_
  refine x_icmp_ge 25 dX9_rounds_9 (by decide) (fun c3 => ?_) (fun c3 => ?_)
  · have h := (if_pos c3).symm.trans h
    refine x_iconst (v := (0 : Int32)) dX9_rounds_25 (by decide) ?_
    refine x_istore_n 2 [(2, .int (0 : Int32)), (0, .ref a0), (1, .int a1)] dX9_rounds_26 rfl (by decide) rfl ?_
    refine x_iconst (v := (0 : Int32)) dX9_rounds_27 (by decide) ?_
    refine x_istore_n 3 [(3, .int (0 : Int32)), (2, .int (0 : Int32)), (0, .ref a0), (1, .int a1)] dX9_rounds_28 rfl (by decide) rfl ?_
    exact x_sub [2, 3, 1, 0] rfl (lp_X9_rounds_29 l D aC bs sz F (a0) (a1)  F _ _ _ _ h)
  have h := (if_neg c3).symm.trans h
  refine x_aload_n dX9_rounds_12 0 rfl ?_
  obtain ⟨v16, ev16, h⟩ := x_bd h
  refine x_getR clX9 w_fl_RX9_39 (by decide) dX9_rounds_13 ev16 ?_
  refine x_iload_n dX9_rounds_16 2 rfl ?_
  refine x_iconst (v := (0 : Int32)) dX9_rounds_17 (by decide) ?_
  obtain ⟨m17, em17, h⟩ := x_bd h
  refine x_zast dX9_rounds_18 em17 ?_
  refine x_iinc (1 : Int32) 2 [(2, .int (q.1 + (1 : Int32))), (0, .ref a0), (1, .int a1)] dX9_rounds_19 rfl (by decide) (by decide) rfl ?_
  refine x_goto 7 dX9_rounds_22 (by decide) ?_
  exact x_sub [1, 2, 0] rfl (hk7 _ _ _ h)
def f_X9_rounds (F : Nat) (a0 : Nat) (M : XM) : Option (Int32 × XM) := (x_ob M a0 9).bind fun u1 => (f_X9_findsPoints F a0 M).bind fun p2 => x_it (b_X9_rounds_7 F (a0) (p2.1)) F ((0 : Int32), p2.2)
set_option maxHeartbeats 4000000 in
set_option maxRecDepth 100000 in
theorem c_X9_rounds (l : Launch) (D : va_G) (aC : FieldType → ClassId) (bs sz : Nat) (F : Nat) {a0 : Nat} {M : XM} {r : Int32 × XM} (h : f_X9_rounds F a0 M = some r) : x_Cn l D aC bs yX9_rounds cX9_rounds 5 (some .int) rm_X9_rounds [.ref a0] sz M (some (.int r.1)) sz r.2 := by
  unfold f_X9_rounds at h
  refine x_enter2 [(0, .ref a0)] me_X9_rounds (Nat.le_of_ble_eq_true rfl) rfl ?_
  refine x_aload_n dX9_rounds_0 0 rfl ?_
  obtain ⟨u1, eu1, h⟩ := x_bd h
  obtain ⟨p2, ep2, h⟩ := x_bd h
  refine x_callVI [] [] clX9 me_X9_findsPoints w_ml_RX9_188 w_im_yX9_findsPoints w_se_yX9_findsPoints (Nat.le_of_ble_eq_true rfl) (Nat.le_of_ble_eq_true rfl) rfl (Nat.le_of_ble_eq_true rfl) (Nat.le_of_ble_eq_true rfl) (Nat.le_of_ble_eq_true rfl) dX9_rounds_1 eu1 (c_X9_findsPoints l D aC bs sz F ep2) rfl ?_
  refine x_istore_n 1 [(1, .int p2.1), (0, .ref a0)] dX9_rounds_4 rfl (by decide) rfl ?_
  refine x_iconst (v := (0 : Int32)) dX9_rounds_5 (by decide) ?_
  refine x_istore_n 2 [(2, .int (0 : Int32)), (1, .int p2.1), (0, .ref a0)] dX9_rounds_6 rfl (by decide) rfl ?_
  exact x_sub [2, 1, 0] rfl (lp_X9_rounds_7 l D aC bs sz F (a0) (p2.1)  F _ _ _ h)

-- SwappedIntervalsModel.ends()I
abbrev rm_X9_ends : Room := { frames := 3, cells := 0, slots := 0, locals := 71 }
theorem me_X9_ends : x_Me yX9_ends cX9_ends 2 (some .int) 0 := ⟨by decide +kernel, w_co_yX9_ends, w_in_SwappedIntervalsModel, by decide +kernel, by decide +kernel, by decide +kernel⟩
def j_X9_ends_46 (F : Nat) (a0 : Nat) (a1 : Int32) (M : XM)  : Option (Int32 × XM) := (x_gR M a0 9 15).bind fun v5 => (x_gR M a0 9 0).bind fun v6 => (x_cpI M v5 (0 : Int32) v6 (0 : Int32) (60 : Int32)).bind fun m7 => some (a1, m7)
set_option maxHeartbeats 4000000 in
set_option maxRecDepth 100000 in
theorem jp_X9_ends_46 (l : Launch) (D : va_G) (aC : FieldType → ClassId) (bs : Nat) (sz : Nat) (F : Nat) (a0 : Nat) (a1 : Int32) (M : XM)   {r : Int32 × XM} (h : j_X9_ends_46 F a0 a1 M  = some r) : x_V l D aC bs yX9_ends cX9_ends 2 (some .int) rm_X9_ends (x_Z D aC bs (some (.int r.1)) sz r.2 rm_X9_ends) 46 [(0, .ref a0), (1, .int a1)] [] sz M 0 0 := by
  unfold j_X9_ends_46 at h
  refine x_aload_n dX9_ends_46 0 rfl ?_
  obtain ⟨v5, ev5, h⟩ := x_bd h
  refine x_getR clX9 w_fl_RX9_43 (by decide) dX9_ends_47 ev5 ?_
  refine x_iconst (v := (0 : Int32)) dX9_ends_50 (by decide) ?_
  refine x_aload_n dX9_ends_51 0 rfl ?_
  obtain ⟨v6, ev6, h⟩ := x_bd h
  refine x_getR clX9 w_fl_RX9_11 (by decide) dX9_ends_52 ev6 ?_
  refine x_iconst (v := (0 : Int32)) dX9_ends_55 (by decide) ?_
  refine x_bipush (v := (60 : Int32)) dX9_ends_56 (by decide) ?_
  obtain ⟨m7, em7, h⟩ := x_bd h
  refine x_acI w_ml_RX9_89 w_na_arraycopyName w_st_arraycopyName w_in_java_lang_System (Nat.le_of_ble_eq_true rfl) (Nat.le_of_ble_eq_true rfl) dX9_ends_58 em7 ?_
  refine x_iload_n dX9_ends_61 1 rfl ?_
  obtain rfl := Option.some.inj h
  exact x_iret dX9_ends_62 (Nat.le_of_ble_eq_true rfl) (Nat.le_of_ble_eq_true rfl)
def b_X9_ends_17 (F : Nat) (a0 : Nat)  (k17 : (Int32 × XM) → Option (Int32 × XM)) (q : Int32 × XM) : Option (Int32 × XM) := if (9999 : Int32) ≤ q.1 then j_X9_ends_46 F (a0) (q.1) q.2 else (x_ob q.2 a0 9).bind fun u8 => (f_X9_kindNow a0 q.2).bind fun p9 => if p9 = (-1 : Int32) then j_X9_ends_46 F (a0) (q.1) q.2 else (x_ob q.2 a0 9).bind fun u11 => (f_X9_kindNow a0 q.2).bind fun p12 => (x_ob q.2 a0 9).bind fun u13 => (f_X9_steps F a0 p12 q.2).bind fun p14 => k17 ((q.1 + (1 : Int32)), p14)
set_option maxHeartbeats 4000000 in
set_option maxRecDepth 100000 in
theorem lp_X9_ends_17 (l : Launch) (D : va_G) (aC : FieldType → ClassId) (bs : Nat) (sz : Nat) (F : Nat) (a0 : Nat)   : ∀ (n : Nat) (b0 : Int32) (b1 : XM) (r : Int32 × XM), x_it (b_X9_ends_17 F a0 ) n (b0, b1) = some r → x_V l D aC bs yX9_ends cX9_ends 2 (some .int) rm_X9_ends (x_Z D aC bs (some (.int r.1)) sz r.2 rm_X9_ends) 17 [(0, .ref a0), (1, .int b0)] [] sz b1 0 0 := by
  suffices H : ∀ (n : Nat) (q : Int32 × XM) (r : Int32 × XM), x_it (b_X9_ends_17 F a0 ) n q = some r → x_V l D aC bs yX9_ends cX9_ends 2 (some .int) rm_X9_ends (x_Z D aC bs (some (.int r.1)) sz r.2 rm_X9_ends) 17 [(0, .ref a0), (1, .int q.1)] [] sz q.2 0 0 from fun n b0 b1 r h => H n (b0, b1) r h
  refine x_loop (P := fun (q : Int32 × XM) (r : Int32 × XM) => x_V l D aC bs yX9_ends cX9_ends 2 (some .int) rm_X9_ends (x_Z D aC bs (some (.int r.1)) sz r.2 rm_X9_ends) 17 [(0, .ref a0), (1, .int q.1)] [] sz q.2 0 0) (fun k17 hk0 q r h => ?_)
  have hk17 : ∀ (b0 : Int32) (b1 : XM) (r : Int32 × XM), k17 (b0, b1) = some r → x_V l D aC bs yX9_ends cX9_ends 2 (some .int) rm_X9_ends (x_Z D aC bs (some (.int r.1)) sz r.2 rm_X9_ends) 17 [(0, .ref a0), (1, .int b0)] [] sz b1 0 0 := fun b0 b1 r h => hk0 (b0, b1) r h
  unfold b_X9_ends_17 at h
  refine x_iload_n dX9_ends_17 1 rfl ?_
  refine x_sipush (v := (9999 : Int32)) dX9_ends_18 (by decide) ?_
  refine x_icmp_ge 46 dX9_ends_21 (by decide) (fun c4 => ?_) (fun c4 => ?_)
  · have h := (if_pos c4).symm.trans h
    exact jp_X9_ends_46 l D aC bs sz F (a0) (q.1) q.2  h
  have h := (if_neg c4).symm.trans h
  refine x_aload_n dX9_ends_24 0 rfl ?_
  obtain ⟨u8, eu8, h⟩ := x_bd h
  obtain ⟨p9, ep9, h⟩ := x_bd h
  refine x_callVI [] [] clX9 me_X9_kindNow w_ml_RX9_111 w_im_yX9_kindNow w_se_yX9_kindNow (Nat.le_of_ble_eq_true rfl) (Nat.le_of_ble_eq_true rfl) rfl (Nat.le_of_ble_eq_true rfl) (Nat.le_of_ble_eq_true rfl) (Nat.le_of_ble_eq_true rfl) dX9_ends_25 eu8 (c_X9_kindNow l D aC bs sz ep9) rfl ?_
  refine x_iconst (v := (-1 : Int32)) dX9_ends_28 (by decide) ?_
  refine x_icmp_eq 46 dX9_ends_29 (by decide) (fun c10 => ?_) (fun c10 => ?_)
  · have h := (if_pos c10).symm.trans h
    exact jp_X9_ends_46 l D aC bs sz F (a0) (q.1) q.2  h
  have h := (if_neg c10).symm.trans h
  refine x_aload_n dX9_ends_32 0 rfl ?_
  refine x_aload_n dX9_ends_33 0 rfl ?_
  obtain ⟨u11, eu11, h⟩ := x_bd h
  obtain ⟨p12, ep12, h⟩ := x_bd h
  refine x_callVI [] [.ref a0] clX9 me_X9_kindNow w_ml_RX9_111 w_im_yX9_kindNow w_se_yX9_kindNow (Nat.le_of_ble_eq_true rfl) (Nat.le_of_ble_eq_true rfl) rfl (Nat.le_of_ble_eq_true rfl) (Nat.le_of_ble_eq_true rfl) (Nat.le_of_ble_eq_true rfl) dX9_ends_34 eu11 (c_X9_kindNow l D aC bs sz ep12) rfl ?_
  obtain ⟨u13, eu13, h⟩ := x_bd h
  obtain ⟨p14, ep14, h⟩ := x_bd h
  refine x_callVV [.int p12] [] clX9 me_X9_steps w_ml_RX9_115 w_im_yX9_steps w_se_yX9_steps (Nat.le_of_ble_eq_true rfl) (Nat.le_of_ble_eq_true rfl) rfl (Nat.le_of_ble_eq_true rfl) (Nat.le_of_ble_eq_true rfl) (Nat.le_of_ble_eq_true rfl) dX9_ends_37 eu13 (c_X9_steps l D aC bs sz F ep14) rfl ?_
  refine x_iinc (1 : Int32) 1 [(1, .int (q.1 + (1 : Int32))), (0, .ref a0)] dX9_ends_40 rfl (by decide) (by decide) rfl ?_
  refine x_goto 17 dX9_ends_43 (by decide) ?_
  exact x_sub [1, 0] rfl (hk17 _ _ _ h)
def f_X9_ends (F : Nat) (a0 : Nat) (M : XM) : Option (Int32 × XM) := (x_gR M a0 9 0).bind fun v1 => (x_gR M a0 9 15).bind fun v2 => (x_cpI M v1 (0 : Int32) v2 (0 : Int32) (60 : Int32)).bind fun m3 => x_it (b_X9_ends_17 F (a0)) F ((0 : Int32), m3)
set_option maxHeartbeats 4000000 in
set_option maxRecDepth 100000 in
theorem c_X9_ends (l : Launch) (D : va_G) (aC : FieldType → ClassId) (bs sz : Nat) (F : Nat) {a0 : Nat} {M : XM} {r : Int32 × XM} (h : f_X9_ends F a0 M = some r) : x_Cn l D aC bs yX9_ends cX9_ends 2 (some .int) rm_X9_ends [.ref a0] sz M (some (.int r.1)) sz r.2 := by
  unfold f_X9_ends at h
  refine x_enter2 [(0, .ref a0)] me_X9_ends (Nat.le_of_ble_eq_true rfl) rfl ?_
  refine x_aload_n dX9_ends_0 0 rfl ?_
  obtain ⟨v1, ev1, h⟩ := x_bd h
  refine x_getR clX9 w_fl_RX9_11 (by decide) dX9_ends_1 ev1 ?_
  refine x_iconst (v := (0 : Int32)) dX9_ends_4 (by decide) ?_
  refine x_aload_n dX9_ends_5 0 rfl ?_
  obtain ⟨v2, ev2, h⟩ := x_bd h
  refine x_getR clX9 w_fl_RX9_43 (by decide) dX9_ends_6 ev2 ?_
  refine x_iconst (v := (0 : Int32)) dX9_ends_9 (by decide) ?_
  refine x_bipush (v := (60 : Int32)) dX9_ends_10 (by decide) ?_
  obtain ⟨m3, em3, h⟩ := x_bd h
  refine x_acI w_ml_RX9_89 w_na_arraycopyName w_st_arraycopyName w_in_java_lang_System (Nat.le_of_ble_eq_true rfl) (Nat.le_of_ble_eq_true rfl) dX9_ends_12 em3 ?_
  refine x_iconst (v := (0 : Int32)) dX9_ends_15 (by decide) ?_
  refine x_istore_n 1 [(1, .int (0 : Int32)), (0, .ref a0)] dX9_ends_16 rfl (by decide) rfl ?_
  exact x_sub [1, 0] rfl (lp_X9_ends_17 l D aC bs sz F (a0)  F _ _ _ h)

-- SwappedIntervalsModel.nextOf(II)I
abbrev rm_X9_nextOf : Room := { frames := 3, cells := 0, slots := 0, locals := 70 }
theorem me_X9_nextOf : x_Me yX9_nextOf cX9_nextOf 7 (some .int) 2 := ⟨by decide +kernel, w_co_yX9_nextOf, w_in_SwappedIntervalsModel, by decide +kernel, by decide +kernel, by decide +kernel⟩
def b_X9_nextOf_111 (F : Nat) (a0 : Nat) (a3 : Int32) (a4 : Int32) (M : XM)  (k111 : (Int32 × Int32) → Option (Int32 × XM)) (q : Int32 × Int32) : Option (Int32 × XM) := if a3 ≤ q.2 then some (q.1, M) else (x_gR M a0 9 5).bind fun v10 => (x_a32 .int M v10 q.2).bind fun v11 => if v11 = (a3 - (1 : Int32)) then k111 (((((10 : Int32) * q.1) + (1 : Int32)) + (a4 + (1 : Int32))), (q.2 + (1 : Int32))) else (x_gR M a0 9 5).bind fun v13 => (x_a32 .int M v13 q.2).bind fun v14 => if v14 ≤ a4 then (x_gR M a0 9 5).bind fun v16 => (x_a32 .int M v16 q.2).bind fun v17 => k111 (((((10 : Int32) * q.1) + (1 : Int32)) + v17), (q.2 + (1 : Int32))) else (x_gR M a0 9 5).bind fun v18 => (x_a32 .int M v18 q.2).bind fun v19 => k111 (((((10 : Int32) * q.1) + (1 : Int32)) + (v19 + (1 : Int32))), (q.2 + (1 : Int32)))
set_option maxHeartbeats 4000000 in
set_option maxRecDepth 100000 in
theorem lp_X9_nextOf_111 (l : Launch) (D : va_G) (aC : FieldType → ClassId) (bs : Nat) (sz : Nat) (F : Nat) (a0 : Nat) (a3 : Int32) (a4 : Int32) (M : XM)   : ∀ (n : Nat) (b0 : Int32) (b1 : Int32) (r : Int32 × XM), x_it (b_X9_nextOf_111 F a0 a3 a4 M ) n (b0, b1) = some r → x_V l D aC bs yX9_nextOf cX9_nextOf 7 (some .int) rm_X9_nextOf (x_Z D aC bs (some (.int r.1)) sz r.2 rm_X9_nextOf) 111 [(0, .ref a0), (3, .int a3), (4, .int a4), (5, .int b0), (6, .int b1)] [] sz M 0 0 := by
  suffices H : ∀ (n : Nat) (q : Int32 × Int32) (r : Int32 × XM), x_it (b_X9_nextOf_111 F a0 a3 a4 M ) n q = some r → x_V l D aC bs yX9_nextOf cX9_nextOf 7 (some .int) rm_X9_nextOf (x_Z D aC bs (some (.int r.1)) sz r.2 rm_X9_nextOf) 111 [(0, .ref a0), (3, .int a3), (4, .int a4), (5, .int q.1), (6, .int q.2)] [] sz M 0 0 from fun n b0 b1 r h => H n (b0, b1) r h
  refine x_loop (P := fun (q : Int32 × Int32) (r : Int32 × XM) => x_V l D aC bs yX9_nextOf cX9_nextOf 7 (some .int) rm_X9_nextOf (x_Z D aC bs (some (.int r.1)) sz r.2 rm_X9_nextOf) 111 [(0, .ref a0), (3, .int a3), (4, .int a4), (5, .int q.1), (6, .int q.2)] [] sz M 0 0) (fun k111 hk0 q r h => ?_)
  have hk111 : ∀ (b0 : Int32) (b1 : Int32) (r : Int32 × XM), k111 (b0, b1) = some r → x_V l D aC bs yX9_nextOf cX9_nextOf 7 (some .int) rm_X9_nextOf (x_Z D aC bs (some (.int r.1)) sz r.2 rm_X9_nextOf) 111 [(0, .ref a0), (3, .int a3), (4, .int a4), (5, .int b0), (6, .int b1)] [] sz M 0 0 := fun b0 b1 r h => hk0 (b0, b1) r h
  unfold b_X9_nextOf_111 at h
  refine x_iload dX9_nextOf_111 4 rfl ?_
  refine x_iload_n dX9_nextOf_113 1 rfl ?_
  refine x_icmp_ge 184 dX9_nextOf_114 (by decide) (fun c9 => ?_) (fun c9 => ?_)
  · have h := (if_pos c9).symm.trans h
    refine x_iload dX9_nextOf_184 3 rfl ?_
    obtain rfl := Option.some.inj h
    exact x_iret dX9_nextOf_186 (Nat.le_of_ble_eq_true rfl) (Nat.le_of_ble_eq_true rfl)
  have h := (if_neg c9).symm.trans h
  refine x_bipush (v := (10 : Int32)) dX9_nextOf_117 (by decide) ?_
  refine x_iload dX9_nextOf_119 3 rfl ?_
  refine x_imul dX9_nextOf_121 ?_
  refine x_iconst (v := (1 : Int32)) dX9_nextOf_122 (by decide) ?_
  refine x_iadd dX9_nextOf_123 ?_
  refine x_aload_n dX9_nextOf_124 0 rfl ?_
  obtain ⟨v10, ev10, h⟩ := x_bd h
  refine x_getR clX9 w_fl_RX9_21 (by decide) dX9_nextOf_125 ev10 ?_
  refine x_iload dX9_nextOf_128 4 rfl ?_
  obtain ⟨v11, ev11, h⟩ := x_bd h
  refine x_iald dX9_nextOf_130 ev11 ?_
  refine x_iload_n dX9_nextOf_131 1 rfl ?_
  refine x_iconst (v := (1 : Int32)) dX9_nextOf_132 (by decide) ?_
  refine x_isub dX9_nextOf_133 ?_
  refine x_icmp_ne 144 dX9_nextOf_134 (by decide) (fun c12 => ?_) (fun c12 => ?_)
  · have h := (if_neg c12).symm.trans h
    refine x_aload_n dX9_nextOf_144 0 rfl ?_
    obtain ⟨v13, ev13, h⟩ := x_bd h
    refine x_getR clX9 w_fl_RX9_21 (by decide) dX9_nextOf_145 ev13 ?_
    refine x_iload dX9_nextOf_148 4 rfl ?_
    obtain ⟨v14, ev14, h⟩ := x_bd h
    refine x_iald dX9_nextOf_150 ev14 ?_
    refine x_iload dX9_nextOf_151 2 rfl ?_
    refine x_icmp_le 168 dX9_nextOf_153 (by decide) (fun c15 => ?_) (fun c15 => ?_)
    · have h := (if_pos c15).symm.trans h
      refine x_aload_n dX9_nextOf_168 0 rfl ?_
      obtain ⟨v16, ev16, h⟩ := x_bd h
      refine x_getR clX9 w_fl_RX9_21 (by decide) dX9_nextOf_169 ev16 ?_
      refine x_iload dX9_nextOf_172 4 rfl ?_
      obtain ⟨v17, ev17, h⟩ := x_bd h
      refine x_iald dX9_nextOf_174 ev17 ?_
      refine x_iadd dX9_nextOf_175 ?_
      refine x_istore [(5, .int ((((10 : Int32) * q.1) + (1 : Int32)) + v17)), (0, .ref a0), (3, .int a3), (4, .int a4), (6, .int q.2)] dX9_nextOf_176 (by decide) rfl ?_
      refine x_iinc (1 : Int32) 4 [(6, .int (q.2 + (1 : Int32))), (5, .int ((((10 : Int32) * q.1) + (1 : Int32)) + v17)), (0, .ref a0), (3, .int a3), (4, .int a4)] dX9_nextOf_178 rfl (by decide) (by decide) rfl ?_
      refine x_goto 111 dX9_nextOf_181 (by decide) ?_
      exact x_sub [2, 3, 4, 1, 0] rfl (hk111 _ _ _ h)
    have h := (if_neg c15).symm.trans h
    refine x_aload_n dX9_nextOf_156 0 rfl ?_
    obtain ⟨v18, ev18, h⟩ := x_bd h
    refine x_getR clX9 w_fl_RX9_21 (by decide) dX9_nextOf_157 ev18 ?_
    refine x_iload dX9_nextOf_160 4 rfl ?_
    obtain ⟨v19, ev19, h⟩ := x_bd h
    refine x_iald dX9_nextOf_162 ev19 ?_
    refine x_iconst (v := (1 : Int32)) dX9_nextOf_163 (by decide) ?_
    refine x_iadd dX9_nextOf_164 ?_
    refine x_goto 175 dX9_nextOf_165 (by decide) ?_
    refine x_iadd dX9_nextOf_175 ?_
    refine x_istore [(5, .int ((((10 : Int32) * q.1) + (1 : Int32)) + (v19 + (1 : Int32)))), (0, .ref a0), (3, .int a3), (4, .int a4), (6, .int q.2)] dX9_nextOf_176 (by decide) rfl ?_
    refine x_iinc (1 : Int32) 4 [(6, .int (q.2 + (1 : Int32))), (5, .int ((((10 : Int32) * q.1) + (1 : Int32)) + (v19 + (1 : Int32)))), (0, .ref a0), (3, .int a3), (4, .int a4)] dX9_nextOf_178 rfl (by decide) (by decide) rfl ?_
    refine x_goto 111 dX9_nextOf_181 (by decide) ?_
    exact x_sub [2, 3, 4, 1, 0] rfl (hk111 _ _ _ h)
  have h := (if_pos c12).symm.trans h
  refine x_iload dX9_nextOf_137 2 rfl ?_
  refine x_iconst (v := (1 : Int32)) dX9_nextOf_139 (by decide) ?_
  refine x_iadd dX9_nextOf_140 ?_
  refine x_goto 175 dX9_nextOf_141 (by decide) ?_
  refine x_iadd dX9_nextOf_175 ?_
  refine x_istore [(5, .int ((((10 : Int32) * q.1) + (1 : Int32)) + (a4 + (1 : Int32)))), (0, .ref a0), (3, .int a3), (4, .int a4), (6, .int q.2)] dX9_nextOf_176 (by decide) rfl ?_
  refine x_iinc (1 : Int32) 4 [(6, .int (q.2 + (1 : Int32))), (5, .int ((((10 : Int32) * q.1) + (1 : Int32)) + (a4 + (1 : Int32)))), (0, .ref a0), (3, .int a3), (4, .int a4)] dX9_nextOf_178 rfl (by decide) (by decide) rfl ?_
  refine x_goto 111 dX9_nextOf_181 (by decide) ?_
  exact x_sub [2, 3, 4, 1, 0] rfl (hk111 _ _ _ h)
def b_X9_nextOf_44 (F : Nat) (a0 : Nat) (a3 : Int32) (a4 : Int32) (M : XM)  (k44 : (Int32 × Int32) → Option (Int32 × XM)) (q : Int32 × Int32) : Option (Int32 × XM) := if (a3 - (1 : Int32)) ≤ q.2 then some (q.1, M) else (x_gR M a0 9 5).bind fun v21 => (x_a32 .int M v21 q.2).bind fun v22 => (x_gR M a0 9 5).bind fun v23 => (x_a32 .int M v23 q.2).bind fun v24 => if v24 = (a3 - (1 : Int32)) then k44 (((((10 : Int32) * ((((10 : Int32) * q.1) + v22) + (1 : Int32))) + a4) + (1 : Int32)), (q.2 + (1 : Int32))) else k44 (((((10 : Int32) * q.1) + v22) + (1 : Int32)), (q.2 + (1 : Int32)))
set_option maxHeartbeats 4000000 in
set_option maxRecDepth 100000 in
theorem lp_X9_nextOf_44 (l : Launch) (D : va_G) (aC : FieldType → ClassId) (bs : Nat) (sz : Nat) (F : Nat) (a0 : Nat) (a3 : Int32) (a4 : Int32) (M : XM)   : ∀ (n : Nat) (b0 : Int32) (b1 : Int32) (r : Int32 × XM), x_it (b_X9_nextOf_44 F a0 a3 a4 M ) n (b0, b1) = some r → x_V l D aC bs yX9_nextOf cX9_nextOf 7 (some .int) rm_X9_nextOf (x_Z D aC bs (some (.int r.1)) sz r.2 rm_X9_nextOf) 44 [(0, .ref a0), (3, .int a3), (4, .int a4), (5, .int b0), (6, .int b1)] [] sz M 0 0 := by
  suffices H : ∀ (n : Nat) (q : Int32 × Int32) (r : Int32 × XM), x_it (b_X9_nextOf_44 F a0 a3 a4 M ) n q = some r → x_V l D aC bs yX9_nextOf cX9_nextOf 7 (some .int) rm_X9_nextOf (x_Z D aC bs (some (.int r.1)) sz r.2 rm_X9_nextOf) 44 [(0, .ref a0), (3, .int a3), (4, .int a4), (5, .int q.1), (6, .int q.2)] [] sz M 0 0 from fun n b0 b1 r h => H n (b0, b1) r h
  refine x_loop (P := fun (q : Int32 × Int32) (r : Int32 × XM) => x_V l D aC bs yX9_nextOf cX9_nextOf 7 (some .int) rm_X9_nextOf (x_Z D aC bs (some (.int r.1)) sz r.2 rm_X9_nextOf) 44 [(0, .ref a0), (3, .int a3), (4, .int a4), (5, .int q.1), (6, .int q.2)] [] sz M 0 0) (fun k44 hk0 q r h => ?_)
  have hk44 : ∀ (b0 : Int32) (b1 : Int32) (r : Int32 × XM), k44 (b0, b1) = some r → x_V l D aC bs yX9_nextOf cX9_nextOf 7 (some .int) rm_X9_nextOf (x_Z D aC bs (some (.int r.1)) sz r.2 rm_X9_nextOf) 44 [(0, .ref a0), (3, .int a3), (4, .int a4), (5, .int b0), (6, .int b1)] [] sz M 0 0 := fun b0 b1 r h => hk0 (b0, b1) r h
  unfold b_X9_nextOf_44 at h
  refine x_iload dX9_nextOf_44 4 rfl ?_
  refine x_iload_n dX9_nextOf_46 1 rfl ?_
  refine x_iconst (v := (1 : Int32)) dX9_nextOf_47 (by decide) ?_
  refine x_isub dX9_nextOf_48 ?_
  refine x_icmp_ge 105 dX9_nextOf_49 (by decide) (fun c20 => ?_) (fun c20 => ?_)
  · have h := (if_pos c20).symm.trans h
    refine x_iload dX9_nextOf_105 3 rfl ?_
    obtain rfl := Option.some.inj h
    exact x_iret dX9_nextOf_107 (Nat.le_of_ble_eq_true rfl) (Nat.le_of_ble_eq_true rfl)
  have h := (if_neg c20).symm.trans h
  refine x_bipush (v := (10 : Int32)) dX9_nextOf_52 (by decide) ?_
  refine x_iload dX9_nextOf_54 3 rfl ?_
  refine x_imul dX9_nextOf_56 ?_
  refine x_aload_n dX9_nextOf_57 0 rfl ?_
  obtain ⟨v21, ev21, h⟩ := x_bd h
  refine x_getR clX9 w_fl_RX9_21 (by decide) dX9_nextOf_58 ev21 ?_
  refine x_iload dX9_nextOf_61 4 rfl ?_
  obtain ⟨v22, ev22, h⟩ := x_bd h
  refine x_iald dX9_nextOf_63 ev22 ?_
  refine x_iadd dX9_nextOf_64 ?_
  refine x_iconst (v := (1 : Int32)) dX9_nextOf_65 (by decide) ?_
  refine x_iadd dX9_nextOf_66 ?_
  refine x_istore [(5, .int ((((10 : Int32) * q.1) + v22) + (1 : Int32))), (0, .ref a0), (3, .int a3), (4, .int a4), (6, .int q.2)] dX9_nextOf_67 (by decide) rfl ?_
  refine x_aload_n dX9_nextOf_69 1 rfl ?_
  obtain ⟨v23, ev23, h⟩ := x_bd h
  refine x_getR clX9 w_fl_RX9_21 (by decide) dX9_nextOf_70 ev23 ?_
  refine x_iload dX9_nextOf_73 4 rfl ?_
  obtain ⟨v24, ev24, h⟩ := x_bd h
  refine x_iald dX9_nextOf_75 ev24 ?_
  refine x_iload_n dX9_nextOf_76 2 rfl ?_
  refine x_iconst (v := (1 : Int32)) dX9_nextOf_77 (by decide) ?_
  refine x_isub dX9_nextOf_78 ?_
  refine x_icmp_ne 95 dX9_nextOf_79 (by decide) (fun c25 => ?_) (fun c25 => ?_)
  · have h := (if_neg c25).symm.trans h
    refine x_iload dX9_nextOf_95 0 rfl ?_
    refine x_istore [(5, .int ((((10 : Int32) * q.1) + v22) + (1 : Int32))), (0, .ref a0), (3, .int a3), (4, .int a4), (6, .int q.2)] dX9_nextOf_97 (by decide) rfl ?_
    refine x_iinc (1 : Int32) 4 [(6, .int (q.2 + (1 : Int32))), (5, .int ((((10 : Int32) * q.1) + v22) + (1 : Int32))), (0, .ref a0), (3, .int a3), (4, .int a4)] dX9_nextOf_99 rfl (by decide) (by decide) rfl ?_
    refine x_goto 44 dX9_nextOf_102 (by decide) ?_
    exact x_sub [2, 3, 4, 1, 0] rfl (hk44 _ _ _ h)
  have h := (if_pos c25).symm.trans h
  refine x_bipush (v := (10 : Int32)) dX9_nextOf_82 (by decide) ?_
  refine x_iload dX9_nextOf_84 0 rfl ?_
  refine x_imul dX9_nextOf_86 ?_
  refine x_iload dX9_nextOf_87 3 rfl ?_
  refine x_iadd dX9_nextOf_89 ?_
  refine x_iconst (v := (1 : Int32)) dX9_nextOf_90 (by decide) ?_
  refine x_iadd dX9_nextOf_91 ?_
  refine x_goto 97 dX9_nextOf_92 (by decide) ?_
  refine x_istore [(5, .int ((((10 : Int32) * ((((10 : Int32) * q.1) + v22) + (1 : Int32))) + a4) + (1 : Int32))), (0, .ref a0), (3, .int a3), (4, .int a4), (6, .int q.2)] dX9_nextOf_97 (by decide) rfl ?_
  refine x_iinc (1 : Int32) 4 [(6, .int (q.2 + (1 : Int32))), (5, .int ((((10 : Int32) * ((((10 : Int32) * q.1) + v22) + (1 : Int32))) + a4) + (1 : Int32))), (0, .ref a0), (3, .int a3), (4, .int a4)] dX9_nextOf_99 rfl (by decide) (by decide) rfl ?_
  refine x_goto 44 dX9_nextOf_102 (by decide) ?_
  exact x_sub [2, 3, 4, 1, 0] rfl (hk44 _ _ _ h)
def f_X9_nextOf (F : Nat) (a0 : Nat) (a1 : Int32) (a2 : Int32) (M : XM) : Option (Int32 × XM) := (x_ob M a0 9).bind fun u1 => (f_X9_isCode F a0 a1 M).bind fun p2 => (x_gR p2.2 a0 9 0).bind fun v3 => (x_a32 .int p2.2 v3 (0 : Int32)).bind fun v4 => (x_gR p2.2 a0 9 5).bind fun v5 => (x_a32 .int p2.2 v5 (v4 - (1 : Int32))).bind fun v6 => if v6 = (v4 - (1 : Int32)) then some ((-5 : Int32), p2.2) else if a2 = 0 then x_it (b_X9_nextOf_44 F (a0) (v4) (v6) p2.2) F ((0 : Int32), (0 : Int32)) else x_it (b_X9_nextOf_111 F (a0) (v4) (v6) p2.2) F ((0 : Int32), (0 : Int32))
set_option maxHeartbeats 4000000 in
set_option maxRecDepth 100000 in
theorem c_X9_nextOf (l : Launch) (D : va_G) (aC : FieldType → ClassId) (bs sz : Nat) (F : Nat) {a0 : Nat} {a1 : Int32} {a2 : Int32} {M : XM} {r : Int32 × XM} (h : f_X9_nextOf F a0 a1 a2 M = some r) : x_Cn l D aC bs yX9_nextOf cX9_nextOf 7 (some .int) rm_X9_nextOf [.ref a0, .int a1, .int a2] sz M (some (.int r.1)) sz r.2 := by
  unfold f_X9_nextOf at h
  refine x_enter2 [(0, .ref a0), (1, .int a1), (2, .int a2)] me_X9_nextOf (Nat.le_of_ble_eq_true rfl) rfl ?_
  refine x_aload_n dX9_nextOf_0 0 rfl ?_
  refine x_iload_n dX9_nextOf_1 1 rfl ?_
  obtain ⟨u1, eu1, h⟩ := x_bd h
  obtain ⟨p2, ep2, h⟩ := x_bd h
  refine x_callVI [.int a1] [] clX9 me_X9_isCode w_ml_RX9_103 w_im_yX9_isCode w_se_yX9_isCode (Nat.le_of_ble_eq_true rfl) (Nat.le_of_ble_eq_true rfl) rfl (Nat.le_of_ble_eq_true rfl) (Nat.le_of_ble_eq_true rfl) (Nat.le_of_ble_eq_true rfl) dX9_nextOf_2 eu1 (c_X9_isCode l D aC bs sz F ep2) rfl ?_
  refine x_pop dX9_nextOf_5 rfl ?_
  refine x_aload_n dX9_nextOf_6 0 rfl ?_
  obtain ⟨v3, ev3, h⟩ := x_bd h
  refine x_getR clX9 w_fl_RX9_11 (by decide) dX9_nextOf_7 ev3 ?_
  refine x_iconst (v := (0 : Int32)) dX9_nextOf_10 (by decide) ?_
  obtain ⟨v4, ev4, h⟩ := x_bd h
  refine x_iald dX9_nextOf_11 ev4 ?_
  refine x_istore_n 3 [(3, .int v4), (0, .ref a0), (1, .int a1), (2, .int a2)] dX9_nextOf_12 rfl (by decide) rfl ?_
  refine x_aload_n dX9_nextOf_13 1 rfl ?_
  obtain ⟨v5, ev5, h⟩ := x_bd h
  refine x_getR clX9 w_fl_RX9_21 (by decide) dX9_nextOf_14 ev5 ?_
  refine x_iload_n dX9_nextOf_17 0 rfl ?_
  refine x_iconst (v := (1 : Int32)) dX9_nextOf_18 (by decide) ?_
  refine x_isub dX9_nextOf_19 ?_
  obtain ⟨v6, ev6, h⟩ := x_bd h
  refine x_iald dX9_nextOf_20 ev6 ?_
  refine x_istore [(4, .int v6), (3, .int v4), (0, .ref a0), (1, .int a1), (2, .int a2)] dX9_nextOf_21 (by decide) rfl ?_
  refine x_iload dX9_nextOf_23 0 rfl ?_
  refine x_iload_n dX9_nextOf_25 1 rfl ?_
  refine x_iconst (v := (1 : Int32)) dX9_nextOf_26 (by decide) ?_
  refine x_isub dX9_nextOf_27 ?_
  refine x_icmp_ne 34 dX9_nextOf_28 (by decide) (fun c7 => ?_) (fun c7 => ?_)
  · have h := (if_neg c7).symm.trans h
    refine x_iconst (v := (0 : Int32)) dX9_nextOf_34 (by decide) ?_
    refine x_istore [(5, .int (0 : Int32)), (4, .int v6), (3, .int v4), (0, .ref a0), (1, .int a1), (2, .int a2)] dX9_nextOf_35 (by decide) rfl ?_
    refine x_iload_n dX9_nextOf_37 5 rfl ?_
    refine x_if_ne 108 dX9_nextOf_38 (by decide) (fun c8 => ?_) (fun c8 => ?_)
    · have h := (if_neg c8).symm.trans h
      refine x_iconst (v := (0 : Int32)) dX9_nextOf_108 (by decide) ?_
      refine x_istore [(6, .int (0 : Int32)), (5, .int (0 : Int32)), (4, .int v6), (3, .int v4), (0, .ref a0), (1, .int a1), (2, .int a2)] dX9_nextOf_109 (by decide) rfl ?_
      exact x_sub [4, 3, 2, 1, 0] rfl (lp_X9_nextOf_111 l D aC bs sz F (a0) (v4) (v6) p2.2  F _ _ _ h)
    have h := (if_pos c8).symm.trans h
    refine x_iconst (v := (0 : Int32)) dX9_nextOf_41 (by decide) ?_
    refine x_istore [(6, .int (0 : Int32)), (5, .int (0 : Int32)), (4, .int v6), (3, .int v4), (0, .ref a0), (1, .int a1), (2, .int a2)] dX9_nextOf_42 (by decide) rfl ?_
    exact x_sub [4, 3, 2, 1, 0] rfl (lp_X9_nextOf_44 l D aC bs sz F (a0) (v4) (v6) p2.2  F _ _ _ h)
  have h := (if_pos c7).symm.trans h
  refine x_bipush (v := (-5 : Int32)) dX9_nextOf_31 (by decide) ?_
  obtain rfl := Option.some.inj h
  exact x_iret dX9_nextOf_33 (Nat.le_of_ble_eq_true rfl) (Nat.le_of_ble_eq_true rfl)

-- SwappedIntervalsModel.numberOf(I)I
abbrev rm_X9_numberOf : Room := { frames := 0, cells := 0, slots := 0, locals := 0 }
theorem me_X9_numberOf : x_Me yX9_numberOf cX9_numberOf 3 (some .int) 1 := ⟨by decide +kernel, w_co_yX9_numberOf, w_in_SwappedIntervalsModel, by decide +kernel, by decide +kernel, by decide +kernel⟩
def b_X9_numberOf_2 (F : Nat) (a0 : Nat) (a1 : Int32) (M : XM)  (k2 : Int32 → Option (Int32)) (q : Int32) : Option (Int32) := (x_gI M a0 9 18).bind fun v1 => if v1 ≤ q then some (-1 : Int32) else (x_gR M a0 9 16).bind fun v3 => (x_a32 .int M v3 q).bind fun v4 => if v4 = a1 then some q else k2 (q + (1 : Int32))
set_option maxHeartbeats 4000000 in
set_option maxRecDepth 100000 in
theorem lp_X9_numberOf_2 (l : Launch) (D : va_G) (aC : FieldType → ClassId) (bs : Nat) (sz : Nat) (F : Nat) (a0 : Nat) (a1 : Int32) (M : XM)   : ∀ (n : Nat) (b0 : Int32) (r : Int32), x_it (b_X9_numberOf_2 F a0 a1 M ) n b0 = some r → x_V l D aC bs yX9_numberOf cX9_numberOf 3 (some .int) rm_X9_numberOf (x_Z D aC bs (some (.int r)) sz M rm_X9_numberOf) 2 [(0, .ref a0), (1, .int a1), (2, .int b0)] [] sz M 0 0 := by
  suffices H : ∀ (n : Nat) (q : Int32) (r : Int32), x_it (b_X9_numberOf_2 F a0 a1 M ) n q = some r → x_V l D aC bs yX9_numberOf cX9_numberOf 3 (some .int) rm_X9_numberOf (x_Z D aC bs (some (.int r)) sz M rm_X9_numberOf) 2 [(0, .ref a0), (1, .int a1), (2, .int q)] [] sz M 0 0 from fun n b0 r h => H n b0 r h
  refine x_loop (P := fun (q : Int32) (r : Int32) => x_V l D aC bs yX9_numberOf cX9_numberOf 3 (some .int) rm_X9_numberOf (x_Z D aC bs (some (.int r)) sz M rm_X9_numberOf) 2 [(0, .ref a0), (1, .int a1), (2, .int q)] [] sz M 0 0) (fun k2 hk0 q r h => ?_)
  have hk2 : ∀ (b0 : Int32) (r : Int32), k2 b0 = some r → x_V l D aC bs yX9_numberOf cX9_numberOf 3 (some .int) rm_X9_numberOf (x_Z D aC bs (some (.int r)) sz M rm_X9_numberOf) 2 [(0, .ref a0), (1, .int a1), (2, .int b0)] [] sz M 0 0 := fun b0 r h => hk0 b0 r h
  unfold b_X9_numberOf_2 at h
  refine x_iload_n dX9_numberOf_2 2 rfl ?_
  refine x_aload_n dX9_numberOf_3 0 rfl ?_
  obtain ⟨v1, ev1, h⟩ := x_bd h
  refine x_getI clX9 w_fl_RX9_191 (by decide) dX9_numberOf_4 ev1 ?_
  refine x_icmp_ge 28 dX9_numberOf_7 (by decide) (fun c2 => ?_) (fun c2 => ?_)
  · have h := (if_pos c2).symm.trans h
    refine x_iconst (v := (-1 : Int32)) dX9_numberOf_28 (by decide) ?_
    obtain rfl := Option.some.inj h
    exact x_iret dX9_numberOf_29 (Nat.le_of_ble_eq_true rfl) (Nat.le_of_ble_eq_true rfl)
  have h := (if_neg c2).symm.trans h
  refine x_aload_n dX9_numberOf_10 0 rfl ?_
  obtain ⟨v3, ev3, h⟩ := x_bd h
  refine x_getR clX9 w_fl_RX9_46 (by decide) dX9_numberOf_11 ev3 ?_
  refine x_iload_n dX9_numberOf_14 2 rfl ?_
  obtain ⟨v4, ev4, h⟩ := x_bd h
  refine x_iald dX9_numberOf_15 ev4 ?_
  refine x_iload_n dX9_numberOf_16 1 rfl ?_
  refine x_icmp_ne 22 dX9_numberOf_17 (by decide) (fun c5 => ?_) (fun c5 => ?_)
  · have h := (if_neg c5).symm.trans h
    refine x_iinc (1 : Int32) 2 [(2, .int (q + (1 : Int32))), (0, .ref a0), (1, .int a1)] dX9_numberOf_22 rfl (by decide) (by decide) rfl ?_
    refine x_goto 2 dX9_numberOf_25 (by decide) ?_
    exact x_sub [1, 2, 0] rfl (hk2 _ _ h)
  have h := (if_pos c5).symm.trans h
  refine x_iload_n dX9_numberOf_20 2 rfl ?_
  obtain rfl := Option.some.inj h
  exact x_iret dX9_numberOf_21 (Nat.le_of_ble_eq_true rfl) (Nat.le_of_ble_eq_true rfl)
def f_X9_numberOf (F : Nat) (a0 : Nat) (a1 : Int32) (M : XM) : Option (Int32) := x_it (b_X9_numberOf_2 F (a0) (a1) M) F (0 : Int32)
set_option maxHeartbeats 4000000 in
set_option maxRecDepth 100000 in
theorem c_X9_numberOf (l : Launch) (D : va_G) (aC : FieldType → ClassId) (bs sz : Nat) (F : Nat) {a0 : Nat} {a1 : Int32} {M : XM} {r : Int32} (h : f_X9_numberOf F a0 a1 M = some r) : x_Cn l D aC bs yX9_numberOf cX9_numberOf 3 (some .int) rm_X9_numberOf [.ref a0, .int a1] sz M (some (.int r)) sz M := by
  unfold f_X9_numberOf at h
  refine x_enter2 [(0, .ref a0), (1, .int a1)] me_X9_numberOf (Nat.le_of_ble_eq_true rfl) rfl ?_
  refine x_iconst (v := (0 : Int32)) dX9_numberOf_0 (by decide) ?_
  refine x_istore_n 2 [(2, .int (0 : Int32)), (0, .ref a0), (1, .int a1)] dX9_numberOf_1 rfl (by decide) rfl ?_
  exact x_sub [1, 2, 0] rfl (lp_X9_numberOf_2 l D aC bs sz F (a0) (a1) M  F _ _ h)

-- SwappedIntervalsModel.findsClass()V
abbrev rm_X9_findsClass : Room := { frames := 4, cells := 0, slots := 0, locals := 96 }
theorem me_X9_findsClass : x_Me yX9_findsClass cX9_findsClass 4 none 0 := ⟨by decide +kernel, w_co_yX9_findsClass, w_in_SwappedIntervalsModel, by decide +kernel, by decide +kernel, by decide +kernel⟩
def b_X9_findsClass_34 (F : Nat) (a0 : Nat) (a1 : Int32) (k24 : (Int32 × XM) → Option (XM)) (k34 : (Int32 × XM) → Option (XM)) (q : Int32 × XM) : Option (XM) := if (2 : Int32) ≤ q.1 then k24 ((a1 + (1 : Int32)), q.2) else (x_gR q.2 a0 9 16).bind fun v11 => (x_a32 .int q.2 v11 a1).bind fun v12 => (x_ob q.2 a0 9).bind fun u13 => (f_X9_nextOf F a0 v12 q.1 q.2).bind fun p14 => if p14.1 = (-5 : Int32) then k34 ((q.1 + (1 : Int32)), p14.2) else (x_ob p14.2 a0 9).bind fun u16 => (f_X9_numberOf F a0 p14.1 p14.2).bind fun p17 => if p17 = (-1 : Int32) then (x_gR p14.2 a0 9 16).bind fun v19 => (x_gI p14.2 a0 9 18).bind fun v20 => (x_w32 .int p14.2 v19 v20 p14.1).bind fun m21 => (x_gR m21 a0 9 17).bind fun v22 => (x_gI m21 a0 9 18).bind fun v23 => (x_gR m21 a0 9 17).bind fun v24 => (x_a32 .int m21 v24 a1).bind fun v25 => (x_w32 .int m21 v22 v23 (v25 + (1 : Int32))).bind fun m26 => (x_gI m26 a0 9 18).bind fun v27 => (x_put m26 a0 9 18 (.int (v27 + (1 : Int32)))).bind fun m28 => k34 ((q.1 + (1 : Int32)), m28) else k34 ((q.1 + (1 : Int32)), p14.2)
set_option maxHeartbeats 4000000 in
set_option maxRecDepth 100000 in
theorem lp_X9_findsClass_34 (l : Launch) (D : va_G) (aC : FieldType → ClassId) (bs : Nat) (sz : Nat) (F : Nat) (a0 : Nat) (a1 : Int32) (k24 : (Int32 × XM) → Option (XM)) (hk24 : ∀ (b0 : Int32) (b1 : XM) (r : XM), k24 (b0, b1) = some r → x_V l D aC bs yX9_findsClass cX9_findsClass 4 none rm_X9_findsClass (x_Z D aC bs none sz r rm_X9_findsClass) 24 [(0, .ref a0), (1, .int b0)] [] sz b1 0 0) : ∀ (n : Nat) (b0 : Int32) (b1 : XM) (r : XM), x_it (b_X9_findsClass_34 F a0 a1 k24) n (b0, b1) = some r → x_V l D aC bs yX9_findsClass cX9_findsClass 4 none rm_X9_findsClass (x_Z D aC bs none sz r rm_X9_findsClass) 34 [(0, .ref a0), (1, .int a1), (2, .int b0)] [] sz b1 0 0 := by
  suffices H : ∀ (n : Nat) (q : Int32 × XM) (r : XM), x_it (b_X9_findsClass_34 F a0 a1 k24) n q = some r → x_V l D aC bs yX9_findsClass cX9_findsClass 4 none rm_X9_findsClass (x_Z D aC bs none sz r rm_X9_findsClass) 34 [(0, .ref a0), (1, .int a1), (2, .int q.1)] [] sz q.2 0 0 from fun n b0 b1 r h => H n (b0, b1) r h
  refine x_loop (P := fun (q : Int32 × XM) (r : XM) => x_V l D aC bs yX9_findsClass cX9_findsClass 4 none rm_X9_findsClass (x_Z D aC bs none sz r rm_X9_findsClass) 34 [(0, .ref a0), (1, .int a1), (2, .int q.1)] [] sz q.2 0 0) (fun k34 hk0 q r h => ?_)
  have hk34 : ∀ (b0 : Int32) (b1 : XM) (r : XM), k34 (b0, b1) = some r → x_V l D aC bs yX9_findsClass cX9_findsClass 4 none rm_X9_findsClass (x_Z D aC bs none sz r rm_X9_findsClass) 34 [(0, .ref a0), (1, .int a1), (2, .int b0)] [] sz b1 0 0 := fun b0 b1 r h => hk0 (b0, b1) r h
  unfold b_X9_findsClass_34 at h
  refine x_iload_n dX9_findsClass_34 2 rfl ?_
  refine x_iconst (v := (2 : Int32)) dX9_findsClass_35 (by decide) ?_
  refine x_icmp_ge 109 dX9_findsClass_36 (by decide) (fun c10 => ?_) (fun c10 => ?_)
  · have h := (if_pos c10).symm.trans h
    refine x_iinc (1 : Int32) 1 [(1, .int (a1 + (1 : Int32))), (0, .ref a0), (2, .int q.1)] dX9_findsClass_109 rfl (by decide) (by decide) rfl ?_
    refine x_goto 24 dX9_findsClass_112 (by decide) ?_
    exact x_sub [1, 0] rfl (hk24 _ _ _ h)
  have h := (if_neg c10).symm.trans h
  refine x_aload_n dX9_findsClass_39 0 rfl ?_
  refine x_aload_n dX9_findsClass_40 0 rfl ?_
  obtain ⟨v11, ev11, h⟩ := x_bd h
  refine x_getR clX9 w_fl_RX9_46 (by decide) dX9_findsClass_41 ev11 ?_
  refine x_iload_n dX9_findsClass_44 1 rfl ?_
  obtain ⟨v12, ev12, h⟩ := x_bd h
  refine x_iald dX9_findsClass_45 ev12 ?_
  refine x_iload_n dX9_findsClass_46 2 rfl ?_
  obtain ⟨u13, eu13, h⟩ := x_bd h
  obtain ⟨p14, ep14, h⟩ := x_bd h
  refine x_callVI [.int v12, .int q.1] [] clX9 me_X9_nextOf w_ml_RX9_194 w_im_yX9_nextOf w_se_yX9_nextOf (Nat.le_of_ble_eq_true rfl) (Nat.le_of_ble_eq_true rfl) rfl (Nat.le_of_ble_eq_true rfl) (Nat.le_of_ble_eq_true rfl) (Nat.le_of_ble_eq_true rfl) dX9_findsClass_47 eu13 (c_X9_nextOf l D aC bs sz F ep14) rfl ?_
  refine x_istore_n 3 [(3, .int p14.1), (0, .ref a0), (1, .int a1), (2, .int q.1)] dX9_findsClass_50 rfl (by decide) rfl ?_
  refine x_iload_n dX9_findsClass_51 0 rfl ?_
  refine x_bipush (v := (-5 : Int32)) dX9_findsClass_52 (by decide) ?_
  refine x_icmp_eq 103 dX9_findsClass_54 (by decide) (fun c15 => ?_) (fun c15 => ?_)
  · have h := (if_pos c15).symm.trans h
    refine x_iinc (1 : Int32) 3 [(2, .int (q.1 + (1 : Int32))), (3, .int p14.1), (0, .ref a0), (1, .int a1)] dX9_findsClass_103 rfl (by decide) (by decide) rfl ?_
    refine x_goto 34 dX9_findsClass_106 (by decide) ?_
    exact x_sub [2, 3, 0] rfl (hk34 _ _ _ h)
  have h := (if_neg c15).symm.trans h
  refine x_aload_n dX9_findsClass_57 1 rfl ?_
  refine x_iload_n dX9_findsClass_58 0 rfl ?_
  obtain ⟨u16, eu16, h⟩ := x_bd h
  obtain ⟨p17, ep17, h⟩ := x_bd h
  refine x_callVI [.int p14.1] [] clX9 me_X9_numberOf w_ml_RX9_197 w_im_yX9_numberOf w_se_yX9_numberOf (Nat.le_of_ble_eq_true rfl) (Nat.le_of_ble_eq_true rfl) rfl (Nat.le_of_ble_eq_true rfl) (Nat.le_of_ble_eq_true rfl) (Nat.le_of_ble_eq_true rfl) dX9_findsClass_59 eu16 (c_X9_numberOf l D aC bs sz F ep17) rfl ?_
  refine x_iconst (v := (-1 : Int32)) dX9_findsClass_62 (by decide) ?_
  refine x_icmp_ne 103 dX9_findsClass_63 (by decide) (fun c18 => ?_) (fun c18 => ?_)
  · have h := (if_neg c18).symm.trans h
    refine x_iinc (1 : Int32) 3 [(2, .int (q.1 + (1 : Int32))), (3, .int p14.1), (0, .ref a0), (1, .int a1)] dX9_findsClass_103 rfl (by decide) (by decide) rfl ?_
    refine x_goto 34 dX9_findsClass_106 (by decide) ?_
    exact x_sub [2, 3, 0] rfl (hk34 _ _ _ h)
  have h := (if_pos c18).symm.trans h
  refine x_aload_n dX9_findsClass_66 1 rfl ?_
  obtain ⟨v19, ev19, h⟩ := x_bd h
  refine x_getR clX9 w_fl_RX9_46 (by decide) dX9_findsClass_67 ev19 ?_
  refine x_aload_n dX9_findsClass_70 1 rfl ?_
  obtain ⟨v20, ev20, h⟩ := x_bd h
  refine x_getI clX9 w_fl_RX9_191 (by decide) dX9_findsClass_71 ev20 ?_
  refine x_iload_n dX9_findsClass_74 0 rfl ?_
  obtain ⟨m21, em21, h⟩ := x_bd h
  refine x_iast dX9_findsClass_75 em21 ?_
  refine x_aload_n dX9_findsClass_76 1 rfl ?_
  obtain ⟨v22, ev22, h⟩ := x_bd h
  refine x_getR clX9 w_fl_RX9_49 (by decide) dX9_findsClass_77 ev22 ?_
  refine x_aload_n dX9_findsClass_80 1 rfl ?_
  obtain ⟨v23, ev23, h⟩ := x_bd h
  refine x_getI clX9 w_fl_RX9_191 (by decide) dX9_findsClass_81 ev23 ?_
  refine x_aload_n dX9_findsClass_84 1 rfl ?_
  obtain ⟨v24, ev24, h⟩ := x_bd h
  refine x_getR clX9 w_fl_RX9_49 (by decide) dX9_findsClass_85 ev24 ?_
  refine x_iload_n dX9_findsClass_88 2 rfl ?_
  obtain ⟨v25, ev25, h⟩ := x_bd h
  refine x_iald dX9_findsClass_89 ev25 ?_
  refine x_iconst (v := (1 : Int32)) dX9_findsClass_90 (by decide) ?_
  refine x_iadd dX9_findsClass_91 ?_
  obtain ⟨m26, em26, h⟩ := x_bd h
  refine x_iast dX9_findsClass_92 em26 ?_
  refine x_aload_n dX9_findsClass_93 1 rfl ?_
  refine x_dup dX9_findsClass_94 rfl ?_
  obtain ⟨v27, ev27, h⟩ := x_bd h
  refine x_getI clX9 w_fl_RX9_191 (by decide) dX9_findsClass_95 ev27 ?_
  refine x_iconst (v := (1 : Int32)) dX9_findsClass_98 (by decide) ?_
  refine x_iadd dX9_findsClass_99 ?_
  obtain ⟨m28, em28, h⟩ := x_bd h
  refine x_putV clX9 w_fl_RX9_191 (by decide) rfl rfl rfl dX9_findsClass_100 em28 ?_
  refine x_iinc (1 : Int32) 3 [(2, .int (q.1 + (1 : Int32))), (3, .int p14.1), (0, .ref a0), (1, .int a1)] dX9_findsClass_103 rfl (by decide) (by decide) rfl ?_
  refine x_goto 34 dX9_findsClass_106 (by decide) ?_
  exact x_sub [2, 3, 0] rfl (hk34 _ _ _ h)
def b_X9_findsClass_24 (F : Nat) (a0 : Nat)  (k24 : (Int32 × XM) → Option (XM)) (q : Int32 × XM) : Option (XM) := (x_gI q.2 a0 9 18).bind fun v8 => if v8 ≤ q.1 then some q.2 else x_it (b_X9_findsClass_34 F (a0) (q.1) k24) F ((0 : Int32), q.2)
set_option maxHeartbeats 4000000 in
set_option maxRecDepth 100000 in
theorem lp_X9_findsClass_24 (l : Launch) (D : va_G) (aC : FieldType → ClassId) (bs : Nat) (sz : Nat) (F : Nat) (a0 : Nat)   : ∀ (n : Nat) (b0 : Int32) (b1 : XM) (r : XM), x_it (b_X9_findsClass_24 F a0 ) n (b0, b1) = some r → x_V l D aC bs yX9_findsClass cX9_findsClass 4 none rm_X9_findsClass (x_Z D aC bs none sz r rm_X9_findsClass) 24 [(0, .ref a0), (1, .int b0)] [] sz b1 0 0 := by
  suffices H : ∀ (n : Nat) (q : Int32 × XM) (r : XM), x_it (b_X9_findsClass_24 F a0 ) n q = some r → x_V l D aC bs yX9_findsClass cX9_findsClass 4 none rm_X9_findsClass (x_Z D aC bs none sz r rm_X9_findsClass) 24 [(0, .ref a0), (1, .int q.1)] [] sz q.2 0 0 from fun n b0 b1 r h => H n (b0, b1) r h
  refine x_loop (P := fun (q : Int32 × XM) (r : XM) => x_V l D aC bs yX9_findsClass cX9_findsClass 4 none rm_X9_findsClass (x_Z D aC bs none sz r rm_X9_findsClass) 24 [(0, .ref a0), (1, .int q.1)] [] sz q.2 0 0) (fun k24 hk0 q r h => ?_)
  have hk24 : ∀ (b0 : Int32) (b1 : XM) (r : XM), k24 (b0, b1) = some r → x_V l D aC bs yX9_findsClass cX9_findsClass 4 none rm_X9_findsClass (x_Z D aC bs none sz r rm_X9_findsClass) 24 [(0, .ref a0), (1, .int b0)] [] sz b1 0 0 := fun b0 b1 r h => hk0 (b0, b1) r h
  unfold b_X9_findsClass_24 at h
  refine x_iload_n dX9_findsClass_24 1 rfl ?_
  refine x_aload_n dX9_findsClass_25 0 rfl ?_
  obtain ⟨v8, ev8, h⟩ := x_bd h
  refine x_getI clX9 w_fl_RX9_191 (by decide) dX9_findsClass_26 ev8 ?_
  refine x_icmp_ge 115 dX9_findsClass_29 (by decide) (fun c9 => ?_) (fun c9 => ?_)
  · have h := (if_pos c9).symm.trans h
    obtain rfl := Option.some.inj h
    exact x_vret dX9_findsClass_115 (Nat.le_of_ble_eq_true rfl) (Nat.le_of_ble_eq_true rfl)
  have h := (if_neg c9).symm.trans h
  refine x_iconst (v := (0 : Int32)) dX9_findsClass_32 (by decide) ?_
  refine x_istore_n 2 [(2, .int (0 : Int32)), (0, .ref a0), (1, .int q.1)] dX9_findsClass_33 rfl (by decide) rfl ?_
  exact x_sub [1, 2, 0] rfl (lp_X9_findsClass_34 l D aC bs sz F (a0) (q.1) k24 hk24 F _ _ _ h)
def f_X9_findsClass (F : Nat) (a0 : Nat) (M : XM) : Option (XM) := (x_gR M a0 9 16).bind fun v1 => (x_ob M a0 9).bind fun u2 => (f_X9_codeNow F a0 M).bind fun p3 => (x_w32 .int M v1 (0 : Int32) p3).bind fun m4 => (x_gR m4 a0 9 17).bind fun v5 => (x_w32 .int m4 v5 (0 : Int32) (0 : Int32)).bind fun m6 => (x_put m6 a0 9 18 (.int (1 : Int32))).bind fun m7 => x_it (b_X9_findsClass_24 F (a0)) F ((0 : Int32), m7)
set_option maxHeartbeats 4000000 in
set_option maxRecDepth 100000 in
theorem c_X9_findsClass (l : Launch) (D : va_G) (aC : FieldType → ClassId) (bs sz : Nat) (F : Nat) {a0 : Nat} {M : XM} {r : XM} (h : f_X9_findsClass F a0 M = some r) : x_Cn l D aC bs yX9_findsClass cX9_findsClass 4 none rm_X9_findsClass [.ref a0] sz M none sz r := by
  unfold f_X9_findsClass at h
  refine x_enter2 [(0, .ref a0)] me_X9_findsClass (Nat.le_of_ble_eq_true rfl) rfl ?_
  refine x_aload_n dX9_findsClass_0 0 rfl ?_
  obtain ⟨v1, ev1, h⟩ := x_bd h
  refine x_getR clX9 w_fl_RX9_46 (by decide) dX9_findsClass_1 ev1 ?_
  refine x_iconst (v := (0 : Int32)) dX9_findsClass_4 (by decide) ?_
  refine x_aload_n dX9_findsClass_5 0 rfl ?_
  obtain ⟨u2, eu2, h⟩ := x_bd h
  obtain ⟨p3, ep3, h⟩ := x_bd h
  refine x_callVI [] [.int (0 : Int32), .ref v1] clX9 me_X9_codeNow w_ml_RX9_127 w_im_yX9_codeNow w_se_yX9_codeNow (Nat.le_of_ble_eq_true rfl) (Nat.le_of_ble_eq_true rfl) rfl (Nat.le_of_ble_eq_true rfl) (Nat.le_of_ble_eq_true rfl) (Nat.le_of_ble_eq_true rfl) dX9_findsClass_6 eu2 (c_X9_codeNow l D aC bs sz F ep3) rfl ?_
  obtain ⟨m4, em4, h⟩ := x_bd h
  refine x_iast dX9_findsClass_9 em4 ?_
  refine x_aload_n dX9_findsClass_10 0 rfl ?_
  obtain ⟨v5, ev5, h⟩ := x_bd h
  refine x_getR clX9 w_fl_RX9_49 (by decide) dX9_findsClass_11 ev5 ?_
  refine x_iconst (v := (0 : Int32)) dX9_findsClass_14 (by decide) ?_
  refine x_iconst (v := (0 : Int32)) dX9_findsClass_15 (by decide) ?_
  obtain ⟨m6, em6, h⟩ := x_bd h
  refine x_iast dX9_findsClass_16 em6 ?_
  refine x_aload_n dX9_findsClass_17 0 rfl ?_
  refine x_iconst (v := (1 : Int32)) dX9_findsClass_18 (by decide) ?_
  obtain ⟨m7, em7, h⟩ := x_bd h
  refine x_putV clX9 w_fl_RX9_191 (by decide) rfl rfl rfl dX9_findsClass_19 em7 ?_
  refine x_iconst (v := (0 : Int32)) dX9_findsClass_22 (by decide) ?_
  refine x_istore_n 1 [(1, .int (0 : Int32)), (0, .ref a0)] dX9_findsClass_23 rfl (by decide) rfl ?_
  exact x_sub [1, 0] rfl (lp_X9_findsClass_24 l D aC bs sz F (a0)  F _ _ _ h)

-- SwappedIntervalsModel.code(I)I
abbrev rm_X9_code : Room := { frames := 5, cells := 0, slots := 0, locals := 119 }
theorem me_X9_code : x_Me yX9_code cX9_code 5 (some .int) 1 := ⟨by decide +kernel, w_co_yX9_code, w_in_SwappedIntervalsModel, by decide +kernel, by decide +kernel, by decide +kernel⟩
def j_X9_code_56 (F : Nat) (a0 : Nat) (a1 : Int32) (a2 : Int32) (a4 : Int32) (s0 : Int32) (s1 : Int32) (M : XM) (k12 : Int32 → Option (Int32 × XM)) (k25 : (Int32 × Int32) → Option (Int32 × XM)) : Option (Int32 × XM) := (f_X9_bit s0 M).bind fun p16 => k25 ((s1 + p16), (a4 + (1 : Int32)))
set_option maxHeartbeats 4000000 in
set_option maxRecDepth 100000 in
theorem jp_X9_code_56 (l : Launch) (D : va_G) (aC : FieldType → ClassId) (bs : Nat) (sz : Nat) (F : Nat) (a0 : Nat) (a1 : Int32) (a2 : Int32) (a4 : Int32) (s0 : Int32) (s1 : Int32) (M : XM) (k12 : Int32 → Option (Int32 × XM)) (k25 : (Int32 × Int32) → Option (Int32 × XM)) (hk12 : ∀ (b0 : Int32) (r : Int32 × XM), k12 b0 = some r → x_V l D aC bs yX9_code cX9_code 5 (some .int) rm_X9_code (x_Z D aC bs (some (.int r.1)) sz r.2 rm_X9_code) 12 [(0, .ref a0), (1, .int a1), (2, .int b0)] [] sz M 0 0) (hk25 : ∀ (b0 : Int32) (b1 : Int32) (r : Int32 × XM), k25 (b0, b1) = some r → x_V l D aC bs yX9_code cX9_code 5 (some .int) rm_X9_code (x_Z D aC bs (some (.int r.1)) sz r.2 rm_X9_code) 25 [(0, .ref a0), (1, .int a1), (2, .int a2), (3, .int b0), (4, .int b1)] [] sz M 0 0) {r : Int32 × XM} (h : j_X9_code_56 F a0 a1 a2 a4 s0 s1 M k12 k25 = some r) : x_V l D aC bs yX9_code cX9_code 5 (some .int) rm_X9_code (x_Z D aC bs (some (.int r.1)) sz r.2 rm_X9_code) 56 [(0, .ref a0), (1, .int a1), (2, .int a2), (4, .int a4)] [.int s0, .int s1] sz M 0 0 := by
  unfold j_X9_code_56 at h
  obtain ⟨p16, ep16, h⟩ := x_bd h
  refine x_callSI [.int s0] [.int s1] me_X9_bit w_ml_RX9_181 w_st_yX9_bit (Nat.le_of_ble_eq_true rfl) (Nat.le_of_ble_eq_true rfl) rfl (Nat.le_of_ble_eq_true rfl) (Nat.le_of_ble_eq_true rfl) (Nat.le_of_ble_eq_true rfl) dX9_code_56 (c_X9_bit l D aC bs sz ep16) rfl ?_
  refine x_iadd dX9_code_59 ?_
  refine x_istore_n 3 [(3, .int (s1 + p16)), (0, .ref a0), (1, .int a1), (2, .int a2), (4, .int a4)] dX9_code_60 rfl (by decide) rfl ?_
  refine x_iinc (1 : Int32) 4 [(4, .int (a4 + (1 : Int32))), (3, .int (s1 + p16)), (0, .ref a0), (1, .int a1), (2, .int a2)] dX9_code_61 rfl (by decide) (by decide) rfl ?_
  refine x_goto 25 dX9_code_64 (by decide) ?_
  exact x_sub [2, 3, 4, 1, 0] rfl (hk25 _ _ _ h)
def b_X9_code_25 (F : Nat) (a0 : Nat) (a1 : Int32) (a2 : Int32) (M : XM) (k12 : Int32 → Option (Int32 × XM)) (k25 : (Int32 × Int32) → Option (Int32 × XM)) (q : Int32 × Int32) : Option (Int32 × XM) := (x_gI M a0 9 18).bind fun v6 => if v6 ≤ q.2 then if q.1 = a1 then (x_gR M a0 9 16).bind fun v9 => (x_a32 .int M v9 a2).bind fun v10 => some (v10, M) else k12 (a2 + (1 : Int32)) else (x_gR M a0 9 16).bind fun v11 => (x_a32 .int M v11 q.2).bind fun v12 => (x_gR M a0 9 16).bind fun v13 => (x_a32 .int M v13 a2).bind fun v14 => if v14 ≤ v12 then j_X9_code_56 F (a0) (a1) (a2) (q.2) (0 : Int32) (q.1) M k12 k25 else j_X9_code_56 F (a0) (a1) (a2) (q.2) (1 : Int32) (q.1) M k12 k25
set_option maxHeartbeats 4000000 in
set_option maxRecDepth 100000 in
theorem lp_X9_code_25 (l : Launch) (D : va_G) (aC : FieldType → ClassId) (bs : Nat) (sz : Nat) (F : Nat) (a0 : Nat) (a1 : Int32) (a2 : Int32) (M : XM) (k12 : Int32 → Option (Int32 × XM)) (hk12 : ∀ (b0 : Int32) (r : Int32 × XM), k12 b0 = some r → x_V l D aC bs yX9_code cX9_code 5 (some .int) rm_X9_code (x_Z D aC bs (some (.int r.1)) sz r.2 rm_X9_code) 12 [(0, .ref a0), (1, .int a1), (2, .int b0)] [] sz M 0 0) : ∀ (n : Nat) (b0 : Int32) (b1 : Int32) (r : Int32 × XM), x_it (b_X9_code_25 F a0 a1 a2 M k12) n (b0, b1) = some r → x_V l D aC bs yX9_code cX9_code 5 (some .int) rm_X9_code (x_Z D aC bs (some (.int r.1)) sz r.2 rm_X9_code) 25 [(0, .ref a0), (1, .int a1), (2, .int a2), (3, .int b0), (4, .int b1)] [] sz M 0 0 := by
  suffices H : ∀ (n : Nat) (q : Int32 × Int32) (r : Int32 × XM), x_it (b_X9_code_25 F a0 a1 a2 M k12) n q = some r → x_V l D aC bs yX9_code cX9_code 5 (some .int) rm_X9_code (x_Z D aC bs (some (.int r.1)) sz r.2 rm_X9_code) 25 [(0, .ref a0), (1, .int a1), (2, .int a2), (3, .int q.1), (4, .int q.2)] [] sz M 0 0 from fun n b0 b1 r h => H n (b0, b1) r h
  refine x_loop (P := fun (q : Int32 × Int32) (r : Int32 × XM) => x_V l D aC bs yX9_code cX9_code 5 (some .int) rm_X9_code (x_Z D aC bs (some (.int r.1)) sz r.2 rm_X9_code) 25 [(0, .ref a0), (1, .int a1), (2, .int a2), (3, .int q.1), (4, .int q.2)] [] sz M 0 0) (fun k25 hk0 q r h => ?_)
  have hk25 : ∀ (b0 : Int32) (b1 : Int32) (r : Int32 × XM), k25 (b0, b1) = some r → x_V l D aC bs yX9_code cX9_code 5 (some .int) rm_X9_code (x_Z D aC bs (some (.int r.1)) sz r.2 rm_X9_code) 25 [(0, .ref a0), (1, .int a1), (2, .int a2), (3, .int b0), (4, .int b1)] [] sz M 0 0 := fun b0 b1 r h => hk0 (b0, b1) r h
  unfold b_X9_code_25 at h
  refine x_iload dX9_code_25 4 rfl ?_
  refine x_aload_n dX9_code_27 0 rfl ?_
  obtain ⟨v6, ev6, h⟩ := x_bd h
  refine x_getI clX9 w_fl_RX9_191 (by decide) dX9_code_28 ev6 ?_
  refine x_icmp_ge 67 dX9_code_31 (by decide) (fun c7 => ?_) (fun c7 => ?_)
  · have h := (if_pos c7).symm.trans h
    refine x_iload_n dX9_code_67 3 rfl ?_
    refine x_iload_n dX9_code_68 1 rfl ?_
    refine x_icmp_ne 79 dX9_code_69 (by decide) (fun c8 => ?_) (fun c8 => ?_)
    · have h := (if_neg c8).symm.trans h
      refine x_iinc (1 : Int32) 2 [(2, .int (a2 + (1 : Int32))), (0, .ref a0), (1, .int a1), (3, .int q.1), (4, .int q.2)] dX9_code_79 rfl (by decide) (by decide) rfl ?_
      refine x_goto 12 dX9_code_82 (by decide) ?_
      exact x_sub [1, 2, 0] rfl (hk12 _ _ h)
    have h := (if_pos c8).symm.trans h
    refine x_aload_n dX9_code_72 0 rfl ?_
    obtain ⟨v9, ev9, h⟩ := x_bd h
    refine x_getR clX9 w_fl_RX9_46 (by decide) dX9_code_73 ev9 ?_
    refine x_iload_n dX9_code_76 2 rfl ?_
    obtain ⟨v10, ev10, h⟩ := x_bd h
    refine x_iald dX9_code_77 ev10 ?_
    obtain rfl := Option.some.inj h
    exact x_iret dX9_code_78 (Nat.le_of_ble_eq_true rfl) (Nat.le_of_ble_eq_true rfl)
  have h := (if_neg c7).symm.trans h
  refine x_iload_n dX9_code_34 3 rfl ?_
  refine x_aload_n dX9_code_35 0 rfl ?_
  obtain ⟨v11, ev11, h⟩ := x_bd h
  refine x_getR clX9 w_fl_RX9_46 (by decide) dX9_code_36 ev11 ?_
  refine x_iload dX9_code_39 4 rfl ?_
  obtain ⟨v12, ev12, h⟩ := x_bd h
  refine x_iald dX9_code_41 ev12 ?_
  refine x_aload_n dX9_code_42 0 rfl ?_
  obtain ⟨v13, ev13, h⟩ := x_bd h
  refine x_getR clX9 w_fl_RX9_46 (by decide) dX9_code_43 ev13 ?_
  refine x_iload_n dX9_code_46 2 rfl ?_
  obtain ⟨v14, ev14, h⟩ := x_bd h
  refine x_iald dX9_code_47 ev14 ?_
  refine x_icmp_ge 55 dX9_code_48 (by decide) (fun c15 => ?_) (fun c15 => ?_)
  · have h := (if_pos c15).symm.trans h
    refine x_iconst (v := (0 : Int32)) dX9_code_55 (by decide) ?_
    exact x_sub [0, 1, 2, 4] rfl (jp_X9_code_56 l D aC bs sz F (a0) (a1) (a2) (q.2) (0 : Int32) (q.1) M k12 k25 hk12 hk25 h)
  have h := (if_neg c15).symm.trans h
  refine x_iconst (v := (1 : Int32)) dX9_code_51 (by decide) ?_
  refine x_goto 56 dX9_code_52 (by decide) ?_
  exact x_sub [0, 1, 2, 4] rfl (jp_X9_code_56 l D aC bs sz F (a0) (a1) (a2) (q.2) (1 : Int32) (q.1) M k12 k25 hk12 hk25 h)
def b_X9_code_12 (F : Nat) (a0 : Nat) (a1 : Int32) (M : XM)  (k12 : Int32 → Option (Int32 × XM)) (q : Int32) : Option (Int32 × XM) := (x_gI M a0 9 18).bind fun v4 => if v4 ≤ q then some ((-5 : Int32), M) else x_it (b_X9_code_25 F (a0) (a1) (q) M k12) F ((0 : Int32), (0 : Int32))
set_option maxHeartbeats 4000000 in
set_option maxRecDepth 100000 in
theorem lp_X9_code_12 (l : Launch) (D : va_G) (aC : FieldType → ClassId) (bs : Nat) (sz : Nat) (F : Nat) (a0 : Nat) (a1 : Int32) (M : XM)   : ∀ (n : Nat) (b0 : Int32) (r : Int32 × XM), x_it (b_X9_code_12 F a0 a1 M ) n b0 = some r → x_V l D aC bs yX9_code cX9_code 5 (some .int) rm_X9_code (x_Z D aC bs (some (.int r.1)) sz r.2 rm_X9_code) 12 [(0, .ref a0), (1, .int a1), (2, .int b0)] [] sz M 0 0 := by
  suffices H : ∀ (n : Nat) (q : Int32) (r : Int32 × XM), x_it (b_X9_code_12 F a0 a1 M ) n q = some r → x_V l D aC bs yX9_code cX9_code 5 (some .int) rm_X9_code (x_Z D aC bs (some (.int r.1)) sz r.2 rm_X9_code) 12 [(0, .ref a0), (1, .int a1), (2, .int q)] [] sz M 0 0 from fun n b0 r h => H n b0 r h
  refine x_loop (P := fun (q : Int32) (r : Int32 × XM) => x_V l D aC bs yX9_code cX9_code 5 (some .int) rm_X9_code (x_Z D aC bs (some (.int r.1)) sz r.2 rm_X9_code) 12 [(0, .ref a0), (1, .int a1), (2, .int q)] [] sz M 0 0) (fun k12 hk0 q r h => ?_)
  have hk12 : ∀ (b0 : Int32) (r : Int32 × XM), k12 b0 = some r → x_V l D aC bs yX9_code cX9_code 5 (some .int) rm_X9_code (x_Z D aC bs (some (.int r.1)) sz r.2 rm_X9_code) 12 [(0, .ref a0), (1, .int a1), (2, .int b0)] [] sz M 0 0 := fun b0 r h => hk0 b0 r h
  unfold b_X9_code_12 at h
  refine x_iload_n dX9_code_12 2 rfl ?_
  refine x_aload_n dX9_code_13 0 rfl ?_
  obtain ⟨v4, ev4, h⟩ := x_bd h
  refine x_getI clX9 w_fl_RX9_191 (by decide) dX9_code_14 ev4 ?_
  refine x_icmp_ge 85 dX9_code_17 (by decide) (fun c5 => ?_) (fun c5 => ?_)
  · have h := (if_pos c5).symm.trans h
    refine x_bipush (v := (-5 : Int32)) dX9_code_85 (by decide) ?_
    obtain rfl := Option.some.inj h
    exact x_iret dX9_code_87 (Nat.le_of_ble_eq_true rfl) (Nat.le_of_ble_eq_true rfl)
  have h := (if_neg c5).symm.trans h
  refine x_iconst (v := (0 : Int32)) dX9_code_20 (by decide) ?_
  refine x_istore_n 3 [(3, .int (0 : Int32)), (0, .ref a0), (1, .int a1), (2, .int q)] dX9_code_21 rfl (by decide) rfl ?_
  refine x_iconst (v := (0 : Int32)) dX9_code_22 (by decide) ?_
  refine x_istore [(4, .int (0 : Int32)), (3, .int (0 : Int32)), (0, .ref a0), (1, .int a1), (2, .int q)] dX9_code_23 (by decide) rfl ?_
  exact x_sub [2, 3, 4, 1, 0] rfl (lp_X9_code_25 l D aC bs sz F (a0) (a1) (q) M k12 hk12 F _ _ _ h)
def f_X9_code (F : Nat) (a0 : Nat) (a1 : Int32) (M : XM) : Option (Int32 × XM) := if 0 ≤ a1 then (x_ob M a0 9).bind fun u2 => (f_X9_findsClass F a0 M).bind fun p3 => x_it (b_X9_code_12 F (a0) (a1) p3) F (0 : Int32) else some ((-1 : Int32), M)
set_option maxHeartbeats 4000000 in
set_option maxRecDepth 100000 in
theorem c_X9_code (l : Launch) (D : va_G) (aC : FieldType → ClassId) (bs sz : Nat) (F : Nat) {a0 : Nat} {a1 : Int32} {M : XM} {r : Int32 × XM} (h : f_X9_code F a0 a1 M = some r) : x_Cn l D aC bs yX9_code cX9_code 5 (some .int) rm_X9_code [.ref a0, .int a1] sz M (some (.int r.1)) sz r.2 := by
  unfold f_X9_code at h
  refine x_enter2 [(0, .ref a0), (1, .int a1)] me_X9_code (Nat.le_of_ble_eq_true rfl) rfl ?_
  refine x_iload_n dX9_code_0 1 rfl ?_
  refine x_if_ge 6 dX9_code_1 (by decide) (fun c1 => ?_) (fun c1 => ?_)
  · have h := (if_pos c1).symm.trans h
    refine x_aload_n dX9_code_6 0 rfl ?_
    obtain ⟨u2, eu2, h⟩ := x_bd h
    obtain ⟨p3, ep3, h⟩ := x_bd h
    refine x_callVV [] [] clX9 me_X9_findsClass w_ml_RX9_200 w_im_yX9_findsClass w_se_yX9_findsClass (Nat.le_of_ble_eq_true rfl) (Nat.le_of_ble_eq_true rfl) rfl (Nat.le_of_ble_eq_true rfl) (Nat.le_of_ble_eq_true rfl) (Nat.le_of_ble_eq_true rfl) dX9_code_7 eu2 (c_X9_findsClass l D aC bs sz F ep3) rfl ?_
    refine x_iconst (v := (0 : Int32)) dX9_code_10 (by decide) ?_
    refine x_istore_n 2 [(2, .int (0 : Int32)), (0, .ref a0), (1, .int a1)] dX9_code_11 rfl (by decide) rfl ?_
    exact x_sub [1, 2, 0] rfl (lp_X9_code_12 l D aC bs sz F (a0) (a1) p3  F _ _ h)
  have h := (if_neg c1).symm.trans h
  refine x_iconst (v := (-1 : Int32)) dX9_code_4 (by decide) ?_
  obtain rfl := Option.some.inj h
  exact x_iret dX9_code_5 (Nat.le_of_ble_eq_true rfl) (Nat.le_of_ble_eq_true rfl)

-- SwappedIntervalsModel.next(II)I
abbrev rm_X9_next : Room := { frames := 4, cells := 0, slots := 0, locals := 96 }
theorem me_X9_next : x_Me yX9_next cX9_next 3 (some .int) 2 := ⟨by decide +kernel, w_co_yX9_next, w_in_SwappedIntervalsModel, by decide +kernel, by decide +kernel, by decide +kernel⟩
def f_X9_next (F : Nat) (a0 : Nat) (a1 : Int32) (a2 : Int32) (M : XM) : Option (Int32 × XM) := (f_X9_in a2.toInt64 (0 : Int64) (1 : Int64) M).bind fun p1 => if p1 = 0 then some ((-1 : Int32), M) else (x_ob M a0 9).bind fun u3 => (f_X9_isCode F a0 a1 M).bind fun p4 => if p4.1 = 0 then some ((-2 : Int32), p4.2) else (x_ob p4.2 a0 9).bind fun u6 => (f_X9_nextOf F a0 a1 a2 p4.2).bind fun p7 => some (p7.1, p7.2)
set_option maxHeartbeats 4000000 in
set_option maxRecDepth 100000 in
theorem c_X9_next (l : Launch) (D : va_G) (aC : FieldType → ClassId) (bs sz : Nat) (F : Nat) {a0 : Nat} {a1 : Int32} {a2 : Int32} {M : XM} {r : Int32 × XM} (h : f_X9_next F a0 a1 a2 M = some r) : x_Cn l D aC bs yX9_next cX9_next 3 (some .int) rm_X9_next [.ref a0, .int a1, .int a2] sz M (some (.int r.1)) sz r.2 := by
  unfold f_X9_next at h
  refine x_enter2 [(0, .ref a0), (1, .int a1), (2, .int a2)] me_X9_next (Nat.le_of_ble_eq_true rfl) rfl ?_
  refine x_iload_n dX9_next_0 2 rfl ?_
  refine x_i2l dX9_next_1 ?_
  refine x_lconst (v := (0 : Int64)) dX9_next_2 (by decide) ?_
  refine x_lconst (v := (1 : Int64)) dX9_next_3 (by decide) ?_
  obtain ⟨p1, ep1, h⟩ := x_bd h
  refine x_callSI [.long a2.toInt64, .long (0 : Int64), .long (1 : Int64)] [] me_X9_in w_ml_RX9_66 w_st_yX9_in (Nat.le_of_ble_eq_true rfl) (Nat.le_of_ble_eq_true rfl) rfl (Nat.le_of_ble_eq_true rfl) (Nat.le_of_ble_eq_true rfl) (Nat.le_of_ble_eq_true rfl) dX9_next_4 (c_X9_in l D aC bs sz ep1) rfl ?_
  refine x_if_ne 12 dX9_next_7 (by decide) (fun c2 => ?_) (fun c2 => ?_)
  · have h := (if_neg c2).symm.trans h
    refine x_aload_n dX9_next_12 0 rfl ?_
    refine x_iload_n dX9_next_13 1 rfl ?_
    obtain ⟨u3, eu3, h⟩ := x_bd h
    obtain ⟨p4, ep4, h⟩ := x_bd h
    refine x_callVI [.int a1] [] clX9 me_X9_isCode w_ml_RX9_103 w_im_yX9_isCode w_se_yX9_isCode (Nat.le_of_ble_eq_true rfl) (Nat.le_of_ble_eq_true rfl) rfl (Nat.le_of_ble_eq_true rfl) (Nat.le_of_ble_eq_true rfl) (Nat.le_of_ble_eq_true rfl) dX9_next_14 eu3 (c_X9_isCode l D aC bs sz F ep4) rfl ?_
    refine x_if_eq 29 dX9_next_17 (by decide) (fun c5 => ?_) (fun c5 => ?_)
    · have h := (if_pos c5).symm.trans h
      refine x_bipush (v := (-2 : Int32)) dX9_next_29 (by decide) ?_
      obtain rfl := Option.some.inj h
      exact x_iret dX9_next_31 (Nat.le_of_ble_eq_true rfl) (Nat.le_of_ble_eq_true rfl)
    have h := (if_neg c5).symm.trans h
    refine x_aload_n dX9_next_20 0 rfl ?_
    refine x_iload_n dX9_next_21 1 rfl ?_
    refine x_iload_n dX9_next_22 2 rfl ?_
    obtain ⟨u6, eu6, h⟩ := x_bd h
    obtain ⟨p7, ep7, h⟩ := x_bd h
    refine x_callVI [.int a1, .int a2] [] clX9 me_X9_nextOf w_ml_RX9_194 w_im_yX9_nextOf w_se_yX9_nextOf (Nat.le_of_ble_eq_true rfl) (Nat.le_of_ble_eq_true rfl) rfl (Nat.le_of_ble_eq_true rfl) (Nat.le_of_ble_eq_true rfl) (Nat.le_of_ble_eq_true rfl) dX9_next_23 eu6 (c_X9_nextOf l D aC bs sz F ep7) rfl ?_
    refine x_goto 31 dX9_next_26 (by decide) ?_
    obtain rfl := Option.some.inj h
    exact x_iret dX9_next_31 (Nat.le_of_ble_eq_true rfl) (Nat.le_of_ble_eq_true rfl)
  have h := (if_pos c2).symm.trans h
  refine x_iconst (v := (-1 : Int32)) dX9_next_10 (by decide) ?_
  obtain rfl := Option.some.inj h
  exact x_iret dX9_next_11 (Nat.le_of_ble_eq_true rfl) (Nat.le_of_ble_eq_true rfl)

-- SwappedIntervalsModel.meetingOf(I)I
abbrev rm_X9_meetingOf : Room := { frames := 1, cells := 0, slots := 0, locals := 23 }
theorem me_X9_meetingOf : x_Me yX9_meetingOf cX9_meetingOf 3 (some .int) 1 := ⟨by decide +kernel, w_co_yX9_meetingOf, w_in_SwappedIntervalsModel, by decide +kernel, by decide +kernel, by decide +kernel⟩
def f_X9_meetingOf (F : Nat) (a0 : Nat) (a1 : Int32) (M : XM) : Option (Int32) := if a1 = 0 then (x_gR M a0 9 0).bind fun v15 => (x_a32 .int M v15 (7 : Int32)).bind fun v16 => (x_ob M a0 9).bind fun u17 => (f_X9_placeIn F a0 (2 : Int32) v16 M).bind fun p18 => some p18 else (x_gR M a0 9 0).bind fun v2 => (x_a32 .int M v2 (((2 : Int32) + a1) - (1 : Int32))).bind fun v3 => (x_ob M a0 9).bind fun u4 => (f_X9_placeIn F a0 (7 : Int32) v3 M).bind fun p5 => (x_gR M a0 9 0).bind fun v6 => (x_a32 .int M v6 (0 : Int32)).bind fun v7 => if (p5 + (1 : Int32)) = v7 then (x_gR M a0 9 0).bind fun v13 => (x_a32 .int M v13 (0 : Int32)).bind fun v14 => some v14 else (x_gR M a0 9 0).bind fun v9 => (x_a32 .int M v9 (((7 : Int32) + p5) + (1 : Int32))).bind fun v10 => (x_ob M a0 9).bind fun u11 => (f_X9_placeIn F a0 (2 : Int32) v10 M).bind fun p12 => some p12
set_option maxHeartbeats 4000000 in
set_option maxRecDepth 100000 in
theorem c_X9_meetingOf (l : Launch) (D : va_G) (aC : FieldType → ClassId) (bs sz : Nat) (F : Nat) {a0 : Nat} {a1 : Int32} {M : XM} {r : Int32} (h : f_X9_meetingOf F a0 a1 M = some r) : x_Cn l D aC bs yX9_meetingOf cX9_meetingOf 3 (some .int) rm_X9_meetingOf [.ref a0, .int a1] sz M (some (.int r)) sz M := by
  unfold f_X9_meetingOf at h
  refine x_enter2 [(0, .ref a0), (1, .int a1)] me_X9_meetingOf (Nat.le_of_ble_eq_true rfl) rfl ?_
  refine x_iload_n dX9_meetingOf_0 1 rfl ?_
  refine x_if_ne 17 dX9_meetingOf_1 (by decide) (fun c1 => ?_) (fun c1 => ?_)
  · have h := (if_neg c1).symm.trans h
    refine x_aload_n dX9_meetingOf_17 0 rfl ?_
    refine x_bipush (v := (7 : Int32)) dX9_meetingOf_18 (by decide) ?_
    refine x_aload_n dX9_meetingOf_20 0 rfl ?_
    obtain ⟨v2, ev2, h⟩ := x_bd h
    refine x_getR clX9 w_fl_RX9_11 (by decide) dX9_meetingOf_21 ev2 ?_
    refine x_iconst (v := (2 : Int32)) dX9_meetingOf_24 (by decide) ?_
    refine x_iload_n dX9_meetingOf_25 1 rfl ?_
    refine x_iadd dX9_meetingOf_26 ?_
    refine x_iconst (v := (1 : Int32)) dX9_meetingOf_27 (by decide) ?_
    refine x_isub dX9_meetingOf_28 ?_
    obtain ⟨v3, ev3, h⟩ := x_bd h
    refine x_iald dX9_meetingOf_29 ev3 ?_
    obtain ⟨u4, eu4, h⟩ := x_bd h
    obtain ⟨p5, ep5, h⟩ := x_bd h
    refine x_callVI [.int (7 : Int32), .int v3] [] clX9 me_X9_placeIn w_ml_RX9_78 w_im_yX9_placeIn w_se_yX9_placeIn (Nat.le_of_ble_eq_true rfl) (Nat.le_of_ble_eq_true rfl) rfl (Nat.le_of_ble_eq_true rfl) (Nat.le_of_ble_eq_true rfl) (Nat.le_of_ble_eq_true rfl) dX9_meetingOf_30 eu4 (c_X9_placeIn l D aC bs sz F ep5) rfl ?_
    refine x_istore_n 2 [(2, .int p5), (0, .ref a0), (1, .int a1)] dX9_meetingOf_33 rfl (by decide) rfl ?_
    refine x_iload_n dX9_meetingOf_34 0 rfl ?_
    refine x_iconst (v := (1 : Int32)) dX9_meetingOf_35 (by decide) ?_
    refine x_iadd dX9_meetingOf_36 ?_
    refine x_aload_n dX9_meetingOf_37 1 rfl ?_
    obtain ⟨v6, ev6, h⟩ := x_bd h
    refine x_getR clX9 w_fl_RX9_11 (by decide) dX9_meetingOf_38 ev6 ?_
    refine x_iconst (v := (0 : Int32)) dX9_meetingOf_41 (by decide) ?_
    obtain ⟨v7, ev7, h⟩ := x_bd h
    refine x_iald dX9_meetingOf_42 ev7 ?_
    refine x_icmp_ne 55 dX9_meetingOf_43 (by decide) (fun c8 => ?_) (fun c8 => ?_)
    · have h := (if_neg c8).symm.trans h
      refine x_aload_n dX9_meetingOf_55 1 rfl ?_
      refine x_iconst (v := (2 : Int32)) dX9_meetingOf_56 (by decide) ?_
      refine x_aload_n dX9_meetingOf_57 1 rfl ?_
      obtain ⟨v9, ev9, h⟩ := x_bd h
      refine x_getR clX9 w_fl_RX9_11 (by decide) dX9_meetingOf_58 ev9 ?_
      refine x_bipush (v := (7 : Int32)) dX9_meetingOf_61 (by decide) ?_
      refine x_iload_n dX9_meetingOf_63 0 rfl ?_
      refine x_iadd dX9_meetingOf_64 ?_
      refine x_iconst (v := (1 : Int32)) dX9_meetingOf_65 (by decide) ?_
      refine x_iadd dX9_meetingOf_66 ?_
      obtain ⟨v10, ev10, h⟩ := x_bd h
      refine x_iald dX9_meetingOf_67 ev10 ?_
      obtain ⟨u11, eu11, h⟩ := x_bd h
      obtain ⟨p12, ep12, h⟩ := x_bd h
      refine x_callVI [.int (2 : Int32), .int v10] [] clX9 me_X9_placeIn w_ml_RX9_78 w_im_yX9_placeIn w_se_yX9_placeIn (Nat.le_of_ble_eq_true rfl) (Nat.le_of_ble_eq_true rfl) rfl (Nat.le_of_ble_eq_true rfl) (Nat.le_of_ble_eq_true rfl) (Nat.le_of_ble_eq_true rfl) dX9_meetingOf_68 eu11 (c_X9_placeIn l D aC bs sz F ep12) rfl ?_
      obtain rfl := Option.some.inj h
      exact x_iret dX9_meetingOf_71 (Nat.le_of_ble_eq_true rfl) (Nat.le_of_ble_eq_true rfl)
    have h := (if_pos c8).symm.trans h
    refine x_aload_n dX9_meetingOf_46 1 rfl ?_
    obtain ⟨v13, ev13, h⟩ := x_bd h
    refine x_getR clX9 w_fl_RX9_11 (by decide) dX9_meetingOf_47 ev13 ?_
    refine x_iconst (v := (0 : Int32)) dX9_meetingOf_50 (by decide) ?_
    obtain ⟨v14, ev14, h⟩ := x_bd h
    refine x_iald dX9_meetingOf_51 ev14 ?_
    refine x_goto 71 dX9_meetingOf_52 (by decide) ?_
    obtain rfl := Option.some.inj h
    exact x_iret dX9_meetingOf_71 (Nat.le_of_ble_eq_true rfl) (Nat.le_of_ble_eq_true rfl)
  have h := (if_pos c1).symm.trans h
  refine x_aload_n dX9_meetingOf_4 0 rfl ?_
  refine x_iconst (v := (2 : Int32)) dX9_meetingOf_5 (by decide) ?_
  refine x_aload_n dX9_meetingOf_6 0 rfl ?_
  obtain ⟨v15, ev15, h⟩ := x_bd h
  refine x_getR clX9 w_fl_RX9_11 (by decide) dX9_meetingOf_7 ev15 ?_
  refine x_bipush (v := (7 : Int32)) dX9_meetingOf_10 (by decide) ?_
  obtain ⟨v16, ev16, h⟩ := x_bd h
  refine x_iald dX9_meetingOf_12 ev16 ?_
  obtain ⟨u17, eu17, h⟩ := x_bd h
  obtain ⟨p18, ep18, h⟩ := x_bd h
  refine x_callVI [.int (2 : Int32), .int v16] [] clX9 me_X9_placeIn w_ml_RX9_78 w_im_yX9_placeIn w_se_yX9_placeIn (Nat.le_of_ble_eq_true rfl) (Nat.le_of_ble_eq_true rfl) rfl (Nat.le_of_ble_eq_true rfl) (Nat.le_of_ble_eq_true rfl) (Nat.le_of_ble_eq_true rfl) dX9_meetingOf_13 eu17 (c_X9_placeIn l D aC bs sz F ep18) rfl ?_
  obtain rfl := Option.some.inj h
  exact x_iret dX9_meetingOf_16 (Nat.le_of_ble_eq_true rfl) (Nat.le_of_ble_eq_true rfl)

-- SwappedIntervalsModel.meeting(I)I
abbrev rm_X9_meeting : Room := { frames := 2, cells := 0, slots := 0, locals := 45 }
theorem me_X9_meeting : x_Me yX9_meeting cX9_meeting 2 (some .int) 1 := ⟨by decide +kernel, w_co_yX9_meeting, w_in_SwappedIntervalsModel, by decide +kernel, by decide +kernel, by decide +kernel⟩
def f_X9_meeting (F : Nat) (a0 : Nat) (a1 : Int32) (M : XM) : Option (Int32) := (x_gR M a0 9 0).bind fun v1 => (x_a32 .int M v1 (0 : Int32)).bind fun v2 => (f_X9_in a1.toInt64 (0 : Int64) v2.toInt64 M).bind fun p3 => if p3 = 0 then some (-1 : Int32) else (x_ob M a0 9).bind fun u5 => (f_X9_meetingOf F a0 a1 M).bind fun p6 => some p6
set_option maxHeartbeats 4000000 in
set_option maxRecDepth 100000 in
theorem c_X9_meeting (l : Launch) (D : va_G) (aC : FieldType → ClassId) (bs sz : Nat) (F : Nat) {a0 : Nat} {a1 : Int32} {M : XM} {r : Int32} (h : f_X9_meeting F a0 a1 M = some r) : x_Cn l D aC bs yX9_meeting cX9_meeting 2 (some .int) rm_X9_meeting [.ref a0, .int a1] sz M (some (.int r)) sz M := by
  unfold f_X9_meeting at h
  refine x_enter2 [(0, .ref a0), (1, .int a1)] me_X9_meeting (Nat.le_of_ble_eq_true rfl) rfl ?_
  refine x_iload_n dX9_meeting_0 1 rfl ?_
  refine x_i2l dX9_meeting_1 ?_
  refine x_lconst (v := (0 : Int64)) dX9_meeting_2 (by decide) ?_
  refine x_aload_n dX9_meeting_3 0 rfl ?_
  obtain ⟨v1, ev1, h⟩ := x_bd h
  refine x_getR clX9 w_fl_RX9_11 (by decide) dX9_meeting_4 ev1 ?_
  refine x_iconst (v := (0 : Int32)) dX9_meeting_7 (by decide) ?_
  obtain ⟨v2, ev2, h⟩ := x_bd h
  refine x_iald dX9_meeting_8 ev2 ?_
  refine x_i2l dX9_meeting_9 ?_
  obtain ⟨p3, ep3, h⟩ := x_bd h
  refine x_callSI [.long a1.toInt64, .long (0 : Int64), .long v2.toInt64] [] me_X9_in w_ml_RX9_66 w_st_yX9_in (Nat.le_of_ble_eq_true rfl) (Nat.le_of_ble_eq_true rfl) rfl (Nat.le_of_ble_eq_true rfl) (Nat.le_of_ble_eq_true rfl) (Nat.le_of_ble_eq_true rfl) dX9_meeting_10 (c_X9_in l D aC bs sz ep3) rfl ?_
  refine x_if_eq 24 dX9_meeting_13 (by decide) (fun c4 => ?_) (fun c4 => ?_)
  · have h := (if_pos c4).symm.trans h
    refine x_iconst (v := (-1 : Int32)) dX9_meeting_24 (by decide) ?_
    obtain rfl := Option.some.inj h
    exact x_iret dX9_meeting_25 (Nat.le_of_ble_eq_true rfl) (Nat.le_of_ble_eq_true rfl)
  have h := (if_neg c4).symm.trans h
  refine x_aload_n dX9_meeting_16 0 rfl ?_
  refine x_iload_n dX9_meeting_17 1 rfl ?_
  obtain ⟨u5, eu5, h⟩ := x_bd h
  obtain ⟨p6, ep6, h⟩ := x_bd h
  refine x_callVI [.int a1] [] clX9 me_X9_meetingOf w_ml_RX9_203 w_im_yX9_meetingOf w_se_yX9_meetingOf (Nat.le_of_ble_eq_true rfl) (Nat.le_of_ble_eq_true rfl) rfl (Nat.le_of_ble_eq_true rfl) (Nat.le_of_ble_eq_true rfl) (Nat.le_of_ble_eq_true rfl) dX9_meeting_18 eu5 (c_X9_meetingOf l D aC bs sz F ep6) rfl ?_
  refine x_goto 25 dX9_meeting_21 (by decide) ?_
  obtain rfl := Option.some.inj h
  exact x_iret dX9_meeting_25 (Nat.le_of_ble_eq_true rfl) (Nat.le_of_ble_eq_true rfl)

-- SwappedIntervalsModel.corners()I
abbrev rm_X9_corners : Room := { frames := 2, cells := 0, slots := 0, locals := 45 }
theorem me_X9_corners : x_Me yX9_corners cX9_corners 5 (some .int) 0 := ⟨by decide +kernel, w_co_yX9_corners, w_in_SwappedIntervalsModel, by decide +kernel, by decide +kernel, by decide +kernel⟩
def b_X9_corners_38 (F : Nat) (a0 : Nat) (a2 : Int32) (a3 : Int32) (M : XM) (k6 : (Int32 × Int32 × Int32) → Option (Int32)) (k38 : (Int32 × Int32) → Option (Int32)) (q : Int32 × Int32) : Option (Int32) := if ((q.1 >>> (q.2 &&& 31)) &&& (1 : Int32)) = 0 then (x_ob M a0 9).bind fun u7 => (f_X9_meetingOf F a0 q.2 M).bind fun p8 => k38 ((q.1 ||| ((1 : Int32) <<< (q.2 &&& 31))), p8) else k6 (q.1, a2, (a3 + (1 : Int32)))
set_option maxHeartbeats 4000000 in
set_option maxRecDepth 100000 in
theorem lp_X9_corners_38 (l : Launch) (D : va_G) (aC : FieldType → ClassId) (bs : Nat) (sz : Nat) (F : Nat) (a0 : Nat) (a2 : Int32) (a3 : Int32) (M : XM) (k6 : (Int32 × Int32 × Int32) → Option (Int32)) (hk6 : ∀ (b0 : Int32) (b1 : Int32) (b2 : Int32) (r : Int32), k6 (b0, b1, b2) = some r → x_V l D aC bs yX9_corners cX9_corners 5 (some .int) rm_X9_corners (x_Z D aC bs (some (.int r)) sz M rm_X9_corners) 6 [(0, .ref a0), (1, .int b0), (2, .int b1), (3, .int b2)] [] sz M 0 0) : ∀ (n : Nat) (b0 : Int32) (b1 : Int32) (r : Int32), x_it (b_X9_corners_38 F a0 a2 a3 M k6) n (b0, b1) = some r → x_V l D aC bs yX9_corners cX9_corners 5 (some .int) rm_X9_corners (x_Z D aC bs (some (.int r)) sz M rm_X9_corners) 38 [(0, .ref a0), (1, .int b0), (2, .int a2), (3, .int a3), (4, .int b1)] [] sz M 0 0 := by
  suffices H : ∀ (n : Nat) (q : Int32 × Int32) (r : Int32), x_it (b_X9_corners_38 F a0 a2 a3 M k6) n q = some r → x_V l D aC bs yX9_corners cX9_corners 5 (some .int) rm_X9_corners (x_Z D aC bs (some (.int r)) sz M rm_X9_corners) 38 [(0, .ref a0), (1, .int q.1), (2, .int a2), (3, .int a3), (4, .int q.2)] [] sz M 0 0 from fun n b0 b1 r h => H n (b0, b1) r h
  refine x_loop (P := fun (q : Int32 × Int32) (r : Int32) => x_V l D aC bs yX9_corners cX9_corners 5 (some .int) rm_X9_corners (x_Z D aC bs (some (.int r)) sz M rm_X9_corners) 38 [(0, .ref a0), (1, .int q.1), (2, .int a2), (3, .int a3), (4, .int q.2)] [] sz M 0 0) (fun k38 hk0 q r h => ?_)
  have hk38 : ∀ (b0 : Int32) (b1 : Int32) (r : Int32), k38 (b0, b1) = some r → x_V l D aC bs yX9_corners cX9_corners 5 (some .int) rm_X9_corners (x_Z D aC bs (some (.int r)) sz M rm_X9_corners) 38 [(0, .ref a0), (1, .int b0), (2, .int a2), (3, .int a3), (4, .int b1)] [] sz M 0 0 := fun b0 b1 r h => hk0 (b0, b1) r h
  unfold b_X9_corners_38 at h
  refine x_iload_n dX9_corners_38 1 rfl ?_
  refine x_iload dX9_corners_39 4 rfl ?_
  refine x_ishr dX9_corners_41 ?_
  refine x_iconst (v := (1 : Int32)) dX9_corners_42 (by decide) ?_
  refine x_iand dX9_corners_43 ?_
  refine x_if_ne 65 dX9_corners_44 (by decide) (fun c6 => ?_) (fun c6 => ?_)
  · have h := (if_neg c6).symm.trans h
    refine x_iinc (1 : Int32) 3 [(3, .int (a3 + (1 : Int32))), (0, .ref a0), (1, .int q.1), (2, .int a2), (4, .int q.2)] dX9_corners_65 rfl (by decide) (by decide) rfl ?_
    refine x_goto 6 dX9_corners_68 (by decide) ?_
    exact x_sub [1, 2, 3, 0] rfl (hk6 _ _ _ _ h)
  have h := (if_pos c6).symm.trans h
  refine x_iload_n dX9_corners_47 1 rfl ?_
  refine x_iconst (v := (1 : Int32)) dX9_corners_48 (by decide) ?_
  refine x_iload dX9_corners_49 4 rfl ?_
  refine x_ishl dX9_corners_51 ?_
  refine x_ior dX9_corners_52 ?_
  refine x_istore_n 1 [(1, .int (q.1 ||| ((1 : Int32) <<< (q.2 &&& 31)))), (0, .ref a0), (2, .int a2), (3, .int a3), (4, .int q.2)] dX9_corners_53 rfl (by decide) rfl ?_
  refine x_aload_n dX9_corners_54 1 rfl ?_
  refine x_iload dX9_corners_55 4 rfl ?_
  obtain ⟨u7, eu7, h⟩ := x_bd h
  obtain ⟨p8, ep8, h⟩ := x_bd h
  refine x_callVI [.int q.2] [] clX9 me_X9_meetingOf w_ml_RX9_203 w_im_yX9_meetingOf w_se_yX9_meetingOf (Nat.le_of_ble_eq_true rfl) (Nat.le_of_ble_eq_true rfl) rfl (Nat.le_of_ble_eq_true rfl) (Nat.le_of_ble_eq_true rfl) (Nat.le_of_ble_eq_true rfl) dX9_corners_57 eu7 (c_X9_meetingOf l D aC bs sz F ep8) rfl ?_
  refine x_istore [(4, .int p8), (1, .int (q.1 ||| ((1 : Int32) <<< (q.2 &&& 31)))), (0, .ref a0), (2, .int a2), (3, .int a3)] dX9_corners_60 (by decide) rfl ?_
  refine x_goto 38 dX9_corners_62 (by decide) ?_
  exact x_sub [2, 1, 3, 4, 0] rfl (hk38 _ _ _ h)
def j_X9_corners_30 (F : Nat) (a0 : Nat) (a1 : Int32) (a3 : Int32) (s0 : Int32) (s1 : Int32) (M : XM) (k6 : (Int32 × Int32 × Int32) → Option (Int32)) : Option (Int32) := (f_X9_bit s0 M).bind fun p5 => x_it (b_X9_corners_38 F (a0) (s1 + p5) (a3) M k6) F (a1, a3)
set_option maxHeartbeats 4000000 in
set_option maxRecDepth 100000 in
theorem jp_X9_corners_30 (l : Launch) (D : va_G) (aC : FieldType → ClassId) (bs : Nat) (sz : Nat) (F : Nat) (a0 : Nat) (a1 : Int32) (a3 : Int32) (s0 : Int32) (s1 : Int32) (M : XM) (k6 : (Int32 × Int32 × Int32) → Option (Int32)) (hk6 : ∀ (b0 : Int32) (b1 : Int32) (b2 : Int32) (r : Int32), k6 (b0, b1, b2) = some r → x_V l D aC bs yX9_corners cX9_corners 5 (some .int) rm_X9_corners (x_Z D aC bs (some (.int r)) sz M rm_X9_corners) 6 [(0, .ref a0), (1, .int b0), (2, .int b1), (3, .int b2)] [] sz M 0 0) {r : Int32} (h : j_X9_corners_30 F a0 a1 a3 s0 s1 M k6 = some r) : x_V l D aC bs yX9_corners cX9_corners 5 (some .int) rm_X9_corners (x_Z D aC bs (some (.int r)) sz M rm_X9_corners) 30 [(0, .ref a0), (1, .int a1), (3, .int a3)] [.int s0, .int s1] sz M 0 0 := by
  unfold j_X9_corners_30 at h
  obtain ⟨p5, ep5, h⟩ := x_bd h
  refine x_callSI [.int s0] [.int s1] me_X9_bit w_ml_RX9_181 w_st_yX9_bit (Nat.le_of_ble_eq_true rfl) (Nat.le_of_ble_eq_true rfl) rfl (Nat.le_of_ble_eq_true rfl) (Nat.le_of_ble_eq_true rfl) (Nat.le_of_ble_eq_true rfl) dX9_corners_30 (c_X9_bit l D aC bs sz ep5) rfl ?_
  refine x_iadd dX9_corners_33 ?_
  refine x_istore_n 2 [(2, .int (s1 + p5)), (0, .ref a0), (1, .int a1), (3, .int a3)] dX9_corners_34 rfl (by decide) rfl ?_
  refine x_iload_n dX9_corners_35 3 rfl ?_
  refine x_istore [(4, .int a3), (2, .int (s1 + p5)), (0, .ref a0), (1, .int a1), (3, .int a3)] dX9_corners_36 (by decide) rfl ?_
  exact x_sub [2, 3, 1, 4, 0] rfl (lp_X9_corners_38 l D aC bs sz F (a0) (s1 + p5) (a3) M k6 hk6 F _ _ _ h)
def b_X9_corners_6 (F : Nat) (a0 : Nat) (M : XM)  (k6 : (Int32 × Int32 × Int32) → Option (Int32)) (q : Int32 × Int32 × Int32) : Option (Int32) := (x_gR M a0 9 0).bind fun v1 => (x_a32 .int M v1 (0 : Int32)).bind fun v2 => if v2 < q.2.2 then some q.2.1 else if ((q.1 >>> (q.2.2 &&& 31)) &&& (1 : Int32)) = 0 then j_X9_corners_30 F (a0) (q.1) (q.2.2) (1 : Int32) (q.2.1) M k6 else j_X9_corners_30 F (a0) (q.1) (q.2.2) (0 : Int32) (q.2.1) M k6
set_option maxHeartbeats 4000000 in
set_option maxRecDepth 100000 in
theorem lp_X9_corners_6 (l : Launch) (D : va_G) (aC : FieldType → ClassId) (bs : Nat) (sz : Nat) (F : Nat) (a0 : Nat) (M : XM)   : ∀ (n : Nat) (b0 : Int32) (b1 : Int32) (b2 : Int32) (r : Int32), x_it (b_X9_corners_6 F a0 M ) n (b0, b1, b2) = some r → x_V l D aC bs yX9_corners cX9_corners 5 (some .int) rm_X9_corners (x_Z D aC bs (some (.int r)) sz M rm_X9_corners) 6 [(0, .ref a0), (1, .int b0), (2, .int b1), (3, .int b2)] [] sz M 0 0 := by
  suffices H : ∀ (n : Nat) (q : Int32 × Int32 × Int32) (r : Int32), x_it (b_X9_corners_6 F a0 M ) n q = some r → x_V l D aC bs yX9_corners cX9_corners 5 (some .int) rm_X9_corners (x_Z D aC bs (some (.int r)) sz M rm_X9_corners) 6 [(0, .ref a0), (1, .int q.1), (2, .int q.2.1), (3, .int q.2.2)] [] sz M 0 0 from fun n b0 b1 b2 r h => H n (b0, b1, b2) r h
  refine x_loop (P := fun (q : Int32 × Int32 × Int32) (r : Int32) => x_V l D aC bs yX9_corners cX9_corners 5 (some .int) rm_X9_corners (x_Z D aC bs (some (.int r)) sz M rm_X9_corners) 6 [(0, .ref a0), (1, .int q.1), (2, .int q.2.1), (3, .int q.2.2)] [] sz M 0 0) (fun k6 hk0 q r h => ?_)
  have hk6 : ∀ (b0 : Int32) (b1 : Int32) (b2 : Int32) (r : Int32), k6 (b0, b1, b2) = some r → x_V l D aC bs yX9_corners cX9_corners 5 (some .int) rm_X9_corners (x_Z D aC bs (some (.int r)) sz M rm_X9_corners) 6 [(0, .ref a0), (1, .int b0), (2, .int b1), (3, .int b2)] [] sz M 0 0 := fun b0 b1 b2 r h => hk0 (b0, b1, b2) r h
  unfold b_X9_corners_6 at h
  refine x_iload_n dX9_corners_6 3 rfl ?_
  refine x_aload_n dX9_corners_7 0 rfl ?_
  obtain ⟨v1, ev1, h⟩ := x_bd h
  refine x_getR clX9 w_fl_RX9_11 (by decide) dX9_corners_8 ev1 ?_
  refine x_iconst (v := (0 : Int32)) dX9_corners_11 (by decide) ?_
  obtain ⟨v2, ev2, h⟩ := x_bd h
  refine x_iald dX9_corners_12 ev2 ?_
  refine x_icmp_gt 71 dX9_corners_13 (by decide) (fun c3 => ?_) (fun c3 => ?_)
  · have h := (if_pos c3).symm.trans h
    refine x_iload_n dX9_corners_71 2 rfl ?_
    obtain rfl := Option.some.inj h
    exact x_iret dX9_corners_72 (Nat.le_of_ble_eq_true rfl) (Nat.le_of_ble_eq_true rfl)
  have h := (if_neg c3).symm.trans h
  refine x_iload_n dX9_corners_16 2 rfl ?_
  refine x_iload_n dX9_corners_17 1 rfl ?_
  refine x_iload_n dX9_corners_18 3 rfl ?_
  refine x_ishr dX9_corners_19 ?_
  refine x_iconst (v := (1 : Int32)) dX9_corners_20 (by decide) ?_
  refine x_iand dX9_corners_21 ?_
  refine x_if_ne 29 dX9_corners_22 (by decide) (fun c4 => ?_) (fun c4 => ?_)
  · have h := (if_neg c4).symm.trans h
    refine x_iconst (v := (0 : Int32)) dX9_corners_29 (by decide) ?_
    exact x_sub [0, 1, 3] rfl (jp_X9_corners_30 l D aC bs sz F (a0) (q.1) (q.2.2) (0 : Int32) (q.2.1) M k6 hk6 h)
  have h := (if_pos c4).symm.trans h
  refine x_iconst (v := (1 : Int32)) dX9_corners_25 (by decide) ?_
  refine x_goto 30 dX9_corners_26 (by decide) ?_
  exact x_sub [0, 1, 3] rfl (jp_X9_corners_30 l D aC bs sz F (a0) (q.1) (q.2.2) (1 : Int32) (q.2.1) M k6 hk6 h)
def f_X9_corners (F : Nat) (a0 : Nat) (M : XM) : Option (Int32) := x_it (b_X9_corners_6 F (a0) M) F ((0 : Int32), (0 : Int32), (0 : Int32))
set_option maxHeartbeats 4000000 in
set_option maxRecDepth 100000 in
theorem c_X9_corners (l : Launch) (D : va_G) (aC : FieldType → ClassId) (bs sz : Nat) (F : Nat) {a0 : Nat} {M : XM} {r : Int32} (h : f_X9_corners F a0 M = some r) : x_Cn l D aC bs yX9_corners cX9_corners 5 (some .int) rm_X9_corners [.ref a0] sz M (some (.int r)) sz M := by
  unfold f_X9_corners at h
  refine x_enter2 [(0, .ref a0)] me_X9_corners (Nat.le_of_ble_eq_true rfl) rfl ?_
  refine x_iconst (v := (0 : Int32)) dX9_corners_0 (by decide) ?_
  refine x_istore_n 1 [(1, .int (0 : Int32)), (0, .ref a0)] dX9_corners_1 rfl (by decide) rfl ?_
  refine x_iconst (v := (0 : Int32)) dX9_corners_2 (by decide) ?_
  refine x_istore_n 2 [(2, .int (0 : Int32)), (1, .int (0 : Int32)), (0, .ref a0)] dX9_corners_3 rfl (by decide) rfl ?_
  refine x_iconst (v := (0 : Int32)) dX9_corners_4 (by decide) ?_
  refine x_istore_n 3 [(3, .int (0 : Int32)), (2, .int (0 : Int32)), (1, .int (0 : Int32)), (0, .ref a0)] dX9_corners_5 rfl (by decide) rfl ?_
  exact x_sub [3, 2, 1, 0] rfl (lp_X9_corners_6 l D aC bs sz F (a0) M  F _ _ _ _ h)

-- SwappedIntervalsModel.told(I)I
abbrev rm_X9_told : Room := { frames := 5, cells := 0, slots := 0, locals := 119 }
theorem me_X9_told : x_Me yX9_told cX9_told 3 (some .int) 1 := ⟨by decide +kernel, w_co_yX9_told, w_in_SwappedIntervalsModel, by decide +kernel, by decide +kernel, by decide +kernel⟩
def f_X9_told (F : Nat) (a0 : Nat) (a1 : Int32) (M : XM) : Option (Int32 × XM) := if a1 = (0 : Int32) then (x_gR M a0 9 0).bind fun v2 => (x_a32 .int M v2 (0 : Int32)).bind fun v3 => some (v3, M) else if a1 = (1 : Int32) then (x_ob M a0 9).bind fun u5 => (f_X9_points F a0 M).bind fun p6 => some (p6, M) else if a1 = (2 : Int32) then (x_ob M a0 9).bind fun u8 => (f_X9_codeNow F a0 M).bind fun p9 => some (p9, M) else if a1 = (3 : Int32) then (x_gR M a0 9 0).bind fun v11 => (x_a32 .int M v11 (1 : Int32)).bind fun v12 => some (v12, M) else if a1 = (4 : Int32) then (x_ob M a0 9).bind fun u14 => (f_X9_isWhole F a0 M).bind fun p15 => (f_X9_bit p15 M).bind fun p16 => some (p16, M) else if a1 = (5 : Int32) then (x_ob M a0 9).bind fun u18 => (f_X9_findsClass F a0 M).bind fun p19 => (x_gI p19 a0 9 18).bind fun v20 => some (v20, p19) else if a1 = (6 : Int32) then (x_ob M a0 9).bind fun u22 => (f_X9_findsClass F a0 M).bind fun p23 => (x_gR p23 a0 9 0).bind fun v24 => (x_a32 .int p23 v24 (1 : Int32)).bind fun v25 => (x_ob p23 a0 9).bind fun u26 => (f_X9_numberOf F a0 v25 p23).bind fun p27 => if p27 = (-1 : Int32) then some ((-5 : Int32), p23) else (x_gR p23 a0 9 17).bind fun v29 => (x_a32 .int p23 v29 p27).bind fun v30 => some (v30, p23) else if a1 = (7 : Int32) then (x_ob M a0 9).bind fun u32 => (f_X9_corners F a0 M).bind fun p33 => some (p33, M) else if a1 = (8 : Int32) then (x_ob M a0 9).bind fun u35 => (f_X9_isWhole F a0 M).bind fun p36 => if p36 = 0 then some ((-5 : Int32), M) else (x_gR M a0 9 0).bind fun v38 => (x_a32 .int M v38 (0 : Int32)).bind fun v39 => (x_ob M a0 9).bind fun u40 => (f_X9_corners F a0 M).bind fun p41 => some ((((v39 + (1 : Int32)) - p41) / (2 : Int32)), M) else if a1 = (9 : Int32) then (x_ob M a0 9).bind fun u43 => (f_X9_rounds F a0 M).bind fun p44 => some (p44.1, p44.2) else if a1 = (10 : Int32) then (x_ob M a0 9).bind fun u46 => (f_X9_ends F a0 M).bind fun p47 => some (p47.1, p47.2) else some ((-1 : Int32), M)
set_option maxHeartbeats 4000000 in
set_option maxRecDepth 100000 in
theorem c_X9_told (l : Launch) (D : va_G) (aC : FieldType → ClassId) (bs sz : Nat) (F : Nat) {a0 : Nat} {a1 : Int32} {M : XM} {r : Int32 × XM} (h : f_X9_told F a0 a1 M = some r) : x_Cn l D aC bs yX9_told cX9_told 3 (some .int) rm_X9_told [.ref a0, .int a1] sz M (some (.int r.1)) sz r.2 := by
  unfold f_X9_told at h
  refine x_enter2 [(0, .ref a0), (1, .int a1)] me_X9_told (Nat.le_of_ble_eq_true rfl) rfl ?_
  refine x_iload_n dX9_told_0 1 rfl ?_
  by_cases c1 : a1 = (0 : Int32)
  · have h := (if_pos c1).symm.trans h
    refine x_tabIn 0 60 dX9_told_1 (by rw [c1]; decide) (by decide) (by decide) rfl (by decide) ?_
    refine x_aload_n dX9_told_60 0 rfl ?_
    obtain ⟨v2, ev2, h⟩ := x_bd h
    refine x_getR clX9 w_fl_RX9_11 (by decide) dX9_told_61 ev2 ?_
    refine x_iconst (v := (0 : Int32)) dX9_told_64 (by decide) ?_
    obtain ⟨v3, ev3, h⟩ := x_bd h
    refine x_iald dX9_told_65 ev3 ?_
    obtain rfl := Option.some.inj h
    exact x_iret dX9_told_66 (Nat.le_of_ble_eq_true rfl) (Nat.le_of_ble_eq_true rfl)
  have h := (if_neg c1).symm.trans h
  by_cases c4 : a1 = (1 : Int32)
  · have h := (if_pos c4).symm.trans h
    refine x_tabIn 1 67 dX9_told_1 (by rw [c4]; decide) (by decide) (by decide) rfl (by decide) ?_
    refine x_aload_n dX9_told_67 0 rfl ?_
    obtain ⟨u5, eu5, h⟩ := x_bd h
    obtain ⟨p6, ep6, h⟩ := x_bd h
    refine x_callVI [] [] clX9 me_X9_points w_ml_RX9_121 w_im_yX9_points w_se_yX9_points (Nat.le_of_ble_eq_true rfl) (Nat.le_of_ble_eq_true rfl) rfl (Nat.le_of_ble_eq_true rfl) (Nat.le_of_ble_eq_true rfl) (Nat.le_of_ble_eq_true rfl) dX9_told_68 eu5 (c_X9_points l D aC bs sz F ep6) rfl ?_
    obtain rfl := Option.some.inj h
    exact x_iret dX9_told_71 (Nat.le_of_ble_eq_true rfl) (Nat.le_of_ble_eq_true rfl)
  have h := (if_neg c4).symm.trans h
  by_cases c7 : a1 = (2 : Int32)
  · have h := (if_pos c7).symm.trans h
    refine x_tabIn 2 72 dX9_told_1 (by rw [c7]; decide) (by decide) (by decide) rfl (by decide) ?_
    refine x_aload_n dX9_told_72 0 rfl ?_
    obtain ⟨u8, eu8, h⟩ := x_bd h
    obtain ⟨p9, ep9, h⟩ := x_bd h
    refine x_callVI [] [] clX9 me_X9_codeNow w_ml_RX9_127 w_im_yX9_codeNow w_se_yX9_codeNow (Nat.le_of_ble_eq_true rfl) (Nat.le_of_ble_eq_true rfl) rfl (Nat.le_of_ble_eq_true rfl) (Nat.le_of_ble_eq_true rfl) (Nat.le_of_ble_eq_true rfl) dX9_told_73 eu8 (c_X9_codeNow l D aC bs sz F ep9) rfl ?_
    obtain rfl := Option.some.inj h
    exact x_iret dX9_told_76 (Nat.le_of_ble_eq_true rfl) (Nat.le_of_ble_eq_true rfl)
  have h := (if_neg c7).symm.trans h
  by_cases c10 : a1 = (3 : Int32)
  · have h := (if_pos c10).symm.trans h
    refine x_tabIn 3 77 dX9_told_1 (by rw [c10]; decide) (by decide) (by decide) rfl (by decide) ?_
    refine x_aload_n dX9_told_77 0 rfl ?_
    obtain ⟨v11, ev11, h⟩ := x_bd h
    refine x_getR clX9 w_fl_RX9_11 (by decide) dX9_told_78 ev11 ?_
    refine x_iconst (v := (1 : Int32)) dX9_told_81 (by decide) ?_
    obtain ⟨v12, ev12, h⟩ := x_bd h
    refine x_iald dX9_told_82 ev12 ?_
    obtain rfl := Option.some.inj h
    exact x_iret dX9_told_83 (Nat.le_of_ble_eq_true rfl) (Nat.le_of_ble_eq_true rfl)
  have h := (if_neg c10).symm.trans h
  by_cases c13 : a1 = (4 : Int32)
  · have h := (if_pos c13).symm.trans h
    refine x_tabIn 4 84 dX9_told_1 (by rw [c13]; decide) (by decide) (by decide) rfl (by decide) ?_
    refine x_aload_n dX9_told_84 0 rfl ?_
    obtain ⟨u14, eu14, h⟩ := x_bd h
    obtain ⟨p15, ep15, h⟩ := x_bd h
    refine x_callVI [] [] clX9 me_X9_isWhole w_ml_RX9_206 w_im_yX9_isWhole w_se_yX9_isWhole (Nat.le_of_ble_eq_true rfl) (Nat.le_of_ble_eq_true rfl) rfl (Nat.le_of_ble_eq_true rfl) (Nat.le_of_ble_eq_true rfl) (Nat.le_of_ble_eq_true rfl) dX9_told_85 eu14 (c_X9_isWhole l D aC bs sz F ep15) rfl ?_
    obtain ⟨p16, ep16, h⟩ := x_bd h
    refine x_callSI [.int p15] [] me_X9_bit w_ml_RX9_181 w_st_yX9_bit (Nat.le_of_ble_eq_true rfl) (Nat.le_of_ble_eq_true rfl) rfl (Nat.le_of_ble_eq_true rfl) (Nat.le_of_ble_eq_true rfl) (Nat.le_of_ble_eq_true rfl) dX9_told_88 (c_X9_bit l D aC bs sz ep16) rfl ?_
    obtain rfl := Option.some.inj h
    exact x_iret dX9_told_91 (Nat.le_of_ble_eq_true rfl) (Nat.le_of_ble_eq_true rfl)
  have h := (if_neg c13).symm.trans h
  by_cases c17 : a1 = (5 : Int32)
  · have h := (if_pos c17).symm.trans h
    refine x_tabIn 5 92 dX9_told_1 (by rw [c17]; decide) (by decide) (by decide) rfl (by decide) ?_
    refine x_aload_n dX9_told_92 0 rfl ?_
    obtain ⟨u18, eu18, h⟩ := x_bd h
    obtain ⟨p19, ep19, h⟩ := x_bd h
    refine x_callVV [] [] clX9 me_X9_findsClass w_ml_RX9_200 w_im_yX9_findsClass w_se_yX9_findsClass (Nat.le_of_ble_eq_true rfl) (Nat.le_of_ble_eq_true rfl) rfl (Nat.le_of_ble_eq_true rfl) (Nat.le_of_ble_eq_true rfl) (Nat.le_of_ble_eq_true rfl) dX9_told_93 eu18 (c_X9_findsClass l D aC bs sz F ep19) rfl ?_
    refine x_aload_n dX9_told_96 0 rfl ?_
    obtain ⟨v20, ev20, h⟩ := x_bd h
    refine x_getI clX9 w_fl_RX9_191 (by decide) dX9_told_97 ev20 ?_
    obtain rfl := Option.some.inj h
    exact x_iret dX9_told_100 (Nat.le_of_ble_eq_true rfl) (Nat.le_of_ble_eq_true rfl)
  have h := (if_neg c17).symm.trans h
  by_cases c21 : a1 = (6 : Int32)
  · have h := (if_pos c21).symm.trans h
    refine x_tabIn 6 101 dX9_told_1 (by rw [c21]; decide) (by decide) (by decide) rfl (by decide) ?_
    refine x_aload_n dX9_told_101 0 rfl ?_
    obtain ⟨u22, eu22, h⟩ := x_bd h
    obtain ⟨p23, ep23, h⟩ := x_bd h
    refine x_callVV [] [] clX9 me_X9_findsClass w_ml_RX9_200 w_im_yX9_findsClass w_se_yX9_findsClass (Nat.le_of_ble_eq_true rfl) (Nat.le_of_ble_eq_true rfl) rfl (Nat.le_of_ble_eq_true rfl) (Nat.le_of_ble_eq_true rfl) (Nat.le_of_ble_eq_true rfl) dX9_told_102 eu22 (c_X9_findsClass l D aC bs sz F ep23) rfl ?_
    refine x_aload_n dX9_told_105 0 rfl ?_
    refine x_aload_n dX9_told_106 0 rfl ?_
    obtain ⟨v24, ev24, h⟩ := x_bd h
    refine x_getR clX9 w_fl_RX9_11 (by decide) dX9_told_107 ev24 ?_
    refine x_iconst (v := (1 : Int32)) dX9_told_110 (by decide) ?_
    obtain ⟨v25, ev25, h⟩ := x_bd h
    refine x_iald dX9_told_111 ev25 ?_
    obtain ⟨u26, eu26, h⟩ := x_bd h
    obtain ⟨p27, ep27, h⟩ := x_bd h
    refine x_callVI [.int v25] [] clX9 me_X9_numberOf w_ml_RX9_197 w_im_yX9_numberOf w_se_yX9_numberOf (Nat.le_of_ble_eq_true rfl) (Nat.le_of_ble_eq_true rfl) rfl (Nat.le_of_ble_eq_true rfl) (Nat.le_of_ble_eq_true rfl) (Nat.le_of_ble_eq_true rfl) dX9_told_112 eu26 (c_X9_numberOf l D aC bs sz F ep27) rfl ?_
    refine x_istore_n 2 [(2, .int p27), (0, .ref a0), (1, .int a1)] dX9_told_115 rfl (by decide) rfl ?_
    refine x_iload_n dX9_told_116 0 rfl ?_
    refine x_iconst (v := (-1 : Int32)) dX9_told_117 (by decide) ?_
    refine x_icmp_ne 126 dX9_told_118 (by decide) (fun c28 => ?_) (fun c28 => ?_)
    · have h := (if_neg c28).symm.trans h
      refine x_aload_n dX9_told_126 1 rfl ?_
      obtain ⟨v29, ev29, h⟩ := x_bd h
      refine x_getR clX9 w_fl_RX9_49 (by decide) dX9_told_127 ev29 ?_
      refine x_iload_n dX9_told_130 0 rfl ?_
      obtain ⟨v30, ev30, h⟩ := x_bd h
      refine x_iald dX9_told_131 ev30 ?_
      obtain rfl := Option.some.inj h
      exact x_iret dX9_told_132 (Nat.le_of_ble_eq_true rfl) (Nat.le_of_ble_eq_true rfl)
    have h := (if_pos c28).symm.trans h
    refine x_bipush (v := (-5 : Int32)) dX9_told_121 (by decide) ?_
    refine x_goto 132 dX9_told_123 (by decide) ?_
    obtain rfl := Option.some.inj h
    exact x_iret dX9_told_132 (Nat.le_of_ble_eq_true rfl) (Nat.le_of_ble_eq_true rfl)
  have h := (if_neg c21).symm.trans h
  by_cases c31 : a1 = (7 : Int32)
  · have h := (if_pos c31).symm.trans h
    refine x_tabIn 7 133 dX9_told_1 (by rw [c31]; decide) (by decide) (by decide) rfl (by decide) ?_
    refine x_aload_n dX9_told_133 0 rfl ?_
    obtain ⟨u32, eu32, h⟩ := x_bd h
    obtain ⟨p33, ep33, h⟩ := x_bd h
    refine x_callVI [] [] clX9 me_X9_corners w_ml_RX9_209 w_im_yX9_corners w_se_yX9_corners (Nat.le_of_ble_eq_true rfl) (Nat.le_of_ble_eq_true rfl) rfl (Nat.le_of_ble_eq_true rfl) (Nat.le_of_ble_eq_true rfl) (Nat.le_of_ble_eq_true rfl) dX9_told_134 eu32 (c_X9_corners l D aC bs sz F ep33) rfl ?_
    obtain rfl := Option.some.inj h
    exact x_iret dX9_told_137 (Nat.le_of_ble_eq_true rfl) (Nat.le_of_ble_eq_true rfl)
  have h := (if_neg c31).symm.trans h
  by_cases c34 : a1 = (8 : Int32)
  · have h := (if_pos c34).symm.trans h
    refine x_tabIn 8 138 dX9_told_1 (by rw [c34]; decide) (by decide) (by decide) rfl (by decide) ?_
    refine x_aload_n dX9_told_138 0 rfl ?_
    obtain ⟨u35, eu35, h⟩ := x_bd h
    obtain ⟨p36, ep36, h⟩ := x_bd h
    refine x_callVI [] [] clX9 me_X9_isWhole w_ml_RX9_206 w_im_yX9_isWhole w_se_yX9_isWhole (Nat.le_of_ble_eq_true rfl) (Nat.le_of_ble_eq_true rfl) rfl (Nat.le_of_ble_eq_true rfl) (Nat.le_of_ble_eq_true rfl) (Nat.le_of_ble_eq_true rfl) dX9_told_139 eu35 (c_X9_isWhole l D aC bs sz F ep36) rfl ?_
    refine x_if_eq 163 dX9_told_142 (by decide) (fun c37 => ?_) (fun c37 => ?_)
    · have h := (if_pos c37).symm.trans h
      refine x_bipush (v := (-5 : Int32)) dX9_told_163 (by decide) ?_
      obtain rfl := Option.some.inj h
      exact x_iret dX9_told_165 (Nat.le_of_ble_eq_true rfl) (Nat.le_of_ble_eq_true rfl)
    have h := (if_neg c37).symm.trans h
    refine x_aload_n dX9_told_145 0 rfl ?_
    obtain ⟨v38, ev38, h⟩ := x_bd h
    refine x_getR clX9 w_fl_RX9_11 (by decide) dX9_told_146 ev38 ?_
    refine x_iconst (v := (0 : Int32)) dX9_told_149 (by decide) ?_
    obtain ⟨v39, ev39, h⟩ := x_bd h
    refine x_iald dX9_told_150 ev39 ?_
    refine x_iconst (v := (1 : Int32)) dX9_told_151 (by decide) ?_
    refine x_iadd dX9_told_152 ?_
    refine x_aload_n dX9_told_153 0 rfl ?_
    obtain ⟨u40, eu40, h⟩ := x_bd h
    obtain ⟨p41, ep41, h⟩ := x_bd h
    refine x_callVI [] [.int (v39 + (1 : Int32))] clX9 me_X9_corners w_ml_RX9_209 w_im_yX9_corners w_se_yX9_corners (Nat.le_of_ble_eq_true rfl) (Nat.le_of_ble_eq_true rfl) rfl (Nat.le_of_ble_eq_true rfl) (Nat.le_of_ble_eq_true rfl) (Nat.le_of_ble_eq_true rfl) dX9_told_154 eu40 (c_X9_corners l D aC bs sz F ep41) rfl ?_
    refine x_isub dX9_told_157 ?_
    refine x_iconst (v := (2 : Int32)) dX9_told_158 (by decide) ?_
    refine x_idiv dX9_told_159 (by decide) ?_
    refine x_goto 165 dX9_told_160 (by decide) ?_
    obtain rfl := Option.some.inj h
    exact x_iret dX9_told_165 (Nat.le_of_ble_eq_true rfl) (Nat.le_of_ble_eq_true rfl)
  have h := (if_neg c34).symm.trans h
  by_cases c42 : a1 = (9 : Int32)
  · have h := (if_pos c42).symm.trans h
    refine x_tabIn 9 166 dX9_told_1 (by rw [c42]; decide) (by decide) (by decide) rfl (by decide) ?_
    refine x_aload_n dX9_told_166 0 rfl ?_
    obtain ⟨u43, eu43, h⟩ := x_bd h
    obtain ⟨p44, ep44, h⟩ := x_bd h
    refine x_callVI [] [] clX9 me_X9_rounds w_ml_RX9_212 w_im_yX9_rounds w_se_yX9_rounds (Nat.le_of_ble_eq_true rfl) (Nat.le_of_ble_eq_true rfl) rfl (Nat.le_of_ble_eq_true rfl) (Nat.le_of_ble_eq_true rfl) (Nat.le_of_ble_eq_true rfl) dX9_told_167 eu43 (c_X9_rounds l D aC bs sz F ep44) rfl ?_
    obtain rfl := Option.some.inj h
    exact x_iret dX9_told_170 (Nat.le_of_ble_eq_true rfl) (Nat.le_of_ble_eq_true rfl)
  have h := (if_neg c42).symm.trans h
  by_cases c45 : a1 = (10 : Int32)
  · have h := (if_pos c45).symm.trans h
    refine x_tabIn 10 171 dX9_told_1 (by rw [c45]; decide) (by decide) (by decide) rfl (by decide) ?_
    refine x_aload_n dX9_told_171 0 rfl ?_
    obtain ⟨u46, eu46, h⟩ := x_bd h
    obtain ⟨p47, ep47, h⟩ := x_bd h
    refine x_callVI [] [] clX9 me_X9_ends w_ml_RX9_215 w_im_yX9_ends w_se_yX9_ends (Nat.le_of_ble_eq_true rfl) (Nat.le_of_ble_eq_true rfl) rfl (Nat.le_of_ble_eq_true rfl) (Nat.le_of_ble_eq_true rfl) (Nat.le_of_ble_eq_true rfl) dX9_told_172 eu46 (c_X9_ends l D aC bs sz F ep47) rfl ?_
    obtain rfl := Option.some.inj h
    exact x_iret dX9_told_175 (Nat.le_of_ble_eq_true rfl) (Nat.le_of_ble_eq_true rfl)
  have h := (if_neg c45).symm.trans h
  have nc1 := lv_neT c1 (a := 0) (by decide)
  have nc4 := lv_neT c4 (a := 1) (by decide)
  have nc7 := lv_neT c7 (a := 2) (by decide)
  have nc10 := lv_neT c10 (a := 3) (by decide)
  have nc13 := lv_neT c13 (a := 4) (by decide)
  have nc17 := lv_neT c17 (a := 5) (by decide)
  have nc21 := lv_neT c21 (a := 6) (by decide)
  have nc31 := lv_neT c31 (a := 7) (by decide)
  have nc34 := lv_neT c34 (a := 8) (by decide)
  have nc42 := lv_neT c42 (a := 9) (by decide)
  have nc45 := lv_neT c45 (a := 10) (by decide)
  refine x_tabD 176 dX9_told_1 ?_ (by decide) ?_
  · by_cases r1 : (a1).toInt < 0
    · exact Or.inl r1
    by_cases r2 : 10 < (a1).toInt
    · exact Or.inr (Or.inl r2)
    exfalso
    omega
  refine x_iconst (v := (-1 : Int32)) dX9_told_176 (by decide) ?_
  obtain rfl := Option.some.inj h
  exact x_iret dX9_told_177 (Nat.le_of_ble_eq_true rfl) (Nat.le_of_ble_eq_true rfl)

-- SwappedIntervalsModel.point(II)I
abbrev rm_X9_point : Room := { frames := 1, cells := 0, slots := 0, locals := 25 }
theorem me_X9_point : x_Me yX9_point cX9_point 5 (some .int) 2 := ⟨by decide +kernel, w_co_yX9_point, w_in_SwappedIntervalsModel, by decide +kernel, by decide +kernel, by decide +kernel⟩
def b_X9_point_70 (F : Nat) (a0 : Nat) (a1 : Int32) (M : XM)  (k70 : (Int32 × Int32) → Option (Int32 × XM)) (q : Int32 × Int32) : Option (Int32 × XM) := if q.2 = a1 then some (q.1, M) else (x_gR M a0 9 11).bind fun v13 => (x_a32 .int M v13 q.2).bind fun v14 => k70 ((q.1 + (1 : Int32)), v14)
set_option maxHeartbeats 4000000 in
set_option maxRecDepth 100000 in
theorem lp_X9_point_70 (l : Launch) (D : va_G) (aC : FieldType → ClassId) (bs : Nat) (sz : Nat) (F : Nat) (a0 : Nat) (a1 : Int32) (M : XM)   : ∀ (n : Nat) (b0 : Int32) (b1 : Int32) (r : Int32 × XM), x_it (b_X9_point_70 F a0 a1 M ) n (b0, b1) = some r → x_V l D aC bs yX9_point cX9_point 5 (some .int) rm_X9_point (x_Z D aC bs (some (.int r.1)) sz r.2 rm_X9_point) 70 [(0, .ref a0), (1, .int a1), (3, .int b0), (4, .int b1)] [] sz M 0 0 := by
  suffices H : ∀ (n : Nat) (q : Int32 × Int32) (r : Int32 × XM), x_it (b_X9_point_70 F a0 a1 M ) n q = some r → x_V l D aC bs yX9_point cX9_point 5 (some .int) rm_X9_point (x_Z D aC bs (some (.int r.1)) sz r.2 rm_X9_point) 70 [(0, .ref a0), (1, .int a1), (3, .int q.1), (4, .int q.2)] [] sz M 0 0 from fun n b0 b1 r h => H n (b0, b1) r h
  refine x_loop (P := fun (q : Int32 × Int32) (r : Int32 × XM) => x_V l D aC bs yX9_point cX9_point 5 (some .int) rm_X9_point (x_Z D aC bs (some (.int r.1)) sz r.2 rm_X9_point) 70 [(0, .ref a0), (1, .int a1), (3, .int q.1), (4, .int q.2)] [] sz M 0 0) (fun k70 hk0 q r h => ?_)
  have hk70 : ∀ (b0 : Int32) (b1 : Int32) (r : Int32 × XM), k70 (b0, b1) = some r → x_V l D aC bs yX9_point cX9_point 5 (some .int) rm_X9_point (x_Z D aC bs (some (.int r.1)) sz r.2 rm_X9_point) 70 [(0, .ref a0), (1, .int a1), (3, .int b0), (4, .int b1)] [] sz M 0 0 := fun b0 b1 r h => hk0 (b0, b1) r h
  unfold b_X9_point_70 at h
  refine x_iload dX9_point_70 3 rfl ?_
  refine x_iload_n dX9_point_72 1 rfl ?_
  refine x_icmp_eq 91 dX9_point_73 (by decide) (fun c12 => ?_) (fun c12 => ?_)
  · have h := (if_pos c12).symm.trans h
    refine x_iload_n dX9_point_91 2 rfl ?_
    obtain rfl := Option.some.inj h
    exact x_iret dX9_point_92 (Nat.le_of_ble_eq_true rfl) (Nat.le_of_ble_eq_true rfl)
  have h := (if_neg c12).symm.trans h
  refine x_iinc (1 : Int32) 2 [(3, .int (q.1 + (1 : Int32))), (0, .ref a0), (1, .int a1), (4, .int q.2)] dX9_point_76 rfl (by decide) (by decide) rfl ?_
  refine x_aload_n dX9_point_79 1 rfl ?_
  obtain ⟨v13, ev13, h⟩ := x_bd h
  refine x_getR clX9 w_fl_RX9_30 (by decide) dX9_point_80 ev13 ?_
  refine x_iload dX9_point_83 3 rfl ?_
  obtain ⟨v14, ev14, h⟩ := x_bd h
  refine x_iald dX9_point_85 ev14 ?_
  refine x_istore [(4, .int v14), (3, .int (q.1 + (1 : Int32))), (0, .ref a0), (1, .int a1)] dX9_point_86 (by decide) rfl ?_
  refine x_goto 70 dX9_point_88 (by decide) ?_
  exact x_sub [2, 3, 1, 0] rfl (hk70 _ _ _ h)
def f_X9_point (F : Nat) (a0 : Nat) (a1 : Int32) (a2 : Int32) (M : XM) : Option (Int32 × XM) := (x_ob M a0 9).bind fun u1 => (f_X9_points F a0 M).bind fun p2 => (f_X9_in a1.toInt64 (0 : Int64) ((p2 - (1 : Int32)).toInt64) M).bind fun p3 => if p3 = 0 then some ((-1 : Int32), M) else (f_X9_in a2.toInt64 (0 : Int64) (2 : Int64) M).bind fun p5 => if p5 = 0 then some ((-1 : Int32), M) else (x_ob M a0 9).bind fun u7 => (f_X9_findsPoints F a0 M).bind fun p8 => if (2 : Int32) ≤ a2 then (x_gR p8.2 a0 9 11).bind fun v10 => (x_a32 .int p8.2 v10 a1).bind fun v11 => x_it (b_X9_point_70 F (a0) (a1) p8.2) F ((1 : Int32), v11) else if a2 = 0 then (x_gR p8.2 a0 9 11).bind fun v18 => (x_a32 .int p8.2 v18 a1).bind fun v19 => some (v19, p8.2) else (x_gR p8.2 a0 9 12).bind fun v16 => (x_a32 .int p8.2 v16 a1).bind fun v17 => some (v17, p8.2)
set_option maxHeartbeats 4000000 in
set_option maxRecDepth 100000 in
theorem c_X9_point (l : Launch) (D : va_G) (aC : FieldType → ClassId) (bs sz : Nat) (F : Nat) {a0 : Nat} {a1 : Int32} {a2 : Int32} {M : XM} {r : Int32 × XM} (h : f_X9_point F a0 a1 a2 M = some r) : x_Cn l D aC bs yX9_point cX9_point 5 (some .int) rm_X9_point [.ref a0, .int a1, .int a2] sz M (some (.int r.1)) sz r.2 := by
  unfold f_X9_point at h
  refine x_enter2 [(0, .ref a0), (1, .int a1), (2, .int a2)] me_X9_point (Nat.le_of_ble_eq_true rfl) rfl ?_
  refine x_iload_n dX9_point_0 1 rfl ?_
  refine x_i2l dX9_point_1 ?_
  refine x_lconst (v := (0 : Int64)) dX9_point_2 (by decide) ?_
  refine x_aload_n dX9_point_3 0 rfl ?_
  obtain ⟨u1, eu1, h⟩ := x_bd h
  obtain ⟨p2, ep2, h⟩ := x_bd h
  refine x_callVI [] [.long (0 : Int64), .long a1.toInt64] clX9 me_X9_points w_ml_RX9_121 w_im_yX9_points w_se_yX9_points (Nat.le_of_ble_eq_true rfl) (Nat.le_of_ble_eq_true rfl) rfl (Nat.le_of_ble_eq_true rfl) (Nat.le_of_ble_eq_true rfl) (Nat.le_of_ble_eq_true rfl) dX9_point_4 eu1 (c_X9_points l D aC bs sz F ep2) rfl ?_
  refine x_iconst (v := (1 : Int32)) dX9_point_7 (by decide) ?_
  refine x_isub dX9_point_8 ?_
  refine x_i2l dX9_point_9 ?_
  obtain ⟨p3, ep3, h⟩ := x_bd h
  refine x_callSI [.long a1.toInt64, .long (0 : Int64), .long ((p2 - (1 : Int32)).toInt64)] [] me_X9_in w_ml_RX9_66 w_st_yX9_in (Nat.le_of_ble_eq_true rfl) (Nat.le_of_ble_eq_true rfl) rfl (Nat.le_of_ble_eq_true rfl) (Nat.le_of_ble_eq_true rfl) (Nat.le_of_ble_eq_true rfl) dX9_point_10 (c_X9_in l D aC bs sz ep3) rfl ?_
  refine x_if_eq 28 dX9_point_13 (by decide) (fun c4 => ?_) (fun c4 => ?_)
  · have h := (if_pos c4).symm.trans h
    refine x_iconst (v := (-1 : Int32)) dX9_point_28 (by decide) ?_
    obtain rfl := Option.some.inj h
    exact x_iret dX9_point_29 (Nat.le_of_ble_eq_true rfl) (Nat.le_of_ble_eq_true rfl)
  have h := (if_neg c4).symm.trans h
  refine x_iload_n dX9_point_16 2 rfl ?_
  refine x_i2l dX9_point_17 ?_
  refine x_lconst (v := (0 : Int64)) dX9_point_18 (by decide) ?_
  refine x_ldc2 (v := (2 : Int64)) dX9_point_19 w_cn_RX9_95 ?_
  obtain ⟨p5, ep5, h⟩ := x_bd h
  refine x_callSI [.long a2.toInt64, .long (0 : Int64), .long (2 : Int64)] [] me_X9_in w_ml_RX9_66 w_st_yX9_in (Nat.le_of_ble_eq_true rfl) (Nat.le_of_ble_eq_true rfl) rfl (Nat.le_of_ble_eq_true rfl) (Nat.le_of_ble_eq_true rfl) (Nat.le_of_ble_eq_true rfl) dX9_point_22 (c_X9_in l D aC bs sz ep5) rfl ?_
  refine x_if_ne 30 dX9_point_25 (by decide) (fun c6 => ?_) (fun c6 => ?_)
  · have h := (if_neg c6).symm.trans h
    refine x_aload_n dX9_point_30 0 rfl ?_
    obtain ⟨u7, eu7, h⟩ := x_bd h
    obtain ⟨p8, ep8, h⟩ := x_bd h
    refine x_callVI [] [] clX9 me_X9_findsPoints w_ml_RX9_188 w_im_yX9_findsPoints w_se_yX9_findsPoints (Nat.le_of_ble_eq_true rfl) (Nat.le_of_ble_eq_true rfl) rfl (Nat.le_of_ble_eq_true rfl) (Nat.le_of_ble_eq_true rfl) (Nat.le_of_ble_eq_true rfl) dX9_point_31 eu7 (c_X9_findsPoints l D aC bs sz F ep8) rfl ?_
    refine x_pop dX9_point_34 rfl ?_
    refine x_iload_n dX9_point_35 2 rfl ?_
    refine x_iconst (v := (2 : Int32)) dX9_point_36 (by decide) ?_
    refine x_icmp_ge 60 dX9_point_37 (by decide) (fun c9 => ?_) (fun c9 => ?_)
    · have h := (if_pos c9).symm.trans h
      refine x_iconst (v := (1 : Int32)) dX9_point_60 (by decide) ?_
      refine x_istore_n 3 [(3, .int (1 : Int32)), (0, .ref a0), (1, .int a1), (2, .int a2)] dX9_point_61 rfl (by decide) rfl ?_
      refine x_aload_n dX9_point_62 1 rfl ?_
      obtain ⟨v10, ev10, h⟩ := x_bd h
      refine x_getR clX9 w_fl_RX9_30 (by decide) dX9_point_63 ev10 ?_
      refine x_iload_n dX9_point_66 2 rfl ?_
      obtain ⟨v11, ev11, h⟩ := x_bd h
      refine x_iald dX9_point_67 ev11 ?_
      refine x_istore [(4, .int v11), (3, .int (1 : Int32)), (0, .ref a0), (1, .int a1), (2, .int a2)] dX9_point_68 (by decide) rfl ?_
      exact x_sub [2, 3, 1, 0] rfl (lp_X9_point_70 l D aC bs sz F (a0) (a1) p8.2  F _ _ _ h)
    have h := (if_neg c9).symm.trans h
    refine x_iload_n dX9_point_40 2 rfl ?_
    refine x_if_ne 53 dX9_point_41 (by decide) (fun c15 => ?_) (fun c15 => ?_)
    · have h := (if_neg c15).symm.trans h
      refine x_aload_n dX9_point_53 0 rfl ?_
      obtain ⟨v16, ev16, h⟩ := x_bd h
      refine x_getR clX9 w_fl_RX9_33 (by decide) dX9_point_54 ev16 ?_
      refine x_iload_n dX9_point_57 1 rfl ?_
      obtain ⟨v17, ev17, h⟩ := x_bd h
      refine x_iald dX9_point_58 ev17 ?_
      obtain rfl := Option.some.inj h
      exact x_iret dX9_point_59 (Nat.le_of_ble_eq_true rfl) (Nat.le_of_ble_eq_true rfl)
    have h := (if_pos c15).symm.trans h
    refine x_aload_n dX9_point_44 0 rfl ?_
    obtain ⟨v18, ev18, h⟩ := x_bd h
    refine x_getR clX9 w_fl_RX9_30 (by decide) dX9_point_45 ev18 ?_
    refine x_iload_n dX9_point_48 1 rfl ?_
    obtain ⟨v19, ev19, h⟩ := x_bd h
    refine x_iald dX9_point_49 ev19 ?_
    refine x_goto 59 dX9_point_50 (by decide) ?_
    obtain rfl := Option.some.inj h
    exact x_iret dX9_point_59 (Nat.le_of_ble_eq_true rfl) (Nat.le_of_ble_eq_true rfl)
  have h := (if_pos c6).symm.trans h
  refine x_iconst (v := (-1 : Int32)) dX9_point_28 (by decide) ?_
  obtain rfl := Option.some.inj h
  exact x_iret dX9_point_29 (Nat.le_of_ble_eq_true rfl) (Nat.le_of_ble_eq_true rfl)

-- SwappedIntervalsModel.gone(II)I
abbrev rm_X9_gone : Room := { frames := 1, cells := 0, slots := 0, locals := 25 }
theorem me_X9_gone : x_Me yX9_gone cX9_gone 5 (some .int) 2 := ⟨by decide +kernel, w_co_yX9_gone, w_in_SwappedIntervalsModel, by decide +kernel, by decide +kernel, by decide +kernel⟩
def b_X9_gone_43 (F : Nat) (a0 : Nat) (a2 : Int32) (M : XM)  (k43 : (Int32 × Int32) → Option (Int32 × XM)) (q : Int32 × Int32) : Option (Int32 × XM) := if a2 ≤ q.2 then some (q.1, M) else (x_gR M a0 9 11).bind fun v10 => (x_a32 .int M v10 q.1).bind fun v11 => k43 (v11, (q.2 + (1 : Int32)))
set_option maxHeartbeats 4000000 in
set_option maxRecDepth 100000 in
theorem lp_X9_gone_43 (l : Launch) (D : va_G) (aC : FieldType → ClassId) (bs : Nat) (sz : Nat) (F : Nat) (a0 : Nat) (a2 : Int32) (M : XM)   : ∀ (n : Nat) (b0 : Int32) (b1 : Int32) (r : Int32 × XM), x_it (b_X9_gone_43 F a0 a2 M ) n (b0, b1) = some r → x_V l D aC bs yX9_gone cX9_gone 5 (some .int) rm_X9_gone (x_Z D aC bs (some (.int r.1)) sz r.2 rm_X9_gone) 43 [(0, .ref a0), (2, .int a2), (3, .int b0), (4, .int b1)] [] sz M 0 0 := by
  suffices H : ∀ (n : Nat) (q : Int32 × Int32) (r : Int32 × XM), x_it (b_X9_gone_43 F a0 a2 M ) n q = some r → x_V l D aC bs yX9_gone cX9_gone 5 (some .int) rm_X9_gone (x_Z D aC bs (some (.int r.1)) sz r.2 rm_X9_gone) 43 [(0, .ref a0), (2, .int a2), (3, .int q.1), (4, .int q.2)] [] sz M 0 0 from fun n b0 b1 r h => H n (b0, b1) r h
  refine x_loop (P := fun (q : Int32 × Int32) (r : Int32 × XM) => x_V l D aC bs yX9_gone cX9_gone 5 (some .int) rm_X9_gone (x_Z D aC bs (some (.int r.1)) sz r.2 rm_X9_gone) 43 [(0, .ref a0), (2, .int a2), (3, .int q.1), (4, .int q.2)] [] sz M 0 0) (fun k43 hk0 q r h => ?_)
  have hk43 : ∀ (b0 : Int32) (b1 : Int32) (r : Int32 × XM), k43 (b0, b1) = some r → x_V l D aC bs yX9_gone cX9_gone 5 (some .int) rm_X9_gone (x_Z D aC bs (some (.int r.1)) sz r.2 rm_X9_gone) 43 [(0, .ref a0), (2, .int a2), (3, .int b0), (4, .int b1)] [] sz M 0 0 := fun b0 b1 r h => hk0 (b0, b1) r h
  unfold b_X9_gone_43 at h
  refine x_iload dX9_gone_43 3 rfl ?_
  refine x_iload_n dX9_gone_45 1 rfl ?_
  refine x_icmp_ge 62 dX9_gone_46 (by decide) (fun c9 => ?_) (fun c9 => ?_)
  · have h := (if_pos c9).symm.trans h
    refine x_iload_n dX9_gone_62 2 rfl ?_
    obtain rfl := Option.some.inj h
    exact x_iret dX9_gone_63 (Nat.le_of_ble_eq_true rfl) (Nat.le_of_ble_eq_true rfl)
  have h := (if_neg c9).symm.trans h
  refine x_aload_n dX9_gone_49 0 rfl ?_
  obtain ⟨v10, ev10, h⟩ := x_bd h
  refine x_getR clX9 w_fl_RX9_30 (by decide) dX9_gone_50 ev10 ?_
  refine x_iload_n dX9_gone_53 2 rfl ?_
  obtain ⟨v11, ev11, h⟩ := x_bd h
  refine x_iald dX9_gone_54 ev11 ?_
  refine x_istore_n 3 [(3, .int v11), (0, .ref a0), (2, .int a2), (4, .int q.2)] dX9_gone_55 rfl (by decide) rfl ?_
  refine x_iinc (1 : Int32) 3 [(4, .int (q.2 + (1 : Int32))), (3, .int v11), (0, .ref a0), (2, .int a2)] dX9_gone_56 rfl (by decide) (by decide) rfl ?_
  refine x_goto 43 dX9_gone_59 (by decide) ?_
  exact x_sub [2, 3, 1, 0] rfl (hk43 _ _ _ h)
def f_X9_gone (F : Nat) (a0 : Nat) (a1 : Int32) (a2 : Int32) (M : XM) : Option (Int32 × XM) := (x_ob M a0 9).bind fun u1 => (f_X9_points F a0 M).bind fun p2 => (f_X9_in a1.toInt64 (0 : Int64) ((p2 - (1 : Int32)).toInt64) M).bind fun p3 => if p3 = 0 then some ((-1 : Int32), M) else (f_X9_in a2.toInt64 (0 : Int64) (9999 : Int64) M).bind fun p5 => if p5 = 0 then some ((-2 : Int32), M) else (x_ob M a0 9).bind fun u7 => (f_X9_findsPoints F a0 M).bind fun p8 => x_it (b_X9_gone_43 F (a0) (a2) p8.2) F (a1, (0 : Int32))
set_option maxHeartbeats 4000000 in
set_option maxRecDepth 100000 in
theorem c_X9_gone (l : Launch) (D : va_G) (aC : FieldType → ClassId) (bs sz : Nat) (F : Nat) {a0 : Nat} {a1 : Int32} {a2 : Int32} {M : XM} {r : Int32 × XM} (h : f_X9_gone F a0 a1 a2 M = some r) : x_Cn l D aC bs yX9_gone cX9_gone 5 (some .int) rm_X9_gone [.ref a0, .int a1, .int a2] sz M (some (.int r.1)) sz r.2 := by
  unfold f_X9_gone at h
  refine x_enter2 [(0, .ref a0), (1, .int a1), (2, .int a2)] me_X9_gone (Nat.le_of_ble_eq_true rfl) rfl ?_
  refine x_iload_n dX9_gone_0 1 rfl ?_
  refine x_i2l dX9_gone_1 ?_
  refine x_lconst (v := (0 : Int64)) dX9_gone_2 (by decide) ?_
  refine x_aload_n dX9_gone_3 0 rfl ?_
  obtain ⟨u1, eu1, h⟩ := x_bd h
  obtain ⟨p2, ep2, h⟩ := x_bd h
  refine x_callVI [] [.long (0 : Int64), .long a1.toInt64] clX9 me_X9_points w_ml_RX9_121 w_im_yX9_points w_se_yX9_points (Nat.le_of_ble_eq_true rfl) (Nat.le_of_ble_eq_true rfl) rfl (Nat.le_of_ble_eq_true rfl) (Nat.le_of_ble_eq_true rfl) (Nat.le_of_ble_eq_true rfl) dX9_gone_4 eu1 (c_X9_points l D aC bs sz F ep2) rfl ?_
  refine x_iconst (v := (1 : Int32)) dX9_gone_7 (by decide) ?_
  refine x_isub dX9_gone_8 ?_
  refine x_i2l dX9_gone_9 ?_
  obtain ⟨p3, ep3, h⟩ := x_bd h
  refine x_callSI [.long a1.toInt64, .long (0 : Int64), .long ((p2 - (1 : Int32)).toInt64)] [] me_X9_in w_ml_RX9_66 w_st_yX9_in (Nat.le_of_ble_eq_true rfl) (Nat.le_of_ble_eq_true rfl) rfl (Nat.le_of_ble_eq_true rfl) (Nat.le_of_ble_eq_true rfl) (Nat.le_of_ble_eq_true rfl) dX9_gone_10 (c_X9_in l D aC bs sz ep3) rfl ?_
  refine x_if_ne 18 dX9_gone_13 (by decide) (fun c4 => ?_) (fun c4 => ?_)
  · have h := (if_neg c4).symm.trans h
    refine x_iload_n dX9_gone_18 2 rfl ?_
    refine x_i2l dX9_gone_19 ?_
    refine x_lconst (v := (0 : Int64)) dX9_gone_20 (by decide) ?_
    refine x_ldc2 (v := (9999 : Int64)) dX9_gone_21 w_cn_RX9_218 ?_
    obtain ⟨p5, ep5, h⟩ := x_bd h
    refine x_callSI [.long a2.toInt64, .long (0 : Int64), .long (9999 : Int64)] [] me_X9_in w_ml_RX9_66 w_st_yX9_in (Nat.le_of_ble_eq_true rfl) (Nat.le_of_ble_eq_true rfl) rfl (Nat.le_of_ble_eq_true rfl) (Nat.le_of_ble_eq_true rfl) (Nat.le_of_ble_eq_true rfl) dX9_gone_24 (c_X9_in l D aC bs sz ep5) rfl ?_
    refine x_if_ne 33 dX9_gone_27 (by decide) (fun c6 => ?_) (fun c6 => ?_)
    · have h := (if_neg c6).symm.trans h
      refine x_aload_n dX9_gone_33 0 rfl ?_
      obtain ⟨u7, eu7, h⟩ := x_bd h
      obtain ⟨p8, ep8, h⟩ := x_bd h
      refine x_callVI [] [] clX9 me_X9_findsPoints w_ml_RX9_188 w_im_yX9_findsPoints w_se_yX9_findsPoints (Nat.le_of_ble_eq_true rfl) (Nat.le_of_ble_eq_true rfl) rfl (Nat.le_of_ble_eq_true rfl) (Nat.le_of_ble_eq_true rfl) (Nat.le_of_ble_eq_true rfl) dX9_gone_34 eu7 (c_X9_findsPoints l D aC bs sz F ep8) rfl ?_
      refine x_pop dX9_gone_37 rfl ?_
      refine x_iload_n dX9_gone_38 1 rfl ?_
      refine x_istore_n 3 [(3, .int a1), (0, .ref a0), (1, .int a1), (2, .int a2)] dX9_gone_39 rfl (by decide) rfl ?_
      refine x_iconst (v := (0 : Int32)) dX9_gone_40 (by decide) ?_
      refine x_istore [(4, .int (0 : Int32)), (3, .int a1), (0, .ref a0), (1, .int a1), (2, .int a2)] dX9_gone_41 (by decide) rfl ?_
      exact x_sub [2, 4, 1, 0] rfl (lp_X9_gone_43 l D aC bs sz F (a0) (a2) p8.2  F _ _ _ h)
    have h := (if_pos c6).symm.trans h
    refine x_bipush (v := (-2 : Int32)) dX9_gone_30 (by decide) ?_
    obtain rfl := Option.some.inj h
    exact x_iret dX9_gone_32 (Nat.le_of_ble_eq_true rfl) (Nat.le_of_ble_eq_true rfl)
  have h := (if_pos c4).symm.trans h
  refine x_iconst (v := (-1 : Int32)) dX9_gone_16 (by decide) ?_
  obtain rfl := Option.some.inj h
  exact x_iret dX9_gone_17 (Nat.le_of_ble_eq_true rfl) (Nat.le_of_ble_eq_true rfl)

-- SwappedIntervalsModel.see(II)I
abbrev rm_X9_see : Room := { frames := 1, cells := 0, slots := 0, locals := 25 }
theorem me_X9_see : x_Me yX9_see cX9_see 3 (some .int) 2 := ⟨by decide +kernel, w_co_yX9_see, w_in_SwappedIntervalsModel, by decide +kernel, by decide +kernel, by decide +kernel⟩
def f_X9_see (a0 : Nat) (a1 : Int32) (a2 : Int32) (M : XM) : Option (Int32 × XM) := if a1 = (-1 : Int32) then (x_gR M a0 9 0).bind fun v22 => (x_w32 .int M v22 (17 : Int32) (0 : Int32)).bind fun m23 => some ((0 : Int32), m23) else (f_X9_in a1.toInt64 (0 : Int64) (499 : Int64) M).bind fun p2 => if p2 = 0 then some ((-2 : Int32), M) else (f_X9_in a2.toInt64 (0 : Int64) (499 : Int64) M).bind fun p4 => if p4 = 0 then some ((-2 : Int32), M) else (x_gR M a0 9 0).bind fun v6 => (x_a32 .int M v6 (17 : Int32)).bind fun v7 => if v7 = (4 : Int32) then some ((-4 : Int32), M) else (x_gR M a0 9 0).bind fun v9 => (x_gR M a0 9 0).bind fun v10 => (x_a32 .int M v10 (17 : Int32)).bind fun v11 => (x_w32 .int M v9 ((18 : Int32) + ((2 : Int32) * v11)) a1).bind fun m12 => (x_gR m12 a0 9 0).bind fun v13 => (x_gR m12 a0 9 0).bind fun v14 => (x_a32 .int m12 v14 (17 : Int32)).bind fun v15 => (x_w32 .int m12 v13 (((18 : Int32) + ((2 : Int32) * v15)) + (1 : Int32)) a2).bind fun m16 => (x_gR m16 a0 9 0).bind fun v17 => (x_a32 .int m16 v17 (17 : Int32)).bind fun v18 => (x_w32 .int m16 v17 (17 : Int32) (v18 + (1 : Int32))).bind fun m19 => (x_gR m19 a0 9 0).bind fun v20 => (x_a32 .int m19 v20 (17 : Int32)).bind fun v21 => some (v21, m19)
set_option maxHeartbeats 4000000 in
set_option maxRecDepth 100000 in
theorem c_X9_see (l : Launch) (D : va_G) (aC : FieldType → ClassId) (bs sz : Nat) {a0 : Nat} {a1 : Int32} {a2 : Int32} {M : XM} {r : Int32 × XM} (h : f_X9_see a0 a1 a2 M = some r) : x_Cn l D aC bs yX9_see cX9_see 3 (some .int) rm_X9_see [.ref a0, .int a1, .int a2] sz M (some (.int r.1)) sz r.2 := by
  unfold f_X9_see at h
  refine x_enter2 [(0, .ref a0), (1, .int a1), (2, .int a2)] me_X9_see (Nat.le_of_ble_eq_true rfl) rfl ?_
  refine x_iload_n dX9_see_0 1 rfl ?_
  refine x_iconst (v := (-1 : Int32)) dX9_see_1 (by decide) ?_
  refine x_icmp_ne 15 dX9_see_2 (by decide) (fun c1 => ?_) (fun c1 => ?_)
  · have h := (if_neg c1).symm.trans h
    refine x_iload_n dX9_see_15 1 rfl ?_
    refine x_i2l dX9_see_16 ?_
    refine x_lconst (v := (0 : Int64)) dX9_see_17 (by decide) ?_
    refine x_ldc2 (v := (499 : Int64)) dX9_see_18 w_cn_RX9_220 ?_
    obtain ⟨p2, ep2, h⟩ := x_bd h
    refine x_callSI [.long a1.toInt64, .long (0 : Int64), .long (499 : Int64)] [] me_X9_in w_ml_RX9_66 w_st_yX9_in (Nat.le_of_ble_eq_true rfl) (Nat.le_of_ble_eq_true rfl) rfl (Nat.le_of_ble_eq_true rfl) (Nat.le_of_ble_eq_true rfl) (Nat.le_of_ble_eq_true rfl) dX9_see_21 (c_X9_in l D aC bs sz ep2) rfl ?_
    refine x_if_eq 39 dX9_see_24 (by decide) (fun c3 => ?_) (fun c3 => ?_)
    · have h := (if_pos c3).symm.trans h
      refine x_bipush (v := (-2 : Int32)) dX9_see_39 (by decide) ?_
      obtain rfl := Option.some.inj h
      exact x_iret dX9_see_41 (Nat.le_of_ble_eq_true rfl) (Nat.le_of_ble_eq_true rfl)
    have h := (if_neg c3).symm.trans h
    refine x_iload_n dX9_see_27 2 rfl ?_
    refine x_i2l dX9_see_28 ?_
    refine x_lconst (v := (0 : Int64)) dX9_see_29 (by decide) ?_
    refine x_ldc2 (v := (499 : Int64)) dX9_see_30 w_cn_RX9_220 ?_
    obtain ⟨p4, ep4, h⟩ := x_bd h
    refine x_callSI [.long a2.toInt64, .long (0 : Int64), .long (499 : Int64)] [] me_X9_in w_ml_RX9_66 w_st_yX9_in (Nat.le_of_ble_eq_true rfl) (Nat.le_of_ble_eq_true rfl) rfl (Nat.le_of_ble_eq_true rfl) (Nat.le_of_ble_eq_true rfl) (Nat.le_of_ble_eq_true rfl) dX9_see_33 (c_X9_in l D aC bs sz ep4) rfl ?_
    refine x_if_ne 42 dX9_see_36 (by decide) (fun c5 => ?_) (fun c5 => ?_)
    · have h := (if_neg c5).symm.trans h
      refine x_aload_n dX9_see_42 0 rfl ?_
      obtain ⟨v6, ev6, h⟩ := x_bd h
      refine x_getR clX9 w_fl_RX9_11 (by decide) dX9_see_43 ev6 ?_
      refine x_bipush (v := (17 : Int32)) dX9_see_46 (by decide) ?_
      obtain ⟨v7, ev7, h⟩ := x_bd h
      refine x_iald dX9_see_48 ev7 ?_
      refine x_iconst (v := (4 : Int32)) dX9_see_49 (by decide) ?_
      refine x_icmp_ne 56 dX9_see_50 (by decide) (fun c8 => ?_) (fun c8 => ?_)
      · have h := (if_neg c8).symm.trans h
        refine x_aload_n dX9_see_56 0 rfl ?_
        obtain ⟨v9, ev9, h⟩ := x_bd h
        refine x_getR clX9 w_fl_RX9_11 (by decide) dX9_see_57 ev9 ?_
        refine x_bipush (v := (18 : Int32)) dX9_see_60 (by decide) ?_
        refine x_iconst (v := (2 : Int32)) dX9_see_62 (by decide) ?_
        refine x_aload_n dX9_see_63 0 rfl ?_
        obtain ⟨v10, ev10, h⟩ := x_bd h
        refine x_getR clX9 w_fl_RX9_11 (by decide) dX9_see_64 ev10 ?_
        refine x_bipush (v := (17 : Int32)) dX9_see_67 (by decide) ?_
        obtain ⟨v11, ev11, h⟩ := x_bd h
        refine x_iald dX9_see_69 ev11 ?_
        refine x_imul dX9_see_70 ?_
        refine x_iadd dX9_see_71 ?_
        refine x_iload_n dX9_see_72 1 rfl ?_
        obtain ⟨m12, em12, h⟩ := x_bd h
        refine x_iast dX9_see_73 em12 ?_
        refine x_aload_n dX9_see_74 0 rfl ?_
        obtain ⟨v13, ev13, h⟩ := x_bd h
        refine x_getR clX9 w_fl_RX9_11 (by decide) dX9_see_75 ev13 ?_
        refine x_bipush (v := (18 : Int32)) dX9_see_78 (by decide) ?_
        refine x_iconst (v := (2 : Int32)) dX9_see_80 (by decide) ?_
        refine x_aload_n dX9_see_81 0 rfl ?_
        obtain ⟨v14, ev14, h⟩ := x_bd h
        refine x_getR clX9 w_fl_RX9_11 (by decide) dX9_see_82 ev14 ?_
        refine x_bipush (v := (17 : Int32)) dX9_see_85 (by decide) ?_
        obtain ⟨v15, ev15, h⟩ := x_bd h
        refine x_iald dX9_see_87 ev15 ?_
        refine x_imul dX9_see_88 ?_
        refine x_iadd dX9_see_89 ?_
        refine x_iconst (v := (1 : Int32)) dX9_see_90 (by decide) ?_
        refine x_iadd dX9_see_91 ?_
        refine x_iload_n dX9_see_92 2 rfl ?_
        obtain ⟨m16, em16, h⟩ := x_bd h
        refine x_iast dX9_see_93 em16 ?_
        refine x_aload_n dX9_see_94 0 rfl ?_
        obtain ⟨v17, ev17, h⟩ := x_bd h
        refine x_getR clX9 w_fl_RX9_11 (by decide) dX9_see_95 ev17 ?_
        refine x_bipush (v := (17 : Int32)) dX9_see_98 (by decide) ?_
        refine x_dup2 dX9_see_100 rfl rfl ?_
        obtain ⟨v18, ev18, h⟩ := x_bd h
        refine x_iald dX9_see_101 ev18 ?_
        refine x_iconst (v := (1 : Int32)) dX9_see_102 (by decide) ?_
        refine x_iadd dX9_see_103 ?_
        obtain ⟨m19, em19, h⟩ := x_bd h
        refine x_iast dX9_see_104 em19 ?_
        refine x_aload_n dX9_see_105 0 rfl ?_
        obtain ⟨v20, ev20, h⟩ := x_bd h
        refine x_getR clX9 w_fl_RX9_11 (by decide) dX9_see_106 ev20 ?_
        refine x_bipush (v := (17 : Int32)) dX9_see_109 (by decide) ?_
        obtain ⟨v21, ev21, h⟩ := x_bd h
        refine x_iald dX9_see_111 ev21 ?_
        obtain rfl := Option.some.inj h
        exact x_iret dX9_see_112 (Nat.le_of_ble_eq_true rfl) (Nat.le_of_ble_eq_true rfl)
      have h := (if_pos c8).symm.trans h
      refine x_bipush (v := (-4 : Int32)) dX9_see_53 (by decide) ?_
      obtain rfl := Option.some.inj h
      exact x_iret dX9_see_55 (Nat.le_of_ble_eq_true rfl) (Nat.le_of_ble_eq_true rfl)
    have h := (if_pos c5).symm.trans h
    refine x_bipush (v := (-2 : Int32)) dX9_see_39 (by decide) ?_
    obtain rfl := Option.some.inj h
    exact x_iret dX9_see_41 (Nat.le_of_ble_eq_true rfl) (Nat.le_of_ble_eq_true rfl)
  have h := (if_pos c1).symm.trans h
  refine x_aload_n dX9_see_5 0 rfl ?_
  obtain ⟨v22, ev22, h⟩ := x_bd h
  refine x_getR clX9 w_fl_RX9_11 (by decide) dX9_see_6 ev22 ?_
  refine x_bipush (v := (17 : Int32)) dX9_see_9 (by decide) ?_
  refine x_iconst (v := (0 : Int32)) dX9_see_11 (by decide) ?_
  obtain ⟨m23, em23, h⟩ := x_bd h
  refine x_iast dX9_see_12 em23 ?_
  refine x_iconst (v := (0 : Int32)) dX9_see_13 (by decide) ?_
  obtain rfl := Option.some.inj h
  exact x_iret dX9_see_14 (Nat.le_of_ble_eq_true rfl) (Nat.le_of_ble_eq_true rfl)

-- SwappedIntervalsModel.isAllSeen()Z
abbrev rm_X9_isAllSeen : Room := { frames := 1, cells := 0, slots := 0, locals := 24 }
theorem me_X9_isAllSeen : x_Me yX9_isAllSeen cX9_isAllSeen 4 (some .boolean) 0 := ⟨by decide +kernel, w_co_yX9_isAllSeen, w_in_SwappedIntervalsModel, by decide +kernel, by decide +kernel, by decide +kernel⟩
def b_X9_isAllSeen_7 (F : Nat) (a0 : Nat) (a1 : Int32) (M : XM)  (k7 : Int32 → Option (Int32 × XM)) (q : Int32) : Option (Int32 × XM) := (x_gR M a0 9 0).bind fun v3 => (x_a32 .int M v3 (17 : Int32)).bind fun v4 => if v4 ≤ q then some ((1 : Int32), M) else (x_gR M a0 9 0).bind fun v6 => (x_a32 .int M v6 ((18 : Int32) + ((2 : Int32) * q))).bind fun v7 => if a1 ≤ v7 then some ((0 : Int32), M) else (x_gR M a0 9 11).bind fun v9 => (x_a32 .int M v9 v7).bind fun v10 => (x_gR M a0 9 0).bind fun v11 => (x_a32 .int M v11 (((18 : Int32) + ((2 : Int32) * q)) + (1 : Int32))).bind fun v12 => if v10 = v12 then k7 (q + (1 : Int32)) else some ((0 : Int32), M)
set_option maxHeartbeats 4000000 in
set_option maxRecDepth 100000 in
theorem lp_X9_isAllSeen_7 (l : Launch) (D : va_G) (aC : FieldType → ClassId) (bs : Nat) (sz : Nat) (F : Nat) (a0 : Nat) (a1 : Int32) (M : XM)   : ∀ (n : Nat) (b0 : Int32) (r : Int32 × XM), x_it (b_X9_isAllSeen_7 F a0 a1 M ) n b0 = some r → x_V l D aC bs yX9_isAllSeen cX9_isAllSeen 4 (some .boolean) rm_X9_isAllSeen (x_Z D aC bs (some (.int r.1)) sz r.2 rm_X9_isAllSeen) 7 [(0, .ref a0), (1, .int a1), (2, .int b0)] [] sz M 0 0 := by
  suffices H : ∀ (n : Nat) (q : Int32) (r : Int32 × XM), x_it (b_X9_isAllSeen_7 F a0 a1 M ) n q = some r → x_V l D aC bs yX9_isAllSeen cX9_isAllSeen 4 (some .boolean) rm_X9_isAllSeen (x_Z D aC bs (some (.int r.1)) sz r.2 rm_X9_isAllSeen) 7 [(0, .ref a0), (1, .int a1), (2, .int q)] [] sz M 0 0 from fun n b0 r h => H n b0 r h
  refine x_loop (P := fun (q : Int32) (r : Int32 × XM) => x_V l D aC bs yX9_isAllSeen cX9_isAllSeen 4 (some .boolean) rm_X9_isAllSeen (x_Z D aC bs (some (.int r.1)) sz r.2 rm_X9_isAllSeen) 7 [(0, .ref a0), (1, .int a1), (2, .int q)] [] sz M 0 0) (fun k7 hk0 q r h => ?_)
  have hk7 : ∀ (b0 : Int32) (r : Int32 × XM), k7 b0 = some r → x_V l D aC bs yX9_isAllSeen cX9_isAllSeen 4 (some .boolean) rm_X9_isAllSeen (x_Z D aC bs (some (.int r.1)) sz r.2 rm_X9_isAllSeen) 7 [(0, .ref a0), (1, .int a1), (2, .int b0)] [] sz M 0 0 := fun b0 r h => hk0 b0 r h
  unfold b_X9_isAllSeen_7 at h
  refine x_iload_n dX9_isAllSeen_7 2 rfl ?_
  refine x_aload_n dX9_isAllSeen_8 0 rfl ?_
  obtain ⟨v3, ev3, h⟩ := x_bd h
  refine x_getR clX9 w_fl_RX9_11 (by decide) dX9_isAllSeen_9 ev3 ?_
  refine x_bipush (v := (17 : Int32)) dX9_isAllSeen_12 (by decide) ?_
  obtain ⟨v4, ev4, h⟩ := x_bd h
  refine x_iald dX9_isAllSeen_14 ev4 ?_
  refine x_icmp_ge 65 dX9_isAllSeen_15 (by decide) (fun c5 => ?_) (fun c5 => ?_)
  · have h := (if_pos c5).symm.trans h
    refine x_iconst (v := (1 : Int32)) dX9_isAllSeen_65 (by decide) ?_
    obtain rfl := Option.some.inj h
    exact x_zret dX9_isAllSeen_66 (Or.inr rfl) (Nat.le_of_ble_eq_true rfl) (Nat.le_of_ble_eq_true rfl)
  have h := (if_neg c5).symm.trans h
  refine x_aload_n dX9_isAllSeen_18 0 rfl ?_
  obtain ⟨v6, ev6, h⟩ := x_bd h
  refine x_getR clX9 w_fl_RX9_11 (by decide) dX9_isAllSeen_19 ev6 ?_
  refine x_bipush (v := (18 : Int32)) dX9_isAllSeen_22 (by decide) ?_
  refine x_iconst (v := (2 : Int32)) dX9_isAllSeen_24 (by decide) ?_
  refine x_iload_n dX9_isAllSeen_25 2 rfl ?_
  refine x_imul dX9_isAllSeen_26 ?_
  refine x_iadd dX9_isAllSeen_27 ?_
  obtain ⟨v7, ev7, h⟩ := x_bd h
  refine x_iald dX9_isAllSeen_28 ev7 ?_
  refine x_istore_n 3 [(3, .int v7), (0, .ref a0), (1, .int a1), (2, .int q)] dX9_isAllSeen_29 rfl (by decide) rfl ?_
  refine x_iload_n dX9_isAllSeen_30 0 rfl ?_
  refine x_iload_n dX9_isAllSeen_31 2 rfl ?_
  refine x_icmp_ge 57 dX9_isAllSeen_32 (by decide) (fun c8 => ?_) (fun c8 => ?_)
  · have h := (if_pos c8).symm.trans h
    refine x_iconst (v := (0 : Int32)) dX9_isAllSeen_57 (by decide) ?_
    obtain rfl := Option.some.inj h
    exact x_zret dX9_isAllSeen_58 (Or.inl rfl) (Nat.le_of_ble_eq_true rfl) (Nat.le_of_ble_eq_true rfl)
  have h := (if_neg c8).symm.trans h
  refine x_aload_n dX9_isAllSeen_35 1 rfl ?_
  obtain ⟨v9, ev9, h⟩ := x_bd h
  refine x_getR clX9 w_fl_RX9_30 (by decide) dX9_isAllSeen_36 ev9 ?_
  refine x_iload_n dX9_isAllSeen_39 0 rfl ?_
  obtain ⟨v10, ev10, h⟩ := x_bd h
  refine x_iald dX9_isAllSeen_40 ev10 ?_
  refine x_aload_n dX9_isAllSeen_41 1 rfl ?_
  obtain ⟨v11, ev11, h⟩ := x_bd h
  refine x_getR clX9 w_fl_RX9_11 (by decide) dX9_isAllSeen_42 ev11 ?_
  refine x_bipush (v := (18 : Int32)) dX9_isAllSeen_45 (by decide) ?_
  refine x_iconst (v := (2 : Int32)) dX9_isAllSeen_47 (by decide) ?_
  refine x_iload_n dX9_isAllSeen_48 3 rfl ?_
  refine x_imul dX9_isAllSeen_49 ?_
  refine x_iadd dX9_isAllSeen_50 ?_
  refine x_iconst (v := (1 : Int32)) dX9_isAllSeen_51 (by decide) ?_
  refine x_iadd dX9_isAllSeen_52 ?_
  obtain ⟨v12, ev12, h⟩ := x_bd h
  refine x_iald dX9_isAllSeen_53 ev12 ?_
  refine x_icmp_eq 59 dX9_isAllSeen_54 (by decide) (fun c13 => ?_) (fun c13 => ?_)
  · have h := (if_pos c13).symm.trans h
    refine x_iinc (1 : Int32) 3 [(2, .int (q + (1 : Int32))), (3, .int v7), (0, .ref a0), (1, .int a1)] dX9_isAllSeen_59 rfl (by decide) (by decide) rfl ?_
    refine x_goto 7 dX9_isAllSeen_62 (by decide) ?_
    exact x_sub [2, 3, 0] rfl (hk7 _ _ h)
  have h := (if_neg c13).symm.trans h
  refine x_iconst (v := (0 : Int32)) dX9_isAllSeen_57 (by decide) ?_
  obtain rfl := Option.some.inj h
  exact x_zret dX9_isAllSeen_58 (Or.inl rfl) (Nat.le_of_ble_eq_true rfl) (Nat.le_of_ble_eq_true rfl)
def f_X9_isAllSeen (F : Nat) (a0 : Nat) (M : XM) : Option (Int32 × XM) := (x_ob M a0 9).bind fun u1 => (f_X9_findsPoints F a0 M).bind fun p2 => x_it (b_X9_isAllSeen_7 F (a0) (p2.1) p2.2) F (0 : Int32)
set_option maxHeartbeats 4000000 in
set_option maxRecDepth 100000 in
theorem c_X9_isAllSeen (l : Launch) (D : va_G) (aC : FieldType → ClassId) (bs sz : Nat) (F : Nat) {a0 : Nat} {M : XM} {r : Int32 × XM} (h : f_X9_isAllSeen F a0 M = some r) : x_Cn l D aC bs yX9_isAllSeen cX9_isAllSeen 4 (some .boolean) rm_X9_isAllSeen [.ref a0] sz M (some (.int r.1)) sz r.2 := by
  unfold f_X9_isAllSeen at h
  refine x_enter2 [(0, .ref a0)] me_X9_isAllSeen (Nat.le_of_ble_eq_true rfl) rfl ?_
  refine x_aload_n dX9_isAllSeen_0 0 rfl ?_
  obtain ⟨u1, eu1, h⟩ := x_bd h
  obtain ⟨p2, ep2, h⟩ := x_bd h
  refine x_callVI [] [] clX9 me_X9_findsPoints w_ml_RX9_188 w_im_yX9_findsPoints w_se_yX9_findsPoints (Nat.le_of_ble_eq_true rfl) (Nat.le_of_ble_eq_true rfl) rfl (Nat.le_of_ble_eq_true rfl) (Nat.le_of_ble_eq_true rfl) (Nat.le_of_ble_eq_true rfl) dX9_isAllSeen_1 eu1 (c_X9_findsPoints l D aC bs sz F ep2) rfl ?_
  refine x_istore_n 1 [(1, .int p2.1), (0, .ref a0)] dX9_isAllSeen_4 rfl (by decide) rfl ?_
  refine x_iconst (v := (0 : Int32)) dX9_isAllSeen_5 (by decide) ?_
  refine x_istore_n 2 [(2, .int (0 : Int32)), (1, .int p2.1), (0, .ref a0)] dX9_isAllSeen_6 rfl (by decide) rfl ?_
  exact x_sub [2, 1, 0] rfl (lp_X9_isAllSeen_7 l D aC bs sz F (a0) (p2.1) p2.2  F _ _ h)

-- SwappedIntervalsModel.fits(II)I
abbrev rm_X9_fits : Room := { frames := 2, cells := 0, slots := 0, locals := 47 }
theorem me_X9_fits : x_Me yX9_fits cX9_fits 7 (some .int) 2 := ⟨by decide +kernel, w_co_yX9_fits, w_in_SwappedIntervalsModel, by decide +kernel, by decide +kernel, by decide +kernel⟩
def b_X9_fits_40 (F : Nat) (a0 : Nat) (a1 : Int32) (a2 : Int32) (a3 : Int32)  (k40 : (Int32 × Int32 × Int32 × XM) → Option (Int32 × XM)) (q : Int32 × Int32 × Int32 × XM) : Option (Int32 × XM) := if (40 : Int32) < q.2.2.1 then (x_gR q.2.2.2 a0 9 0).bind fun v9 => (x_w32 .int q.2.2.2 v9 ((12 : Int32) + a1) a3).bind fun m10 => if a2 = 0 then some (q.1, m10) else some (q.2.1, m10) else (x_gR q.2.2.2 a0 9 0).bind fun v12 => (x_w32 .int q.2.2.2 v12 ((12 : Int32) + a1) q.2.2.1).bind fun m13 => (x_ob m13 a0 9).bind fun u14 => (f_X9_isAllSeen F a0 m13).bind fun p15 => if p15.1 = 0 then k40 (q.1, q.2.1, (q.2.2.1 + (1 : Int32)), p15.2) else if q.1 = 0 then k40 ((q.1 + (1 : Int32)), q.2.2.1, (q.2.2.1 + (1 : Int32)), p15.2) else k40 ((q.1 + (1 : Int32)), q.2.1, (q.2.2.1 + (1 : Int32)), p15.2)
set_option maxHeartbeats 4000000 in
set_option maxRecDepth 100000 in
theorem lp_X9_fits_40 (l : Launch) (D : va_G) (aC : FieldType → ClassId) (bs : Nat) (sz : Nat) (F : Nat) (a0 : Nat) (a1 : Int32) (a2 : Int32) (a3 : Int32)   : ∀ (n : Nat) (b0 : Int32) (b1 : Int32) (b2 : Int32) (b3 : XM) (r : Int32 × XM), x_it (b_X9_fits_40 F a0 a1 a2 a3 ) n (b0, b1, b2, b3) = some r → x_V l D aC bs yX9_fits cX9_fits 7 (some .int) rm_X9_fits (x_Z D aC bs (some (.int r.1)) sz r.2 rm_X9_fits) 40 [(0, .ref a0), (1, .int a1), (2, .int a2), (3, .int a3), (4, .int b0), (5, .int b1), (6, .int b2)] [] sz b3 0 0 := by
  suffices H : ∀ (n : Nat) (q : Int32 × Int32 × Int32 × XM) (r : Int32 × XM), x_it (b_X9_fits_40 F a0 a1 a2 a3 ) n q = some r → x_V l D aC bs yX9_fits cX9_fits 7 (some .int) rm_X9_fits (x_Z D aC bs (some (.int r.1)) sz r.2 rm_X9_fits) 40 [(0, .ref a0), (1, .int a1), (2, .int a2), (3, .int a3), (4, .int q.1), (5, .int q.2.1), (6, .int q.2.2.1)] [] sz q.2.2.2 0 0 from fun n b0 b1 b2 b3 r h => H n (b0, b1, b2, b3) r h
  refine x_loop (P := fun (q : Int32 × Int32 × Int32 × XM) (r : Int32 × XM) => x_V l D aC bs yX9_fits cX9_fits 7 (some .int) rm_X9_fits (x_Z D aC bs (some (.int r.1)) sz r.2 rm_X9_fits) 40 [(0, .ref a0), (1, .int a1), (2, .int a2), (3, .int a3), (4, .int q.1), (5, .int q.2.1), (6, .int q.2.2.1)] [] sz q.2.2.2 0 0) (fun k40 hk0 q r h => ?_)
  have hk40 : ∀ (b0 : Int32) (b1 : Int32) (b2 : Int32) (b3 : XM) (r : Int32 × XM), k40 (b0, b1, b2, b3) = some r → x_V l D aC bs yX9_fits cX9_fits 7 (some .int) rm_X9_fits (x_Z D aC bs (some (.int r.1)) sz r.2 rm_X9_fits) 40 [(0, .ref a0), (1, .int a1), (2, .int a2), (3, .int a3), (4, .int b0), (5, .int b1), (6, .int b2)] [] sz b3 0 0 := fun b0 b1 b2 b3 r h => hk0 (b0, b1, b2, b3) r h
  unfold b_X9_fits_40 at h
  refine x_iload dX9_fits_40 6 rfl ?_
  refine x_bipush (v := (40 : Int32)) dX9_fits_42 (by decide) ?_
  refine x_icmp_gt 88 dX9_fits_44 (by decide) (fun c8 => ?_) (fun c8 => ?_)
  · have h := (if_pos c8).symm.trans h
    refine x_aload_n dX9_fits_88 0 rfl ?_
    obtain ⟨v9, ev9, h⟩ := x_bd h
    refine x_getR clX9 w_fl_RX9_11 (by decide) dX9_fits_89 ev9 ?_
    refine x_bipush (v := (12 : Int32)) dX9_fits_92 (by decide) ?_
    refine x_iload_n dX9_fits_94 1 rfl ?_
    refine x_iadd dX9_fits_95 ?_
    refine x_iload_n dX9_fits_96 3 rfl ?_
    obtain ⟨m10, em10, h⟩ := x_bd h
    refine x_iast dX9_fits_97 em10 ?_
    refine x_iload_n dX9_fits_98 2 rfl ?_
    refine x_if_ne 107 dX9_fits_99 (by decide) (fun c11 => ?_) (fun c11 => ?_)
    · have h := (if_neg c11).symm.trans h
      refine x_iload dX9_fits_107 5 rfl ?_
      obtain rfl := Option.some.inj h
      exact x_iret dX9_fits_109 (Nat.le_of_ble_eq_true rfl) (Nat.le_of_ble_eq_true rfl)
    have h := (if_pos c11).symm.trans h
    refine x_iload dX9_fits_102 4 rfl ?_
    refine x_goto 109 dX9_fits_104 (by decide) ?_
    obtain rfl := Option.some.inj h
    exact x_iret dX9_fits_109 (Nat.le_of_ble_eq_true rfl) (Nat.le_of_ble_eq_true rfl)
  have h := (if_neg c8).symm.trans h
  refine x_aload_n dX9_fits_47 0 rfl ?_
  obtain ⟨v12, ev12, h⟩ := x_bd h
  refine x_getR clX9 w_fl_RX9_11 (by decide) dX9_fits_48 ev12 ?_
  refine x_bipush (v := (12 : Int32)) dX9_fits_51 (by decide) ?_
  refine x_iload_n dX9_fits_53 1 rfl ?_
  refine x_iadd dX9_fits_54 ?_
  refine x_iload dX9_fits_55 6 rfl ?_
  obtain ⟨m13, em13, h⟩ := x_bd h
  refine x_iast dX9_fits_57 em13 ?_
  refine x_aload_n dX9_fits_58 0 rfl ?_
  obtain ⟨u14, eu14, h⟩ := x_bd h
  obtain ⟨p15, ep15, h⟩ := x_bd h
  refine x_callVI [] [] clX9 me_X9_isAllSeen w_ml_RX9_222 w_im_yX9_isAllSeen w_se_yX9_isAllSeen (Nat.le_of_ble_eq_true rfl) (Nat.le_of_ble_eq_true rfl) rfl (Nat.le_of_ble_eq_true rfl) (Nat.le_of_ble_eq_true rfl) (Nat.le_of_ble_eq_true rfl) dX9_fits_59 eu14 (c_X9_isAllSeen l D aC bs sz F ep15) rfl ?_
  refine x_if_eq 82 dX9_fits_62 (by decide) (fun c16 => ?_) (fun c16 => ?_)
  · have h := (if_pos c16).symm.trans h
    refine x_iinc (1 : Int32) 6 [(6, .int (q.2.2.1 + (1 : Int32))), (0, .ref a0), (1, .int a1), (2, .int a2), (3, .int a3), (4, .int q.1), (5, .int q.2.1)] dX9_fits_82 rfl (by decide) (by decide) rfl ?_
    refine x_goto 40 dX9_fits_85 (by decide) ?_
    exact x_sub [1, 2, 3, 4, 5, 6, 0] rfl (hk40 _ _ _ _ _ h)
  have h := (if_neg c16).symm.trans h
  refine x_iload dX9_fits_65 4 rfl ?_
  refine x_if_ne 75 dX9_fits_67 (by decide) (fun c17 => ?_) (fun c17 => ?_)
  · have h := (if_neg c17).symm.trans h
    refine x_iload dX9_fits_75 5 rfl ?_
    refine x_istore [(5, .int q.2.1), (0, .ref a0), (1, .int a1), (2, .int a2), (3, .int a3), (4, .int q.1), (6, .int q.2.2.1)] dX9_fits_77 (by decide) rfl ?_
    refine x_iinc (1 : Int32) 5 [(4, .int (q.1 + (1 : Int32))), (5, .int q.2.1), (0, .ref a0), (1, .int a1), (2, .int a2), (3, .int a3), (6, .int q.2.2.1)] dX9_fits_79 rfl (by decide) (by decide) rfl ?_
    refine x_iinc (1 : Int32) 6 [(6, .int (q.2.2.1 + (1 : Int32))), (4, .int (q.1 + (1 : Int32))), (5, .int q.2.1), (0, .ref a0), (1, .int a1), (2, .int a2), (3, .int a3)] dX9_fits_82 rfl (by decide) (by decide) rfl ?_
    refine x_goto 40 dX9_fits_85 (by decide) ?_
    exact x_sub [3, 4, 5, 6, 1, 2, 0] rfl (hk40 _ _ _ _ _ h)
  have h := (if_pos c17).symm.trans h
  refine x_iload dX9_fits_70 6 rfl ?_
  refine x_goto 77 dX9_fits_72 (by decide) ?_
  refine x_istore [(5, .int q.2.2.1), (0, .ref a0), (1, .int a1), (2, .int a2), (3, .int a3), (4, .int q.1), (6, .int q.2.2.1)] dX9_fits_77 (by decide) rfl ?_
  refine x_iinc (1 : Int32) 5 [(4, .int (q.1 + (1 : Int32))), (5, .int q.2.2.1), (0, .ref a0), (1, .int a1), (2, .int a2), (3, .int a3), (6, .int q.2.2.1)] dX9_fits_79 rfl (by decide) (by decide) rfl ?_
  refine x_iinc (1 : Int32) 6 [(6, .int (q.2.2.1 + (1 : Int32))), (4, .int (q.1 + (1 : Int32))), (5, .int q.2.2.1), (0, .ref a0), (1, .int a1), (2, .int a2), (3, .int a3)] dX9_fits_82 rfl (by decide) (by decide) rfl ?_
  refine x_goto 40 dX9_fits_85 (by decide) ?_
  exact x_sub [3, 4, 5, 6, 1, 2, 0] rfl (hk40 _ _ _ _ _ h)
def f_X9_fits (F : Nat) (a0 : Nat) (a1 : Int32) (a2 : Int32) (M : XM) : Option (Int32 × XM) := (x_ob M a0 9).bind fun u1 => (f_X9_isLetter a0 a1 M).bind fun p2 => if p2 = 0 then some ((-1 : Int32), M) else (f_X9_in a2.toInt64 (0 : Int64) (1 : Int64) M).bind fun p4 => if p4 = 0 then some ((-1 : Int32), M) else (x_gR M a0 9 0).bind fun v6 => (x_a32 .int M v6 ((12 : Int32) + a1)).bind fun v7 => x_it (b_X9_fits_40 F (a0) (a1) (a2) (v7)) F ((0 : Int32), (-5 : Int32), (1 : Int32), M)
set_option maxHeartbeats 4000000 in
set_option maxRecDepth 100000 in
theorem c_X9_fits (l : Launch) (D : va_G) (aC : FieldType → ClassId) (bs sz : Nat) (F : Nat) {a0 : Nat} {a1 : Int32} {a2 : Int32} {M : XM} {r : Int32 × XM} (h : f_X9_fits F a0 a1 a2 M = some r) : x_Cn l D aC bs yX9_fits cX9_fits 7 (some .int) rm_X9_fits [.ref a0, .int a1, .int a2] sz M (some (.int r.1)) sz r.2 := by
  unfold f_X9_fits at h
  refine x_enter2 [(0, .ref a0), (1, .int a1), (2, .int a2)] me_X9_fits (Nat.le_of_ble_eq_true rfl) rfl ?_
  refine x_aload_n dX9_fits_0 0 rfl ?_
  refine x_iload_n dX9_fits_1 1 rfl ?_
  obtain ⟨u1, eu1, h⟩ := x_bd h
  obtain ⟨p2, ep2, h⟩ := x_bd h
  refine x_callVI [.int a1] [] clX9 me_X9_isLetter w_ml_RX9_99 w_im_yX9_isLetter w_se_yX9_isLetter (Nat.le_of_ble_eq_true rfl) (Nat.le_of_ble_eq_true rfl) rfl (Nat.le_of_ble_eq_true rfl) (Nat.le_of_ble_eq_true rfl) (Nat.le_of_ble_eq_true rfl) dX9_fits_2 eu1 (c_X9_isLetter l D aC bs sz ep2) rfl ?_
  refine x_if_eq 18 dX9_fits_5 (by decide) (fun c3 => ?_) (fun c3 => ?_)
  · have h := (if_pos c3).symm.trans h
    refine x_iconst (v := (-1 : Int32)) dX9_fits_18 (by decide) ?_
    obtain rfl := Option.some.inj h
    exact x_iret dX9_fits_19 (Nat.le_of_ble_eq_true rfl) (Nat.le_of_ble_eq_true rfl)
  have h := (if_neg c3).symm.trans h
  refine x_iload_n dX9_fits_8 2 rfl ?_
  refine x_i2l dX9_fits_9 ?_
  refine x_lconst (v := (0 : Int64)) dX9_fits_10 (by decide) ?_
  refine x_lconst (v := (1 : Int64)) dX9_fits_11 (by decide) ?_
  obtain ⟨p4, ep4, h⟩ := x_bd h
  refine x_callSI [.long a2.toInt64, .long (0 : Int64), .long (1 : Int64)] [] me_X9_in w_ml_RX9_66 w_st_yX9_in (Nat.le_of_ble_eq_true rfl) (Nat.le_of_ble_eq_true rfl) rfl (Nat.le_of_ble_eq_true rfl) (Nat.le_of_ble_eq_true rfl) (Nat.le_of_ble_eq_true rfl) dX9_fits_12 (c_X9_in l D aC bs sz ep4) rfl ?_
  refine x_if_ne 20 dX9_fits_15 (by decide) (fun c5 => ?_) (fun c5 => ?_)
  · have h := (if_neg c5).symm.trans h
    refine x_aload_n dX9_fits_20 0 rfl ?_
    obtain ⟨v6, ev6, h⟩ := x_bd h
    refine x_getR clX9 w_fl_RX9_11 (by decide) dX9_fits_21 ev6 ?_
    refine x_bipush (v := (12 : Int32)) dX9_fits_24 (by decide) ?_
    refine x_iload_n dX9_fits_26 1 rfl ?_
    refine x_iadd dX9_fits_27 ?_
    obtain ⟨v7, ev7, h⟩ := x_bd h
    refine x_iald dX9_fits_28 ev7 ?_
    refine x_istore_n 3 [(3, .int v7), (0, .ref a0), (1, .int a1), (2, .int a2)] dX9_fits_29 rfl (by decide) rfl ?_
    refine x_iconst (v := (0 : Int32)) dX9_fits_30 (by decide) ?_
    refine x_istore [(4, .int (0 : Int32)), (3, .int v7), (0, .ref a0), (1, .int a1), (2, .int a2)] dX9_fits_31 (by decide) rfl ?_
    refine x_bipush (v := (-5 : Int32)) dX9_fits_33 (by decide) ?_
    refine x_istore [(5, .int (-5 : Int32)), (4, .int (0 : Int32)), (3, .int v7), (0, .ref a0), (1, .int a1), (2, .int a2)] dX9_fits_35 (by decide) rfl ?_
    refine x_iconst (v := (1 : Int32)) dX9_fits_37 (by decide) ?_
    refine x_istore [(6, .int (1 : Int32)), (5, .int (-5 : Int32)), (4, .int (0 : Int32)), (3, .int v7), (0, .ref a0), (1, .int a1), (2, .int a2)] dX9_fits_38 (by decide) rfl ?_
    exact x_sub [4, 5, 6, 3, 2, 1, 0] rfl (lp_X9_fits_40 l D aC bs sz F (a0) (a1) (a2) (v7)  F _ _ _ _ _ h)
  have h := (if_pos c5).symm.trans h
  refine x_iconst (v := (-1 : Int32)) dX9_fits_18 (by decide) ?_
  obtain rfl := Option.some.inj h
  exact x_iret dX9_fits_19 (Nat.le_of_ble_eq_true rfl) (Nat.le_of_ble_eq_true rfl)

-- SwappedIntervalsModel.told(JJI)J
abbrev rm_X9_told_ : Room := { frames := 0, cells := 0, slots := 0, locals := 0 }
theorem me_X9_told_ : x_Me yX9_told_ cX9_told_ 11 (some .long) 3 := ⟨by decide +kernel, w_co_yX9_told_, w_in_SwappedIntervalsModel, by decide +kernel, by decide +kernel, by decide +kernel⟩
def b_X9_told__6 (F : Nat) (a0 : Int64) (a2 : Int64) (a4 : Int32) (M : XM)  (k6 : (Int64 × Int64) → Option (Int64)) (q : Int64 × Int64) : Option (Int64) := if (lg_cmp q.2 (0 : Int64)) = 0 then if a4 = 0 then (x_n0L q.1).bind fun u4 => some (a0 / q.1) else (x_n0L q.1).bind fun u3 => some (a2 / q.1) else (x_n0L q.2).bind fun u5 => k6 (q.2, (q.1 - q.1 / q.2 * q.2))
set_option maxHeartbeats 4000000 in
set_option maxRecDepth 100000 in
theorem lp_X9_told__6 (l : Launch) (D : va_G) (aC : FieldType → ClassId) (bs : Nat) (sz : Nat) (F : Nat) (a0 : Int64) (a2 : Int64) (a4 : Int32) (M : XM)   : ∀ (n : Nat) (b0 : Int64) (b1 : Int64) (r : Int64), x_it (b_X9_told__6 F a0 a2 a4 M ) n (b0, b1) = some r → x_V l D aC bs yX9_told_ cX9_told_ 11 (some .long) rm_X9_told_ (x_Z D aC bs (some (.long r)) sz M rm_X9_told_) 6 [(0, .long a0), (2, .long a2), (4, .int a4), (5, .long b0), (7, .long b1)] [] sz M 0 0 := by
  suffices H : ∀ (n : Nat) (q : Int64 × Int64) (r : Int64), x_it (b_X9_told__6 F a0 a2 a4 M ) n q = some r → x_V l D aC bs yX9_told_ cX9_told_ 11 (some .long) rm_X9_told_ (x_Z D aC bs (some (.long r)) sz M rm_X9_told_) 6 [(0, .long a0), (2, .long a2), (4, .int a4), (5, .long q.1), (7, .long q.2)] [] sz M 0 0 from fun n b0 b1 r h => H n (b0, b1) r h
  refine x_loop (P := fun (q : Int64 × Int64) (r : Int64) => x_V l D aC bs yX9_told_ cX9_told_ 11 (some .long) rm_X9_told_ (x_Z D aC bs (some (.long r)) sz M rm_X9_told_) 6 [(0, .long a0), (2, .long a2), (4, .int a4), (5, .long q.1), (7, .long q.2)] [] sz M 0 0) (fun k6 hk0 q r h => ?_)
  have hk6 : ∀ (b0 : Int64) (b1 : Int64) (r : Int64), k6 (b0, b1) = some r → x_V l D aC bs yX9_told_ cX9_told_ 11 (some .long) rm_X9_told_ (x_Z D aC bs (some (.long r)) sz M rm_X9_told_) 6 [(0, .long a0), (2, .long a2), (4, .int a4), (5, .long b0), (7, .long b1)] [] sz M 0 0 := fun b0 b1 r h => hk0 (b0, b1) r h
  unfold b_X9_told__6 at h
  refine x_lload dX9_told__6 4 rfl ?_
  refine x_lconst (v := (0 : Int64)) dX9_told__8 (by decide) ?_
  refine x_lcmp dX9_told__9 ?_
  refine x_if_eq 31 dX9_told__10 (by decide) (fun c1 => ?_) (fun c1 => ?_)
  · have h := (if_pos c1).symm.trans h
    refine x_iload dX9_told__31 2 rfl ?_
    refine x_if_ne 43 dX9_told__33 (by decide) (fun c2 => ?_) (fun c2 => ?_)
    · have h := (if_neg c2).symm.trans h
      refine x_lload_n dX9_told__43 1 rfl ?_
      refine x_lload dX9_told__44 3 rfl ?_
      obtain ⟨u3, eu3, h⟩ := x_bd h
      refine x_ldiv dX9_told__46 (x_n0L_sp eu3) ?_
      obtain rfl := Option.some.inj h
      exact x_lret dX9_told__47 (Nat.le_of_ble_eq_true rfl) (Nat.le_of_ble_eq_true rfl)
    have h := (if_pos c2).symm.trans h
    refine x_lload_n dX9_told__36 0 rfl ?_
    refine x_lload dX9_told__37 3 rfl ?_
    obtain ⟨u4, eu4, h⟩ := x_bd h
    refine x_ldiv dX9_told__39 (x_n0L_sp eu4) ?_
    refine x_goto 47 dX9_told__40 (by decide) ?_
    obtain rfl := Option.some.inj h
    exact x_lret dX9_told__47 (Nat.le_of_ble_eq_true rfl) (Nat.le_of_ble_eq_true rfl)
  have h := (if_neg c1).symm.trans h
  refine x_lload dX9_told__13 3 rfl ?_
  refine x_lload dX9_told__15 4 rfl ?_
  obtain ⟨u5, eu5, h⟩ := x_bd h
  refine x_lrem dX9_told__17 (x_n0L_sp eu5) ?_
  refine x_lstore [(9, .long (q.1 - q.1 / q.2 * q.2)), (0, .long a0), (2, .long a2), (4, .int a4), (5, .long q.1), (7, .long q.2)] dX9_told__18 (by decide) rfl ?_
  refine x_lload dX9_told__20 5 rfl ?_
  refine x_lstore [(5, .long q.2), (9, .long (q.1 - q.1 / q.2 * q.2)), (0, .long a0), (2, .long a2), (4, .int a4), (7, .long q.2)] dX9_told__22 (by decide) rfl ?_
  refine x_lload dX9_told__24 1 rfl ?_
  refine x_lstore [(7, .long (q.1 - q.1 / q.2 * q.2)), (5, .long q.2), (9, .long (q.1 - q.1 / q.2 * q.2)), (0, .long a0), (2, .long a2), (4, .int a4)] dX9_told__26 (by decide) rfl ?_
  refine x_goto 6 dX9_told__28 (by decide) ?_
  exact x_sub [3, 4, 5, 1, 0] rfl (hk6 _ _ _ h)
def f_X9_told_ (F : Nat) (a0 : Int64) (a2 : Int64) (a4 : Int32) (M : XM) : Option (Int64) := x_it (b_X9_told__6 F (a0) (a2) (a4) M) F (a0, a2)
set_option maxHeartbeats 4000000 in
set_option maxRecDepth 100000 in
theorem c_X9_told_ (l : Launch) (D : va_G) (aC : FieldType → ClassId) (bs sz : Nat) (F : Nat) {a0 : Int64} {a2 : Int64} {a4 : Int32} {M : XM} {r : Int64} (h : f_X9_told_ F a0 a2 a4 M = some r) : x_Cn l D aC bs yX9_told_ cX9_told_ 11 (some .long) rm_X9_told_ [.long a0, .long a2, .int a4] sz M (some (.long r)) sz M := by
  unfold f_X9_told_ at h
  refine x_enter2 [(0, .long a0), (2, .long a2), (4, .int a4)] me_X9_told_ (Nat.le_of_ble_eq_true rfl) rfl ?_
  refine x_lload_n dX9_told__0 0 rfl ?_
  refine x_lstore [(5, .long a0), (0, .long a0), (2, .long a2), (4, .int a4)] dX9_told__1 (by decide) rfl ?_
  refine x_lload_n dX9_told__3 2 rfl ?_
  refine x_lstore [(7, .long a2), (5, .long a0), (0, .long a0), (2, .long a2), (4, .int a4)] dX9_told__4 (by decide) rfl ?_
  exact x_sub [2, 3, 4, 1, 0] rfl (lp_X9_told__6 l D aC bs sz F (a0) (a2) (a4) M  F _ _ _ h)

-- SwappedIntervalsModel.odds(I)J
abbrev rm_X9_odds : Room := { frames := 1, cells := 0, slots := 0, locals := 30 }
theorem me_X9_odds : x_Me yX9_odds cX9_odds 5 (some .long) 1 := ⟨by decide +kernel, w_co_yX9_odds, w_in_SwappedIntervalsModel, by decide +kernel, by decide +kernel, by decide +kernel⟩
def j_X9_odds_48 (F : Nat) (a0 : Nat) (a1 : Int32) (a2 : Int32) (a4 : Int32) (s0 : Int32) (s1 : Int32) (M : XM) (k24 : (Int32 × Int32) → Option (Int64 × XM)) : Option (Int64 × XM) := (f_X9_bit s0 M).bind fun p10 => k24 ((s1 + p10), (a4 + (1 : Int32)))
set_option maxHeartbeats 4000000 in
set_option maxRecDepth 100000 in
theorem jp_X9_odds_48 (l : Launch) (D : va_G) (aC : FieldType → ClassId) (bs : Nat) (sz : Nat) (F : Nat) (a0 : Nat) (a1 : Int32) (a2 : Int32) (a4 : Int32) (s0 : Int32) (s1 : Int32) (M : XM) (k24 : (Int32 × Int32) → Option (Int64 × XM)) (hk24 : ∀ (b0 : Int32) (b1 : Int32) (r : Int64 × XM), k24 (b0, b1) = some r → x_V l D aC bs yX9_odds cX9_odds 5 (some .long) rm_X9_odds (x_Z D aC bs (some (.long r.1)) sz r.2 rm_X9_odds) 24 [(0, .ref a0), (1, .int a1), (2, .int a2), (3, .int b0), (4, .int b1)] [] sz M 0 0) {r : Int64 × XM} (h : j_X9_odds_48 F a0 a1 a2 a4 s0 s1 M k24 = some r) : x_V l D aC bs yX9_odds cX9_odds 5 (some .long) rm_X9_odds (x_Z D aC bs (some (.long r.1)) sz r.2 rm_X9_odds) 48 [(0, .ref a0), (1, .int a1), (2, .int a2), (4, .int a4)] [.int s0, .int s1] sz M 0 0 := by
  unfold j_X9_odds_48 at h
  obtain ⟨p10, ep10, h⟩ := x_bd h
  refine x_callSI [.int s0] [.int s1] me_X9_bit w_ml_RX9_181 w_st_yX9_bit (Nat.le_of_ble_eq_true rfl) (Nat.le_of_ble_eq_true rfl) rfl (Nat.le_of_ble_eq_true rfl) (Nat.le_of_ble_eq_true rfl) (Nat.le_of_ble_eq_true rfl) dX9_odds_48 (c_X9_bit l D aC bs sz ep10) rfl ?_
  refine x_iadd dX9_odds_51 ?_
  refine x_istore_n 3 [(3, .int (s1 + p10)), (0, .ref a0), (1, .int a1), (2, .int a2), (4, .int a4)] dX9_odds_52 rfl (by decide) rfl ?_
  refine x_iinc (1 : Int32) 4 [(4, .int (a4 + (1 : Int32))), (3, .int (s1 + p10)), (0, .ref a0), (1, .int a1), (2, .int a2)] dX9_odds_53 rfl (by decide) (by decide) rfl ?_
  refine x_goto 24 dX9_odds_56 (by decide) ?_
  exact x_sub [2, 3, 4, 1, 0] rfl (hk24 _ _ _ h)
def b_X9_odds_24 (F : Nat) (a0 : Nat) (a1 : Int32) (a2 : Int32) (M : XM)  (k24 : (Int32 × Int32) → Option (Int64 × XM)) (q : Int32 × Int32) : Option (Int64 × XM) := if a2 ≤ q.2 then (f_X9_told_ F q.1.toInt64 a2.toInt64 a1 M).bind fun p6 => some (p6, M) else (x_gR M a0 9 11).bind fun v7 => (x_a32 .int M v7 q.2).bind fun v8 => if q.2 ≤ v8 then j_X9_odds_48 F (a0) (a1) (a2) (q.2) (0 : Int32) (q.1) M k24 else j_X9_odds_48 F (a0) (a1) (a2) (q.2) (1 : Int32) (q.1) M k24
set_option maxHeartbeats 4000000 in
set_option maxRecDepth 100000 in
theorem lp_X9_odds_24 (l : Launch) (D : va_G) (aC : FieldType → ClassId) (bs : Nat) (sz : Nat) (F : Nat) (a0 : Nat) (a1 : Int32) (a2 : Int32) (M : XM)   : ∀ (n : Nat) (b0 : Int32) (b1 : Int32) (r : Int64 × XM), x_it (b_X9_odds_24 F a0 a1 a2 M ) n (b0, b1) = some r → x_V l D aC bs yX9_odds cX9_odds 5 (some .long) rm_X9_odds (x_Z D aC bs (some (.long r.1)) sz r.2 rm_X9_odds) 24 [(0, .ref a0), (1, .int a1), (2, .int a2), (3, .int b0), (4, .int b1)] [] sz M 0 0 := by
  suffices H : ∀ (n : Nat) (q : Int32 × Int32) (r : Int64 × XM), x_it (b_X9_odds_24 F a0 a1 a2 M ) n q = some r → x_V l D aC bs yX9_odds cX9_odds 5 (some .long) rm_X9_odds (x_Z D aC bs (some (.long r.1)) sz r.2 rm_X9_odds) 24 [(0, .ref a0), (1, .int a1), (2, .int a2), (3, .int q.1), (4, .int q.2)] [] sz M 0 0 from fun n b0 b1 r h => H n (b0, b1) r h
  refine x_loop (P := fun (q : Int32 × Int32) (r : Int64 × XM) => x_V l D aC bs yX9_odds cX9_odds 5 (some .long) rm_X9_odds (x_Z D aC bs (some (.long r.1)) sz r.2 rm_X9_odds) 24 [(0, .ref a0), (1, .int a1), (2, .int a2), (3, .int q.1), (4, .int q.2)] [] sz M 0 0) (fun k24 hk0 q r h => ?_)
  have hk24 : ∀ (b0 : Int32) (b1 : Int32) (r : Int64 × XM), k24 (b0, b1) = some r → x_V l D aC bs yX9_odds cX9_odds 5 (some .long) rm_X9_odds (x_Z D aC bs (some (.long r.1)) sz r.2 rm_X9_odds) 24 [(0, .ref a0), (1, .int a1), (2, .int a2), (3, .int b0), (4, .int b1)] [] sz M 0 0 := fun b0 b1 r h => hk0 (b0, b1) r h
  unfold b_X9_odds_24 at h
  refine x_iload dX9_odds_24 4 rfl ?_
  refine x_iload_n dX9_odds_26 2 rfl ?_
  refine x_icmp_ge 59 dX9_odds_27 (by decide) (fun c5 => ?_) (fun c5 => ?_)
  · have h := (if_pos c5).symm.trans h
    refine x_iload_n dX9_odds_59 3 rfl ?_
    refine x_i2l dX9_odds_60 ?_
    refine x_iload_n dX9_odds_61 2 rfl ?_
    refine x_i2l dX9_odds_62 ?_
    refine x_iload_n dX9_odds_63 1 rfl ?_
    obtain ⟨p6, ep6, h⟩ := x_bd h
    refine x_callSJ [.long q.1.toInt64, .long a2.toInt64, .int a1] [] me_X9_told_ w_ml_RX9_227 w_st_yX9_told_ (Nat.le_of_ble_eq_true rfl) (Nat.le_of_ble_eq_true rfl) rfl (Nat.le_of_ble_eq_true rfl) (Nat.le_of_ble_eq_true rfl) (Nat.le_of_ble_eq_true rfl) dX9_odds_64 (c_X9_told_ l D aC bs sz F ep6) rfl ?_
    obtain rfl := Option.some.inj h
    exact x_lret dX9_odds_67 (Nat.le_of_ble_eq_true rfl) (Nat.le_of_ble_eq_true rfl)
  have h := (if_neg c5).symm.trans h
  refine x_iload_n dX9_odds_30 3 rfl ?_
  refine x_aload_n dX9_odds_31 0 rfl ?_
  obtain ⟨v7, ev7, h⟩ := x_bd h
  refine x_getR clX9 w_fl_RX9_30 (by decide) dX9_odds_32 ev7 ?_
  refine x_iload dX9_odds_35 4 rfl ?_
  obtain ⟨v8, ev8, h⟩ := x_bd h
  refine x_iald dX9_odds_37 ev8 ?_
  refine x_iload dX9_odds_38 4 rfl ?_
  refine x_icmp_ge 47 dX9_odds_40 (by decide) (fun c9 => ?_) (fun c9 => ?_)
  · have h := (if_pos c9).symm.trans h
    refine x_iconst (v := (0 : Int32)) dX9_odds_47 (by decide) ?_
    exact x_sub [0, 1, 2, 4] rfl (jp_X9_odds_48 l D aC bs sz F (a0) (a1) (a2) (q.2) (0 : Int32) (q.1) M k24 hk24 h)
  have h := (if_neg c9).symm.trans h
  refine x_iconst (v := (1 : Int32)) dX9_odds_43 (by decide) ?_
  refine x_goto 48 dX9_odds_44 (by decide) ?_
  exact x_sub [0, 1, 2, 4] rfl (jp_X9_odds_48 l D aC bs sz F (a0) (a1) (a2) (q.2) (1 : Int32) (q.1) M k24 hk24 h)
def f_X9_odds (F : Nat) (a0 : Nat) (a1 : Int32) (M : XM) : Option (Int64 × XM) := (f_X9_in a1.toInt64 (0 : Int64) (1 : Int64) M).bind fun p1 => if p1 = 0 then some ((-9223372036854775808 : Int64), M) else (x_ob M a0 9).bind fun u3 => (f_X9_findsPoints F a0 M).bind fun p4 => x_it (b_X9_odds_24 F (a0) (a1) (p4.1) p4.2) F ((0 : Int32), (0 : Int32))
set_option maxHeartbeats 4000000 in
set_option maxRecDepth 100000 in
theorem c_X9_odds (l : Launch) (D : va_G) (aC : FieldType → ClassId) (bs sz : Nat) (F : Nat) {a0 : Nat} {a1 : Int32} {M : XM} {r : Int64 × XM} (h : f_X9_odds F a0 a1 M = some r) : x_Cn l D aC bs yX9_odds cX9_odds 5 (some .long) rm_X9_odds [.ref a0, .int a1] sz M (some (.long r.1)) sz r.2 := by
  unfold f_X9_odds at h
  refine x_enter2 [(0, .ref a0), (1, .int a1)] me_X9_odds (Nat.le_of_ble_eq_true rfl) rfl ?_
  refine x_iload_n dX9_odds_0 1 rfl ?_
  refine x_i2l dX9_odds_1 ?_
  refine x_lconst (v := (0 : Int64)) dX9_odds_2 (by decide) ?_
  refine x_lconst (v := (1 : Int64)) dX9_odds_3 (by decide) ?_
  obtain ⟨p1, ep1, h⟩ := x_bd h
  refine x_callSI [.long a1.toInt64, .long (0 : Int64), .long (1 : Int64)] [] me_X9_in w_ml_RX9_66 w_st_yX9_in (Nat.le_of_ble_eq_true rfl) (Nat.le_of_ble_eq_true rfl) rfl (Nat.le_of_ble_eq_true rfl) (Nat.le_of_ble_eq_true rfl) (Nat.le_of_ble_eq_true rfl) dX9_odds_4 (c_X9_in l D aC bs sz ep1) rfl ?_
  refine x_if_ne 14 dX9_odds_7 (by decide) (fun c2 => ?_) (fun c2 => ?_)
  · have h := (if_neg c2).symm.trans h
    refine x_aload_n dX9_odds_14 0 rfl ?_
    obtain ⟨u3, eu3, h⟩ := x_bd h
    obtain ⟨p4, ep4, h⟩ := x_bd h
    refine x_callVI [] [] clX9 me_X9_findsPoints w_ml_RX9_188 w_im_yX9_findsPoints w_se_yX9_findsPoints (Nat.le_of_ble_eq_true rfl) (Nat.le_of_ble_eq_true rfl) rfl (Nat.le_of_ble_eq_true rfl) (Nat.le_of_ble_eq_true rfl) (Nat.le_of_ble_eq_true rfl) dX9_odds_15 eu3 (c_X9_findsPoints l D aC bs sz F ep4) rfl ?_
    refine x_istore_n 2 [(2, .int p4.1), (0, .ref a0), (1, .int a1)] dX9_odds_18 rfl (by decide) rfl ?_
    refine x_iconst (v := (0 : Int32)) dX9_odds_19 (by decide) ?_
    refine x_istore_n 3 [(3, .int (0 : Int32)), (2, .int p4.1), (0, .ref a0), (1, .int a1)] dX9_odds_20 rfl (by decide) rfl ?_
    refine x_iconst (v := (0 : Int32)) dX9_odds_21 (by decide) ?_
    refine x_istore [(4, .int (0 : Int32)), (3, .int (0 : Int32)), (2, .int p4.1), (0, .ref a0), (1, .int a1)] dX9_odds_22 (by decide) rfl ?_
    exact x_sub [3, 4, 2, 1, 0] rfl (lp_X9_odds_24 l D aC bs sz F (a0) (a1) (p4.1) p4.2  F _ _ _ h)
  have h := (if_pos c2).symm.trans h
  refine x_ldc2 (v := (-9223372036854775808 : Int64)) dX9_odds_10 w_cn_RX9_225 ?_
  obtain rfl := Option.some.inj h
  exact x_lret dX9_odds_13 (Nat.le_of_ble_eq_true rfl) (Nat.le_of_ble_eq_true rfl)
