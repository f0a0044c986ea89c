-- SwappedIntervalsModel.isWhole()Z
abbrev rm_X9_isWhole : Room := { frames := 0, cells := 0, slots := 0, locals := 0 }
theorem me_X9_isWhole : x_Me yX9_isWhole cX9_isWhole 4 (some .boolean) 0 := ⟨by decide +kernel, w_co_yX9_isWhole, w_in_SwappedIntervalsModel, by decide +kernel, by decide +kernel, by decide +kernel⟩
def b_X9_isWhole_6 (F : Nat) (a0 : Nat) (M : XM)  (k6 : (Int32 × Int32 × Int32) → Option (Int32)) (q : Int32 × Int32 × Int32) : Option (Int32) := (x_gR M a0 9 0).bind fun v1 => (x_a32 .int M v1 (0 : Int32)).bind fun v2 => if v2 ≤ (q.2.2 + (1 : Int32)) then some (1 : Int32) else (x_gR M a0 9 0).bind fun v4 => (x_a32 .int M v4 ((2 : Int32) + q.2.2)).bind fun v5 => (x_gR M a0 9 0).bind fun v6 => (x_a32 .int M v6 ((7 : Int32) + q.2.2)).bind fun v7 => if (q.1 ||| ((1 : Int32) <<< (v5 &&& 31))) = (q.2.1 ||| ((1 : Int32) <<< (v7 &&& 31))) then some (0 : Int32) else k6 ((q.1 ||| ((1 : Int32) <<< (v5 &&& 31))), (q.2.1 ||| ((1 : Int32) <<< (v7 &&& 31))), (q.2.2 + (1 : Int32)))
set_option maxHeartbeats 4000000 in
set_option maxRecDepth 100000 in
theorem lp_X9_isWhole_6 (l : Launch) (D : va_G) (aC : FieldType → ClassId) (bs : Nat) (sz : Nat) (F : Nat) (a0 : Nat) (M : XM)   : ∀ (n : Nat) (b0 : Int32) (b1 : Int32) (b2 : Int32) (r : Int32), x_it (b_X9_isWhole_6 F a0 M ) n (b0, b1, b2) = some r → x_V l D aC bs yX9_isWhole cX9_isWhole 4 (some .boolean) rm_X9_isWhole (x_Z D aC bs (some (.int r)) sz M rm_X9_isWhole) 6 [(0, .ref a0), (1, .int b0), (2, .int b1), (3, .int b2)] [] sz M 0 0 := by
  suffices H : ∀ (n : Nat) (q : Int32 × Int32 × Int32) (r : Int32), x_it (b_X9_isWhole_6 F a0 M ) n q = some r → x_V l D aC bs yX9_isWhole cX9_isWhole 4 (some .boolean) rm_X9_isWhole (x_Z D aC bs (some (.int r)) sz M rm_X9_isWhole) 6 [(0, .ref a0), (1, .int q.1), (2, .int q.2.1), (3, .int q.2.2)] [] sz M 0 0 from fun n b0 b1 b2 r h => H n (b0, b1, b2) r h
  refine x_loop (P := fun (q : Int32 × Int32 × Int32) (r : Int32) => x_V l D aC bs yX9_isWhole cX9_isWhole 4 (some .boolean) rm_X9_isWhole (x_Z D aC bs (some (.int r)) sz M rm_X9_isWhole) 6 [(0, .ref a0), (1, .int q.1), (2, .int q.2.1), (3, .int q.2.2)] [] sz M 0 0) (fun k6 hk0 q r h => ?_)
  have hk6 : ∀ (b0 : Int32) (b1 : Int32) (b2 : Int32) (r : Int32), k6 (b0, b1, b2) = some r → x_V l D aC bs yX9_isWhole cX9_isWhole 4 (some .boolean) rm_X9_isWhole (x_Z D aC bs (some (.int r)) sz M rm_X9_isWhole) 6 [(0, .ref a0), (1, .int b0), (2, .int b1), (3, .int b2)] [] sz M 0 0 := fun b0 b1 b2 r h => hk0 (b0, b1, b2) r h
  unfold b_X9_isWhole_6 at h
  refine x_iload_n dX9_isWhole_6 3 rfl ?_
  refine x_iconst (v := (1 : Int32)) dX9_isWhole_7 (by decide) ?_
  refine x_iadd dX9_isWhole_8 ?_
  refine x_aload_n dX9_isWhole_9 0 rfl ?_
  obtain ⟨v1, ev1, h⟩ := x_bd h
  refine x_getR clX9 w_fl_RX9_11 (by decide) dX9_isWhole_10 ev1 ?_
  refine x_iconst (v := (0 : Int32)) dX9_isWhole_13 (by decide) ?_
  obtain ⟨v2, ev2, h⟩ := x_bd h
  refine x_iald dX9_isWhole_14 ev2 ?_
  refine x_icmp_ge 58 dX9_isWhole_15 (by decide) (fun c3 => ?_) (fun c3 => ?_)
  · have h := (if_pos c3).symm.trans h
    refine x_iconst (v := (1 : Int32)) dX9_isWhole_58 (by decide) ?_
    obtain rfl := Option.some.inj h
    exact x_zret dX9_isWhole_59 (Or.inr rfl) (Nat.le_of_ble_eq_true rfl) (Nat.le_of_ble_eq_true rfl)
  have h := (if_neg c3).symm.trans h
  refine x_iload_n dX9_isWhole_18 1 rfl ?_
  refine x_iconst (v := (1 : Int32)) dX9_isWhole_19 (by decide) ?_
  refine x_aload_n dX9_isWhole_20 0 rfl ?_
  obtain ⟨v4, ev4, h⟩ := x_bd h
  refine x_getR clX9 w_fl_RX9_11 (by decide) dX9_isWhole_21 ev4 ?_
  refine x_iconst (v := (2 : Int32)) dX9_isWhole_24 (by decide) ?_
  refine x_iload_n dX9_isWhole_25 3 rfl ?_
  refine x_iadd dX9_isWhole_26 ?_
  obtain ⟨v5, ev5, h⟩ := x_bd h
  refine x_iald dX9_isWhole_27 ev5 ?_
  refine x_ishl dX9_isWhole_28 ?_
  refine x_ior dX9_isWhole_29 ?_
  refine x_istore_n 1 [(1, .int (q.1 ||| ((1 : Int32) <<< (v5 &&& 31)))), (0, .ref a0), (2, .int q.2.1), (3, .int q.2.2)] dX9_isWhole_30 rfl (by decide) rfl ?_
  refine x_iload_n dX9_isWhole_31 2 rfl ?_
  refine x_iconst (v := (1 : Int32)) dX9_isWhole_32 (by decide) ?_
  refine x_aload_n dX9_isWhole_33 1 rfl ?_
  obtain ⟨v6, ev6, h⟩ := x_bd h
  refine x_getR clX9 w_fl_RX9_11 (by decide) dX9_isWhole_34 ev6 ?_
  refine x_bipush (v := (7 : Int32)) dX9_isWhole_37 (by decide) ?_
  refine x_iload_n dX9_isWhole_39 3 rfl ?_
  refine x_iadd dX9_isWhole_40 ?_
  obtain ⟨v7, ev7, h⟩ := x_bd h
  refine x_iald dX9_isWhole_41 ev7 ?_
  refine x_ishl dX9_isWhole_42 ?_
  refine x_ior dX9_isWhole_43 ?_
  refine x_istore_n 2 [(2, .int (q.2.1 ||| ((1 : Int32) <<< (v7 &&& 31)))), (1, .int (q.1 ||| ((1 : Int32) <<< (v5 &&& 31)))), (0, .ref a0), (3, .int q.2.2)] dX9_isWhole_44 rfl (by decide) rfl ?_
  refine x_iload_n dX9_isWhole_45 1 rfl ?_
  refine x_iload_n dX9_isWhole_46 0 rfl ?_
  refine x_icmp_ne 52 dX9_isWhole_47 (by decide) (fun c8 => ?_) (fun c8 => ?_)
  · have h := (if_neg c8).symm.trans h
    refine x_iinc (1 : Int32) 3 [(3, .int (q.2.2 + (1 : Int32))), (2, .int (q.2.1 ||| ((1 : Int32) <<< (v7 &&& 31)))), (1, .int (q.1 ||| ((1 : Int32) <<< (v5 &&& 31)))), (0, .ref a0)] dX9_isWhole_52 rfl (by decide) (by decide) rfl ?_
    refine x_goto 6 dX9_isWhole_55 (by decide) ?_
    exact x_sub [3, 2, 1, 0] rfl (hk6 _ _ _ _ h)
  have h := (if_pos c8).symm.trans h
  refine x_iconst (v := (0 : Int32)) dX9_isWhole_50 (by decide) ?_
  obtain rfl := Option.some.inj h
  exact x_zret dX9_isWhole_51 (Or.inl rfl) (Nat.le_of_ble_eq_true rfl) (Nat.le_of_ble_eq_true rfl)
def f_X9_isWhole (F : Nat) (a0 : Nat) (M : XM) : Option (Int32) := x_it (b_X9_isWhole_6 F (a0) M) F ((0 : Int32), (0 : Int32), (0 : Int32))
set_option maxHeartbeats 4000000 in
set_option maxRecDepth 100000 in
theorem c_X9_isWhole (l : Launch) (D : va_G) (aC : FieldType → ClassId) (bs sz : Nat) (F : Nat) {a0 : Nat} {M : XM} {r : Int32} (h : f_X9_isWhole F a0 M = some r) : x_Cn l D aC bs yX9_isWhole cX9_isWhole 4 (some .boolean) rm_X9_isWhole [.ref a0] sz M (some (.int r)) sz M := by
  unfold f_X9_isWhole at h
  refine x_enter2 [(0, .ref a0)] me_X9_isWhole (Nat.le_of_ble_eq_true rfl) rfl ?_
  refine x_iconst (v := (0 : Int32)) dX9_isWhole_0 (by decide) ?_
  refine x_istore_n 1 [(1, .int (0 : Int32)), (0, .ref a0)] dX9_isWhole_1 rfl (by decide) rfl ?_
  refine x_iconst (v := (0 : Int32)) dX9_isWhole_2 (by decide) ?_
  refine x_istore_n 2 [(2, .int (0 : Int32)), (1, .int (0 : Int32)), (0, .ref a0)] dX9_isWhole_3 rfl (by decide) rfl ?_
  refine x_iconst (v := (0 : Int32)) dX9_isWhole_4 (by decide) ?_
  refine x_istore_n 3 [(3, .int (0 : Int32)), (2, .int (0 : Int32)), (1, .int (0 : Int32)), (0, .ref a0)] dX9_isWhole_5 rfl (by decide) rfl ?_
  exact x_sub [3, 2, 1, 0] rfl (lp_X9_isWhole_6 l D aC bs sz F (a0) M  F _ _ _ _ h)

-- SwappedIntervalsModel.kindNow()I
abbrev rm_X9_kindNow : Room := { frames := 1, cells := 0, slots := 0, locals := 21 }
theorem me_X9_kindNow : x_Me yX9_kindNow cX9_kindNow 4 (some .int) 0 := ⟨by decide +kernel, w_co_yX9_kindNow, w_in_SwappedIntervalsModel, by decide +kernel, by decide +kernel, by decide +kernel⟩
def f_X9_kindNow (a0 : Nat) (M : XM) : Option (Int32) := (x_ob M a0 9).bind fun u1 => (f_X9_lastIn a0 (2 : Int32) M).bind fun p2 => (x_ob M a0 9).bind fun u3 => (f_X9_lastIn a0 (7 : Int32) M).bind fun p4 => (x_gR M a0 9 0).bind fun v5 => (x_a32 .int M v5 ((12 : Int32) + p2)).bind fun v6 => (x_gR M a0 9 0).bind fun v7 => (x_a32 .int M v7 ((12 : Int32) + p4)).bind fun v8 => if (v6 - v8) = 0 then some (-1 : Int32) else if (v6 - v8) ≤ 0 then some (1 : Int32) else some (0 : Int32)
set_option maxHeartbeats 4000000 in
set_option maxRecDepth 100000 in
theorem c_X9_kindNow (l : Launch) (D : va_G) (aC : FieldType → ClassId) (bs sz : Nat) {a0 : Nat} {M : XM} {r : Int32} (h : f_X9_kindNow a0 M = some r) : x_Cn l D aC bs yX9_kindNow cX9_kindNow 4 (some .int) rm_X9_kindNow [.ref a0] sz M (some (.int r)) sz M := by
  unfold f_X9_kindNow at h
  refine x_enter2 [(0, .ref a0)] me_X9_kindNow (Nat.le_of_ble_eq_true rfl) rfl ?_
  refine x_aload_n dX9_kindNow_0 0 rfl ?_
  refine x_iconst (v := (2 : Int32)) dX9_kindNow_1 (by decide) ?_
  obtain ⟨u1, eu1, h⟩ := x_bd h
  obtain ⟨p2, ep2, h⟩ := x_bd h
  refine x_callVI [.int (2 : Int32)] [] clX9 me_X9_lastIn w_ml_RX9_74 w_im_yX9_lastIn w_se_yX9_lastIn (Nat.le_of_ble_eq_true rfl) (Nat.le_of_ble_eq_true rfl) rfl (Nat.le_of_ble_eq_true rfl) (Nat.le_of_ble_eq_true rfl) (Nat.le_of_ble_eq_true rfl) dX9_kindNow_2 eu1 (c_X9_lastIn l D aC bs sz ep2) rfl ?_
  refine x_istore_n 1 [(1, .int p2), (0, .ref a0)] dX9_kindNow_5 rfl (by decide) rfl ?_
  refine x_aload_n dX9_kindNow_6 1 rfl ?_
  refine x_bipush (v := (7 : Int32)) dX9_kindNow_7 (by decide) ?_
  obtain ⟨u3, eu3, h⟩ := x_bd h
  obtain ⟨p4, ep4, h⟩ := x_bd h
  refine x_callVI [.int (7 : Int32)] [] clX9 me_X9_lastIn w_ml_RX9_74 w_im_yX9_lastIn w_se_yX9_lastIn (Nat.le_of_ble_eq_true rfl) (Nat.le_of_ble_eq_true rfl) rfl (Nat.le_of_ble_eq_true rfl) (Nat.le_of_ble_eq_true rfl) (Nat.le_of_ble_eq_true rfl) dX9_kindNow_9 eu3 (c_X9_lastIn l D aC bs sz ep4) rfl ?_
  refine x_istore_n 2 [(2, .int p4), (1, .int p2), (0, .ref a0)] dX9_kindNow_12 rfl (by decide) rfl ?_
  refine x_aload_n dX9_kindNow_13 2 rfl ?_
  obtain ⟨v5, ev5, h⟩ := x_bd h
  refine x_getR clX9 w_fl_RX9_11 (by decide) dX9_kindNow_14 ev5 ?_
  refine x_bipush (v := (12 : Int32)) dX9_kindNow_17 (by decide) ?_
  refine x_iload_n dX9_kindNow_19 1 rfl ?_
  refine x_iadd dX9_kindNow_20 ?_
  obtain ⟨v6, ev6, h⟩ := x_bd h
  refine x_iald dX9_kindNow_21 ev6 ?_
  refine x_aload_n dX9_kindNow_22 2 rfl ?_
  obtain ⟨v7, ev7, h⟩ := x_bd h
  refine x_getR clX9 w_fl_RX9_11 (by decide) dX9_kindNow_23 ev7 ?_
  refine x_bipush (v := (12 : Int32)) dX9_kindNow_26 (by decide) ?_
  refine x_iload_n dX9_kindNow_28 0 rfl ?_
  refine x_iadd dX9_kindNow_29 ?_
  obtain ⟨v8, ev8, h⟩ := x_bd h
  refine x_iald dX9_kindNow_30 ev8 ?_
  refine x_isub dX9_kindNow_31 ?_
  refine x_istore_n 3 [(3, .int (v6 - v8)), (2, .int p4), (1, .int p2), (0, .ref a0)] dX9_kindNow_32 rfl (by decide) rfl ?_
  refine x_iload_n dX9_kindNow_33 0 rfl ?_
  refine x_if_ne 41 dX9_kindNow_34 (by decide) (fun c9 => ?_) (fun c9 => ?_)
  · have h := (if_neg c9).symm.trans h
    refine x_iload_n dX9_kindNow_41 0 rfl ?_
    refine x_if_le 49 dX9_kindNow_42 (by decide) (fun c10 => ?_) (fun c10 => ?_)
    · have h := (if_pos c10).symm.trans h
      refine x_iconst (v := (1 : Int32)) dX9_kindNow_49 (by decide) ?_
      obtain rfl := Option.some.inj h
      exact x_iret dX9_kindNow_50 (Nat.le_of_ble_eq_true rfl) (Nat.le_of_ble_eq_true rfl)
    have h := (if_neg c10).symm.trans h
    refine x_iconst (v := (0 : Int32)) dX9_kindNow_45 (by decide) ?_
    refine x_goto 50 dX9_kindNow_46 (by decide) ?_
    obtain rfl := Option.some.inj h
    exact x_iret dX9_kindNow_50 (Nat.le_of_ble_eq_true rfl) (Nat.le_of_ble_eq_true rfl)
  have h := (if_pos c9).symm.trans h
  refine x_iconst (v := (-1 : Int32)) dX9_kindNow_37 (by decide) ?_
  refine x_goto 50 dX9_kindNow_38 (by decide) ?_
  obtain rfl := Option.some.inj h
  exact x_iret dX9_kindNow_50 (Nat.le_of_ble_eq_true rfl) (Nat.le_of_ble_eq_true rfl)

-- SwappedIntervalsModel.steps(I)V
abbrev rm_X9_steps : Room := { frames := 2, cells := 0, slots := 0, locals := 48 }
theorem me_X9_steps : x_Me yX9_steps cX9_steps 4 none 1 := ⟨by decide +kernel, w_co_yX9_steps, w_in_SwappedIntervalsModel, by decide +kernel, by decide +kernel, by decide +kernel⟩
def f_X9_steps (F : Nat) (a0 : Nat) (a1 : Int32) (M : XM) : Option (XM) := (x_ob M a0 9).bind fun u1 => (f_X9_lastIn a0 (2 : Int32) M).bind fun p2 => (x_ob M a0 9).bind fun u3 => (f_X9_lastIn a0 (7 : Int32) M).bind fun p4 => if a1 = 0 then (x_gR M a0 9 0).bind fun v13 => (x_a32 .int M v13 ((12 : Int32) + p2)).bind fun v14 => (x_gR M a0 9 0).bind fun v15 => (x_a32 .int M v15 ((12 : Int32) + p4)).bind fun v16 => (x_w32 .int M v13 ((12 : Int32) + p2) (v14 - v16)).bind fun m17 => (x_ob m17 a0 9).bind fun u18 => (f_X9_movesBehind F a0 (7 : Int32) p2 m17).bind fun p19 => some p19 else (x_gR M a0 9 0).bind fun v6 => (x_a32 .int M v6 ((12 : Int32) + p4)).bind fun v7 => (x_gR M a0 9 0).bind fun v8 => (x_a32 .int M v8 ((12 : Int32) + p2)).bind fun v9 => (x_w32 .int M v6 ((12 : Int32) + p4) (v7 - v9)).bind fun m10 => (x_ob m10 a0 9).bind fun u11 => (f_X9_movesBehind F a0 (2 : Int32) p4 m10).bind fun p12 => some p12
set_option maxHeartbeats 4000000 in
set_option maxRecDepth 100000 in
theorem c_X9_steps (l : Launch) (D : va_G) (aC : FieldType → ClassId) (bs sz : Nat) (F : Nat) {a0 : Nat} {a1 : Int32} {M : XM} {r : XM} (h : f_X9_steps F a0 a1 M = some r) : x_Cn l D aC bs yX9_steps cX9_steps 4 none rm_X9_steps [.ref a0, .int a1] sz M none sz r := by
  unfold f_X9_steps at h
  refine x_enter2 [(0, .ref a0), (1, .int a1)] me_X9_steps (Nat.le_of_ble_eq_true rfl) rfl ?_
  refine x_aload_n dX9_steps_0 0 rfl ?_
  refine x_iconst (v := (2 : Int32)) dX9_steps_1 (by decide) ?_
  obtain ⟨u1, eu1, h⟩ := x_bd h
  obtain ⟨p2, ep2, h⟩ := x_bd h
  refine x_callVI [.int (2 : Int32)] [] clX9 me_X9_lastIn w_ml_RX9_74 w_im_yX9_lastIn w_se_yX9_lastIn (Nat.le_of_ble_eq_true rfl) (Nat.le_of_ble_eq_true rfl) rfl (Nat.le_of_ble_eq_true rfl) (Nat.le_of_ble_eq_true rfl) (Nat.le_of_ble_eq_true rfl) dX9_steps_2 eu1 (c_X9_lastIn l D aC bs sz ep2) rfl ?_
  refine x_istore_n 2 [(2, .int p2), (0, .ref a0), (1, .int a1)] dX9_steps_5 rfl (by decide) rfl ?_
  refine x_aload_n dX9_steps_6 1 rfl ?_
  refine x_bipush (v := (7 : Int32)) dX9_steps_7 (by decide) ?_
  obtain ⟨u3, eu3, h⟩ := x_bd h
  obtain ⟨p4, ep4, h⟩ := x_bd h
  refine x_callVI [.int (7 : Int32)] [] clX9 me_X9_lastIn w_ml_RX9_74 w_im_yX9_lastIn w_se_yX9_lastIn (Nat.le_of_ble_eq_true rfl) (Nat.le_of_ble_eq_true rfl) rfl (Nat.le_of_ble_eq_true rfl) (Nat.le_of_ble_eq_true rfl) (Nat.le_of_ble_eq_true rfl) dX9_steps_9 eu3 (c_X9_lastIn l D aC bs sz ep4) rfl ?_
  refine x_istore_n 3 [(3, .int p4), (2, .int p2), (0, .ref a0), (1, .int a1)] dX9_steps_12 rfl (by decide) rfl ?_
  refine x_iload_n dX9_steps_13 3 rfl ?_
  refine x_if_ne 48 dX9_steps_14 (by decide) (fun c5 => ?_) (fun c5 => ?_)
  · have h := (if_neg c5).symm.trans h
    refine x_aload_n dX9_steps_48 2 rfl ?_
    obtain ⟨v6, ev6, h⟩ := x_bd h
    refine x_getR clX9 w_fl_RX9_11 (by decide) dX9_steps_49 ev6 ?_
    refine x_bipush (v := (12 : Int32)) dX9_steps_52 (by decide) ?_
    refine x_iload_n dX9_steps_54 0 rfl ?_
    refine x_iadd dX9_steps_55 ?_
    refine x_dup2 dX9_steps_56 rfl rfl ?_
    obtain ⟨v7, ev7, h⟩ := x_bd h
    refine x_iald dX9_steps_57 ev7 ?_
    refine x_aload_n dX9_steps_58 2 rfl ?_
    obtain ⟨v8, ev8, h⟩ := x_bd h
    refine x_getR clX9 w_fl_RX9_11 (by decide) dX9_steps_59 ev8 ?_
    refine x_bipush (v := (12 : Int32)) dX9_steps_62 (by decide) ?_
    refine x_iload_n dX9_steps_64 1 rfl ?_
    refine x_iadd dX9_steps_65 ?_
    obtain ⟨v9, ev9, h⟩ := x_bd h
    refine x_iald dX9_steps_66 ev9 ?_
    refine x_isub dX9_steps_67 ?_
    obtain ⟨m10, em10, h⟩ := x_bd h
    refine x_iast dX9_steps_68 em10 ?_
    refine x_aload_n dX9_steps_69 2 rfl ?_
    refine x_iconst (v := (2 : Int32)) dX9_steps_70 (by decide) ?_
    refine x_iload_n dX9_steps_71 0 rfl ?_
    obtain ⟨u11, eu11, h⟩ := x_bd h
    obtain ⟨p12, ep12, h⟩ := x_bd h
    refine x_callVV [.int (2 : Int32), .int p4] [] clX9 me_X9_movesBehind w_ml_RX9_82 w_im_yX9_movesBehind w_se_yX9_movesBehind (Nat.le_of_ble_eq_true rfl) (Nat.le_of_ble_eq_true rfl) rfl (Nat.le_of_ble_eq_true rfl) (Nat.le_of_ble_eq_true rfl) (Nat.le_of_ble_eq_true rfl) dX9_steps_72 eu11 (c_X9_movesBehind l D aC bs sz F ep12) rfl ?_
    obtain rfl := Option.some.inj h
    exact x_vret dX9_steps_75 (Nat.le_of_ble_eq_true rfl) (Nat.le_of_ble_eq_true rfl)
  have h := (if_pos c5).symm.trans h
  refine x_aload_n dX9_steps_17 2 rfl ?_
  obtain ⟨v13, ev13, h⟩ := x_bd h
  refine x_getR clX9 w_fl_RX9_11 (by decide) dX9_steps_18 ev13 ?_
  refine x_bipush (v := (12 : Int32)) dX9_steps_21 (by decide) ?_
  refine x_iload_n dX9_steps_23 1 rfl ?_
  refine x_iadd dX9_steps_24 ?_
  refine x_dup2 dX9_steps_25 rfl rfl ?_
  obtain ⟨v14, ev14, h⟩ := x_bd h
  refine x_iald dX9_steps_26 ev14 ?_
  refine x_aload_n dX9_steps_27 2 rfl ?_
  obtain ⟨v15, ev15, h⟩ := x_bd h
  refine x_getR clX9 w_fl_RX9_11 (by decide) dX9_steps_28 ev15 ?_
  refine x_bipush (v := (12 : Int32)) dX9_steps_31 (by decide) ?_
  refine x_iload_n dX9_steps_33 0 rfl ?_
  refine x_iadd dX9_steps_34 ?_
  obtain ⟨v16, ev16, h⟩ := x_bd h
  refine x_iald dX9_steps_35 ev16 ?_
  refine x_isub dX9_steps_36 ?_
  obtain ⟨m17, em17, h⟩ := x_bd h
  refine x_iast dX9_steps_37 em17 ?_
  refine x_aload_n dX9_steps_38 2 rfl ?_
  refine x_bipush (v := (7 : Int32)) dX9_steps_39 (by decide) ?_
  refine x_iload_n dX9_steps_41 1 rfl ?_
  obtain ⟨u18, eu18, h⟩ := x_bd h
  obtain ⟨p19, ep19, h⟩ := x_bd h
  refine x_callVV [.int (7 : Int32), .int p2] [] clX9 me_X9_movesBehind w_ml_RX9_82 w_im_yX9_movesBehind w_se_yX9_movesBehind (Nat.le_of_ble_eq_true rfl) (Nat.le_of_ble_eq_true rfl) rfl (Nat.le_of_ble_eq_true rfl) (Nat.le_of_ble_eq_true rfl) (Nat.le_of_ble_eq_true rfl) dX9_steps_42 eu18 (c_X9_movesBehind l D aC bs sz F ep19) rfl ?_
  refine x_goto 75 dX9_steps_45 (by decide) ?_
  obtain rfl := Option.some.inj h
  exact x_vret dX9_steps_75 (Nat.le_of_ble_eq_true rfl) (Nat.le_of_ble_eq_true rfl)

-- SwappedIntervalsModel.stepsBack(I)I
abbrev rm_X9_stepsBack : Room := { frames := 2, cells := 0, slots := 0, locals := 48 }
theorem me_X9_stepsBack : x_Me yX9_stepsBack cX9_stepsBack 4 (some .int) 1 := ⟨by decide +kernel, w_co_yX9_stepsBack, w_in_SwappedIntervalsModel, by decide +kernel, by decide +kernel, by decide +kernel⟩
def j_X9_stepsBack_57 (F : Nat) (a2 : Int32) (a3 : Int32) (M : XM)  : Option (Int32 × XM) := if a3 = (-1 : Int32) then some ((-1 : Int32), M) else some (a2, M)
set_option maxHeartbeats 4000000 in
set_option maxRecDepth 100000 in
theorem jp_X9_stepsBack_57 (l : Launch) (D : va_G) (aC : FieldType → ClassId) (bs : Nat) (sz : Nat) (F : Nat) (a2 : Int32) (a3 : Int32) (M : XM)   {r : Int32 × XM} (h : j_X9_stepsBack_57 F a2 a3 M  = some r) : x_V l D aC bs yX9_stepsBack cX9_stepsBack 4 (some .int) rm_X9_stepsBack (x_Z D aC bs (some (.int r.1)) sz r.2 rm_X9_stepsBack) 57 [(2, .int a2), (3, .int a3)] [] sz M 0 0 := by
  unfold j_X9_stepsBack_57 at h
  refine x_iload_n dX9_stepsBack_57 1 rfl ?_
  refine x_iconst (v := (-1 : Int32)) dX9_stepsBack_58 (by decide) ?_
  refine x_icmp_ne 66 dX9_stepsBack_59 (by decide) (fun c8 => ?_) (fun c8 => ?_)
  · have h := (if_neg c8).symm.trans h
    refine x_iload_n dX9_stepsBack_66 0 rfl ?_
    obtain rfl := Option.some.inj h
    exact x_iret dX9_stepsBack_67 (Nat.le_of_ble_eq_true rfl) (Nat.le_of_ble_eq_true rfl)
  have h := (if_pos c8).symm.trans h
  refine x_iconst (v := (-1 : Int32)) dX9_stepsBack_62 (by decide) ?_
  refine x_goto 67 dX9_stepsBack_63 (by decide) ?_
  obtain rfl := Option.some.inj h
  exact x_iret dX9_stepsBack_67 (Nat.le_of_ble_eq_true rfl) (Nat.le_of_ble_eq_true rfl)
def j_X9_stepsBack_26 (F : Nat) (a0 : Nat) (a2 : Int32) (s0 : Int32) (s1 : Nat) (M : XM)  : Option (Int32 × XM) := (x_ob M s1 9).bind fun u5 => (f_X9_movesToEnd F s1 s0 a2 M).bind fun p6 => if p6.1 = (-1 : Int32) then j_X9_stepsBack_57 F (a2) (p6.1) p6.2 else (x_gR p6.2 a0 9 0).bind fun v9 => (x_a32 .int p6.2 v9 ((12 : Int32) + a2)).bind fun v10 => (x_gR p6.2 a0 9 0).bind fun v11 => (x_a32 .int p6.2 v11 ((12 : Int32) + p6.1)).bind fun v12 => (x_w32 .int p6.2 v9 ((12 : Int32) + a2) (v10 + v12)).bind fun m13 => j_X9_stepsBack_57 F (a2) (p6.1) m13
set_option maxHeartbeats 4000000 in
set_option maxRecDepth 100000 in
theorem jp_X9_stepsBack_26 (l : Launch) (D : va_G) (aC : FieldType → ClassId) (bs : Nat) (sz : Nat) (F : Nat) (a0 : Nat) (a2 : Int32) (s0 : Int32) (s1 : Nat) (M : XM)   {r : Int32 × XM} (h : j_X9_stepsBack_26 F a0 a2 s0 s1 M  = some r) : x_V l D aC bs yX9_stepsBack cX9_stepsBack 4 (some .int) rm_X9_stepsBack (x_Z D aC bs (some (.int r.1)) sz r.2 rm_X9_stepsBack) 26 [(0, .ref a0), (2, .int a2)] [.int s0, .ref s1] sz M 0 0 := by
  unfold j_X9_stepsBack_26 at h
  refine x_iload_n dX9_stepsBack_26 1 rfl ?_
  obtain ⟨u5, eu5, h⟩ := x_bd h
  obtain ⟨p6, ep6, h⟩ := x_bd h
  refine x_callVI [.int s0, .int a2] [] clX9 me_X9_movesToEnd w_ml_RX9_86 w_im_yX9_movesToEnd w_se_yX9_movesToEnd (Nat.le_of_ble_eq_true rfl) (Nat.le_of_ble_eq_true rfl) rfl (Nat.le_of_ble_eq_true rfl) (Nat.le_of_ble_eq_true rfl) (Nat.le_of_ble_eq_true rfl) dX9_stepsBack_27 eu5 (c_X9_movesToEnd l D aC bs sz F ep6) rfl ?_
  refine x_istore_n 3 [(3, .int p6.1), (0, .ref a0), (2, .int a2)] dX9_stepsBack_30 rfl (by decide) rfl ?_
  refine x_iload_n dX9_stepsBack_31 0 rfl ?_
  refine x_iconst (v := (-1 : Int32)) dX9_stepsBack_32 (by decide) ?_
  refine x_icmp_eq 57 dX9_stepsBack_33 (by decide) (fun c7 => ?_) (fun c7 => ?_)
  · have h := (if_pos c7).symm.trans h
    exact x_sub [2, 0] rfl (jp_X9_stepsBack_57 l D aC bs sz F (a2) (p6.1) p6.2  h)
  have h := (if_neg c7).symm.trans h
  refine x_aload_n dX9_stepsBack_36 1 rfl ?_
  obtain ⟨v9, ev9, h⟩ := x_bd h
  refine x_getR clX9 w_fl_RX9_11 (by decide) dX9_stepsBack_37 ev9 ?_
  refine x_bipush (v := (12 : Int32)) dX9_stepsBack_40 (by decide) ?_
  refine x_iload_n dX9_stepsBack_42 2 rfl ?_
  refine x_iadd dX9_stepsBack_43 ?_
  refine x_dup2 dX9_stepsBack_44 rfl rfl ?_
  obtain ⟨v10, ev10, h⟩ := x_bd h
  refine x_iald dX9_stepsBack_45 ev10 ?_
  refine x_aload_n dX9_stepsBack_46 1 rfl ?_
  obtain ⟨v11, ev11, h⟩ := x_bd h
  refine x_getR clX9 w_fl_RX9_11 (by decide) dX9_stepsBack_47 ev11 ?_
  refine x_bipush (v := (12 : Int32)) dX9_stepsBack_50 (by decide) ?_
  refine x_iload_n dX9_stepsBack_52 0 rfl ?_
  refine x_iadd dX9_stepsBack_53 ?_
  obtain ⟨v12, ev12, h⟩ := x_bd h
  refine x_iald dX9_stepsBack_54 ev12 ?_
  refine x_iadd dX9_stepsBack_55 ?_
  obtain ⟨m13, em13, h⟩ := x_bd h
  refine x_iast dX9_stepsBack_56 em13 ?_
  exact x_sub [2, 0] rfl (jp_X9_stepsBack_57 l D aC bs sz F (a2) (p6.1) m13  h)
def j_X9_stepsBack_11 (F : Nat) (a0 : Nat) (a1 : Int32) (s0 : Int32) (s1 : Nat) (M : XM)  : Option (Int32 × XM) := (x_ob M s1 9).bind fun u2 => (f_X9_lastIn s1 s0 M).bind fun p3 => if a1 = 0 then j_X9_stepsBack_26 F (a0) (p3) (7 : Int32) (a0) M else j_X9_stepsBack_26 F (a0) (p3) (2 : Int32) (a0) M
set_option maxHeartbeats 4000000 in
set_option maxRecDepth 100000 in
theorem jp_X9_stepsBack_11 (l : Launch) (D : va_G) (aC : FieldType → ClassId) (bs : Nat) (sz : Nat) (F : Nat) (a0 : Nat) (a1 : Int32) (s0 : Int32) (s1 : Nat) (M : XM)   {r : Int32 × XM} (h : j_X9_stepsBack_11 F a0 a1 s0 s1 M  = some r) : x_V l D aC bs yX9_stepsBack cX9_stepsBack 4 (some .int) rm_X9_stepsBack (x_Z D aC bs (some (.int r.1)) sz r.2 rm_X9_stepsBack) 11 [(0, .ref a0), (1, .int a1)] [.int s0, .ref s1] sz M 0 0 := by
  unfold j_X9_stepsBack_11 at h
  obtain ⟨u2, eu2, h⟩ := x_bd h
  obtain ⟨p3, ep3, h⟩ := x_bd h
  refine x_callVI [.int s0] [] clX9 me_X9_lastIn w_ml_RX9_74 w_im_yX9_lastIn w_se_yX9_lastIn (Nat.le_of_ble_eq_true rfl) (Nat.le_of_ble_eq_true rfl) rfl (Nat.le_of_ble_eq_true rfl) (Nat.le_of_ble_eq_true rfl) (Nat.le_of_ble_eq_true rfl) dX9_stepsBack_11 eu2 (c_X9_lastIn l D aC bs sz ep3) rfl ?_
  refine x_istore_n 2 [(2, .int p3), (0, .ref a0), (1, .int a1)] dX9_stepsBack_14 rfl (by decide) rfl ?_
  refine x_aload_n dX9_stepsBack_15 1 rfl ?_
  refine x_iload_n dX9_stepsBack_16 2 rfl ?_
  refine x_if_ne 25 dX9_stepsBack_17 (by decide) (fun c4 => ?_) (fun c4 => ?_)
  · have h := (if_neg c4).symm.trans h
    refine x_iconst (v := (2 : Int32)) dX9_stepsBack_25 (by decide) ?_
    exact x_sub [1, 0] rfl (jp_X9_stepsBack_26 l D aC bs sz F (a0) (p3) (2 : Int32) (a0) M  h)
  have h := (if_pos c4).symm.trans h
  refine x_bipush (v := (7 : Int32)) dX9_stepsBack_20 (by decide) ?_
  refine x_goto 26 dX9_stepsBack_22 (by decide) ?_
  exact x_sub [1, 0] rfl (jp_X9_stepsBack_26 l D aC bs sz F (a0) (p3) (7 : Int32) (a0) M  h)
def f_X9_stepsBack (F : Nat) (a0 : Nat) (a1 : Int32) (M : XM) : Option (Int32 × XM) := if a1 = 0 then j_X9_stepsBack_11 F (a0) (a1) (2 : Int32) (a0) M else j_X9_stepsBack_11 F (a0) (a1) (7 : Int32) (a0) M
set_option maxHeartbeats 4000000 in
set_option maxRecDepth 100000 in
theorem c_X9_stepsBack (l : Launch) (D : va_G) (aC : FieldType → ClassId) (bs sz : Nat) (F : Nat) {a0 : Nat} {a1 : Int32} {M : XM} {r : Int32 × XM} (h : f_X9_stepsBack F a0 a1 M = some r) : x_Cn l D aC bs yX9_stepsBack cX9_stepsBack 4 (some .int) rm_X9_stepsBack [.ref a0, .int a1] sz M (some (.int r.1)) sz r.2 := by
  unfold f_X9_stepsBack at h
  refine x_enter2 [(0, .ref a0), (1, .int a1)] me_X9_stepsBack (Nat.le_of_ble_eq_true rfl) rfl ?_
  refine x_aload_n dX9_stepsBack_0 0 rfl ?_
  refine x_iload_n dX9_stepsBack_1 1 rfl ?_
  refine x_if_ne 9 dX9_stepsBack_2 (by decide) (fun c1 => ?_) (fun c1 => ?_)
  · have h := (if_neg c1).symm.trans h
    refine x_bipush (v := (7 : Int32)) dX9_stepsBack_9 (by decide) ?_
    exact jp_X9_stepsBack_11 l D aC bs sz F (a0) (a1) (7 : Int32) (a0) M  h
  have h := (if_pos c1).symm.trans h
  refine x_iconst (v := (2 : Int32)) dX9_stepsBack_5 (by decide) ?_
  refine x_goto 11 dX9_stepsBack_6 (by decide) ?_
  exact jp_X9_stepsBack_11 l D aC bs sz F (a0) (a1) (2 : Int32) (a0) M  h

-- SwappedIntervalsModel.keeps()V
abbrev rm_X9_keeps : Room := { frames := 1, cells := 0, slots := 0, locals := 26 }
theorem me_X9_keeps : x_Me yX9_keeps cX9_keeps 1 none 0 := ⟨by decide +kernel, w_co_yX9_keeps, w_in_SwappedIntervalsModel, by decide +kernel, by decide +kernel, by decide +kernel⟩
def j_X9_keeps_36 (a0 : Nat) (M : XM)  : Option (XM) := (x_gR M a0 9 0).bind fun v3 => (x_gR M a0 9 3).bind fun v4 => (x_gI M a0 9 4).bind fun v5 => (x_cpI M v3 (2 : Int32) v4 ((15 : Int32) * v5) (15 : Int32)).bind fun m6 => (x_gI m6 a0 9 4).bind fun v7 => (x_put m6 a0 9 4 (.int (v7 + (1 : Int32)))).bind fun m8 => some m8
set_option maxHeartbeats 4000000 in
set_option maxRecDepth 100000 in
theorem jp_X9_keeps_36 (l : Launch) (D : va_G) (aC : FieldType → ClassId) (bs : Nat) (sz : Nat) (a0 : Nat) (M : XM)   {r : XM} (h : j_X9_keeps_36 a0 M  = some r) : x_V l D aC bs yX9_keeps cX9_keeps 1 none rm_X9_keeps (x_Z D aC bs none sz r rm_X9_keeps) 36 [(0, .ref a0)] [] sz M 0 0 := by
  unfold j_X9_keeps_36 at h
  refine x_aload_n dX9_keeps_36 0 rfl ?_
  obtain ⟨v3, ev3, h⟩ := x_bd h
  refine x_getR clX9 w_fl_RX9_11 (by decide) dX9_keeps_37 ev3 ?_
  refine x_iconst (v := (2 : Int32)) dX9_keeps_40 (by decide) ?_
  refine x_aload_n dX9_keeps_41 0 rfl ?_
  obtain ⟨v4, ev4, h⟩ := x_bd h
  refine x_getR clX9 w_fl_RX9_18 (by decide) dX9_keeps_42 ev4 ?_
  refine x_bipush (v := (15 : Int32)) dX9_keeps_45 (by decide) ?_
  refine x_aload_n dX9_keeps_47 0 rfl ?_
  obtain ⟨v5, ev5, h⟩ := x_bd h
  refine x_getI clX9 w_fl_RX9_70 (by decide) dX9_keeps_48 ev5 ?_
  refine x_imul dX9_keeps_51 ?_
  refine x_bipush (v := (15 : Int32)) dX9_keeps_52 (by decide) ?_
  obtain ⟨m6, em6, h⟩ := x_bd h
  refine x_acI w_ml_RX9_89 w_na_arraycopyName w_st_arraycopyName w_in_java_lang_System (Nat.le_of_ble_eq_true rfl) (Nat.le_of_ble_eq_true rfl) dX9_keeps_54 em6 ?_
  refine x_aload_n dX9_keeps_57 0 rfl ?_
  refine x_dup dX9_keeps_58 rfl ?_
  obtain ⟨v7, ev7, h⟩ := x_bd h
  refine x_getI clX9 w_fl_RX9_70 (by decide) dX9_keeps_59 ev7 ?_
  refine x_iconst (v := (1 : Int32)) dX9_keeps_62 (by decide) ?_
  refine x_iadd dX9_keeps_63 ?_
  obtain ⟨m8, em8, h⟩ := x_bd h
  refine x_putV clX9 w_fl_RX9_70 (by decide) rfl rfl rfl dX9_keeps_64 em8 ?_
  obtain rfl := Option.some.inj h
  exact x_vret dX9_keeps_67 (Nat.le_of_ble_eq_true rfl) (Nat.le_of_ble_eq_true rfl)
def f_X9_keeps (a0 : Nat) (M : XM) : Option (XM) := (x_gI M a0 9 4).bind fun v1 => if v1 = (12 : Int32) then (x_gR M a0 9 3).bind fun v9 => (x_gR M a0 9 3).bind fun v10 => (x_cpI M v9 (15 : Int32) v10 (0 : Int32) (165 : Int32)).bind fun m11 => (x_gI m11 a0 9 4).bind fun v12 => (x_put m11 a0 9 4 (.int (v12 - (1 : Int32)))).bind fun m13 => j_X9_keeps_36 (a0) m13 else j_X9_keeps_36 (a0) M
set_option maxHeartbeats 4000000 in
set_option maxRecDepth 100000 in
theorem c_X9_keeps (l : Launch) (D : va_G) (aC : FieldType → ClassId) (bs sz : Nat) {a0 : Nat} {M : XM} {r : XM} (h : f_X9_keeps a0 M = some r) : x_Cn l D aC bs yX9_keeps cX9_keeps 1 none rm_X9_keeps [.ref a0] sz M none sz r := by
  unfold f_X9_keeps at h
  refine x_enter2 [(0, .ref a0)] me_X9_keeps (Nat.le_of_ble_eq_true rfl) rfl ?_
  refine x_aload_n dX9_keeps_0 0 rfl ?_
  obtain ⟨v1, ev1, h⟩ := x_bd h
  refine x_getI clX9 w_fl_RX9_70 (by decide) dX9_keeps_1 ev1 ?_
  refine x_bipush (v := (12 : Int32)) dX9_keeps_4 (by decide) ?_
  refine x_icmp_ne 36 dX9_keeps_6 (by decide) (fun c2 => ?_) (fun c2 => ?_)
  · have h := (if_neg c2).symm.trans h
    exact jp_X9_keeps_36 l D aC bs sz (a0) M  h
  have h := (if_pos c2).symm.trans h
  refine x_aload_n dX9_keeps_9 0 rfl ?_
  obtain ⟨v9, ev9, h⟩ := x_bd h
  refine x_getR clX9 w_fl_RX9_18 (by decide) dX9_keeps_10 ev9 ?_
  refine x_bipush (v := (15 : Int32)) dX9_keeps_13 (by decide) ?_
  refine x_aload_n dX9_keeps_15 0 rfl ?_
  obtain ⟨v10, ev10, h⟩ := x_bd h
  refine x_getR clX9 w_fl_RX9_18 (by decide) dX9_keeps_16 ev10 ?_
  refine x_iconst (v := (0 : Int32)) dX9_keeps_19 (by decide) ?_
  refine x_sipush (v := (165 : Int32)) dX9_keeps_20 (by decide) ?_
  obtain ⟨m11, em11, h⟩ := x_bd h
  refine x_acI w_ml_RX9_89 w_na_arraycopyName w_st_arraycopyName w_in_java_lang_System (Nat.le_of_ble_eq_true rfl) (Nat.le_of_ble_eq_true rfl) dX9_keeps_23 em11 ?_
  refine x_aload_n dX9_keeps_26 0 rfl ?_
  refine x_dup dX9_keeps_27 rfl ?_
  obtain ⟨v12, ev12, h⟩ := x_bd h
  refine x_getI clX9 w_fl_RX9_70 (by decide) dX9_keeps_28 ev12 ?_
  refine x_iconst (v := (1 : Int32)) dX9_keeps_31 (by decide) ?_
  refine x_isub dX9_keeps_32 ?_
  obtain ⟨m13, em13, h⟩ := x_bd h
  refine x_putV clX9 w_fl_RX9_70 (by decide) rfl rfl rfl dX9_keeps_33 em13 ?_
  exact jp_X9_keeps_36 l D aC bs sz (a0) m13  h

-- SwappedIntervalsModel.undoes()V
abbrev rm_X9_undoes : Room := { frames := 1, cells := 0, slots := 0, locals := 26 }
theorem me_X9_undoes : x_Me yX9_undoes cX9_undoes 1 none 0 := ⟨by decide +kernel, w_co_yX9_undoes, w_in_SwappedIntervalsModel, by decide +kernel, by decide +kernel, by decide +kernel⟩
def f_X9_undoes (a0 : Nat) (M : XM) : Option (XM) := (x_gI M a0 9 4).bind fun v1 => (x_put M a0 9 4 (.int (v1 - (1 : Int32)))).bind fun m2 => (x_gR m2 a0 9 3).bind fun v3 => (x_gI m2 a0 9 4).bind fun v4 => (x_gR m2 a0 9 0).bind fun v5 => (x_cpI m2 v3 ((15 : Int32) * v4) v5 (2 : Int32) (15 : Int32)).bind fun m6 => some m6
set_option maxHeartbeats 4000000 in
set_option maxRecDepth 100000 in
theorem c_X9_undoes (l : Launch) (D : va_G) (aC : FieldType → ClassId) (bs sz : Nat) {a0 : Nat} {M : XM} {r : XM} (h : f_X9_undoes a0 M = some r) : x_Cn l D aC bs yX9_undoes cX9_undoes 1 none rm_X9_undoes [.ref a0] sz M none sz r := by
  unfold f_X9_undoes at h
  refine x_enter2 [(0, .ref a0)] me_X9_undoes (Nat.le_of_ble_eq_true rfl) rfl ?_
  refine x_aload_n dX9_undoes_0 0 rfl ?_
  refine x_dup dX9_undoes_1 rfl ?_
  obtain ⟨v1, ev1, h⟩ := x_bd h
  refine x_getI clX9 w_fl_RX9_70 (by decide) dX9_undoes_2 ev1 ?_
  refine x_iconst (v := (1 : Int32)) dX9_undoes_5 (by decide) ?_
  refine x_isub dX9_undoes_6 ?_
  obtain ⟨m2, em2, h⟩ := x_bd h
  refine x_putV clX9 w_fl_RX9_70 (by decide) rfl rfl rfl dX9_undoes_7 em2 ?_
  refine x_aload_n dX9_undoes_10 0 rfl ?_
  obtain ⟨v3, ev3, h⟩ := x_bd h
  refine x_getR clX9 w_fl_RX9_18 (by decide) dX9_undoes_11 ev3 ?_
  refine x_bipush (v := (15 : Int32)) dX9_undoes_14 (by decide) ?_
  refine x_aload_n dX9_undoes_16 0 rfl ?_
  obtain ⟨v4, ev4, h⟩ := x_bd h
  refine x_getI clX9 w_fl_RX9_70 (by decide) dX9_undoes_17 ev4 ?_
  refine x_imul dX9_undoes_20 ?_
  refine x_aload_n dX9_undoes_21 0 rfl ?_
  obtain ⟨v5, ev5, h⟩ := x_bd h
  refine x_getR clX9 w_fl_RX9_11 (by decide) dX9_undoes_22 ev5 ?_
  refine x_iconst (v := (2 : Int32)) dX9_undoes_25 (by decide) ?_
  refine x_bipush (v := (15 : Int32)) dX9_undoes_26 (by decide) ?_
  obtain ⟨m6, em6, h⟩ := x_bd h
  refine x_acI w_ml_RX9_89 w_na_arraycopyName w_st_arraycopyName w_in_java_lang_System (Nat.le_of_ble_eq_true rfl) (Nat.le_of_ble_eq_true rfl) dX9_undoes_28 em6 ?_
  obtain rfl := Option.some.inj h
  exact x_vret dX9_undoes_31 (Nat.le_of_ble_eq_true rfl) (Nat.le_of_ble_eq_true rfl)

-- SwappedIntervalsModel.letters(I)I
abbrev rm_X9_letters : Room := { frames := 1, cells := 0, slots := 0, locals := 25 }
theorem me_X9_letters : x_Me yX9_letters cX9_letters 3 (some .int) 1 := ⟨by decide +kernel, w_co_yX9_letters, w_in_SwappedIntervalsModel, by decide +kernel, by decide +kernel, by decide +kernel⟩
def f_X9_letters (F : Nat) (a0 : Nat) (a1 : Int32) (M : XM) : Option (Int32 × XM) := (f_X9_in a1.toInt64 (2 : Int64) (5 : Int64) M).bind fun p1 => if p1 = 0 then some ((-2 : Int32), M) else (x_gR M a0 9 0).bind fun v3 => (x_a32 .int M v3 (0 : Int32)).bind fun v4 => (x_ob M a0 9).bind fun u5 => (f_X9_begins F a0 a1 M).bind fun p6 => some (v4, p6)
set_option maxHeartbeats 4000000 in
set_option maxRecDepth 100000 in
theorem c_X9_letters (l : Launch) (D : va_G) (aC : FieldType → ClassId) (bs sz : Nat) (F : Nat) {a0 : Nat} {a1 : Int32} {M : XM} {r : Int32 × XM} (h : f_X9_letters F a0 a1 M = some r) : x_Cn l D aC bs yX9_letters cX9_letters 3 (some .int) rm_X9_letters [.ref a0, .int a1] sz M (some (.int r.1)) sz r.2 := by
  unfold f_X9_letters at h
  refine x_enter2 [(0, .ref a0), (1, .int a1)] me_X9_letters (Nat.le_of_ble_eq_true rfl) rfl ?_
  refine x_iload_n dX9_letters_0 1 rfl ?_
  refine x_i2l dX9_letters_1 ?_
  refine x_ldc2 (v := (2 : Int64)) dX9_letters_2 w_cn_RX9_95 ?_
  refine x_ldc2 (v := (5 : Int64)) dX9_letters_5 w_cn_RX9_97 ?_
  obtain ⟨p1, ep1, h⟩ := x_bd h
  refine x_callSI [.long a1.toInt64, .long (2 : Int64), .long (5 : Int64)] [] me_X9_in w_ml_RX9_66 w_st_yX9_in (Nat.le_of_ble_eq_true rfl) (Nat.le_of_ble_eq_true rfl) rfl (Nat.le_of_ble_eq_true rfl) (Nat.le_of_ble_eq_true rfl) (Nat.le_of_ble_eq_true rfl) dX9_letters_8 (c_X9_in l D aC bs sz ep1) rfl ?_
  refine x_if_ne 17 dX9_letters_11 (by decide) (fun c2 => ?_) (fun c2 => ?_)
  · have h := (if_neg c2).symm.trans h
    refine x_aload_n dX9_letters_17 0 rfl ?_
    obtain ⟨v3, ev3, h⟩ := x_bd h
    refine x_getR clX9 w_fl_RX9_11 (by decide) dX9_letters_18 ev3 ?_
    refine x_iconst (v := (0 : Int32)) dX9_letters_21 (by decide) ?_
    obtain ⟨v4, ev4, h⟩ := x_bd h
    refine x_iald dX9_letters_22 ev4 ?_
    refine x_istore_n 2 [(2, .int v4), (0, .ref a0), (1, .int a1)] dX9_letters_23 rfl (by decide) rfl ?_
    refine x_aload_n dX9_letters_24 1 rfl ?_
    refine x_iload_n dX9_letters_25 2 rfl ?_
    obtain ⟨u5, eu5, h⟩ := x_bd h
    obtain ⟨p6, ep6, h⟩ := x_bd h
    refine x_callVV [.int a1] [] clX9 me_X9_begins w_ml_RX9_62 w_im_yX9_begins w_se_yX9_begins (Nat.le_of_ble_eq_true rfl) (Nat.le_of_ble_eq_true rfl) rfl (Nat.le_of_ble_eq_true rfl) (Nat.le_of_ble_eq_true rfl) (Nat.le_of_ble_eq_true rfl) dX9_letters_26 eu5 (c_X9_begins l D aC bs sz F ep6) rfl ?_
    refine x_iload_n dX9_letters_29 0 rfl ?_
    obtain rfl := Option.some.inj h
    exact x_iret dX9_letters_30 (Nat.le_of_ble_eq_true rfl) (Nat.le_of_ble_eq_true rfl)
  have h := (if_pos c2).symm.trans h
  refine x_bipush (v := (-2 : Int32)) dX9_letters_14 (by decide) ?_
  obtain rfl := Option.some.inj h
  exact x_iret dX9_letters_16 (Nat.le_of_ble_eq_true rfl) (Nat.le_of_ble_eq_true rfl)

-- SwappedIntervalsModel.isCode(I)Z
abbrev rm_X9_isCode : Room := { frames := 2, cells := 0, slots := 0, locals := 46 }
theorem me_X9_isCode : x_Me yX9_isCode cX9_isCode 5 (some .boolean) 1 := ⟨by decide +kernel, w_co_yX9_isCode, w_in_SwappedIntervalsModel, by decide +kernel, by decide +kernel, by decide +kernel⟩
def b_X9_isCode_14 (F : Nat) (a0 : Nat) (a1 : Int32)  (k14 : (Int32 × Int32 × Int32 × XM) → Option (Int32 × XM)) (q : Int32 × Int32 × Int32 × XM) : Option (Int32 × XM) := if q.2.2.1 < 0 then if q.1 = 0 then if a1 ≤ 0 then some ((0 : Int32), q.2.2.2) else (x_gR q.2.2.2 a0 9 0).bind fun v6 => (x_a32 .int q.2.2.2 v6 (0 : Int32)).bind fun v7 => if q.2.1 = (((1 : Int32) <<< (v7 &&& 31)) - (1 : Int32)) then some ((1 : Int32), q.2.2.2) else some ((0 : Int32), q.2.2.2) else some ((0 : Int32), q.2.2.2) else (x_gR q.2.2.2 a0 9 5).bind fun v9 => (x_w32 .int q.2.2.2 v9 q.2.2.1 ((q.1 - q.1 / (10 : Int32) * (10 : Int32)) - (1 : Int32))).bind fun m10 => (x_gR m10 a0 9 5).bind fun v11 => (x_a32 .int m10 v11 q.2.2.1).bind fun v12 => (x_ob m10 a0 9).bind fun u13 => (f_X9_isLetter a0 v12 m10).bind fun p14 => if p14 = 0 then some ((0 : Int32), m10) else (x_gR m10 a0 9 5).bind fun v16 => (x_a32 .int m10 v16 q.2.2.1).bind fun v17 => k14 ((q.1 / (10 : Int32)), (q.2.1 ||| ((1 : Int32) <<< (v17 &&& 31))), (q.2.2.1 + (-1 : Int32)), m10)
set_option maxHeartbeats 4000000 in
set_option maxRecDepth 100000 in
theorem lp_X9_isCode_14 (l : Launch) (D : va_G) (aC : FieldType → ClassId) (bs : Nat) (sz : Nat) (F : Nat) (a0 : Nat) (a1 : Int32)   : ∀ (n : Nat) (b0 : Int32) (b1 : Int32) (b2 : Int32) (b3 : XM) (r : Int32 × XM), x_it (b_X9_isCode_14 F a0 a1 ) n (b0, b1, b2, b3) = some r → x_V l D aC bs yX9_isCode cX9_isCode 5 (some .boolean) rm_X9_isCode (x_Z D aC bs (some (.int r.1)) sz r.2 rm_X9_isCode) 14 [(0, .ref a0), (1, .int a1), (2, .int b0), (3, .int b1), (4, .int b2)] [] sz b3 0 0 := by
  suffices H : ∀ (n : Nat) (q : Int32 × Int32 × Int32 × XM) (r : Int32 × XM), x_it (b_X9_isCode_14 F a0 a1 ) n q = some r → x_V l D aC bs yX9_isCode cX9_isCode 5 (some .boolean) rm_X9_isCode (x_Z D aC bs (some (.int r.1)) sz r.2 rm_X9_isCode) 14 [(0, .ref a0), (1, .int a1), (2, .int q.1), (3, .int q.2.1), (4, .int q.2.2.1)] [] sz q.2.2.2 0 0 from fun n b0 b1 b2 b3 r h => H n (b0, b1, b2, b3) r h
  refine x_loop (P := fun (q : Int32 × Int32 × Int32 × XM) (r : Int32 × XM) => x_V l D aC bs yX9_isCode cX9_isCode 5 (some .boolean) rm_X9_isCode (x_Z D aC bs (some (.int r.1)) sz r.2 rm_X9_isCode) 14 [(0, .ref a0), (1, .int a1), (2, .int q.1), (3, .int q.2.1), (4, .int q.2.2.1)] [] sz q.2.2.2 0 0) (fun k14 hk0 q r h => ?_)
  have hk14 : ∀ (b0 : Int32) (b1 : Int32) (b2 : Int32) (b3 : XM) (r : Int32 × XM), k14 (b0, b1, b2, b3) = some r → x_V l D aC bs yX9_isCode cX9_isCode 5 (some .boolean) rm_X9_isCode (x_Z D aC bs (some (.int r.1)) sz r.2 rm_X9_isCode) 14 [(0, .ref a0), (1, .int a1), (2, .int b0), (3, .int b1), (4, .int b2)] [] sz b3 0 0 := fun b0 b1 b2 b3 r h => hk0 (b0, b1, b2, b3) r h
  unfold b_X9_isCode_14 at h
  refine x_iload dX9_isCode_14 4 rfl ?_
  refine x_if_lt 71 dX9_isCode_16 (by decide) (fun c3 => ?_) (fun c3 => ?_)
  · have h := (if_pos c3).symm.trans h
    refine x_iload_n dX9_isCode_71 2 rfl ?_
    refine x_if_ne 97 dX9_isCode_72 (by decide) (fun c4 => ?_) (fun c4 => ?_)
    · have h := (if_neg c4).symm.trans h
      refine x_iconst (v := (0 : Int32)) dX9_isCode_97 (by decide) ?_
      obtain rfl := Option.some.inj h
      exact x_zret dX9_isCode_98 (Or.inl rfl) (Nat.le_of_ble_eq_true rfl) (Nat.le_of_ble_eq_true rfl)
    have h := (if_pos c4).symm.trans h
    refine x_iload_n dX9_isCode_75 1 rfl ?_
    refine x_if_le 97 dX9_isCode_76 (by decide) (fun c5 => ?_) (fun c5 => ?_)
    · have h := (if_pos c5).symm.trans h
      refine x_iconst (v := (0 : Int32)) dX9_isCode_97 (by decide) ?_
      obtain rfl := Option.some.inj h
      exact x_zret dX9_isCode_98 (Or.inl rfl) (Nat.le_of_ble_eq_true rfl) (Nat.le_of_ble_eq_true rfl)
    have h := (if_neg c5).symm.trans h
    refine x_iload_n dX9_isCode_79 3 rfl ?_
    refine x_iconst (v := (1 : Int32)) dX9_isCode_80 (by decide) ?_
    refine x_aload_n dX9_isCode_81 0 rfl ?_
    obtain ⟨v6, ev6, h⟩ := x_bd h
    refine x_getR clX9 w_fl_RX9_11 (by decide) dX9_isCode_82 ev6 ?_
    refine x_iconst (v := (0 : Int32)) dX9_isCode_85 (by decide) ?_
    obtain ⟨v7, ev7, h⟩ := x_bd h
    refine x_iald dX9_isCode_86 ev7 ?_
    refine x_ishl dX9_isCode_87 ?_
    refine x_iconst (v := (1 : Int32)) dX9_isCode_88 (by decide) ?_
    refine x_isub dX9_isCode_89 ?_
    refine x_icmp_ne 97 dX9_isCode_90 (by decide) (fun c8 => ?_) (fun c8 => ?_)
    · have h := (if_neg c8).symm.trans h
      refine x_iconst (v := (0 : Int32)) dX9_isCode_97 (by decide) ?_
      obtain rfl := Option.some.inj h
      exact x_zret dX9_isCode_98 (Or.inl rfl) (Nat.le_of_ble_eq_true rfl) (Nat.le_of_ble_eq_true rfl)
    have h := (if_pos c8).symm.trans h
    refine x_iconst (v := (1 : Int32)) dX9_isCode_93 (by decide) ?_
    refine x_goto 98 dX9_isCode_94 (by decide) ?_
    obtain rfl := Option.some.inj h
    exact x_zret dX9_isCode_98 (Or.inr rfl) (Nat.le_of_ble_eq_true rfl) (Nat.le_of_ble_eq_true rfl)
  have h := (if_neg c3).symm.trans h
  refine x_aload_n dX9_isCode_19 0 rfl ?_
  obtain ⟨v9, ev9, h⟩ := x_bd h
  refine x_getR clX9 w_fl_RX9_21 (by decide) dX9_isCode_20 ev9 ?_
  refine x_iload dX9_isCode_23 4 rfl ?_
  refine x_iload_n dX9_isCode_25 2 rfl ?_
  refine x_bipush (v := (10 : Int32)) dX9_isCode_26 (by decide) ?_
  refine x_irem dX9_isCode_28 (by decide) ?_
  refine x_iconst (v := (1 : Int32)) dX9_isCode_29 (by decide) ?_
  refine x_isub dX9_isCode_30 ?_
  obtain ⟨m10, em10, h⟩ := x_bd h
  refine x_iast dX9_isCode_31 em10 ?_
  refine x_iload_n dX9_isCode_32 2 rfl ?_
  refine x_bipush (v := (10 : Int32)) dX9_isCode_33 (by decide) ?_
  refine x_idiv dX9_isCode_35 (by decide) ?_
  refine x_istore_n 2 [(2, .int (q.1 / (10 : Int32))), (0, .ref a0), (1, .int a1), (3, .int q.2.1), (4, .int q.2.2.1)] dX9_isCode_36 rfl (by decide) rfl ?_
  refine x_aload_n dX9_isCode_37 1 rfl ?_
  refine x_aload_n dX9_isCode_38 1 rfl ?_
  obtain ⟨v11, ev11, h⟩ := x_bd h
  refine x_getR clX9 w_fl_RX9_21 (by decide) dX9_isCode_39 ev11 ?_
  refine x_iload dX9_isCode_42 4 rfl ?_
  obtain ⟨v12, ev12, h⟩ := x_bd h
  refine x_iald dX9_isCode_44 ev12 ?_
  obtain ⟨u13, eu13, h⟩ := x_bd h
  obtain ⟨p14, ep14, h⟩ := x_bd h
  refine x_callVI [.int v12] [] clX9 me_X9_isLetter w_ml_RX9_99 w_im_yX9_isLetter w_se_yX9_isLetter (Nat.le_of_ble_eq_true rfl) (Nat.le_of_ble_eq_true rfl) rfl (Nat.le_of_ble_eq_true rfl) (Nat.le_of_ble_eq_true rfl) (Nat.le_of_ble_eq_true rfl) dX9_isCode_45 eu13 (c_X9_isLetter l D aC bs sz ep14) rfl ?_
  refine x_if_ne 53 dX9_isCode_48 (by decide) (fun c15 => ?_) (fun c15 => ?_)
  · have h := (if_neg c15).symm.trans h
    refine x_iload_n dX9_isCode_53 3 rfl ?_
    refine x_iconst (v := (1 : Int32)) dX9_isCode_54 (by decide) ?_
    refine x_aload_n dX9_isCode_55 1 rfl ?_
    obtain ⟨v16, ev16, h⟩ := x_bd h
    refine x_getR clX9 w_fl_RX9_21 (by decide) dX9_isCode_56 ev16 ?_
    refine x_iload dX9_isCode_59 4 rfl ?_
    obtain ⟨v17, ev17, h⟩ := x_bd h
    refine x_iald dX9_isCode_61 ev17 ?_
    refine x_ishl dX9_isCode_62 ?_
    refine x_ior dX9_isCode_63 ?_
    refine x_istore_n 3 [(3, .int (q.2.1 ||| ((1 : Int32) <<< (v17 &&& 31)))), (2, .int (q.1 / (10 : Int32))), (0, .ref a0), (1, .int a1), (4, .int q.2.2.1)] dX9_isCode_64 rfl (by decide) rfl ?_
    refine x_iinc (-1 : Int32) 4 [(4, .int (q.2.2.1 + (-1 : Int32))), (3, .int (q.2.1 ||| ((1 : Int32) <<< (v17 &&& 31)))), (2, .int (q.1 / (10 : Int32))), (0, .ref a0), (1, .int a1)] dX9_isCode_65 rfl (by decide) (by decide) rfl ?_
    refine x_goto 14 dX9_isCode_68 (by decide) ?_
    exact x_sub [3, 4, 2, 1, 0] rfl (hk14 _ _ _ _ _ h)
  have h := (if_pos c15).symm.trans h
  refine x_iconst (v := (0 : Int32)) dX9_isCode_51 (by decide) ?_
  obtain rfl := Option.some.inj h
  exact x_zret dX9_isCode_52 (Or.inl rfl) (Nat.le_of_ble_eq_true rfl) (Nat.le_of_ble_eq_true rfl)
def f_X9_isCode (F : Nat) (a0 : Nat) (a1 : Int32) (M : XM) : Option (Int32 × XM) := (x_gR M a0 9 0).bind fun v1 => (x_a32 .int M v1 (0 : Int32)).bind fun v2 => x_it (b_X9_isCode_14 F (a0) (a1)) F (a1, (0 : Int32), (v2 - (1 : Int32)), M)
set_option maxHeartbeats 4000000 in
set_option maxRecDepth 100000 in
theorem c_X9_isCode (l : Launch) (D : va_G) (aC : FieldType → ClassId) (bs sz : Nat) (F : Nat) {a0 : Nat} {a1 : Int32} {M : XM} {r : Int32 × XM} (h : f_X9_isCode F a0 a1 M = some r) : x_Cn l D aC bs yX9_isCode cX9_isCode 5 (some .boolean) rm_X9_isCode [.ref a0, .int a1] sz M (some (.int r.1)) sz r.2 := by
  unfold f_X9_isCode at h
  refine x_enter2 [(0, .ref a0), (1, .int a1)] me_X9_isCode (Nat.le_of_ble_eq_true rfl) rfl ?_
  refine x_iload_n dX9_isCode_0 1 rfl ?_
  refine x_istore_n 2 [(2, .int a1), (0, .ref a0), (1, .int a1)] dX9_isCode_1 rfl (by decide) rfl ?_
  refine x_iconst (v := (0 : Int32)) dX9_isCode_2 (by decide) ?_
  refine x_istore_n 3 [(3, .int (0 : Int32)), (2, .int a1), (0, .ref a0), (1, .int a1)] dX9_isCode_3 rfl (by decide) rfl ?_
  refine x_aload_n dX9_isCode_4 2 rfl ?_
  obtain ⟨v1, ev1, h⟩ := x_bd h
  refine x_getR clX9 w_fl_RX9_11 (by decide) dX9_isCode_5 ev1 ?_
  refine x_iconst (v := (0 : Int32)) dX9_isCode_8 (by decide) ?_
  obtain ⟨v2, ev2, h⟩ := x_bd h
  refine x_iald dX9_isCode_9 ev2 ?_
  refine x_iconst (v := (1 : Int32)) dX9_isCode_10 (by decide) ?_
  refine x_isub dX9_isCode_11 ?_
  refine x_istore [(4, .int (v2 - (1 : Int32))), (3, .int (0 : Int32)), (2, .int a1), (0, .ref a0), (1, .int a1)] dX9_isCode_12 (by decide) rfl ?_
  exact x_sub [3, 4, 2, 1, 0] rfl (lp_X9_isCode_14 l D aC bs sz F (a0) (a1)  F _ _ _ _ _ h)

-- SwappedIntervalsModel.bottom(I)I
abbrev rm_X9_bottom : Room := { frames := 3, cells := 0, slots := 0, locals := 70 }
theorem me_X9_bottom : x_Me yX9_bottom cX9_bottom 3 (some .int) 1 := ⟨by decide +kernel, w_co_yX9_bottom, w_in_SwappedIntervalsModel, by decide +kernel, by decide +kernel, by decide +kernel⟩
def b_X9_bottom_13 (F : Nat) (a0 : Nat)  (k13 : (Int32 × XM) → Option (Int32 × XM)) (q : Int32 × XM) : Option (Int32 × XM) := (x_gR q.2 a0 9 0).bind fun v4 => (x_a32 .int q.2 v4 (0 : Int32)).bind fun v5 => if v5 ≤ q.1 then (x_put q.2 a0 9 4 (.int (0 : Int32))).bind fun m7 => some ((1 : Int32), m7) else (x_gR q.2 a0 9 0).bind fun v8 => (x_w32 .int q.2 v8 ((2 : Int32) + q.1) q.1).bind fun m9 => (x_gR m9 a0 9 0).bind fun v10 => (x_gR m9 a0 9 5).bind fun v11 => (x_a32 .int m9 v11 q.1).bind fun v12 => (x_w32 .int m9 v10 ((7 : Int32) + q.1) v12).bind fun m13 => k13 ((q.1 + (1 : Int32)), m13)
set_option maxHeartbeats 4000000 in
set_option maxRecDepth 100000 in
theorem lp_X9_bottom_13 (l : Launch) (D : va_G) (aC : FieldType → ClassId) (bs : Nat) (sz : Nat) (F : Nat) (a0 : Nat)   : ∀ (n : Nat) (b0 : Int32) (b1 : XM) (r : Int32 × XM), x_it (b_X9_bottom_13 F a0 ) n (b0, b1) = some r → x_V l D aC bs yX9_bottom cX9_bottom 3 (some .int) rm_X9_bottom (x_Z D aC bs (some (.int r.1)) sz r.2 rm_X9_bottom) 13 [(0, .ref a0), (2, .int b0)] [] sz b1 0 0 := by
  suffices H : ∀ (n : Nat) (q : Int32 × XM) (r : Int32 × XM), x_it (b_X9_bottom_13 F a0 ) n q = some r → x_V l D aC bs yX9_bottom cX9_bottom 3 (some .int) rm_X9_bottom (x_Z D aC bs (some (.int r.1)) sz r.2 rm_X9_bottom) 13 [(0, .ref a0), (2, .int q.1)] [] sz q.2 0 0 from fun n b0 b1 r h => H n (b0, b1) r h
  refine x_loop (P := fun (q : Int32 × XM) (r : Int32 × XM) => x_V l D aC bs yX9_bottom cX9_bottom 3 (some .int) rm_X9_bottom (x_Z D aC bs (some (.int r.1)) sz r.2 rm_X9_bottom) 13 [(0, .ref a0), (2, .int q.1)] [] sz q.2 0 0) (fun k13 hk0 q r h => ?_)
  have hk13 : ∀ (b0 : Int32) (b1 : XM) (r : Int32 × XM), k13 (b0, b1) = some r → x_V l D aC bs yX9_bottom cX9_bottom 3 (some .int) rm_X9_bottom (x_Z D aC bs (some (.int r.1)) sz r.2 rm_X9_bottom) 13 [(0, .ref a0), (2, .int b0)] [] sz b1 0 0 := fun b0 b1 r h => hk0 (b0, b1) r h
  unfold b_X9_bottom_13 at h
  refine x_iload_n dX9_bottom_13 1 rfl ?_
  refine x_aload_n dX9_bottom_14 0 rfl ?_
  obtain ⟨v4, ev4, h⟩ := x_bd h
  refine x_getR clX9 w_fl_RX9_11 (by decide) dX9_bottom_15 ev4 ?_
  refine x_iconst (v := (0 : Int32)) dX9_bottom_18 (by decide) ?_
  obtain ⟨v5, ev5, h⟩ := x_bd h
  refine x_iald dX9_bottom_19 ev5 ?_
  refine x_icmp_ge 53 dX9_bottom_20 (by decide) (fun c6 => ?_) (fun c6 => ?_)
  · have h := (if_pos c6).symm.trans h
    refine x_aload_n dX9_bottom_53 0 rfl ?_
    refine x_iconst (v := (0 : Int32)) dX9_bottom_54 (by decide) ?_
    obtain ⟨m7, em7, h⟩ := x_bd h
    refine x_putV clX9 w_fl_RX9_70 (by decide) rfl rfl rfl dX9_bottom_55 em7 ?_
    refine x_iconst (v := (1 : Int32)) dX9_bottom_58 (by decide) ?_
    obtain rfl := Option.some.inj h
    exact x_iret dX9_bottom_59 (Nat.le_of_ble_eq_true rfl) (Nat.le_of_ble_eq_true rfl)
  have h := (if_neg c6).symm.trans h
  refine x_aload_n dX9_bottom_23 0 rfl ?_
  obtain ⟨v8, ev8, h⟩ := x_bd h
  refine x_getR clX9 w_fl_RX9_11 (by decide) dX9_bottom_24 ev8 ?_
  refine x_iconst (v := (2 : Int32)) dX9_bottom_27 (by decide) ?_
  refine x_iload_n dX9_bottom_28 1 rfl ?_
  refine x_iadd dX9_bottom_29 ?_
  refine x_iload_n dX9_bottom_30 1 rfl ?_
  obtain ⟨m9, em9, h⟩ := x_bd h
  refine x_iast dX9_bottom_31 em9 ?_
  refine x_aload_n dX9_bottom_32 0 rfl ?_
  obtain ⟨v10, ev10, h⟩ := x_bd h
  refine x_getR clX9 w_fl_RX9_11 (by decide) dX9_bottom_33 ev10 ?_
  refine x_bipush (v := (7 : Int32)) dX9_bottom_36 (by decide) ?_
  refine x_iload_n dX9_bottom_38 1 rfl ?_
  refine x_iadd dX9_bottom_39 ?_
  refine x_aload_n dX9_bottom_40 0 rfl ?_
  obtain ⟨v11, ev11, h⟩ := x_bd h
  refine x_getR clX9 w_fl_RX9_21 (by decide) dX9_bottom_41 ev11 ?_
  refine x_iload_n dX9_bottom_44 1 rfl ?_
  obtain ⟨v12, ev12, h⟩ := x_bd h
  refine x_iald dX9_bottom_45 ev12 ?_
  obtain ⟨m13, em13, h⟩ := x_bd h
  refine x_iast dX9_bottom_46 em13 ?_
  refine x_iinc (1 : Int32) 1 [(2, .int (q.1 + (1 : Int32))), (0, .ref a0)] dX9_bottom_47 rfl (by decide) (by decide) rfl ?_
  refine x_goto 13 dX9_bottom_50 (by decide) ?_
  exact x_sub [1, 0] rfl (hk13 _ _ _ h)
def f_X9_bottom (F : Nat) (a0 : Nat) (a1 : Int32) (M : XM) : Option (Int32 × XM) := (x_ob M a0 9).bind fun u1 => (f_X9_isCode F a0 a1 M).bind fun p2 => if p2.1 = 0 then some ((-2 : Int32), p2.2) else x_it (b_X9_bottom_13 F (a0)) F ((0 : Int32), p2.2)
set_option maxHeartbeats 4000000 in
set_option maxRecDepth 100000 in
theorem c_X9_bottom (l : Launch) (D : va_G) (aC : FieldType → ClassId) (bs sz : Nat) (F : Nat) {a0 : Nat} {a1 : Int32} {M : XM} {r : Int32 × XM} (h : f_X9_bottom F a0 a1 M = some r) : x_Cn l D aC bs yX9_bottom cX9_bottom 3 (some .int) rm_X9_bottom [.ref a0, .int a1] sz M (some (.int r.1)) sz r.2 := by
  unfold f_X9_bottom at h
  refine x_enter2 [(0, .ref a0), (1, .int a1)] me_X9_bottom (Nat.le_of_ble_eq_true rfl) rfl ?_
  refine x_aload_n dX9_bottom_0 0 rfl ?_
  refine x_iload_n dX9_bottom_1 1 rfl ?_
  obtain ⟨u1, eu1, h⟩ := x_bd h
  obtain ⟨p2, ep2, h⟩ := x_bd h
  refine x_callVI [.int a1] [] clX9 me_X9_isCode w_ml_RX9_103 w_im_yX9_isCode w_se_yX9_isCode (Nat.le_of_ble_eq_true rfl) (Nat.le_of_ble_eq_true rfl) rfl (Nat.le_of_ble_eq_true rfl) (Nat.le_of_ble_eq_true rfl) (Nat.le_of_ble_eq_true rfl) dX9_bottom_2 eu1 (c_X9_isCode l D aC bs sz F ep2) rfl ?_
  refine x_if_ne 11 dX9_bottom_5 (by decide) (fun c3 => ?_) (fun c3 => ?_)
  · have h := (if_neg c3).symm.trans h
    refine x_iconst (v := (0 : Int32)) dX9_bottom_11 (by decide) ?_
    refine x_istore_n 2 [(2, .int (0 : Int32)), (0, .ref a0), (1, .int a1)] dX9_bottom_12 rfl (by decide) rfl ?_
    exact x_sub [1, 0] rfl (lp_X9_bottom_13 l D aC bs sz F (a0)  F _ _ _ h)
  have h := (if_pos c3).symm.trans h
  refine x_bipush (v := (-2 : Int32)) dX9_bottom_8 (by decide) ?_
  obtain rfl := Option.some.inj h
  exact x_iret dX9_bottom_10 (Nat.le_of_ble_eq_true rfl) (Nat.le_of_ble_eq_true rfl)

-- SwappedIntervalsModel.length(II)I
abbrev rm_X9_length : Room := { frames := 2, cells := 0, slots := 0, locals := 46 }
theorem me_X9_length : x_Me yX9_length cX9_length 4 (some .int) 2 := ⟨by decide +kernel, w_co_yX9_length, w_in_SwappedIntervalsModel, by decide +kernel, by decide +kernel, by decide +kernel⟩
def f_X9_length (a0 : Nat) (a1 : Int32) (a2 : Int32) (M : XM) : Option (Int32 × XM) := (x_ob M a0 9).bind fun u1 => (f_X9_isLetter a0 a1 M).bind fun p2 => if p2 = 0 then some ((-1 : Int32), M) else (f_X9_in a2.toInt64 (1 : Int64) (99 : Int64) M).bind fun p4 => if p4 = 0 then some ((-2 : Int32), M) else (x_ob M a0 9).bind fun u6 => (f_X9_keeps a0 M).bind fun p7 => (x_gR p7 a0 9 0).bind fun v8 => (x_a32 .int p7 v8 ((12 : Int32) + a1)).bind fun v9 => (x_gR p7 a0 9 0).bind fun v10 => (x_w32 .int p7 v10 ((12 : Int32) + a1) a2).bind fun m11 => some (v9, m11)
set_option maxHeartbeats 4000000 in
set_option maxRecDepth 100000 in
theorem c_X9_length (l : Launch) (D : va_G) (aC : FieldType → ClassId) (bs sz : Nat) {a0 : Nat} {a1 : Int32} {a2 : Int32} {M : XM} {r : Int32 × XM} (h : f_X9_length a0 a1 a2 M = some r) : x_Cn l D aC bs yX9_length cX9_length 4 (some .int) rm_X9_length [.ref a0, .int a1, .int a2] sz M (some (.int r.1)) sz r.2 := by
  unfold f_X9_length at h
  refine x_enter2 [(0, .ref a0), (1, .int a1), (2, .int a2)] me_X9_length (Nat.le_of_ble_eq_true rfl) rfl ?_
  refine x_aload_n dX9_length_0 0 rfl ?_
  refine x_iload_n dX9_length_1 1 rfl ?_
  obtain ⟨u1, eu1, h⟩ := x_bd h
  obtain ⟨p2, ep2, h⟩ := x_bd h
  refine x_callVI [.int a1] [] clX9 me_X9_isLetter w_ml_RX9_99 w_im_yX9_isLetter w_se_yX9_isLetter (Nat.le_of_ble_eq_true rfl) (Nat.le_of_ble_eq_true rfl) rfl (Nat.le_of_ble_eq_true rfl) (Nat.le_of_ble_eq_true rfl) (Nat.le_of_ble_eq_true rfl) dX9_length_2 eu1 (c_X9_isLetter l D aC bs sz ep2) rfl ?_
  refine x_if_ne 10 dX9_length_5 (by decide) (fun c3 => ?_) (fun c3 => ?_)
  · have h := (if_neg c3).symm.trans h
    refine x_iload_n dX9_length_10 2 rfl ?_
    refine x_i2l dX9_length_11 ?_
    refine x_lconst (v := (1 : Int64)) dX9_length_12 (by decide) ?_
    refine x_ldc2 (v := (99 : Int64)) dX9_length_13 w_cn_RX9_106 ?_
    obtain ⟨p4, ep4, h⟩ := x_bd h
    refine x_callSI [.long a2.toInt64, .long (1 : Int64), .long (99 : Int64)] [] me_X9_in w_ml_RX9_66 w_st_yX9_in (Nat.le_of_ble_eq_true rfl) (Nat.le_of_ble_eq_true rfl) rfl (Nat.le_of_ble_eq_true rfl) (Nat.le_of_ble_eq_true rfl) (Nat.le_of_ble_eq_true rfl) dX9_length_16 (c_X9_in l D aC bs sz ep4) rfl ?_
    refine x_if_ne 25 dX9_length_19 (by decide) (fun c5 => ?_) (fun c5 => ?_)
    · have h := (if_neg c5).symm.trans h
      refine x_aload_n dX9_length_25 0 rfl ?_
      obtain ⟨u6, eu6, h⟩ := x_bd h
      obtain ⟨p7, ep7, h⟩ := x_bd h
      refine x_callVV [] [] clX9 me_X9_keeps w_ml_RX9_108 w_im_yX9_keeps w_se_yX9_keeps (Nat.le_of_ble_eq_true rfl) (Nat.le_of_ble_eq_true rfl) rfl (Nat.le_of_ble_eq_true rfl) (Nat.le_of_ble_eq_true rfl) (Nat.le_of_ble_eq_true rfl) dX9_length_26 eu6 (c_X9_keeps l D aC bs sz ep7) rfl ?_
      refine x_aload_n dX9_length_29 0 rfl ?_
      obtain ⟨v8, ev8, h⟩ := x_bd h
      refine x_getR clX9 w_fl_RX9_11 (by decide) dX9_length_30 ev8 ?_
      refine x_bipush (v := (12 : Int32)) dX9_length_33 (by decide) ?_
      refine x_iload_n dX9_length_35 1 rfl ?_
      refine x_iadd dX9_length_36 ?_
      obtain ⟨v9, ev9, h⟩ := x_bd h
      refine x_iald dX9_length_37 ev9 ?_
      refine x_istore_n 3 [(3, .int v9), (0, .ref a0), (1, .int a1), (2, .int a2)] dX9_length_38 rfl (by decide) rfl ?_
      refine x_aload_n dX9_length_39 1 rfl ?_
      obtain ⟨v10, ev10, h⟩ := x_bd h
      refine x_getR clX9 w_fl_RX9_11 (by decide) dX9_length_40 ev10 ?_
      refine x_bipush (v := (12 : Int32)) dX9_length_43 (by decide) ?_
      refine x_iload_n dX9_length_45 2 rfl ?_
      refine x_iadd dX9_length_46 ?_
      refine x_iload_n dX9_length_47 3 rfl ?_
      obtain ⟨m11, em11, h⟩ := x_bd h
      refine x_iast dX9_length_48 em11 ?_
      refine x_iload_n dX9_length_49 0 rfl ?_
      obtain rfl := Option.some.inj h
      exact x_iret dX9_length_50 (Nat.le_of_ble_eq_true rfl) (Nat.le_of_ble_eq_true rfl)
    have h := (if_pos c5).symm.trans h
    refine x_bipush (v := (-2 : Int32)) dX9_length_22 (by decide) ?_
    obtain rfl := Option.some.inj h
    exact x_iret dX9_length_24 (Nat.le_of_ble_eq_true rfl) (Nat.le_of_ble_eq_true rfl)
  have h := (if_pos c3).symm.trans h
  refine x_iconst (v := (-1 : Int32)) dX9_length_8 (by decide) ?_
  obtain rfl := Option.some.inj h
  exact x_iret dX9_length_9 (Nat.le_of_ble_eq_true rfl) (Nat.le_of_ble_eq_true rfl)

-- SwappedIntervalsModel.swap(II)I
abbrev rm_X9_swap : Room := { frames := 2, cells := 0, slots := 0, locals := 46 }
theorem me_X9_swap : x_Me yX9_swap cX9_swap 5 (some .int) 2 := ⟨by decide +kernel, w_co_yX9_swap, w_in_SwappedIntervalsModel, by decide +kernel, by decide +kernel, by decide +kernel⟩
def f_X9_swap (F : Nat) (a0 : Nat) (a1 : Int32) (a2 : Int32) (M : XM) : Option (Int32 × XM) := (x_ob M a0 9).bind fun u1 => (f_X9_isLetter a0 a1 M).bind fun p2 => if p2 = 0 then some ((-1 : Int32), M) else (x_ob M a0 9).bind fun u4 => (f_X9_isLetter a0 a2 M).bind fun p5 => if p5 = 0 then some ((-1 : Int32), M) else if a1 = a2 then some ((-1 : Int32), M) else (x_ob M a0 9).bind fun u8 => (f_X9_keeps a0 M).bind fun p9 => (x_ob p9 a0 9).bind fun u10 => (f_X9_placeIn F a0 (7 : Int32) a1 p9).bind fun p11 => (x_ob p9 a0 9).bind fun u12 => (f_X9_placeIn F a0 (7 : Int32) a2 p9).bind fun p13 => (x_gR p9 a0 9 0).bind fun v14 => (x_w32 .int p9 v14 ((7 : Int32) + p11) a2).bind fun m15 => (x_gR m15 a0 9 0).bind fun v16 => (x_w32 .int m15 v16 ((7 : Int32) + p13) a1).bind fun m17 => some ((1 : Int32), m17)
set_option maxHeartbeats 4000000 in
set_option maxRecDepth 100000 in
theorem c_X9_swap (l : Launch) (D : va_G) (aC : FieldType → ClassId) (bs sz : Nat) (F : Nat) {a0 : Nat} {a1 : Int32} {a2 : Int32} {M : XM} {r : Int32 × XM} (h : f_X9_swap F a0 a1 a2 M = some r) : x_Cn l D aC bs yX9_swap cX9_swap 5 (some .int) rm_X9_swap [.ref a0, .int a1, .int a2] sz M (some (.int r.1)) sz r.2 := by
  unfold f_X9_swap at h
  refine x_enter2 [(0, .ref a0), (1, .int a1), (2, .int a2)] me_X9_swap (Nat.le_of_ble_eq_true rfl) rfl ?_
  refine x_aload_n dX9_swap_0 0 rfl ?_
  refine x_iload_n dX9_swap_1 1 rfl ?_
  obtain ⟨u1, eu1, h⟩ := x_bd h
  obtain ⟨p2, ep2, h⟩ := x_bd h
  refine x_callVI [.int a1] [] clX9 me_X9_isLetter w_ml_RX9_99 w_im_yX9_isLetter w_se_yX9_isLetter (Nat.le_of_ble_eq_true rfl) (Nat.le_of_ble_eq_true rfl) rfl (Nat.le_of_ble_eq_true rfl) (Nat.le_of_ble_eq_true rfl) (Nat.le_of_ble_eq_true rfl) dX9_swap_2 eu1 (c_X9_isLetter l D aC bs sz ep2) rfl ?_
  refine x_if_eq 21 dX9_swap_5 (by decide) (fun c3 => ?_) (fun c3 => ?_)
  · have h := (if_pos c3).symm.trans h
    refine x_iconst (v := (-1 : Int32)) dX9_swap_21 (by decide) ?_
    obtain rfl := Option.some.inj h
    exact x_iret dX9_swap_22 (Nat.le_of_ble_eq_true rfl) (Nat.le_of_ble_eq_true rfl)
  have h := (if_neg c3).symm.trans h
  refine x_aload_n dX9_swap_8 0 rfl ?_
  refine x_iload_n dX9_swap_9 2 rfl ?_
  obtain ⟨u4, eu4, h⟩ := x_bd h
  obtain ⟨p5, ep5, h⟩ := x_bd h
  refine x_callVI [.int a2] [] clX9 me_X9_isLetter w_ml_RX9_99 w_im_yX9_isLetter w_se_yX9_isLetter (Nat.le_of_ble_eq_true rfl) (Nat.le_of_ble_eq_true rfl) rfl (Nat.le_of_ble_eq_true rfl) (Nat.le_of_ble_eq_true rfl) (Nat.le_of_ble_eq_true rfl) dX9_swap_10 eu4 (c_X9_isLetter l D aC bs sz ep5) rfl ?_
  refine x_if_eq 21 dX9_swap_13 (by decide) (fun c6 => ?_) (fun c6 => ?_)
  · have h := (if_pos c6).symm.trans h
    refine x_iconst (v := (-1 : Int32)) dX9_swap_21 (by decide) ?_
    obtain rfl := Option.some.inj h
    exact x_iret dX9_swap_22 (Nat.le_of_ble_eq_true rfl) (Nat.le_of_ble_eq_true rfl)
  have h := (if_neg c6).symm.trans h
  refine x_iload_n dX9_swap_16 1 rfl ?_
  refine x_iload_n dX9_swap_17 2 rfl ?_
  refine x_icmp_ne 23 dX9_swap_18 (by decide) (fun c7 => ?_) (fun c7 => ?_)
  · have h := (if_neg c7).symm.trans h
    refine x_aload_n dX9_swap_23 0 rfl ?_
    obtain ⟨u8, eu8, h⟩ := x_bd h
    obtain ⟨p9, ep9, h⟩ := x_bd h
    refine x_callVV [] [] clX9 me_X9_keeps w_ml_RX9_108 w_im_yX9_keeps w_se_yX9_keeps (Nat.le_of_ble_eq_true rfl) (Nat.le_of_ble_eq_true rfl) rfl (Nat.le_of_ble_eq_true rfl) (Nat.le_of_ble_eq_true rfl) (Nat.le_of_ble_eq_true rfl) dX9_swap_24 eu8 (c_X9_keeps l D aC bs sz ep9) rfl ?_
    refine x_aload_n dX9_swap_27 0 rfl ?_
    refine x_bipush (v := (7 : Int32)) dX9_swap_28 (by decide) ?_
    refine x_iload_n dX9_swap_30 1 rfl ?_
    obtain ⟨u10, eu10, h⟩ := x_bd h
    obtain ⟨p11, ep11, h⟩ := x_bd h
    refine x_callVI [.int (7 : Int32), .int a1] [] clX9 me_X9_placeIn w_ml_RX9_78 w_im_yX9_placeIn w_se_yX9_placeIn (Nat.le_of_ble_eq_true rfl) (Nat.le_of_ble_eq_true rfl) rfl (Nat.le_of_ble_eq_true rfl) (Nat.le_of_ble_eq_true rfl) (Nat.le_of_ble_eq_true rfl) dX9_swap_31 eu10 (c_X9_placeIn l D aC bs sz F ep11) rfl ?_
    refine x_istore_n 3 [(3, .int p11), (0, .ref a0), (1, .int a1), (2, .int a2)] dX9_swap_34 rfl (by decide) rfl ?_
    refine x_aload_n dX9_swap_35 1 rfl ?_
    refine x_bipush (v := (7 : Int32)) dX9_swap_36 (by decide) ?_
    refine x_iload_n dX9_swap_38 3 rfl ?_
    obtain ⟨u12, eu12, h⟩ := x_bd h
    obtain ⟨p13, ep13, h⟩ := x_bd h
    refine x_callVI [.int (7 : Int32), .int a2] [] clX9 me_X9_placeIn w_ml_RX9_78 w_im_yX9_placeIn w_se_yX9_placeIn (Nat.le_of_ble_eq_true rfl) (Nat.le_of_ble_eq_true rfl) rfl (Nat.le_of_ble_eq_true rfl) (Nat.le_of_ble_eq_true rfl) (Nat.le_of_ble_eq_true rfl) dX9_swap_39 eu12 (c_X9_placeIn l D aC bs sz F ep13) rfl ?_
    refine x_istore [(4, .int p13), (3, .int p11), (0, .ref a0), (1, .int a1), (2, .int a2)] dX9_swap_42 (by decide) rfl ?_
    refine x_aload_n dX9_swap_44 2 rfl ?_
    obtain ⟨v14, ev14, h⟩ := x_bd h
    refine x_getR clX9 w_fl_RX9_11 (by decide) dX9_swap_45 ev14 ?_
    refine x_bipush (v := (7 : Int32)) dX9_swap_48 (by decide) ?_
    refine x_iload_n dX9_swap_50 1 rfl ?_
    refine x_iadd dX9_swap_51 ?_
    refine x_iload_n dX9_swap_52 4 rfl ?_
    obtain ⟨m15, em15, h⟩ := x_bd h
    refine x_iast dX9_swap_53 em15 ?_
    refine x_aload_n dX9_swap_54 2 rfl ?_
    obtain ⟨v16, ev16, h⟩ := x_bd h
    refine x_getR clX9 w_fl_RX9_11 (by decide) dX9_swap_55 ev16 ?_
    refine x_bipush (v := (7 : Int32)) dX9_swap_58 (by decide) ?_
    refine x_iload dX9_swap_60 0 rfl ?_
    refine x_iadd dX9_swap_62 ?_
    refine x_iload_n dX9_swap_63 3 rfl ?_
    obtain ⟨m17, em17, h⟩ := x_bd h
    refine x_iast dX9_swap_64 em17 ?_
    refine x_iconst (v := (1 : Int32)) dX9_swap_65 (by decide) ?_
    obtain rfl := Option.some.inj h
    exact x_iret dX9_swap_66 (Nat.le_of_ble_eq_true rfl) (Nat.le_of_ble_eq_true rfl)
  have h := (if_pos c7).symm.trans h
  refine x_iconst (v := (-1 : Int32)) dX9_swap_21 (by decide) ?_
  obtain rfl := Option.some.inj h
  exact x_iret dX9_swap_22 (Nat.le_of_ble_eq_true rfl) (Nat.le_of_ble_eq_true rfl)

-- SwappedIntervalsModel.step()I
abbrev rm_X9_step : Room := { frames := 3, cells := 0, slots := 0, locals := 71 }
theorem me_X9_step : x_Me yX9_step cX9_step 2 (some .int) 0 := ⟨by decide +kernel, w_co_yX9_step, w_in_SwappedIntervalsModel, by decide +kernel, by decide +kernel, by decide +kernel⟩
def f_X9_step (F : Nat) (a0 : Nat) (M : XM) : Option (Int32 × XM) := (x_ob M a0 9).bind fun u1 => (f_X9_kindNow a0 M).bind fun p2 => if p2 = (-1 : Int32) then some ((-3 : Int32), M) else (x_ob M a0 9).bind fun u4 => (f_X9_keeps a0 M).bind fun p5 => (x_ob p5 a0 9).bind fun u6 => (f_X9_steps F a0 p2 p5).bind fun p7 => some (p2, p7)
set_option maxHeartbeats 4000000 in
set_option maxRecDepth 100000 in
theorem c_X9_step (l : Launch) (D : va_G) (aC : FieldType → ClassId) (bs sz : Nat) (F : Nat) {a0 : Nat} {M : XM} {r : Int32 × XM} (h : f_X9_step F a0 M = some r) : x_Cn l D aC bs yX9_step cX9_step 2 (some .int) rm_X9_step [.ref a0] sz M (some (.int r.1)) sz r.2 := by
  unfold f_X9_step at h
  refine x_enter2 [(0, .ref a0)] me_X9_step (Nat.le_of_ble_eq_true rfl) rfl ?_
  refine x_aload_n dX9_step_0 0 rfl ?_
  obtain ⟨u1, eu1, h⟩ := x_bd h
  obtain ⟨p2, ep2, h⟩ := x_bd h
  refine x_callVI [] [] clX9 me_X9_kindNow w_ml_RX9_111 w_im_yX9_kindNow w_se_yX9_kindNow (Nat.le_of_ble_eq_true rfl) (Nat.le_of_ble_eq_true rfl) rfl (Nat.le_of_ble_eq_true rfl) (Nat.le_of_ble_eq_true rfl) (Nat.le_of_ble_eq_true rfl) dX9_step_1 eu1 (c_X9_kindNow l D aC bs sz ep2) rfl ?_
  refine x_istore_n 1 [(1, .int p2), (0, .ref a0)] dX9_step_4 rfl (by decide) rfl ?_
  refine x_iload_n dX9_step_5 0 rfl ?_
  refine x_iconst (v := (-1 : Int32)) dX9_step_6 (by decide) ?_
  refine x_icmp_ne 13 dX9_step_7 (by decide) (fun c3 => ?_) (fun c3 => ?_)
  · have h := (if_neg c3).symm.trans h
    refine x_aload_n dX9_step_13 1 rfl ?_
    obtain ⟨u4, eu4, h⟩ := x_bd h
    obtain ⟨p5, ep5, h⟩ := x_bd h
    refine x_callVV [] [] clX9 me_X9_keeps w_ml_RX9_108 w_im_yX9_keeps w_se_yX9_keeps (Nat.le_of_ble_eq_true rfl) (Nat.le_of_ble_eq_true rfl) rfl (Nat.le_of_ble_eq_true rfl) (Nat.le_of_ble_eq_true rfl) (Nat.le_of_ble_eq_true rfl) dX9_step_14 eu4 (c_X9_keeps l D aC bs sz ep5) rfl ?_
    refine x_aload_n dX9_step_17 1 rfl ?_
    refine x_iload_n dX9_step_18 0 rfl ?_
    obtain ⟨u6, eu6, h⟩ := x_bd h
    obtain ⟨p7, ep7, h⟩ := x_bd h
    refine x_callVV [.int p2] [] clX9 me_X9_steps w_ml_RX9_115 w_im_yX9_steps w_se_yX9_steps (Nat.le_of_ble_eq_true rfl) (Nat.le_of_ble_eq_true rfl) rfl (Nat.le_of_ble_eq_true rfl) (Nat.le_of_ble_eq_true rfl) (Nat.le_of_ble_eq_true rfl) dX9_step_19 eu6 (c_X9_steps l D aC bs sz F ep7) rfl ?_
    refine x_iload_n dX9_step_22 0 rfl ?_
    obtain rfl := Option.some.inj h
    exact x_iret dX9_step_23 (Nat.le_of_ble_eq_true rfl) (Nat.le_of_ble_eq_true rfl)
  have h := (if_pos c3).symm.trans h
  refine x_bipush (v := (-3 : Int32)) dX9_step_10 (by decide) ?_
  obtain rfl := Option.some.inj h
  exact x_iret dX9_step_12 (Nat.le_of_ble_eq_true rfl) (Nat.le_of_ble_eq_true rfl)

-- SwappedIntervalsModel.back(I)I
abbrev rm_X9_back : Room := { frames := 3, cells := 0, slots := 0, locals := 71 }
theorem me_X9_back : x_Me yX9_back cX9_back 6 (some .int) 1 := ⟨by decide +kernel, w_co_yX9_back, w_in_SwappedIntervalsModel, by decide +kernel, by decide +kernel, by decide +kernel⟩
def j_X9_back_37 (F : Nat) (a0 : Nat) (a1 : Int32) (a2 : Int32) (s0 : Int32) (M : XM)  : Option (Int32 × XM) := (x_ob M a0 9).bind fun u7 => (f_X9_placeIn F a0 s0 a2 M).bind fun p8 => (x_gR M a0 9 0).bind fun v9 => (x_a32 .int M v9 (0 : Int32)).bind fun v10 => if (p8 + (1 : Int32)) = v10 then some ((-3 : Int32), M) else (x_gR M a0 9 0).bind fun v12 => (x_a32 .int M v12 ((12 : Int32) + a2)).bind fun v13 => (x_gR M a0 9 0).bind fun v14 => (x_gR M a0 9 0).bind fun v15 => (x_a32 .int M v15 ((s0 + p8) + (1 : Int32))).bind fun v16 => (x_a32 .int M v14 ((12 : Int32) + v16)).bind fun v17 => if (v13 + v17) ≤ (99 : Int32) then (x_ob M a0 9).bind fun u19 => (f_X9_keeps a0 M).bind fun p20 => (x_ob p20 a0 9).bind fun u21 => (f_X9_stepsBack F a0 a1 p20).bind fun p22 => (x_ob p22.2 a0 9).bind fun u23 => (f_X9_points F a0 p22.2).bind fun p24 => some (p24, p22.2) else some ((-2 : Int32), M)
set_option maxHeartbeats 4000000 in
set_option maxRecDepth 100000 in
theorem jp_X9_back_37 (l : Launch) (D : va_G) (aC : FieldType → ClassId) (bs : Nat) (sz : Nat) (F : Nat) (a0 : Nat) (a1 : Int32) (a2 : Int32) (s0 : Int32) (M : XM)   {r : Int32 × XM} (h : j_X9_back_37 F a0 a1 a2 s0 M  = some r) : x_V l D aC bs yX9_back cX9_back 6 (some .int) rm_X9_back (x_Z D aC bs (some (.int r.1)) sz r.2 rm_X9_back) 37 [(0, .ref a0), (1, .int a1), (2, .int a2)] [.int s0] sz M 0 0 := by
  unfold j_X9_back_37 at h
  refine x_istore_n 3 [(3, .int s0), (0, .ref a0), (1, .int a1), (2, .int a2)] dX9_back_37 rfl (by decide) rfl ?_
  refine x_aload_n dX9_back_38 1 rfl ?_
  refine x_iload_n dX9_back_39 0 rfl ?_
  refine x_iload_n dX9_back_40 3 rfl ?_
  obtain ⟨u7, eu7, h⟩ := x_bd h
  obtain ⟨p8, ep8, h⟩ := x_bd h
  refine x_callVI [.int s0, .int a2] [] clX9 me_X9_placeIn w_ml_RX9_78 w_im_yX9_placeIn w_se_yX9_placeIn (Nat.le_of_ble_eq_true rfl) (Nat.le_of_ble_eq_true rfl) rfl (Nat.le_of_ble_eq_true rfl) (Nat.le_of_ble_eq_true rfl) (Nat.le_of_ble_eq_true rfl) dX9_back_41 eu7 (c_X9_placeIn l D aC bs sz F ep8) rfl ?_
  refine x_istore [(4, .int p8), (3, .int s0), (0, .ref a0), (1, .int a1), (2, .int a2)] dX9_back_44 (by decide) rfl ?_
  refine x_iload dX9_back_46 0 rfl ?_
  refine x_iconst (v := (1 : Int32)) dX9_back_48 (by decide) ?_
  refine x_iadd dX9_back_49 ?_
  refine x_aload_n dX9_back_50 2 rfl ?_
  obtain ⟨v9, ev9, h⟩ := x_bd h
  refine x_getR clX9 w_fl_RX9_11 (by decide) dX9_back_51 ev9 ?_
  refine x_iconst (v := (0 : Int32)) dX9_back_54 (by decide) ?_
  obtain ⟨v10, ev10, h⟩ := x_bd h
  refine x_iald dX9_back_55 ev10 ?_
  refine x_icmp_ne 62 dX9_back_56 (by decide) (fun c11 => ?_) (fun c11 => ?_)
  · have h := (if_neg c11).symm.trans h
    refine x_aload_n dX9_back_62 2 rfl ?_
    obtain ⟨v12, ev12, h⟩ := x_bd h
    refine x_getR clX9 w_fl_RX9_11 (by decide) dX9_back_63 ev12 ?_
    refine x_bipush (v := (12 : Int32)) dX9_back_66 (by decide) ?_
    refine x_iload_n dX9_back_68 4 rfl ?_
    refine x_iadd dX9_back_69 ?_
    obtain ⟨v13, ev13, h⟩ := x_bd h
    refine x_iald dX9_back_70 ev13 ?_
    refine x_aload_n dX9_back_71 2 rfl ?_
    obtain ⟨v14, ev14, h⟩ := x_bd h
    refine x_getR clX9 w_fl_RX9_11 (by decide) dX9_back_72 ev14 ?_
    refine x_bipush (v := (12 : Int32)) dX9_back_75 (by decide) ?_
    refine x_aload_n dX9_back_77 2 rfl ?_
    obtain ⟨v15, ev15, h⟩ := x_bd h
    refine x_getR clX9 w_fl_RX9_11 (by decide) dX9_back_78 ev15 ?_
    refine x_iload_n dX9_back_81 1 rfl ?_
    refine x_iload dX9_back_82 0 rfl ?_
    refine x_iadd dX9_back_84 ?_
    refine x_iconst (v := (1 : Int32)) dX9_back_85 (by decide) ?_
    refine x_iadd dX9_back_86 ?_
    obtain ⟨v16, ev16, h⟩ := x_bd h
    refine x_iald dX9_back_87 ev16 ?_
    refine x_iadd dX9_back_88 ?_
    obtain ⟨v17, ev17, h⟩ := x_bd h
    refine x_iald dX9_back_89 ev17 ?_
    refine x_iadd dX9_back_90 ?_
    refine x_bipush (v := (99 : Int32)) dX9_back_91 (by decide) ?_
    refine x_icmp_le 99 dX9_back_93 (by decide) (fun c18 => ?_) (fun c18 => ?_)
    · have h := (if_pos c18).symm.trans h
      refine x_aload_n dX9_back_99 2 rfl ?_
      obtain ⟨u19, eu19, h⟩ := x_bd h
      obtain ⟨p20, ep20, h⟩ := x_bd h
      refine x_callVV [] [] clX9 me_X9_keeps w_ml_RX9_108 w_im_yX9_keeps w_se_yX9_keeps (Nat.le_of_ble_eq_true rfl) (Nat.le_of_ble_eq_true rfl) rfl (Nat.le_of_ble_eq_true rfl) (Nat.le_of_ble_eq_true rfl) (Nat.le_of_ble_eq_true rfl) dX9_back_100 eu19 (c_X9_keeps l D aC bs sz ep20) rfl ?_
      refine x_aload_n dX9_back_103 2 rfl ?_
      refine x_iload_n dX9_back_104 3 rfl ?_
      obtain ⟨u21, eu21, h⟩ := x_bd h
      obtain ⟨p22, ep22, h⟩ := x_bd h
      refine x_callVI [.int a1] [] clX9 me_X9_stepsBack w_ml_RX9_118 w_im_yX9_stepsBack w_se_yX9_stepsBack (Nat.le_of_ble_eq_true rfl) (Nat.le_of_ble_eq_true rfl) rfl (Nat.le_of_ble_eq_true rfl) (Nat.le_of_ble_eq_true rfl) (Nat.le_of_ble_eq_true rfl) dX9_back_105 eu21 (c_X9_stepsBack l D aC bs sz F ep22) rfl ?_
      refine x_istore [(5, .int p22.1), (4, .int p8), (3, .int s0), (0, .ref a0), (1, .int a1), (2, .int a2)] dX9_back_108 (by decide) rfl ?_
      refine x_aload_n dX9_back_110 3 rfl ?_
      obtain ⟨u23, eu23, h⟩ := x_bd h
      obtain ⟨p24, ep24, h⟩ := x_bd h
      refine x_callVI [] [] clX9 me_X9_points w_ml_RX9_121 w_im_yX9_points w_se_yX9_points (Nat.le_of_ble_eq_true rfl) (Nat.le_of_ble_eq_true rfl) rfl (Nat.le_of_ble_eq_true rfl) (Nat.le_of_ble_eq_true rfl) (Nat.le_of_ble_eq_true rfl) dX9_back_111 eu23 (c_X9_points l D aC bs sz F ep24) rfl ?_
      obtain rfl := Option.some.inj h
      exact x_iret dX9_back_114 (Nat.le_of_ble_eq_true rfl) (Nat.le_of_ble_eq_true rfl)
    have h := (if_neg c18).symm.trans h
    refine x_bipush (v := (-2 : Int32)) dX9_back_96 (by decide) ?_
    obtain rfl := Option.some.inj h
    exact x_iret dX9_back_98 (Nat.le_of_ble_eq_true rfl) (Nat.le_of_ble_eq_true rfl)
  have h := (if_pos c11).symm.trans h
  refine x_bipush (v := (-3 : Int32)) dX9_back_59 (by decide) ?_
  obtain rfl := Option.some.inj h
  exact x_iret dX9_back_61 (Nat.le_of_ble_eq_true rfl) (Nat.le_of_ble_eq_true rfl)
def j_X9_back_23 (F : Nat) (a0 : Nat) (a1 : Int32) (s0 : Int32) (s1 : Nat) (M : XM)  : Option (Int32 × XM) := (x_ob M s1 9).bind fun u4 => (f_X9_lastIn s1 s0 M).bind fun p5 => if a1 = 0 then j_X9_back_37 F (a0) (a1) (p5) (7 : Int32) M else j_X9_back_37 F (a0) (a1) (p5) (2 : Int32) M
set_option maxHeartbeats 4000000 in
set_option maxRecDepth 100000 in
theorem jp_X9_back_23 (l : Launch) (D : va_G) (aC : FieldType → ClassId) (bs : Nat) (sz : Nat) (F : Nat) (a0 : Nat) (a1 : Int32) (s0 : Int32) (s1 : Nat) (M : XM)   {r : Int32 × XM} (h : j_X9_back_23 F a0 a1 s0 s1 M  = some r) : x_V l D aC bs yX9_back cX9_back 6 (some .int) rm_X9_back (x_Z D aC bs (some (.int r.1)) sz r.2 rm_X9_back) 23 [(0, .ref a0), (1, .int a1)] [.int s0, .ref s1] sz M 0 0 := by
  unfold j_X9_back_23 at h
  obtain ⟨u4, eu4, h⟩ := x_bd h
  obtain ⟨p5, ep5, h⟩ := x_bd h
  refine x_callVI [.int s0] [] clX9 me_X9_lastIn w_ml_RX9_74 w_im_yX9_lastIn w_se_yX9_lastIn (Nat.le_of_ble_eq_true rfl) (Nat.le_of_ble_eq_true rfl) rfl (Nat.le_of_ble_eq_true rfl) (Nat.le_of_ble_eq_true rfl) (Nat.le_of_ble_eq_true rfl) dX9_back_23 eu4 (c_X9_lastIn l D aC bs sz ep5) rfl ?_
  refine x_istore_n 2 [(2, .int p5), (0, .ref a0), (1, .int a1)] dX9_back_26 rfl (by decide) rfl ?_
  refine x_iload_n dX9_back_27 2 rfl ?_
  refine x_if_ne 36 dX9_back_28 (by decide) (fun c6 => ?_) (fun c6 => ?_)
  · have h := (if_neg c6).symm.trans h
    refine x_iconst (v := (2 : Int32)) dX9_back_36 (by decide) ?_
    exact x_sub [1, 2, 0] rfl (jp_X9_back_37 l D aC bs sz F (a0) (a1) (p5) (2 : Int32) M  h)
  have h := (if_pos c6).symm.trans h
  refine x_bipush (v := (7 : Int32)) dX9_back_31 (by decide) ?_
  refine x_goto 37 dX9_back_33 (by decide) ?_
  exact x_sub [1, 2, 0] rfl (jp_X9_back_37 l D aC bs sz F (a0) (a1) (p5) (7 : Int32) M  h)
def f_X9_back (F : Nat) (a0 : Nat) (a1 : Int32) (M : XM) : Option (Int32 × XM) := (f_X9_in a1.toInt64 (0 : Int64) (1 : Int64) M).bind fun p1 => if p1 = 0 then some ((-1 : Int32), M) else if a1 = 0 then j_X9_back_23 F (a0) (a1) (2 : Int32) (a0) M else j_X9_back_23 F (a0) (a1) (7 : Int32) (a0) M
set_option maxHeartbeats 4000000 in
set_option maxRecDepth 100000 in
theorem c_X9_back (l : Launch) (D : va_G) (aC : FieldType → ClassId) (bs sz : Nat) (F : Nat) {a0 : Nat} {a1 : Int32} {M : XM} {r : Int32 × XM} (h : f_X9_back F a0 a1 M = some r) : x_Cn l D aC bs yX9_back cX9_back 6 (some .int) rm_X9_back [.ref a0, .int a1] sz M (some (.int r.1)) sz r.2 := by
  unfold f_X9_back at h
  refine x_enter2 [(0, .ref a0), (1, .int a1)] me_X9_back (Nat.le_of_ble_eq_true rfl) rfl ?_
  refine x_iload_n dX9_back_0 1 rfl ?_
  refine x_i2l dX9_back_1 ?_
  refine x_lconst (v := (0 : Int64)) dX9_back_2 (by decide) ?_
  refine x_lconst (v := (1 : Int64)) dX9_back_3 (by decide) ?_
  obtain ⟨p1, ep1, h⟩ := x_bd h
  refine x_callSI [.long a1.toInt64, .long (0 : Int64), .long (1 : Int64)] [] me_X9_in w_ml_RX9_66 w_st_yX9_in (Nat.le_of_ble_eq_true rfl) (Nat.le_of_ble_eq_true rfl) rfl (Nat.le_of_ble_eq_true rfl) (Nat.le_of_ble_eq_true rfl) (Nat.le_of_ble_eq_true rfl) dX9_back_4 (c_X9_in l D aC bs sz ep1) rfl ?_
  refine x_if_ne 12 dX9_back_7 (by decide) (fun c2 => ?_) (fun c2 => ?_)
  · have h := (if_neg c2).symm.trans h
    refine x_aload_n dX9_back_12 0 rfl ?_
    refine x_iload_n dX9_back_13 1 rfl ?_
    refine x_if_ne 21 dX9_back_14 (by decide) (fun c3 => ?_) (fun c3 => ?_)
    · have h := (if_neg c3).symm.trans h
      refine x_bipush (v := (7 : Int32)) dX9_back_21 (by decide) ?_
      exact jp_X9_back_23 l D aC bs sz F (a0) (a1) (7 : Int32) (a0) M  h
    have h := (if_pos c3).symm.trans h
    refine x_iconst (v := (2 : Int32)) dX9_back_17 (by decide) ?_
    refine x_goto 23 dX9_back_18 (by decide) ?_
    exact jp_X9_back_23 l D aC bs sz F (a0) (a1) (2 : Int32) (a0) M  h
  have h := (if_pos c2).symm.trans h
  refine x_iconst (v := (-1 : Int32)) dX9_back_10 (by decide) ?_
  obtain rfl := Option.some.inj h
  exact x_iret dX9_back_11 (Nat.le_of_ble_eq_true rfl) (Nat.le_of_ble_eq_true rfl)

-- SwappedIntervalsModel.takeBack()I
abbrev rm_X9_takeBack : Room := { frames := 2, cells := 0, slots := 0, locals := 46 }
theorem me_X9_takeBack : x_Me yX9_takeBack cX9_takeBack 1 (some .int) 0 := ⟨by decide +kernel, w_co_yX9_takeBack, w_in_SwappedIntervalsModel, by decide +kernel, by decide +kernel, by decide +kernel⟩
def f_X9_takeBack (a0 : Nat) (M : XM) : Option (Int32 × XM) := (x_gI M a0 9 4).bind fun v1 => if v1 = 0 then some ((-3 : Int32), M) else (x_ob M a0 9).bind fun u3 => (f_X9_undoes a0 M).bind fun p4 => (x_gI p4 a0 9 4).bind fun v5 => some (v5, p4)
set_option maxHeartbeats 4000000 in
set_option maxRecDepth 100000 in
theorem c_X9_takeBack (l : Launch) (D : va_G) (aC : FieldType → ClassId) (bs sz : Nat) {a0 : Nat} {M : XM} {r : Int32 × XM} (h : f_X9_takeBack a0 M = some r) : x_Cn l D aC bs yX9_takeBack cX9_takeBack 1 (some .int) rm_X9_takeBack [.ref a0] sz M (some (.int r.1)) sz r.2 := by
  unfold f_X9_takeBack at h
  refine x_enter2 [(0, .ref a0)] me_X9_takeBack (Nat.le_of_ble_eq_true rfl) rfl ?_
  refine x_aload_n dX9_takeBack_0 0 rfl ?_
  obtain ⟨v1, ev1, h⟩ := x_bd h
  refine x_getI clX9 w_fl_RX9_70 (by decide) dX9_takeBack_1 ev1 ?_
  refine x_if_ne 10 dX9_takeBack_4 (by decide) (fun c2 => ?_) (fun c2 => ?_)
  · have h := (if_neg c2).symm.trans h
    refine x_aload_n dX9_takeBack_10 0 rfl ?_
    obtain ⟨u3, eu3, h⟩ := x_bd h
    obtain ⟨p4, ep4, h⟩ := x_bd h
    refine x_callVV [] [] clX9 me_X9_undoes w_ml_RX9_124 w_im_yX9_undoes w_se_yX9_undoes (Nat.le_of_ble_eq_true rfl) (Nat.le_of_ble_eq_true rfl) rfl (Nat.le_of_ble_eq_true rfl) (Nat.le_of_ble_eq_true rfl) (Nat.le_of_ble_eq_true rfl) dX9_takeBack_11 eu3 (c_X9_undoes l D aC bs sz ep4) rfl ?_
    refine x_aload_n dX9_takeBack_14 0 rfl ?_
    obtain ⟨v5, ev5, h⟩ := x_bd h
    refine x_getI clX9 w_fl_RX9_70 (by decide) dX9_takeBack_15 ev5 ?_
    obtain rfl := Option.some.inj h
    exact x_iret dX9_takeBack_18 (Nat.le_of_ble_eq_true rfl) (Nat.le_of_ble_eq_true rfl)
  have h := (if_pos c2).symm.trans h
  refine x_bipush (v := (-3 : Int32)) dX9_takeBack_7 (by decide) ?_
  obtain rfl := Option.some.inj h
  exact x_iret dX9_takeBack_9 (Nat.le_of_ble_eq_true rfl) (Nat.le_of_ble_eq_true rfl)

-- SwappedIntervalsModel.keep()I
abbrev rm_X9_keep : Room := { frames := 2, cells := 0, slots := 0, locals := 45 }
theorem me_X9_keep : x_Me yX9_keep cX9_keep 1 (some .int) 0 := ⟨by decide +kernel, w_co_yX9_keep, w_in_SwappedIntervalsModel, by decide +kernel, by decide +kernel, by decide +kernel⟩
def f_X9_keep (F : Nat) (a0 : Nat) (M : XM) : Option (Int32 × XM) := (x_gR M a0 9 0).bind fun v1 => (x_ob M a0 9).bind fun u2 => (f_X9_codeNow F a0 M).bind fun p3 => (x_w32 .int M v1 (1 : Int32) p3).bind fun m4 => (x_gR m4 a0 9 0).bind fun v5 => (x_a32 .int m4 v5 (1 : Int32)).bind fun v6 => some (v6, m4)
set_option maxHeartbeats 4000000 in
set_option maxRecDepth 100000 in
theorem c_X9_keep (l : Launch) (D : va_G) (aC : FieldType → ClassId) (bs sz : Nat) (F : Nat) {a0 : Nat} {M : XM} {r : Int32 × XM} (h : f_X9_keep F a0 M = some r) : x_Cn l D aC bs yX9_keep cX9_keep 1 (some .int) rm_X9_keep [.ref a0] sz M (some (.int r.1)) sz r.2 := by
  unfold f_X9_keep at h
  refine x_enter2 [(0, .ref a0)] me_X9_keep (Nat.le_of_ble_eq_true rfl) rfl ?_
  refine x_aload_n dX9_keep_0 0 rfl ?_
  obtain ⟨v1, ev1, h⟩ := x_bd h
  refine x_getR clX9 w_fl_RX9_11 (by decide) dX9_keep_1 ev1 ?_
  refine x_iconst (v := (1 : Int32)) dX9_keep_4 (by decide) ?_
  refine x_aload_n dX9_keep_5 0 rfl ?_
  obtain ⟨u2, eu2, h⟩ := x_bd h
  obtain ⟨p3, ep3, h⟩ := x_bd h
  refine x_callVI [] [.int (1 : Int32), .ref v1] clX9 me_X9_codeNow w_ml_RX9_127 w_im_yX9_codeNow w_se_yX9_codeNow (Nat.le_of_ble_eq_true rfl) (Nat.le_of_ble_eq_true rfl) rfl (Nat.le_of_ble_eq_true rfl) (Nat.le_of_ble_eq_true rfl) (Nat.le_of_ble_eq_true rfl) dX9_keep_6 eu2 (c_X9_codeNow l D aC bs sz F ep3) rfl ?_
  obtain ⟨m4, em4, h⟩ := x_bd h
  refine x_iast dX9_keep_9 em4 ?_
  refine x_aload_n dX9_keep_10 0 rfl ?_
  obtain ⟨v5, ev5, h⟩ := x_bd h
  refine x_getR clX9 w_fl_RX9_11 (by decide) dX9_keep_11 ev5 ?_
  refine x_iconst (v := (1 : Int32)) dX9_keep_14 (by decide) ?_
  obtain ⟨v6, ev6, h⟩ := x_bd h
  refine x_iald dX9_keep_15 ev6 ?_
  obtain rfl := Option.some.inj h
  exact x_iret dX9_keep_16 (Nat.le_of_ble_eq_true rfl) (Nat.le_of_ble_eq_true rfl)

-- SwappedIntervalsModel.feed(I)I
abbrev rm_X9_feed : Room := { frames := 1, cells := 0, slots := 0, locals := 25 }
theorem me_X9_feed : x_Me yX9_feed cX9_feed 2 (some .int) 1 := ⟨by decide +kernel, w_co_yX9_feed, w_in_SwappedIntervalsModel, by decide +kernel, by decide +kernel, by decide +kernel⟩
def f_X9_feed (a0 : Nat) (a1 : Int32) (M : XM) : Option (Int32 × XM) := (f_X9_in a1.toInt64 (0 : Int64) (127 : Int64) M).bind fun p1 => if p1 = 0 then some ((-2 : Int32), M) else (x_gI M a0 9 7).bind fun v3 => if v3 = (100 : Int32) then some ((-4 : Int32), M) else (x_gR M a0 9 6).bind fun v5 => (x_gI M a0 9 7).bind fun v6 => (x_w32 .int M v5 v6 a1).bind fun m7 => (x_gI m7 a0 9 7).bind fun v8 => (x_put m7 a0 9 7 (.int (v8 + (1 : Int32)))).bind fun m9 => (x_gI m9 a0 9 7).bind fun v10 => some (v10, m9)
set_option maxHeartbeats 4000000 in
set_option maxRecDepth 100000 in
theorem c_X9_feed (l : Launch) (D : va_G) (aC : FieldType → ClassId) (bs sz : Nat) {a0 : Nat} {a1 : Int32} {M : XM} {r : Int32 × XM} (h : f_X9_feed a0 a1 M = some r) : x_Cn l D aC bs yX9_feed cX9_feed 2 (some .int) rm_X9_feed [.ref a0, .int a1] sz M (some (.int r.1)) sz r.2 := by
  unfold f_X9_feed at h
  refine x_enter2 [(0, .ref a0), (1, .int a1)] me_X9_feed (Nat.le_of_ble_eq_true rfl) rfl ?_
  refine x_iload_n dX9_feed_0 1 rfl ?_
  refine x_i2l dX9_feed_1 ?_
  refine x_lconst (v := (0 : Int64)) dX9_feed_2 (by decide) ?_
  refine x_ldc2 (v := (127 : Int64)) dX9_feed_3 w_cn_RX9_130 ?_
  obtain ⟨p1, ep1, h⟩ := x_bd h
  refine x_callSI [.long a1.toInt64, .long (0 : Int64), .long (127 : Int64)] [] me_X9_in w_ml_RX9_66 w_st_yX9_in (Nat.le_of_ble_eq_true rfl) (Nat.le_of_ble_eq_true rfl) rfl (Nat.le_of_ble_eq_true rfl) (Nat.le_of_ble_eq_true rfl) (Nat.le_of_ble_eq_true rfl) dX9_feed_6 (c_X9_in l D aC bs sz ep1) rfl ?_
  refine x_if_ne 15 dX9_feed_9 (by decide) (fun c2 => ?_) (fun c2 => ?_)
  · have h := (if_neg c2).symm.trans h
    refine x_aload_n dX9_feed_15 0 rfl ?_
    obtain ⟨v3, ev3, h⟩ := x_bd h
    refine x_getI clX9 w_fl_RX9_132 (by decide) dX9_feed_16 ev3 ?_
    refine x_bipush (v := (100 : Int32)) dX9_feed_19 (by decide) ?_
    refine x_icmp_ne 27 dX9_feed_21 (by decide) (fun c4 => ?_) (fun c4 => ?_)
    · have h := (if_neg c4).symm.trans h
      refine x_aload_n dX9_feed_27 0 rfl ?_
      obtain ⟨v5, ev5, h⟩ := x_bd h
      refine x_getR clX9 w_fl_RX9_24 (by decide) dX9_feed_28 ev5 ?_
      refine x_aload_n dX9_feed_31 0 rfl ?_
      obtain ⟨v6, ev6, h⟩ := x_bd h
      refine x_getI clX9 w_fl_RX9_132 (by decide) dX9_feed_32 ev6 ?_
      refine x_iload_n dX9_feed_35 1 rfl ?_
      obtain ⟨m7, em7, h⟩ := x_bd h
      refine x_iast dX9_feed_36 em7 ?_
      refine x_aload_n dX9_feed_37 0 rfl ?_
      refine x_dup dX9_feed_38 rfl ?_
      obtain ⟨v8, ev8, h⟩ := x_bd h
      refine x_getI clX9 w_fl_RX9_132 (by decide) dX9_feed_39 ev8 ?_
      refine x_iconst (v := (1 : Int32)) dX9_feed_42 (by decide) ?_
      refine x_iadd dX9_feed_43 ?_
      obtain ⟨m9, em9, h⟩ := x_bd h
      refine x_putV clX9 w_fl_RX9_132 (by decide) rfl rfl rfl dX9_feed_44 em9 ?_
      refine x_aload_n dX9_feed_47 0 rfl ?_
      obtain ⟨v10, ev10, h⟩ := x_bd h
      refine x_getI clX9 w_fl_RX9_132 (by decide) dX9_feed_48 ev10 ?_
      obtain rfl := Option.some.inj h
      exact x_iret dX9_feed_51 (Nat.le_of_ble_eq_true rfl) (Nat.le_of_ble_eq_true rfl)
    have h := (if_pos c4).symm.trans h
    refine x_bipush (v := (-4 : Int32)) dX9_feed_24 (by decide) ?_
    obtain rfl := Option.some.inj h
    exact x_iret dX9_feed_26 (Nat.le_of_ble_eq_true rfl) (Nat.le_of_ble_eq_true rfl)
  have h := (if_pos c2).symm.trans h
  refine x_bipush (v := (-2 : Int32)) dX9_feed_12 (by decide) ?_
  obtain rfl := Option.some.inj h
  exact x_iret dX9_feed_14 (Nat.le_of_ble_eq_true rfl) (Nat.le_of_ble_eq_true rfl)

-- SwappedIntervalsModel.isDigit()Z
abbrev rm_X9_isDigit : Room := { frames := 1, cells := 0, slots := 0, locals := 25 }
theorem me_X9_isDigit : x_Me yX9_isDigit cX9_isDigit 1 (some .boolean) 0 := ⟨by decide +kernel, w_co_yX9_isDigit, w_in_SwappedIntervalsModel, by decide +kernel, by decide +kernel, by decide +kernel⟩
def f_X9_isDigit (a0 : Nat) (M : XM) : Option (Int32) := (x_gI M a0 9 8).bind fun v1 => (x_gI M a0 9 7).bind fun v2 => if v2 ≤ v1 then some (0 : Int32) else (x_gR M a0 9 6).bind fun v4 => (x_gI M a0 9 8).bind fun v5 => (x_a32 .int M v4 v5).bind fun v6 => (f_X9_in v6.toInt64 (48 : Int64) (57 : Int64) M).bind fun p7 => if p7 = 0 then some (0 : Int32) else some (1 : Int32)
set_option maxHeartbeats 4000000 in
set_option maxRecDepth 100000 in
theorem c_X9_isDigit (l : Launch) (D : va_G) (aC : FieldType → ClassId) (bs sz : Nat) {a0 : Nat} {M : XM} {r : Int32} (h : f_X9_isDigit a0 M = some r) : x_Cn l D aC bs yX9_isDigit cX9_isDigit 1 (some .boolean) rm_X9_isDigit [.ref a0] sz M (some (.int r)) sz M := by
  unfold f_X9_isDigit at h
  refine x_enter2 [(0, .ref a0)] me_X9_isDigit (Nat.le_of_ble_eq_true rfl) rfl ?_
  refine x_aload_n dX9_isDigit_0 0 rfl ?_
  obtain ⟨v1, ev1, h⟩ := x_bd h
  refine x_getI clX9 w_fl_RX9_135 (by decide) dX9_isDigit_1 ev1 ?_
  refine x_aload_n dX9_isDigit_4 0 rfl ?_
  obtain ⟨v2, ev2, h⟩ := x_bd h
  refine x_getI clX9 w_fl_RX9_132 (by decide) dX9_isDigit_5 ev2 ?_
  refine x_icmp_ge 37 dX9_isDigit_8 (by decide) (fun c3 => ?_) (fun c3 => ?_)
  · have h := (if_pos c3).symm.trans h
    refine x_iconst (v := (0 : Int32)) dX9_isDigit_37 (by decide) ?_
    obtain rfl := Option.some.inj h
    exact x_zret dX9_isDigit_38 (Or.inl rfl) (Nat.le_of_ble_eq_true rfl) (Nat.le_of_ble_eq_true rfl)
  have h := (if_neg c3).symm.trans h
  refine x_aload_n dX9_isDigit_11 0 rfl ?_
  obtain ⟨v4, ev4, h⟩ := x_bd h
  refine x_getR clX9 w_fl_RX9_24 (by decide) dX9_isDigit_12 ev4 ?_
  refine x_aload_n dX9_isDigit_15 0 rfl ?_
  obtain ⟨v5, ev5, h⟩ := x_bd h
  refine x_getI clX9 w_fl_RX9_135 (by decide) dX9_isDigit_16 ev5 ?_
  obtain ⟨v6, ev6, h⟩ := x_bd h
  refine x_iald dX9_isDigit_19 ev6 ?_
  refine x_i2l dX9_isDigit_20 ?_
  refine x_ldc2 (v := (48 : Int64)) dX9_isDigit_21 w_cn_RX9_138 ?_
  refine x_ldc2 (v := (57 : Int64)) dX9_isDigit_24 w_cn_RX9_140 ?_
  obtain ⟨p7, ep7, h⟩ := x_bd h
  refine x_callSI [.long v6.toInt64, .long (48 : Int64), .long (57 : Int64)] [] me_X9_in w_ml_RX9_66 w_st_yX9_in (Nat.le_of_ble_eq_true rfl) (Nat.le_of_ble_eq_true rfl) rfl (Nat.le_of_ble_eq_true rfl) (Nat.le_of_ble_eq_true rfl) (Nat.le_of_ble_eq_true rfl) dX9_isDigit_27 (c_X9_in l D aC bs sz ep7) rfl ?_
  refine x_if_eq 37 dX9_isDigit_30 (by decide) (fun c8 => ?_) (fun c8 => ?_)
  · have h := (if_pos c8).symm.trans h
    refine x_iconst (v := (0 : Int32)) dX9_isDigit_37 (by decide) ?_
    obtain rfl := Option.some.inj h
    exact x_zret dX9_isDigit_38 (Or.inl rfl) (Nat.le_of_ble_eq_true rfl) (Nat.le_of_ble_eq_true rfl)
  have h := (if_neg c8).symm.trans h
  refine x_iconst (v := (1 : Int32)) dX9_isDigit_33 (by decide) ?_
  refine x_goto 38 dX9_isDigit_34 (by decide) ?_
  obtain rfl := Option.some.inj h
  exact x_zret dX9_isDigit_38 (Or.inr rfl) (Nat.le_of_ble_eq_true rfl) (Nat.le_of_ble_eq_true rfl)

-- SwappedIntervalsModel.digitsTold(I)I
abbrev rm_X9_digitsTold : Room := { frames := 2, cells := 0, slots := 0, locals := 45 }
theorem me_X9_digitsTold : x_Me yX9_digitsTold cX9_digitsTold 4 (some .int) 1 := ⟨by decide +kernel, w_co_yX9_digitsTold, w_in_SwappedIntervalsModel, by decide +kernel, by decide +kernel, by decide +kernel⟩
def j_X9_digitsTold_55 (F : Nat) (a0 : Nat) (a2 : Int32) (a3 : Int32) (M : XM)  : Option (Int32 × XM) := (x_gI M a0 9 8).bind fun v5 => if v5 = a2 then (x_gI M a0 9 9).bind fun v7 => if 0 ≤ v7 then some (a3, M) else (x_gI M a0 9 8).bind fun v9 => (x_put M a0 9 9 (.int v9)).bind fun m10 => some (a3, m10) else some (a3, M)
set_option maxHeartbeats 4000000 in
set_option maxRecDepth 100000 in
theorem jp_X9_digitsTold_55 (l : Launch) (D : va_G) (aC : FieldType → ClassId) (bs : Nat) (sz : Nat) (F : Nat) (a0 : Nat) (a2 : Int32) (a3 : Int32) (M : XM)   {r : Int32 × XM} (h : j_X9_digitsTold_55 F a0 a2 a3 M  = some r) : x_V l D aC bs yX9_digitsTold cX9_digitsTold 4 (some .int) rm_X9_digitsTold (x_Z D aC bs (some (.int r.1)) sz r.2 rm_X9_digitsTold) 55 [(0, .ref a0), (2, .int a2), (3, .int a3)] [] sz M 0 0 := by
  unfold j_X9_digitsTold_55 at h
  refine x_aload_n dX9_digitsTold_55 0 rfl ?_
  obtain ⟨v5, ev5, h⟩ := x_bd h
  refine x_getI clX9 w_fl_RX9_135 (by decide) dX9_digitsTold_56 ev5 ?_
  refine x_iload_n dX9_digitsTold_59 1 rfl ?_
  refine x_icmp_ne 78 dX9_digitsTold_60 (by decide) (fun c6 => ?_) (fun c6 => ?_)
  · have h := (if_neg c6).symm.trans h
    refine x_iload_n dX9_digitsTold_78 2 rfl ?_
    obtain rfl := Option.some.inj h
    exact x_iret dX9_digitsTold_79 (Nat.le_of_ble_eq_true rfl) (Nat.le_of_ble_eq_true rfl)
  have h := (if_pos c6).symm.trans h
  refine x_aload_n dX9_digitsTold_63 0 rfl ?_
  obtain ⟨v7, ev7, h⟩ := x_bd h
  refine x_getI clX9 w_fl_RX9_146 (by decide) dX9_digitsTold_64 ev7 ?_
  refine x_if_ge 78 dX9_digitsTold_67 (by decide) (fun c8 => ?_) (fun c8 => ?_)
  · have h := (if_pos c8).symm.trans h
    refine x_iload_n dX9_digitsTold_78 2 rfl ?_
    obtain rfl := Option.some.inj h
    exact x_iret dX9_digitsTold_79 (Nat.le_of_ble_eq_true rfl) (Nat.le_of_ble_eq_true rfl)
  have h := (if_neg c8).symm.trans h
  refine x_aload_n dX9_digitsTold_70 0 rfl ?_
  refine x_aload_n dX9_digitsTold_71 0 rfl ?_
  obtain ⟨v9, ev9, h⟩ := x_bd h
  refine x_getI clX9 w_fl_RX9_135 (by decide) dX9_digitsTold_72 ev9 ?_
  obtain ⟨m10, em10, h⟩ := x_bd h
  refine x_putV clX9 w_fl_RX9_146 (by decide) rfl rfl rfl dX9_digitsTold_75 em10 ?_
  refine x_iload_n dX9_digitsTold_78 2 rfl ?_
  obtain rfl := Option.some.inj h
  exact x_iret dX9_digitsTold_79 (Nat.le_of_ble_eq_true rfl) (Nat.le_of_ble_eq_true rfl)
def b_X9_digitsTold_7 (F : Nat) (a0 : Nat) (a1 : Int32) (a2 : Int32)  (k7 : (Int32 × XM) → Option (Int32 × XM)) (q : Int32 × XM) : Option (Int32 × XM) := (x_ob q.2 a0 9).bind fun u2 => (f_X9_isDigit a0 q.2).bind fun p3 => if p3 = 0 then j_X9_digitsTold_55 F (a0) (a2) (q.1) q.2 else (x_gI q.2 a0 9 8).bind fun v11 => if (a2 + a1) ≤ v11 then j_X9_digitsTold_55 F (a0) (a2) (q.1) q.2 else (x_gR q.2 a0 9 6).bind fun v13 => (x_gI q.2 a0 9 8).bind fun v14 => (x_a32 .int q.2 v13 v14).bind fun v15 => (x_gI q.2 a0 9 8).bind fun v16 => (x_put q.2 a0 9 8 (.int (v16 + (1 : Int32)))).bind fun m17 => k7 (((((10 : Int32) * q.1) + v15) - (48 : Int32)), m17)
set_option maxHeartbeats 4000000 in
set_option maxRecDepth 100000 in
theorem lp_X9_digitsTold_7 (l : Launch) (D : va_G) (aC : FieldType → ClassId) (bs : Nat) (sz : Nat) (F : Nat) (a0 : Nat) (a1 : Int32) (a2 : Int32)   : ∀ (n : Nat) (b0 : Int32) (b1 : XM) (r : Int32 × XM), x_it (b_X9_digitsTold_7 F a0 a1 a2 ) n (b0, b1) = some r → x_V l D aC bs yX9_digitsTold cX9_digitsTold 4 (some .int) rm_X9_digitsTold (x_Z D aC bs (some (.int r.1)) sz r.2 rm_X9_digitsTold) 7 [(0, .ref a0), (1, .int a1), (2, .int a2), (3, .int b0)] [] sz b1 0 0 := by
  suffices H : ∀ (n : Nat) (q : Int32 × XM) (r : Int32 × XM), x_it (b_X9_digitsTold_7 F a0 a1 a2 ) n q = some r → x_V l D aC bs yX9_digitsTold cX9_digitsTold 4 (some .int) rm_X9_digitsTold (x_Z D aC bs (some (.int r.1)) sz r.2 rm_X9_digitsTold) 7 [(0, .ref a0), (1, .int a1), (2, .int a2), (3, .int q.1)] [] sz q.2 0 0 from fun n b0 b1 r h => H n (b0, b1) r h
  refine x_loop (P := fun (q : Int32 × XM) (r : Int32 × XM) => x_V l D aC bs yX9_digitsTold cX9_digitsTold 4 (some .int) rm_X9_digitsTold (x_Z D aC bs (some (.int r.1)) sz r.2 rm_X9_digitsTold) 7 [(0, .ref a0), (1, .int a1), (2, .int a2), (3, .int q.1)] [] sz q.2 0 0) (fun k7 hk0 q r h => ?_)
  have hk7 : ∀ (b0 : Int32) (b1 : XM) (r : Int32 × XM), k7 (b0, b1) = some r → x_V l D aC bs yX9_digitsTold cX9_digitsTold 4 (some .int) rm_X9_digitsTold (x_Z D aC bs (some (.int r.1)) sz r.2 rm_X9_digitsTold) 7 [(0, .ref a0), (1, .int a1), (2, .int a2), (3, .int b0)] [] sz b1 0 0 := fun b0 b1 r h => hk0 (b0, b1) r h
  unfold b_X9_digitsTold_7 at h
  refine x_aload_n dX9_digitsTold_7 0 rfl ?_
  obtain ⟨u2, eu2, h⟩ := x_bd h
  obtain ⟨p3, ep3, h⟩ := x_bd h
  refine x_callVI [] [] clX9 me_X9_isDigit w_ml_RX9_142 w_im_yX9_isDigit w_se_yX9_isDigit (Nat.le_of_ble_eq_true rfl) (Nat.le_of_ble_eq_true rfl) rfl (Nat.le_of_ble_eq_true rfl) (Nat.le_of_ble_eq_true rfl) (Nat.le_of_ble_eq_true rfl) dX9_digitsTold_8 eu2 (c_X9_isDigit l D aC bs sz ep3) rfl ?_
  refine x_if_eq 55 dX9_digitsTold_11 (by decide) (fun c4 => ?_) (fun c4 => ?_)
  · have h := (if_pos c4).symm.trans h
    exact x_sub [0, 2, 3] rfl (jp_X9_digitsTold_55 l D aC bs sz F (a0) (a2) (q.1) q.2  h)
  have h := (if_neg c4).symm.trans h
  refine x_aload_n dX9_digitsTold_14 0 rfl ?_
  obtain ⟨v11, ev11, h⟩ := x_bd h
  refine x_getI clX9 w_fl_RX9_135 (by decide) dX9_digitsTold_15 ev11 ?_
  refine x_iload_n dX9_digitsTold_18 2 rfl ?_
  refine x_iload_n dX9_digitsTold_19 1 rfl ?_
  refine x_iadd dX9_digitsTold_20 ?_
  refine x_icmp_ge 55 dX9_digitsTold_21 (by decide) (fun c12 => ?_) (fun c12 => ?_)
  · have h := (if_pos c12).symm.trans h
    exact x_sub [0, 2, 3] rfl (jp_X9_digitsTold_55 l D aC bs sz F (a0) (a2) (q.1) q.2  h)
  have h := (if_neg c12).symm.trans h
  refine x_bipush (v := (10 : Int32)) dX9_digitsTold_24 (by decide) ?_
  refine x_iload_n dX9_digitsTold_26 3 rfl ?_
  refine x_imul dX9_digitsTold_27 ?_
  refine x_aload_n dX9_digitsTold_28 0 rfl ?_
  obtain ⟨v13, ev13, h⟩ := x_bd h
  refine x_getR clX9 w_fl_RX9_24 (by decide) dX9_digitsTold_29 ev13 ?_
  refine x_aload_n dX9_digitsTold_32 0 rfl ?_
  obtain ⟨v14, ev14, h⟩ := x_bd h
  refine x_getI clX9 w_fl_RX9_135 (by decide) dX9_digitsTold_33 ev14 ?_
  obtain ⟨v15, ev15, h⟩ := x_bd h
  refine x_iald dX9_digitsTold_36 ev15 ?_
  refine x_iadd dX9_digitsTold_37 ?_
  refine x_bipush (v := (48 : Int32)) dX9_digitsTold_38 (by decide) ?_
  refine x_isub dX9_digitsTold_40 ?_
  refine x_istore_n 3 [(3, .int ((((10 : Int32) * q.1) + v15) - (48 : Int32))), (0, .ref a0), (1, .int a1), (2, .int a2)] dX9_digitsTold_41 rfl (by decide) rfl ?_
  refine x_aload_n dX9_digitsTold_42 1 rfl ?_
  refine x_dup dX9_digitsTold_43 rfl ?_
  obtain ⟨v16, ev16, h⟩ := x_bd h
  refine x_getI clX9 w_fl_RX9_135 (by decide) dX9_digitsTold_44 ev16 ?_
  refine x_iconst (v := (1 : Int32)) dX9_digitsTold_47 (by decide) ?_
  refine x_iadd dX9_digitsTold_48 ?_
  obtain ⟨m17, em17, h⟩ := x_bd h
  refine x_putV clX9 w_fl_RX9_135 (by decide) rfl rfl rfl dX9_digitsTold_49 em17 ?_
  refine x_goto 7 dX9_digitsTold_52 (by decide) ?_
  exact x_sub [1, 2, 3, 0] rfl (hk7 _ _ _ h)
def f_X9_digitsTold (F : Nat) (a0 : Nat) (a1 : Int32) (M : XM) : Option (Int32 × XM) := (x_gI M a0 9 8).bind fun v1 => x_it (b_X9_digitsTold_7 F (a0) (a1) (v1)) F ((0 : Int32), M)
set_option maxHeartbeats 4000000 in
set_option maxRecDepth 100000 in
theorem c_X9_digitsTold (l : Launch) (D : va_G) (aC : FieldType → ClassId) (bs sz : Nat) (F : Nat) {a0 : Nat} {a1 : Int32} {M : XM} {r : Int32 × XM} (h : f_X9_digitsTold F a0 a1 M = some r) : x_Cn l D aC bs yX9_digitsTold cX9_digitsTold 4 (some .int) rm_X9_digitsTold [.ref a0, .int a1] sz M (some (.int r.1)) sz r.2 := by
  unfold f_X9_digitsTold at h
  refine x_enter2 [(0, .ref a0), (1, .int a1)] me_X9_digitsTold (Nat.le_of_ble_eq_true rfl) rfl ?_
  refine x_aload_n dX9_digitsTold_0 0 rfl ?_
  obtain ⟨v1, ev1, h⟩ := x_bd h
  refine x_getI clX9 w_fl_RX9_135 (by decide) dX9_digitsTold_1 ev1 ?_
  refine x_istore_n 2 [(2, .int v1), (0, .ref a0), (1, .int a1)] dX9_digitsTold_4 rfl (by decide) rfl ?_
  refine x_iconst (v := (0 : Int32)) dX9_digitsTold_5 (by decide) ?_
  refine x_istore_n 3 [(3, .int (0 : Int32)), (2, .int v1), (0, .ref a0), (1, .int a1)] dX9_digitsTold_6 rfl (by decide) rfl ?_
  exact x_sub [2, 3, 1, 0] rfl (lp_X9_digitsTold_7 l D aC bs sz F (a0) (a1) (v1)  F _ _ _ h)

-- SwappedIntervalsModel.clause()I
abbrev rm_X9_clause : Room := { frames := 3, cells := 0, slots := 0, locals := 68 }
theorem me_X9_clause : x_Me yX9_clause cX9_clause 2 (some .int) 0 := ⟨by decide +kernel, w_co_yX9_clause, w_in_SwappedIntervalsModel, by decide +kernel, by decide +kernel, by decide +kernel⟩
def j_X9_clause_24 (F : Nat) (a0 : Nat) (s0 : Int32) (M : XM)  : Option (Int32 × XM) := if s0 = (98 : Int32) then (x_gI M a0 9 8).bind fun v5 => (x_put M a0 9 8 (.int (v5 + (1 : Int32)))).bind fun m6 => (x_gR m6 a0 9 10).bind fun v7 => (x_ob m6 a0 9).bind fun u8 => (f_X9_digitsTold F a0 (1 : Int32) m6).bind fun p9 => (x_w32 .int p9.2 v7 (0 : Int32) p9.1).bind fun m10 => some (s0, m10) else if s0 = (107 : Int32) then (x_gI M a0 9 8).bind fun v12 => (x_put M a0 9 8 (.int (v12 + (1 : Int32)))).bind fun m13 => some (s0, m13) else if s0 = (108 : Int32) then (x_gI M a0 9 8).bind fun v15 => (x_put M a0 9 8 (.int (v15 + (1 : Int32)))).bind fun m16 => (x_gR m16 a0 9 10).bind fun v17 => (x_ob m16 a0 9).bind fun u18 => (f_X9_digitsTold F a0 (1 : Int32) m16).bind fun p19 => (x_w32 .int p19.2 v17 (0 : Int32) p19.1).bind fun m20 => (x_gR m20 a0 9 10).bind fun v21 => (x_gI m20 a0 9 9).bind fun v22 => if 0 ≤ v22 then (x_w32 .int m20 v21 (1 : Int32) (0 : Int32)).bind fun m24 => some (s0, m24) else (x_ob m20 a0 9).bind fun u25 => (f_X9_digitsTold F a0 (3 : Int32) m20).bind fun p26 => (x_w32 .int p26.2 v21 (1 : Int32) p26.1).bind fun m27 => some (s0, m27) else if s0 = (110 : Int32) then (x_gI M a0 9 8).bind fun v29 => (x_put M a0 9 8 (.int (v29 + (1 : Int32)))).bind fun m30 => (x_gR m30 a0 9 10).bind fun v31 => (x_ob m30 a0 9).bind fun u32 => (f_X9_digitsTold F a0 (1 : Int32) m30).bind fun p33 => (x_w32 .int p33.2 v31 (0 : Int32) p33.1).bind fun m34 => some (s0, m34) else if s0 = (114 : Int32) then (x_gI M a0 9 8).bind fun v36 => (x_put M a0 9 8 (.int (v36 + (1 : Int32)))).bind fun m37 => (x_gR m37 a0 9 10).bind fun v38 => (x_ob m37 a0 9).bind fun u39 => (f_X9_digitsTold F a0 (5 : Int32) m37).bind fun p40 => (x_w32 .int p40.2 v38 (0 : Int32) p40.1).bind fun m41 => some (s0, m41) else if s0 = (115 : Int32) then (x_gI M a0 9 8).bind fun v43 => (x_put M a0 9 8 (.int (v43 + (1 : Int32)))).bind fun m44 => some (s0, m44) else if s0 = (117 : Int32) then (x_gI M a0 9 8).bind fun v46 => (x_put M a0 9 8 (.int (v46 + (1 : Int32)))).bind fun m47 => some (s0, m47) else if s0 = (119 : Int32) then (x_gI M a0 9 8).bind fun v49 => (x_put M a0 9 8 (.int (v49 + (1 : Int32)))).bind fun m50 => (x_gR m50 a0 9 10).bind fun v51 => (x_ob m50 a0 9).bind fun u52 => (f_X9_digitsTold F a0 (1 : Int32) m50).bind fun p53 => (x_w32 .int p53.2 v51 (0 : Int32) p53.1).bind fun m54 => (x_gR m54 a0 9 10).bind fun v55 => (x_gI m54 a0 9 9).bind fun v56 => if 0 ≤ v56 then (x_w32 .int m54 v55 (1 : Int32) (0 : Int32)).bind fun m58 => some (s0, m58) else (x_ob m54 a0 9).bind fun u59 => (f_X9_digitsTold F a0 (1 : Int32) m54).bind fun p60 => (x_w32 .int p60.2 v55 (1 : Int32) p60.1).bind fun m61 => some (s0, m61) else (x_gI M a0 9 8).bind fun v62 => (x_put M a0 9 9 (.int v62)).bind fun m63 => some (s0, m63)
set_option maxHeartbeats 4000000 in
set_option maxRecDepth 100000 in
theorem jp_X9_clause_24 (l : Launch) (D : va_G) (aC : FieldType → ClassId) (bs : Nat) (sz : Nat) (F : Nat) (a0 : Nat) (s0 : Int32) (M : XM)   {r : Int32 × XM} (h : j_X9_clause_24 F a0 s0 M  = some r) : x_V l D aC bs yX9_clause cX9_clause 2 (some .int) rm_X9_clause (x_Z D aC bs (some (.int r.1)) sz r.2 rm_X9_clause) 24 [(0, .ref a0)] [.int s0] sz M 0 0 := by
  unfold j_X9_clause_24 at h
  refine x_istore_n 1 [(1, .int s0), (0, .ref a0)] dX9_clause_24 rfl (by decide) rfl ?_
  refine x_iload_n dX9_clause_25 0 rfl ?_
  by_cases c4 : s0 = (98 : Int32)
  · have h := (if_pos c4).symm.trans h
    refine x_tabIn 98 141 dX9_clause_26 (by rw [c4]; decide) (by decide) (by decide) rfl (by decide) ?_
    refine x_aload_n dX9_clause_141 1 rfl ?_
    refine x_dup dX9_clause_142 rfl ?_
    obtain ⟨v5, ev5, h⟩ := x_bd h
    refine x_getI clX9 w_fl_RX9_135 (by decide) dX9_clause_143 ev5 ?_
    refine x_iconst (v := (1 : Int32)) dX9_clause_146 (by decide) ?_
    refine x_iadd dX9_clause_147 ?_
    obtain ⟨m6, em6, h⟩ := x_bd h
    refine x_putV clX9 w_fl_RX9_135 (by decide) rfl rfl rfl dX9_clause_148 em6 ?_
    refine x_aload_n dX9_clause_151 1 rfl ?_
    obtain ⟨v7, ev7, h⟩ := x_bd h
    refine x_getR clX9 w_fl_RX9_27 (by decide) dX9_clause_152 ev7 ?_
    refine x_iconst (v := (0 : Int32)) dX9_clause_155 (by decide) ?_
    refine x_aload_n dX9_clause_156 1 rfl ?_
    refine x_iconst (v := (1 : Int32)) dX9_clause_157 (by decide) ?_
    obtain ⟨u8, eu8, h⟩ := x_bd h
    obtain ⟨p9, ep9, h⟩ := x_bd h
    refine x_callVI [.int (1 : Int32)] [.int (0 : Int32), .ref v7] clX9 me_X9_digitsTold w_ml_RX9_149 w_im_yX9_digitsTold w_se_yX9_digitsTold (Nat.le_of_ble_eq_true rfl) (Nat.le_of_ble_eq_true rfl) rfl (Nat.le_of_ble_eq_true rfl) (Nat.le_of_ble_eq_true rfl) (Nat.le_of_ble_eq_true rfl) dX9_clause_158 eu8 (c_X9_digitsTold l D aC bs sz F ep9) rfl ?_
    obtain ⟨m10, em10, h⟩ := x_bd h
    refine x_iast dX9_clause_161 em10 ?_
    refine x_goto 289 dX9_clause_162 (by decide) ?_
    refine x_iload_n dX9_clause_289 0 rfl ?_
    obtain rfl := Option.some.inj h
    exact x_iret dX9_clause_290 (Nat.le_of_ble_eq_true rfl) (Nat.le_of_ble_eq_true rfl)
  have h := (if_neg c4).symm.trans h
  by_cases c11 : s0 = (107 : Int32)
  · have h := (if_pos c11).symm.trans h
    refine x_tabIn 107 128 dX9_clause_26 (by rw [c11]; decide) (by decide) (by decide) rfl (by decide) ?_
    refine x_aload_n dX9_clause_128 1 rfl ?_
    refine x_dup dX9_clause_129 rfl ?_
    obtain ⟨v12, ev12, h⟩ := x_bd h
    refine x_getI clX9 w_fl_RX9_135 (by decide) dX9_clause_130 ev12 ?_
    refine x_iconst (v := (1 : Int32)) dX9_clause_133 (by decide) ?_
    refine x_iadd dX9_clause_134 ?_
    obtain ⟨m13, em13, h⟩ := x_bd h
    refine x_putV clX9 w_fl_RX9_135 (by decide) rfl rfl rfl dX9_clause_135 em13 ?_
    refine x_goto 289 dX9_clause_138 (by decide) ?_
    refine x_iload_n dX9_clause_289 0 rfl ?_
    obtain rfl := Option.some.inj h
    exact x_iret dX9_clause_290 (Nat.le_of_ble_eq_true rfl) (Nat.le_of_ble_eq_true rfl)
  have h := (if_neg c11).symm.trans h
  by_cases c14 : s0 = (108 : Int32)
  · have h := (if_pos c14).symm.trans h
    refine x_tabIn 108 189 dX9_clause_26 (by rw [c14]; decide) (by decide) (by decide) rfl (by decide) ?_
    refine x_aload_n dX9_clause_189 1 rfl ?_
    refine x_dup dX9_clause_190 rfl ?_
    obtain ⟨v15, ev15, h⟩ := x_bd h
    refine x_getI clX9 w_fl_RX9_135 (by decide) dX9_clause_191 ev15 ?_
    refine x_iconst (v := (1 : Int32)) dX9_clause_194 (by decide) ?_
    refine x_iadd dX9_clause_195 ?_
    obtain ⟨m16, em16, h⟩ := x_bd h
    refine x_putV clX9 w_fl_RX9_135 (by decide) rfl rfl rfl dX9_clause_196 em16 ?_
    refine x_aload_n dX9_clause_199 1 rfl ?_
    obtain ⟨v17, ev17, h⟩ := x_bd h
    refine x_getR clX9 w_fl_RX9_27 (by decide) dX9_clause_200 ev17 ?_
    refine x_iconst (v := (0 : Int32)) dX9_clause_203 (by decide) ?_
    refine x_aload_n dX9_clause_204 1 rfl ?_
    refine x_iconst (v := (1 : Int32)) dX9_clause_205 (by decide) ?_
    obtain ⟨u18, eu18, h⟩ := x_bd h
    obtain ⟨p19, ep19, h⟩ := x_bd h
    refine x_callVI [.int (1 : Int32)] [.int (0 : Int32), .ref v17] clX9 me_X9_digitsTold w_ml_RX9_149 w_im_yX9_digitsTold w_se_yX9_digitsTold (Nat.le_of_ble_eq_true rfl) (Nat.le_of_ble_eq_true rfl) rfl (Nat.le_of_ble_eq_true rfl) (Nat.le_of_ble_eq_true rfl) (Nat.le_of_ble_eq_true rfl) dX9_clause_206 eu18 (c_X9_digitsTold l D aC bs sz F ep19) rfl ?_
    obtain ⟨m20, em20, h⟩ := x_bd h
    refine x_iast dX9_clause_209 em20 ?_
    refine x_aload_n dX9_clause_210 1 rfl ?_
    obtain ⟨v21, ev21, h⟩ := x_bd h
    refine x_getR clX9 w_fl_RX9_27 (by decide) dX9_clause_211 ev21 ?_
    refine x_iconst (v := (1 : Int32)) dX9_clause_214 (by decide) ?_
    refine x_aload_n dX9_clause_215 1 rfl ?_
    obtain ⟨v22, ev22, h⟩ := x_bd h
    refine x_getI clX9 w_fl_RX9_146 (by decide) dX9_clause_216 ev22 ?_
    refine x_if_ge 230 dX9_clause_219 (by decide) (fun c23 => ?_) (fun c23 => ?_)
    · have h := (if_pos c23).symm.trans h
      refine x_iconst (v := (0 : Int32)) dX9_clause_230 (by decide) ?_
      obtain ⟨m24, em24, h⟩ := x_bd h
      refine x_iast dX9_clause_231 em24 ?_
      refine x_goto 289 dX9_clause_232 (by decide) ?_
      refine x_iload_n dX9_clause_289 0 rfl ?_
      obtain rfl := Option.some.inj h
      exact x_iret dX9_clause_290 (Nat.le_of_ble_eq_true rfl) (Nat.le_of_ble_eq_true rfl)
    have h := (if_neg c23).symm.trans h
    refine x_aload_n dX9_clause_222 1 rfl ?_
    refine x_iconst (v := (3 : Int32)) dX9_clause_223 (by decide) ?_
    obtain ⟨u25, eu25, h⟩ := x_bd h
    obtain ⟨p26, ep26, h⟩ := x_bd h
    refine x_callVI [.int (3 : Int32)] [.int (1 : Int32), .ref v21] clX9 me_X9_digitsTold w_ml_RX9_149 w_im_yX9_digitsTold w_se_yX9_digitsTold (Nat.le_of_ble_eq_true rfl) (Nat.le_of_ble_eq_true rfl) rfl (Nat.le_of_ble_eq_true rfl) (Nat.le_of_ble_eq_true rfl) (Nat.le_of_ble_eq_true rfl) dX9_clause_224 eu25 (c_X9_digitsTold l D aC bs sz F ep26) rfl ?_
    refine x_goto 231 dX9_clause_227 (by decide) ?_
    obtain ⟨m27, em27, h⟩ := x_bd h
    refine x_iast dX9_clause_231 em27 ?_
    refine x_goto 289 dX9_clause_232 (by decide) ?_
    refine x_iload_n dX9_clause_289 0 rfl ?_
    obtain rfl := Option.some.inj h
    exact x_iret dX9_clause_290 (Nat.le_of_ble_eq_true rfl) (Nat.le_of_ble_eq_true rfl)
  have h := (if_neg c14).symm.trans h
  by_cases c28 : s0 = (110 : Int32)
  · have h := (if_pos c28).symm.trans h
    refine x_tabIn 110 141 dX9_clause_26 (by rw [c28]; decide) (by decide) (by decide) rfl (by decide) ?_
    refine x_aload_n dX9_clause_141 1 rfl ?_
    refine x_dup dX9_clause_142 rfl ?_
    obtain ⟨v29, ev29, h⟩ := x_bd h
    refine x_getI clX9 w_fl_RX9_135 (by decide) dX9_clause_143 ev29 ?_
    refine x_iconst (v := (1 : Int32)) dX9_clause_146 (by decide) ?_
    refine x_iadd dX9_clause_147 ?_
    obtain ⟨m30, em30, h⟩ := x_bd h
    refine x_putV clX9 w_fl_RX9_135 (by decide) rfl rfl rfl dX9_clause_148 em30 ?_
    refine x_aload_n dX9_clause_151 1 rfl ?_
    obtain ⟨v31, ev31, h⟩ := x_bd h
    refine x_getR clX9 w_fl_RX9_27 (by decide) dX9_clause_152 ev31 ?_
    refine x_iconst (v := (0 : Int32)) dX9_clause_155 (by decide) ?_
    refine x_aload_n dX9_clause_156 1 rfl ?_
    refine x_iconst (v := (1 : Int32)) dX9_clause_157 (by decide) ?_
    obtain ⟨u32, eu32, h⟩ := x_bd h
    obtain ⟨p33, ep33, h⟩ := x_bd h
    refine x_callVI [.int (1 : Int32)] [.int (0 : Int32), .ref v31] clX9 me_X9_digitsTold w_ml_RX9_149 w_im_yX9_digitsTold w_se_yX9_digitsTold (Nat.le_of_ble_eq_true rfl) (Nat.le_of_ble_eq_true rfl) rfl (Nat.le_of_ble_eq_true rfl) (Nat.le_of_ble_eq_true rfl) (Nat.le_of_ble_eq_true rfl) dX9_clause_158 eu32 (c_X9_digitsTold l D aC bs sz F ep33) rfl ?_
    obtain ⟨m34, em34, h⟩ := x_bd h
    refine x_iast dX9_clause_161 em34 ?_
    refine x_goto 289 dX9_clause_162 (by decide) ?_
    refine x_iload_n dX9_clause_289 0 rfl ?_
    obtain rfl := Option.some.inj h
    exact x_iret dX9_clause_290 (Nat.le_of_ble_eq_true rfl) (Nat.le_of_ble_eq_true rfl)
  have h := (if_neg c28).symm.trans h
  by_cases c35 : s0 = (114 : Int32)
  · have h := (if_pos c35).symm.trans h
    refine x_tabIn 114 165 dX9_clause_26 (by rw [c35]; decide) (by decide) (by decide) rfl (by decide) ?_
    refine x_aload_n dX9_clause_165 1 rfl ?_
    refine x_dup dX9_clause_166 rfl ?_
    obtain ⟨v36, ev36, h⟩ := x_bd h
    refine x_getI clX9 w_fl_RX9_135 (by decide) dX9_clause_167 ev36 ?_
    refine x_iconst (v := (1 : Int32)) dX9_clause_170 (by decide) ?_
    refine x_iadd dX9_clause_171 ?_
    obtain ⟨m37, em37, h⟩ := x_bd h
    refine x_putV clX9 w_fl_RX9_135 (by decide) rfl rfl rfl dX9_clause_172 em37 ?_
    refine x_aload_n dX9_clause_175 1 rfl ?_
    obtain ⟨v38, ev38, h⟩ := x_bd h
    refine x_getR clX9 w_fl_RX9_27 (by decide) dX9_clause_176 ev38 ?_
    refine x_iconst (v := (0 : Int32)) dX9_clause_179 (by decide) ?_
    refine x_aload_n dX9_clause_180 1 rfl ?_
    refine x_iconst (v := (5 : Int32)) dX9_clause_181 (by decide) ?_
    obtain ⟨u39, eu39, h⟩ := x_bd h
    obtain ⟨p40, ep40, h⟩ := x_bd h
    refine x_callVI [.int (5 : Int32)] [.int (0 : Int32), .ref v38] clX9 me_X9_digitsTold w_ml_RX9_149 w_im_yX9_digitsTold w_se_yX9_digitsTold (Nat.le_of_ble_eq_true rfl) (Nat.le_of_ble_eq_true rfl) rfl (Nat.le_of_ble_eq_true rfl) (Nat.le_of_ble_eq_true rfl) (Nat.le_of_ble_eq_true rfl) dX9_clause_182 eu39 (c_X9_digitsTold l D aC bs sz F ep40) rfl ?_
    obtain ⟨m41, em41, h⟩ := x_bd h
    refine x_iast dX9_clause_185 em41 ?_
    refine x_goto 289 dX9_clause_186 (by decide) ?_
    refine x_iload_n dX9_clause_289 0 rfl ?_
    obtain rfl := Option.some.inj h
    exact x_iret dX9_clause_290 (Nat.le_of_ble_eq_true rfl) (Nat.le_of_ble_eq_true rfl)
  have h := (if_neg c35).symm.trans h
  by_cases c42 : s0 = (115 : Int32)
  · have h := (if_pos c42).symm.trans h
    refine x_tabIn 115 128 dX9_clause_26 (by rw [c42]; decide) (by decide) (by decide) rfl (by decide) ?_
    refine x_aload_n dX9_clause_128 1 rfl ?_
    refine x_dup dX9_clause_129 rfl ?_
    obtain ⟨v43, ev43, h⟩ := x_bd h
    refine x_getI clX9 w_fl_RX9_135 (by decide) dX9_clause_130 ev43 ?_
    refine x_iconst (v := (1 : Int32)) dX9_clause_133 (by decide) ?_
    refine x_iadd dX9_clause_134 ?_
    obtain ⟨m44, em44, h⟩ := x_bd h
    refine x_putV clX9 w_fl_RX9_135 (by decide) rfl rfl rfl dX9_clause_135 em44 ?_
    refine x_goto 289 dX9_clause_138 (by decide) ?_
    refine x_iload_n dX9_clause_289 0 rfl ?_
    obtain rfl := Option.some.inj h
    exact x_iret dX9_clause_290 (Nat.le_of_ble_eq_true rfl) (Nat.le_of_ble_eq_true rfl)
  have h := (if_neg c42).symm.trans h
  by_cases c45 : s0 = (117 : Int32)
  · have h := (if_pos c45).symm.trans h
    refine x_tabIn 117 128 dX9_clause_26 (by rw [c45]; decide) (by decide) (by decide) rfl (by decide) ?_
    refine x_aload_n dX9_clause_128 1 rfl ?_
    refine x_dup dX9_clause_129 rfl ?_
    obtain ⟨v46, ev46, h⟩ := x_bd h
    refine x_getI clX9 w_fl_RX9_135 (by decide) dX9_clause_130 ev46 ?_
    refine x_iconst (v := (1 : Int32)) dX9_clause_133 (by decide) ?_
    refine x_iadd dX9_clause_134 ?_
    obtain ⟨m47, em47, h⟩ := x_bd h
    refine x_putV clX9 w_fl_RX9_135 (by decide) rfl rfl rfl dX9_clause_135 em47 ?_
    refine x_goto 289 dX9_clause_138 (by decide) ?_
    refine x_iload_n dX9_clause_289 0 rfl ?_
    obtain rfl := Option.some.inj h
    exact x_iret dX9_clause_290 (Nat.le_of_ble_eq_true rfl) (Nat.le_of_ble_eq_true rfl)
  have h := (if_neg c45).symm.trans h
  by_cases c48 : s0 = (119 : Int32)
  · have h := (if_pos c48).symm.trans h
    refine x_tabIn 119 235 dX9_clause_26 (by rw [c48]; decide) (by decide) (by decide) rfl (by decide) ?_
    refine x_aload_n dX9_clause_235 1 rfl ?_
    refine x_dup dX9_clause_236 rfl ?_
    obtain ⟨v49, ev49, h⟩ := x_bd h
    refine x_getI clX9 w_fl_RX9_135 (by decide) dX9_clause_237 ev49 ?_
    refine x_iconst (v := (1 : Int32)) dX9_clause_240 (by decide) ?_
    refine x_iadd dX9_clause_241 ?_
    obtain ⟨m50, em50, h⟩ := x_bd h
    refine x_putV clX9 w_fl_RX9_135 (by decide) rfl rfl rfl dX9_clause_242 em50 ?_
    refine x_aload_n dX9_clause_245 1 rfl ?_
    obtain ⟨v51, ev51, h⟩ := x_bd h
    refine x_getR clX9 w_fl_RX9_27 (by decide) dX9_clause_246 ev51 ?_
    refine x_iconst (v := (0 : Int32)) dX9_clause_249 (by decide) ?_
    refine x_aload_n dX9_clause_250 1 rfl ?_
    refine x_iconst (v := (1 : Int32)) dX9_clause_251 (by decide) ?_
    obtain ⟨u52, eu52, h⟩ := x_bd h
    obtain ⟨p53, ep53, h⟩ := x_bd h
    refine x_callVI [.int (1 : Int32)] [.int (0 : Int32), .ref v51] clX9 me_X9_digitsTold w_ml_RX9_149 w_im_yX9_digitsTold w_se_yX9_digitsTold (Nat.le_of_ble_eq_true rfl) (Nat.le_of_ble_eq_true rfl) rfl (Nat.le_of_ble_eq_true rfl) (Nat.le_of_ble_eq_true rfl) (Nat.le_of_ble_eq_true rfl) dX9_clause_252 eu52 (c_X9_digitsTold l D aC bs sz F ep53) rfl ?_
    obtain ⟨m54, em54, h⟩ := x_bd h
    refine x_iast dX9_clause_255 em54 ?_
    refine x_aload_n dX9_clause_256 1 rfl ?_
    obtain ⟨v55, ev55, h⟩ := x_bd h
    refine x_getR clX9 w_fl_RX9_27 (by decide) dX9_clause_257 ev55 ?_
    refine x_iconst (v := (1 : Int32)) dX9_clause_260 (by decide) ?_
    refine x_aload_n dX9_clause_261 1 rfl ?_
    obtain ⟨v56, ev56, h⟩ := x_bd h
    refine x_getI clX9 w_fl_RX9_146 (by decide) dX9_clause_262 ev56 ?_
    refine x_if_ge 276 dX9_clause_265 (by decide) (fun c57 => ?_) (fun c57 => ?_)
    · have h := (if_pos c57).symm.trans h
      refine x_iconst (v := (0 : Int32)) dX9_clause_276 (by decide) ?_
      obtain ⟨m58, em58, h⟩ := x_bd h
      refine x_iast dX9_clause_277 em58 ?_
      refine x_goto 289 dX9_clause_278 (by decide) ?_
      refine x_iload_n dX9_clause_289 0 rfl ?_
      obtain rfl := Option.some.inj h
      exact x_iret dX9_clause_290 (Nat.le_of_ble_eq_true rfl) (Nat.le_of_ble_eq_true rfl)
    have h := (if_neg c57).symm.trans h
    refine x_aload_n dX9_clause_268 1 rfl ?_
    refine x_iconst (v := (1 : Int32)) dX9_clause_269 (by decide) ?_
    obtain ⟨u59, eu59, h⟩ := x_bd h
    obtain ⟨p60, ep60, h⟩ := x_bd h
    refine x_callVI [.int (1 : Int32)] [.int (1 : Int32), .ref v55] clX9 me_X9_digitsTold w_ml_RX9_149 w_im_yX9_digitsTold w_se_yX9_digitsTold (Nat.le_of_ble_eq_true rfl) (Nat.le_of_ble_eq_true rfl) rfl (Nat.le_of_ble_eq_true rfl) (Nat.le_of_ble_eq_true rfl) (Nat.le_of_ble_eq_true rfl) dX9_clause_270 eu59 (c_X9_digitsTold l D aC bs sz F ep60) rfl ?_
    refine x_goto 277 dX9_clause_273 (by decide) ?_
    obtain ⟨m61, em61, h⟩ := x_bd h
    refine x_iast dX9_clause_277 em61 ?_
    refine x_goto 289 dX9_clause_278 (by decide) ?_
    refine x_iload_n dX9_clause_289 0 rfl ?_
    obtain rfl := Option.some.inj h
    exact x_iret dX9_clause_290 (Nat.le_of_ble_eq_true rfl) (Nat.le_of_ble_eq_true rfl)
  have h := (if_neg c48).symm.trans h
  have nc4 := lv_neT c4 (a := 98) (by decide)
  have nc11 := lv_neT c11 (a := 107) (by decide)
  have nc14 := lv_neT c14 (a := 108) (by decide)
  have nc28 := lv_neT c28 (a := 110) (by decide)
  have nc35 := lv_neT c35 (a := 114) (by decide)
  have nc42 := lv_neT c42 (a := 115) (by decide)
  have nc45 := lv_neT c45 (a := 117) (by decide)
  have nc48 := lv_neT c48 (a := 119) (by decide)
  refine x_tabD 281 dX9_clause_26 ?_ (by decide) ?_
  · by_cases r1 : (s0).toInt < 98
    · exact Or.inl r1
    by_cases r2 : 119 < (s0).toInt
    · exact Or.inr (Or.inl r2)
    refine Or.inr (Or.inr ?_)
    rcases (show (s0).toInt = 99 ∨ (s0).toInt = 100 ∨ (s0).toInt = 101 ∨ (s0).toInt = 102 ∨ (s0).toInt = 103 ∨ (s0).toInt = 104 ∨ (s0).toInt = 105 ∨ (s0).toInt = 106 ∨ (s0).toInt = 109 ∨ (s0).toInt = 111 ∨ (s0).toInt = 112 ∨ (s0).toInt = 113 ∨ (s0).toInt = 116 ∨ (s0).toInt = 118 by omega) with r3 | r3 | r3 | r3 | r3 | r3 | r3 | r3 | r3 | r3 | r3 | r3 | r3 | r3 <;> rw [r3] <;> rfl
  refine x_aload_n dX9_clause_281 1 rfl ?_
  refine x_aload_n dX9_clause_282 1 rfl ?_
  obtain ⟨v62, ev62, h⟩ := x_bd h
  refine x_getI clX9 w_fl_RX9_135 (by decide) dX9_clause_283 ev62 ?_
  obtain ⟨m63, em63, h⟩ := x_bd h
  refine x_putV clX9 w_fl_RX9_146 (by decide) rfl rfl rfl dX9_clause_286 em63 ?_
  refine x_iload_n dX9_clause_289 0 rfl ?_
  obtain rfl := Option.some.inj h
  exact x_iret dX9_clause_290 (Nat.le_of_ble_eq_true rfl) (Nat.le_of_ble_eq_true rfl)
def f_X9_clause (F : Nat) (a0 : Nat) (M : XM) : Option (Int32 × XM) := (x_gI M a0 9 8).bind fun v1 => (x_gI M a0 9 7).bind fun v2 => if v2 ≤ v1 then j_X9_clause_24 F (a0) (-1 : Int32) M else (x_gR M a0 9 6).bind fun v64 => (x_gI M a0 9 8).bind fun v65 => (x_a32 .int M v64 v65).bind fun v66 => j_X9_clause_24 F (a0) (v66) M
set_option maxHeartbeats 4000000 in
set_option maxRecDepth 100000 in
theorem c_X9_clause (l : Launch) (D : va_G) (aC : FieldType → ClassId) (bs sz : Nat) (F : Nat) {a0 : Nat} {M : XM} {r : Int32 × XM} (h : f_X9_clause F a0 M = some r) : x_Cn l D aC bs yX9_clause cX9_clause 2 (some .int) rm_X9_clause [.ref a0] sz M (some (.int r.1)) sz r.2 := by
  unfold f_X9_clause at h
  refine x_enter2 [(0, .ref a0)] me_X9_clause (Nat.le_of_ble_eq_true rfl) rfl ?_
  refine x_aload_n dX9_clause_0 0 rfl ?_
  obtain ⟨v1, ev1, h⟩ := x_bd h
  refine x_getI clX9 w_fl_RX9_135 (by decide) dX9_clause_1 ev1 ?_
  refine x_aload_n dX9_clause_4 0 rfl ?_
  obtain ⟨v2, ev2, h⟩ := x_bd h
  refine x_getI clX9 w_fl_RX9_132 (by decide) dX9_clause_5 ev2 ?_
  refine x_icmp_ge 23 dX9_clause_8 (by decide) (fun c3 => ?_) (fun c3 => ?_)
  · have h := (if_pos c3).symm.trans h
    refine x_iconst (v := (-1 : Int32)) dX9_clause_23 (by decide) ?_
    exact jp_X9_clause_24 l D aC bs sz F (a0) (-1 : Int32) M  h
  have h := (if_neg c3).symm.trans h
  refine x_aload_n dX9_clause_11 0 rfl ?_
  obtain ⟨v64, ev64, h⟩ := x_bd h
  refine x_getR clX9 w_fl_RX9_24 (by decide) dX9_clause_12 ev64 ?_
  refine x_aload_n dX9_clause_15 0 rfl ?_
  obtain ⟨v65, ev65, h⟩ := x_bd h
  refine x_getI clX9 w_fl_RX9_135 (by decide) dX9_clause_16 ev65 ?_
  obtain ⟨v66, ev66, h⟩ := x_bd h
  refine x_iald dX9_clause_19 ev66 ?_
  refine x_goto 24 dX9_clause_20 (by decide) ?_
  exact jp_X9_clause_24 l D aC bs sz F (a0) (v66) M  h

-- SwappedIntervalsModel.does(I)Z
abbrev rm_X9_does : Room := { frames := 4, cells := 0, slots := 0, locals := 96 }
theorem me_X9_does : x_Me yX9_does cX9_does 2 (some .boolean) 1 := ⟨by decide +kernel, w_co_yX9_does, w_in_SwappedIntervalsModel, by decide +kernel, by decide +kernel, by decide +kernel⟩
def f_X9_does (F : Nat) (a0 : Nat) (a1 : Int32) (M : XM) : Option (Int32 × XM) := if a1 = (98 : Int32) then (x_gR M a0 9 10).bind fun v2 => (x_a32 .int M v2 (0 : Int32)).bind fun v3 => (x_ob M a0 9).bind fun u4 => (f_X9_back F a0 v3 M).bind fun p5 => if p5.1 < 0 then some ((0 : Int32), p5.2) else some ((1 : Int32), p5.2) else if a1 = (107 : Int32) then (x_ob M a0 9).bind fun u8 => (f_X9_keep F a0 M).bind fun p9 => if p9.1 < 0 then some ((0 : Int32), p9.2) else some ((1 : Int32), p9.2) else if a1 = (108 : Int32) then (x_gR M a0 9 10).bind fun v12 => (x_a32 .int M v12 (0 : Int32)).bind fun v13 => (x_gR M a0 9 10).bind fun v14 => (x_a32 .int M v14 (1 : Int32)).bind fun v15 => (x_ob M a0 9).bind fun u16 => (f_X9_length a0 v13 v15 M).bind fun p17 => if p17.1 < 0 then some ((0 : Int32), p17.2) else some ((1 : Int32), p17.2) else if a1 = (110 : Int32) then (x_gR M a0 9 10).bind fun v20 => (x_a32 .int M v20 (0 : Int32)).bind fun v21 => (x_ob M a0 9).bind fun u22 => (f_X9_letters F a0 v21 M).bind fun p23 => if p23.1 < 0 then some ((0 : Int32), p23.2) else some ((1 : Int32), p23.2) else if a1 = (114 : Int32) then (x_gR M a0 9 10).bind fun v26 => (x_a32 .int M v26 (0 : Int32)).bind fun v27 => (x_ob M a0 9).bind fun u28 => (f_X9_bottom F a0 v27 M).bind fun p29 => if p29.1 < 0 then some ((0 : Int32), p29.2) else some ((1 : Int32), p29.2) else if a1 = (115 : Int32) then (x_ob M a0 9).bind fun u32 => (f_X9_step F a0 M).bind fun p33 => if p33.1 < 0 then some ((0 : Int32), p33.2) else some ((1 : Int32), p33.2) else if a1 = (117 : Int32) then (x_ob M a0 9).bind fun u36 => (f_X9_takeBack a0 M).bind fun p37 => if p37.1 < 0 then some ((0 : Int32), p37.2) else some ((1 : Int32), p37.2) else (x_gR M a0 9 10).bind fun v39 => (x_a32 .int M v39 (0 : Int32)).bind fun v40 => (x_gR M a0 9 10).bind fun v41 => (x_a32 .int M v41 (1 : Int32)).bind fun v42 => (x_ob M a0 9).bind fun u43 => (f_X9_swap F a0 v40 v42 M).bind fun p44 => if p44.1 < 0 then some ((0 : Int32), p44.2) else some ((1 : Int32), p44.2)
set_option maxHeartbeats 4000000 in
set_option maxRecDepth 100000 in
theorem c_X9_does (l : Launch) (D : va_G) (aC : FieldType → ClassId) (bs sz : Nat) (F : Nat) {a0 : Nat} {a1 : Int32} {M : XM} {r : Int32 × XM} (h : f_X9_does F a0 a1 M = some r) : x_Cn l D aC bs yX9_does cX9_does 2 (some .boolean) rm_X9_does [.ref a0, .int a1] sz M (some (.int r.1)) sz r.2 := by
  unfold f_X9_does at h
  refine x_enter2 [(0, .ref a0), (1, .int a1)] me_X9_does (Nat.le_of_ble_eq_true rfl) rfl ?_
  refine x_iload_n dX9_does_0 1 rfl ?_
  by_cases c1 : a1 = (98 : Int32)
  · have h := (if_pos c1).symm.trans h
    refine x_tabIn 98 154 dX9_does_1 (by rw [c1]; decide) (by decide) (by decide) rfl (by decide) ?_
    refine x_aload_n dX9_does_154 0 rfl ?_
    refine x_aload_n dX9_does_155 0 rfl ?_
    obtain ⟨v2, ev2, h⟩ := x_bd h
    refine x_getR clX9 w_fl_RX9_27 (by decide) dX9_does_156 ev2 ?_
    refine x_iconst (v := (0 : Int32)) dX9_does_159 (by decide) ?_
    obtain ⟨v3, ev3, h⟩ := x_bd h
    refine x_iald dX9_does_160 ev3 ?_
    obtain ⟨u4, eu4, h⟩ := x_bd h
    obtain ⟨p5, ep5, h⟩ := x_bd h
    refine x_callVI [.int v3] [] clX9 me_X9_back w_ml_RX9_164 w_im_yX9_back w_se_yX9_back (Nat.le_of_ble_eq_true rfl) (Nat.le_of_ble_eq_true rfl) rfl (Nat.le_of_ble_eq_true rfl) (Nat.le_of_ble_eq_true rfl) (Nat.le_of_ble_eq_true rfl) dX9_does_161 eu4 (c_X9_back l D aC bs sz F ep5) rfl ?_
    refine x_if_lt 171 dX9_does_164 (by decide) (fun c6 => ?_) (fun c6 => ?_)
    · have h := (if_pos c6).symm.trans h
      refine x_iconst (v := (0 : Int32)) dX9_does_171 (by decide) ?_
      obtain rfl := Option.some.inj h
      exact x_zret dX9_does_172 (Or.inl rfl) (Nat.le_of_ble_eq_true rfl) (Nat.le_of_ble_eq_true rfl)
    have h := (if_neg c6).symm.trans h
    refine x_iconst (v := (1 : Int32)) dX9_does_167 (by decide) ?_
    refine x_goto 172 dX9_does_168 (by decide) ?_
    obtain rfl := Option.some.inj h
    exact x_zret dX9_does_172 (Or.inr rfl) (Nat.le_of_ble_eq_true rfl) (Nat.le_of_ble_eq_true rfl)
  have h := (if_neg c1).symm.trans h
  by_cases c7 : a1 = (107 : Int32)
  · have h := (if_pos c7).symm.trans h
    refine x_tabIn 107 109 dX9_does_1 (by rw [c7]; decide) (by decide) (by decide) rfl (by decide) ?_
    refine x_aload_n dX9_does_109 0 rfl ?_
    obtain ⟨u8, eu8, h⟩ := x_bd h
    obtain ⟨p9, ep9, h⟩ := x_bd h
    refine x_callVI [] [] clX9 me_X9_keep w_ml_RX9_155 w_im_yX9_keep w_se_yX9_keep (Nat.le_of_ble_eq_true rfl) (Nat.le_of_ble_eq_true rfl) rfl (Nat.le_of_ble_eq_true rfl) (Nat.le_of_ble_eq_true rfl) (Nat.le_of_ble_eq_true rfl) dX9_does_110 eu8 (c_X9_keep l D aC bs sz F ep9) rfl ?_
    refine x_if_lt 120 dX9_does_113 (by decide) (fun c10 => ?_) (fun c10 => ?_)
    · have h := (if_pos c10).symm.trans h
      refine x_iconst (v := (0 : Int32)) dX9_does_120 (by decide) ?_
      obtain rfl := Option.some.inj h
      exact x_zret dX9_does_121 (Or.inl rfl) (Nat.le_of_ble_eq_true rfl) (Nat.le_of_ble_eq_true rfl)
    have h := (if_neg c10).symm.trans h
    refine x_iconst (v := (1 : Int32)) dX9_does_116 (by decide) ?_
    refine x_goto 121 dX9_does_117 (by decide) ?_
    obtain rfl := Option.some.inj h
    exact x_zret dX9_does_121 (Or.inr rfl) (Nat.le_of_ble_eq_true rfl) (Nat.le_of_ble_eq_true rfl)
  have h := (if_neg c7).symm.trans h
  by_cases c11 : a1 = (108 : Int32)
  · have h := (if_pos c11).symm.trans h
    refine x_tabIn 108 192 dX9_does_1 (by rw [c11]; decide) (by decide) (by decide) rfl (by decide) ?_
    refine x_aload_n dX9_does_192 0 rfl ?_
    refine x_aload_n dX9_does_193 0 rfl ?_
    obtain ⟨v12, ev12, h⟩ := x_bd h
    refine x_getR clX9 w_fl_RX9_27 (by decide) dX9_does_194 ev12 ?_
    refine x_iconst (v := (0 : Int32)) dX9_does_197 (by decide) ?_
    obtain ⟨v13, ev13, h⟩ := x_bd h
    refine x_iald dX9_does_198 ev13 ?_
    refine x_aload_n dX9_does_199 0 rfl ?_
    obtain ⟨v14, ev14, h⟩ := x_bd h
    refine x_getR clX9 w_fl_RX9_27 (by decide) dX9_does_200 ev14 ?_
    refine x_iconst (v := (1 : Int32)) dX9_does_203 (by decide) ?_
    obtain ⟨v15, ev15, h⟩ := x_bd h
    refine x_iald dX9_does_204 ev15 ?_
    obtain ⟨u16, eu16, h⟩ := x_bd h
    obtain ⟨p17, ep17, h⟩ := x_bd h
    refine x_callVI [.int v13, .int v15] [] clX9 me_X9_length w_ml_RX9_170 w_im_yX9_length w_se_yX9_length (Nat.le_of_ble_eq_true rfl) (Nat.le_of_ble_eq_true rfl) rfl (Nat.le_of_ble_eq_true rfl) (Nat.le_of_ble_eq_true rfl) (Nat.le_of_ble_eq_true rfl) dX9_does_205 eu16 (c_X9_length l D aC bs sz ep17) rfl ?_
    refine x_if_lt 215 dX9_does_208 (by decide) (fun c18 => ?_) (fun c18 => ?_)
    · have h := (if_pos c18).symm.trans h
      refine x_iconst (v := (0 : Int32)) dX9_does_215 (by decide) ?_
      obtain rfl := Option.some.inj h
      exact x_zret dX9_does_216 (Or.inl rfl) (Nat.le_of_ble_eq_true rfl) (Nat.le_of_ble_eq_true rfl)
    have h := (if_neg c18).symm.trans h
    refine x_iconst (v := (1 : Int32)) dX9_does_211 (by decide) ?_
    refine x_goto 216 dX9_does_212 (by decide) ?_
    obtain rfl := Option.some.inj h
    exact x_zret dX9_does_216 (Or.inr rfl) (Nat.le_of_ble_eq_true rfl) (Nat.le_of_ble_eq_true rfl)
  have h := (if_neg c11).symm.trans h
  by_cases c19 : a1 = (110 : Int32)
  · have h := (if_pos c19).symm.trans h
    refine x_tabIn 110 135 dX9_does_1 (by rw [c19]; decide) (by decide) (by decide) rfl (by decide) ?_
    refine x_aload_n dX9_does_135 0 rfl ?_
    refine x_aload_n dX9_does_136 0 rfl ?_
    obtain ⟨v20, ev20, h⟩ := x_bd h
    refine x_getR clX9 w_fl_RX9_27 (by decide) dX9_does_137 ev20 ?_
    refine x_iconst (v := (0 : Int32)) dX9_does_140 (by decide) ?_
    obtain ⟨v21, ev21, h⟩ := x_bd h
    refine x_iald dX9_does_141 ev21 ?_
    obtain ⟨u22, eu22, h⟩ := x_bd h
    obtain ⟨p23, ep23, h⟩ := x_bd h
    refine x_callVI [.int v21] [] clX9 me_X9_letters w_ml_RX9_161 w_im_yX9_letters w_se_yX9_letters (Nat.le_of_ble_eq_true rfl) (Nat.le_of_ble_eq_true rfl) rfl (Nat.le_of_ble_eq_true rfl) (Nat.le_of_ble_eq_true rfl) (Nat.le_of_ble_eq_true rfl) dX9_does_142 eu22 (c_X9_letters l D aC bs sz F ep23) rfl ?_
    refine x_if_lt 152 dX9_does_145 (by decide) (fun c24 => ?_) (fun c24 => ?_)
    · have h := (if_pos c24).symm.trans h
      refine x_iconst (v := (0 : Int32)) dX9_does_152 (by decide) ?_
      obtain rfl := Option.some.inj h
      exact x_zret dX9_does_153 (Or.inl rfl) (Nat.le_of_ble_eq_true rfl) (Nat.le_of_ble_eq_true rfl)
    have h := (if_neg c24).symm.trans h
    refine x_iconst (v := (1 : Int32)) dX9_does_148 (by decide) ?_
    refine x_goto 153 dX9_does_149 (by decide) ?_
    obtain rfl := Option.some.inj h
    exact x_zret dX9_does_153 (Or.inr rfl) (Nat.le_of_ble_eq_true rfl) (Nat.le_of_ble_eq_true rfl)
  have h := (if_neg c19).symm.trans h
  by_cases c25 : a1 = (114 : Int32)
  · have h := (if_pos c25).symm.trans h
    refine x_tabIn 114 173 dX9_does_1 (by rw [c25]; decide) (by decide) (by decide) rfl (by decide) ?_
    refine x_aload_n dX9_does_173 0 rfl ?_
    refine x_aload_n dX9_does_174 0 rfl ?_
    obtain ⟨v26, ev26, h⟩ := x_bd h
    refine x_getR clX9 w_fl_RX9_27 (by decide) dX9_does_175 ev26 ?_
    refine x_iconst (v := (0 : Int32)) dX9_does_178 (by decide) ?_
    obtain ⟨v27, ev27, h⟩ := x_bd h
    refine x_iald dX9_does_179 ev27 ?_
    obtain ⟨u28, eu28, h⟩ := x_bd h
    obtain ⟨p29, ep29, h⟩ := x_bd h
    refine x_callVI [.int v27] [] clX9 me_X9_bottom w_ml_RX9_167 w_im_yX9_bottom w_se_yX9_bottom (Nat.le_of_ble_eq_true rfl) (Nat.le_of_ble_eq_true rfl) rfl (Nat.le_of_ble_eq_true rfl) (Nat.le_of_ble_eq_true rfl) (Nat.le_of_ble_eq_true rfl) dX9_does_180 eu28 (c_X9_bottom l D aC bs sz F ep29) rfl ?_
    refine x_if_lt 190 dX9_does_183 (by decide) (fun c30 => ?_) (fun c30 => ?_)
    · have h := (if_pos c30).symm.trans h
      refine x_iconst (v := (0 : Int32)) dX9_does_190 (by decide) ?_
      obtain rfl := Option.some.inj h
      exact x_zret dX9_does_191 (Or.inl rfl) (Nat.le_of_ble_eq_true rfl) (Nat.le_of_ble_eq_true rfl)
    have h := (if_neg c30).symm.trans h
    refine x_iconst (v := (1 : Int32)) dX9_does_186 (by decide) ?_
    refine x_goto 191 dX9_does_187 (by decide) ?_
    obtain rfl := Option.some.inj h
    exact x_zret dX9_does_191 (Or.inr rfl) (Nat.le_of_ble_eq_true rfl) (Nat.le_of_ble_eq_true rfl)
  have h := (if_neg c25).symm.trans h
  by_cases c31 : a1 = (115 : Int32)
  · have h := (if_pos c31).symm.trans h
    refine x_tabIn 115 96 dX9_does_1 (by rw [c31]; decide) (by decide) (by decide) rfl (by decide) ?_
    refine x_aload_n dX9_does_96 0 rfl ?_
    obtain ⟨u32, eu32, h⟩ := x_bd h
    obtain ⟨p33, ep33, h⟩ := x_bd h
    refine x_callVI [] [] clX9 me_X9_step w_ml_RX9_152 w_im_yX9_step w_se_yX9_step (Nat.le_of_ble_eq_true rfl) (Nat.le_of_ble_eq_true rfl) rfl (Nat.le_of_ble_eq_true rfl) (Nat.le_of_ble_eq_true rfl) (Nat.le_of_ble_eq_true rfl) dX9_does_97 eu32 (c_X9_step l D aC bs sz F ep33) rfl ?_
    refine x_if_lt 107 dX9_does_100 (by decide) (fun c34 => ?_) (fun c34 => ?_)
    · have h := (if_pos c34).symm.trans h
      refine x_iconst (v := (0 : Int32)) dX9_does_107 (by decide) ?_
      obtain rfl := Option.some.inj h
      exact x_zret dX9_does_108 (Or.inl rfl) (Nat.le_of_ble_eq_true rfl) (Nat.le_of_ble_eq_true rfl)
    have h := (if_neg c34).symm.trans h
    refine x_iconst (v := (1 : Int32)) dX9_does_103 (by decide) ?_
    refine x_goto 108 dX9_does_104 (by decide) ?_
    obtain rfl := Option.some.inj h
    exact x_zret dX9_does_108 (Or.inr rfl) (Nat.le_of_ble_eq_true rfl) (Nat.le_of_ble_eq_true rfl)
  have h := (if_neg c31).symm.trans h
  by_cases c35 : a1 = (117 : Int32)
  · have h := (if_pos c35).symm.trans h
    refine x_tabIn 117 122 dX9_does_1 (by rw [c35]; decide) (by decide) (by decide) rfl (by decide) ?_
    refine x_aload_n dX9_does_122 0 rfl ?_
    obtain ⟨u36, eu36, h⟩ := x_bd h
    obtain ⟨p37, ep37, h⟩ := x_bd h
    refine x_callVI [] [] clX9 me_X9_takeBack w_ml_RX9_158 w_im_yX9_takeBack w_se_yX9_takeBack (Nat.le_of_ble_eq_true rfl) (Nat.le_of_ble_eq_true rfl) rfl (Nat.le_of_ble_eq_true rfl) (Nat.le_of_ble_eq_true rfl) (Nat.le_of_ble_eq_true rfl) dX9_does_123 eu36 (c_X9_takeBack l D aC bs sz ep37) rfl ?_
    refine x_if_lt 133 dX9_does_126 (by decide) (fun c38 => ?_) (fun c38 => ?_)
    · have h := (if_pos c38).symm.trans h
      refine x_iconst (v := (0 : Int32)) dX9_does_133 (by decide) ?_
      obtain rfl := Option.some.inj h
      exact x_zret dX9_does_134 (Or.inl rfl) (Nat.le_of_ble_eq_true rfl) (Nat.le_of_ble_eq_true rfl)
    have h := (if_neg c38).symm.trans h
    refine x_iconst (v := (1 : Int32)) dX9_does_129 (by decide) ?_
    refine x_goto 134 dX9_does_130 (by decide) ?_
    obtain rfl := Option.some.inj h
    exact x_zret dX9_does_134 (Or.inr rfl) (Nat.le_of_ble_eq_true rfl) (Nat.le_of_ble_eq_true rfl)
  have h := (if_neg c35).symm.trans h
  have nc1 := lv_neT c1 (a := 98) (by decide)
  have nc7 := lv_neT c7 (a := 107) (by decide)
  have nc11 := lv_neT c11 (a := 108) (by decide)
  have nc19 := lv_neT c19 (a := 110) (by decide)
  have nc25 := lv_neT c25 (a := 114) (by decide)
  have nc31 := lv_neT c31 (a := 115) (by decide)
  have nc35 := lv_neT c35 (a := 117) (by decide)
  refine x_tabD 217 dX9_does_1 ?_ (by decide) ?_
  · by_cases r1 : (a1).toInt < 98
    · exact Or.inl r1
    by_cases r2 : 117 < (a1).toInt
    · exact Or.inr (Or.inl r2)
    refine Or.inr (Or.inr ?_)
    rcases (show (a1).toInt = 99 ∨ (a1).toInt = 100 ∨ (a1).toInt = 101 ∨ (a1).toInt = 102 ∨ (a1).toInt = 103 ∨ (a1).toInt = 104 ∨ (a1).toInt = 105 ∨ (a1).toInt = 106 ∨ (a1).toInt = 109 ∨ (a1).toInt = 111 ∨ (a1).toInt = 112 ∨ (a1).toInt = 113 ∨ (a1).toInt = 116 by omega) with r3 | r3 | r3 | r3 | r3 | r3 | r3 | r3 | r3 | r3 | r3 | r3 | r3 <;> rw [r3] <;> rfl
  refine x_aload_n dX9_does_217 0 rfl ?_
  refine x_aload_n dX9_does_218 0 rfl ?_
  obtain ⟨v39, ev39, h⟩ := x_bd h
  refine x_getR clX9 w_fl_RX9_27 (by decide) dX9_does_219 ev39 ?_
  refine x_iconst (v := (0 : Int32)) dX9_does_222 (by decide) ?_
  obtain ⟨v40, ev40, h⟩ := x_bd h
  refine x_iald dX9_does_223 ev40 ?_
  refine x_aload_n dX9_does_224 0 rfl ?_
  obtain ⟨v41, ev41, h⟩ := x_bd h
  refine x_getR clX9 w_fl_RX9_27 (by decide) dX9_does_225 ev41 ?_
  refine x_iconst (v := (1 : Int32)) dX9_does_228 (by decide) ?_
  obtain ⟨v42, ev42, h⟩ := x_bd h
  refine x_iald dX9_does_229 ev42 ?_
  obtain ⟨u43, eu43, h⟩ := x_bd h
  obtain ⟨p44, ep44, h⟩ := x_bd h
  refine x_callVI [.int v40, .int v42] [] clX9 me_X9_swap w_ml_RX9_172 w_im_yX9_swap w_se_yX9_swap (Nat.le_of_ble_eq_true rfl) (Nat.le_of_ble_eq_true rfl) rfl (Nat.le_of_ble_eq_true rfl) (Nat.le_of_ble_eq_true rfl) (Nat.le_of_ble_eq_true rfl) dX9_does_230 eu43 (c_X9_swap l D aC bs sz F ep44) rfl ?_
  refine x_if_lt 240 dX9_does_233 (by decide) (fun c45 => ?_) (fun c45 => ?_)
  · have h := (if_pos c45).symm.trans h
    refine x_iconst (v := (0 : Int32)) dX9_does_240 (by decide) ?_
    obtain rfl := Option.some.inj h
    exact x_zret dX9_does_241 (Or.inl rfl) (Nat.le_of_ble_eq_true rfl) (Nat.le_of_ble_eq_true rfl)
  have h := (if_neg c45).symm.trans h
  refine x_iconst (v := (1 : Int32)) dX9_does_236 (by decide) ?_
  refine x_goto 241 dX9_does_237 (by decide) ?_
  obtain rfl := Option.some.inj h
  exact x_zret dX9_does_241 (Or.inr rfl) (Nat.le_of_ble_eq_true rfl) (Nat.le_of_ble_eq_true rfl)

-- SwappedIntervalsModel.goesThrough(Z)I
abbrev rm_X9_goesThrough : Room := { frames := 5, cells := 0, slots := 0, locals := 117 }
theorem me_X9_goesThrough : x_Me yX9_goesThrough cX9_goesThrough 6 (some .int) 1 := ⟨by decide +kernel, w_co_yX9_goesThrough, w_in_SwappedIntervalsModel, by decide +kernel, by decide +kernel, by decide +kernel⟩
def j_X9_goesThrough_115 (F : Nat) (a0 : Nat) (a1 : Int32) (a2 : Int32) (a3 : Int32) (a4 : Int32) (M : XM) (k17 : (Int32 × Int32 × Int32 × XM) → Option (Int32 × XM)) : Option (Int32 × XM) := (x_gI M a0 9 8).bind fun v10 => (x_put M a0 9 8 (.int (v10 + (1 : Int32)))).bind fun m11 => k17 (a2, a3, a4, m11)
set_option maxHeartbeats 4000000 in
set_option maxRecDepth 100000 in
theorem jp_X9_goesThrough_115 (l : Launch) (D : va_G) (aC : FieldType → ClassId) (bs : Nat) (sz : Nat) (F : Nat) (a0 : Nat) (a1 : Int32) (a2 : Int32) (a3 : Int32) (a4 : Int32) (M : XM) (k17 : (Int32 × Int32 × Int32 × XM) → Option (Int32 × XM)) (hk17 : ∀ (b0 : Int32) (b1 : Int32) (b2 : Int32) (b3 : XM) (r : Int32 × XM), k17 (b0, b1, b2, b3) = some r → x_V l D aC bs yX9_goesThrough cX9_goesThrough 6 (some .int) rm_X9_goesThrough (x_Z D aC bs (some (.int r.1)) sz r.2 rm_X9_goesThrough) 17 [(0, .ref a0), (1, .int a1), (2, .int b0), (3, .int b1), (4, .int b2)] [] sz b3 0 0) {r : Int32 × XM} (h : j_X9_goesThrough_115 F a0 a1 a2 a3 a4 M k17 = some r) : x_V l D aC bs yX9_goesThrough cX9_goesThrough 6 (some .int) rm_X9_goesThrough (x_Z D aC bs (some (.int r.1)) sz r.2 rm_X9_goesThrough) 115 [(0, .ref a0), (1, .int a1), (2, .int a2), (3, .int a3), (4, .int a4)] [] sz M 0 0 := by
  unfold j_X9_goesThrough_115 at h
  refine x_aload_n dX9_goesThrough_115 0 rfl ?_
  refine x_dup dX9_goesThrough_116 rfl ?_
  obtain ⟨v10, ev10, h⟩ := x_bd h
  refine x_getI clX9 w_fl_RX9_135 (by decide) dX9_goesThrough_117 ev10 ?_
  refine x_iconst (v := (1 : Int32)) dX9_goesThrough_120 (by decide) ?_
  refine x_iadd dX9_goesThrough_121 ?_
  obtain ⟨m11, em11, h⟩ := x_bd h
  refine x_putV clX9 w_fl_RX9_135 (by decide) rfl rfl rfl dX9_goesThrough_122 em11 ?_
  refine x_goto 17 dX9_goesThrough_125 (by decide) ?_
  exact hk17 _ _ _ _ _ h
def j_X9_goesThrough_104 (F : Nat) (a0 : Nat) (a1 : Int32) (a2 : Int32) (a3 : Int32) (M : XM) (k17 : (Int32 × Int32 × Int32 × XM) → Option (Int32 × XM)) : Option (Int32 × XM) := (x_gI M a0 9 8).bind fun v16 => (x_put M a0 9 9 (.int v16)).bind fun m17 => j_X9_goesThrough_115 F (a0) (a1) (a2) (a3) (0 : Int32) m17 k17
set_option maxHeartbeats 4000000 in
set_option maxRecDepth 100000 in
theorem jp_X9_goesThrough_104 (l : Launch) (D : va_G) (aC : FieldType → ClassId) (bs : Nat) (sz : Nat) (F : Nat) (a0 : Nat) (a1 : Int32) (a2 : Int32) (a3 : Int32) (M : XM) (k17 : (Int32 × Int32 × Int32 × XM) → Option (Int32 × XM)) (hk17 : ∀ (b0 : Int32) (b1 : Int32) (b2 : Int32) (b3 : XM) (r : Int32 × XM), k17 (b0, b1, b2, b3) = some r → x_V l D aC bs yX9_goesThrough cX9_goesThrough 6 (some .int) rm_X9_goesThrough (x_Z D aC bs (some (.int r.1)) sz r.2 rm_X9_goesThrough) 17 [(0, .ref a0), (1, .int a1), (2, .int b0), (3, .int b1), (4, .int b2)] [] sz b3 0 0) {r : Int32 × XM} (h : j_X9_goesThrough_104 F a0 a1 a2 a3 M k17 = some r) : x_V l D aC bs yX9_goesThrough cX9_goesThrough 6 (some .int) rm_X9_goesThrough (x_Z D aC bs (some (.int r.1)) sz r.2 rm_X9_goesThrough) 104 [(0, .ref a0), (1, .int a1), (2, .int a2), (3, .int a3)] [] sz M 0 0 := by
  unfold j_X9_goesThrough_104 at h
  refine x_aload_n dX9_goesThrough_104 0 rfl ?_
  refine x_aload_n dX9_goesThrough_105 0 rfl ?_
  obtain ⟨v16, ev16, h⟩ := x_bd h
  refine x_getI clX9 w_fl_RX9_135 (by decide) dX9_goesThrough_106 ev16 ?_
  obtain ⟨m17, em17, h⟩ := x_bd h
  refine x_putV clX9 w_fl_RX9_146 (by decide) rfl rfl rfl dX9_goesThrough_109 em17 ?_
  refine x_iconst (v := (0 : Int32)) dX9_goesThrough_112 (by decide) ?_
  refine x_istore [(4, .int (0 : Int32)), (0, .ref a0), (1, .int a1), (2, .int a2), (3, .int a3)] dX9_goesThrough_113 (by decide) rfl ?_
  exact x_sub [1, 2, 3, 4, 0] rfl (jp_X9_goesThrough_115 l D aC bs sz F (a0) (a1) (a2) (a3) (0 : Int32) m17 k17 hk17 h)
def j_X9_goesThrough_77 (F : Nat) (a0 : Nat) (a1 : Int32) (a2 : Int32) (a3 : Int32) (s0 : Int32) (M : XM) (k17 : (Int32 × Int32 × Int32 × XM) → Option (Int32 × XM)) : Option (Int32 × XM) := if s0 = 0 then j_X9_goesThrough_115 F (a0) (a1) (a2) (a3) (s0) M k17 else (x_gR M a0 9 6).bind fun v12 => (x_gI M a0 9 8).bind fun v13 => (x_a32 .int M v12 v13).bind fun v14 => if v14 = (59 : Int32) then if a3 = (12 : Int32) then j_X9_goesThrough_104 F (a0) (a1) (a2) (a3) M k17 else j_X9_goesThrough_115 F (a0) (a1) (a2) (a3) (s0) M k17 else j_X9_goesThrough_104 F (a0) (a1) (a2) (a3) M k17
set_option maxHeartbeats 4000000 in
set_option maxRecDepth 100000 in
theorem jp_X9_goesThrough_77 (l : Launch) (D : va_G) (aC : FieldType → ClassId) (bs : Nat) (sz : Nat) (F : Nat) (a0 : Nat) (a1 : Int32) (a2 : Int32) (a3 : Int32) (s0 : Int32) (M : XM) (k17 : (Int32 × Int32 × Int32 × XM) → Option (Int32 × XM)) (hk17 : ∀ (b0 : Int32) (b1 : Int32) (b2 : Int32) (b3 : XM) (r : Int32 × XM), k17 (b0, b1, b2, b3) = some r → x_V l D aC bs yX9_goesThrough cX9_goesThrough 6 (some .int) rm_X9_goesThrough (x_Z D aC bs (some (.int r.1)) sz r.2 rm_X9_goesThrough) 17 [(0, .ref a0), (1, .int a1), (2, .int b0), (3, .int b1), (4, .int b2)] [] sz b3 0 0) {r : Int32 × XM} (h : j_X9_goesThrough_77 F a0 a1 a2 a3 s0 M k17 = some r) : x_V l D aC bs yX9_goesThrough cX9_goesThrough 6 (some .int) rm_X9_goesThrough (x_Z D aC bs (some (.int r.1)) sz r.2 rm_X9_goesThrough) 77 [(0, .ref a0), (1, .int a1), (2, .int a2), (3, .int a3)] [.int s0] sz M 0 0 := by
  unfold j_X9_goesThrough_77 at h
  refine x_istore [(4, .int s0), (0, .ref a0), (1, .int a1), (2, .int a2), (3, .int a3)] dX9_goesThrough_77 (by decide) rfl ?_
  refine x_iload dX9_goesThrough_79 0 rfl ?_
  refine x_if_eq 115 dX9_goesThrough_81 (by decide) (fun c9 => ?_) (fun c9 => ?_)
  · have h := (if_pos c9).symm.trans h
    exact x_sub [1, 2, 3, 4, 0] rfl (jp_X9_goesThrough_115 l D aC bs sz F (a0) (a1) (a2) (a3) (s0) M k17 hk17 h)
  have h := (if_neg c9).symm.trans h
  refine x_aload_n dX9_goesThrough_84 1 rfl ?_
  obtain ⟨v12, ev12, h⟩ := x_bd h
  refine x_getR clX9 w_fl_RX9_24 (by decide) dX9_goesThrough_85 ev12 ?_
  refine x_aload_n dX9_goesThrough_88 1 rfl ?_
  obtain ⟨v13, ev13, h⟩ := x_bd h
  refine x_getI clX9 w_fl_RX9_135 (by decide) dX9_goesThrough_89 ev13 ?_
  obtain ⟨v14, ev14, h⟩ := x_bd h
  refine x_iald dX9_goesThrough_92 ev14 ?_
  refine x_bipush (v := (59 : Int32)) dX9_goesThrough_93 (by decide) ?_
  refine x_icmp_ne 104 dX9_goesThrough_95 (by decide) (fun c15 => ?_) (fun c15 => ?_)
  · have h := (if_neg c15).symm.trans h
    exact x_sub [1, 2, 3, 4] rfl (jp_X9_goesThrough_104 l D aC bs sz F (a0) (a1) (a2) (a3) M k17 hk17 h)
  have h := (if_pos c15).symm.trans h
  refine x_iload_n dX9_goesThrough_98 4 rfl ?_
  refine x_bipush (v := (12 : Int32)) dX9_goesThrough_99 (by decide) ?_
  refine x_icmp_ne 115 dX9_goesThrough_101 (by decide) (fun c18 => ?_) (fun c18 => ?_)
  · have h := (if_neg c18).symm.trans h
    exact x_sub [1, 2, 3, 4, 0] rfl (jp_X9_goesThrough_115 l D aC bs sz F (a0) (a1) (a2) (a3) (s0) M k17 hk17 h)
  have h := (if_pos c18).symm.trans h
  exact x_sub [1, 2, 3, 4] rfl (jp_X9_goesThrough_104 l D aC bs sz F (a0) (a1) (a2) (a3) M k17 hk17 h)
def j_X9_goesThrough_76 (F : Nat) (a0 : Nat) (a1 : Int32) (a2 : Int32) (a3 : Int32) (M : XM) (k17 : (Int32 × Int32 × Int32 × XM) → Option (Int32 × XM)) : Option (Int32 × XM) := j_X9_goesThrough_77 F (a0) (a1) (a2) (a3) (0 : Int32) M k17
set_option maxHeartbeats 4000000 in
set_option maxRecDepth 100000 in
theorem jp_X9_goesThrough_76 (l : Launch) (D : va_G) (aC : FieldType → ClassId) (bs : Nat) (sz : Nat) (F : Nat) (a0 : Nat) (a1 : Int32) (a2 : Int32) (a3 : Int32) (M : XM) (k17 : (Int32 × Int32 × Int32 × XM) → Option (Int32 × XM)) (hk17 : ∀ (b0 : Int32) (b1 : Int32) (b2 : Int32) (b3 : XM) (r : Int32 × XM), k17 (b0, b1, b2, b3) = some r → x_V l D aC bs yX9_goesThrough cX9_goesThrough 6 (some .int) rm_X9_goesThrough (x_Z D aC bs (some (.int r.1)) sz r.2 rm_X9_goesThrough) 17 [(0, .ref a0), (1, .int a1), (2, .int b0), (3, .int b1), (4, .int b2)] [] sz b3 0 0) {r : Int32 × XM} (h : j_X9_goesThrough_76 F a0 a1 a2 a3 M k17 = some r) : x_V l D aC bs yX9_goesThrough cX9_goesThrough 6 (some .int) rm_X9_goesThrough (x_Z D aC bs (some (.int r.1)) sz r.2 rm_X9_goesThrough) 76 [(0, .ref a0), (1, .int a1), (2, .int a2), (3, .int a3)] [] sz M 0 0 := by
  unfold j_X9_goesThrough_76 at h
  refine x_iconst (v := (0 : Int32)) dX9_goesThrough_76 (by decide) ?_
  exact jp_X9_goesThrough_77 l D aC bs sz F (a0) (a1) (a2) (a3) (0 : Int32) M k17 hk17 h
def j_X9_goesThrough_54 (F : Nat) (a0 : Nat) (a1 : Int32) (a2 : Int32) (a3 : Int32) (M : XM) (k17 : (Int32 × Int32 × Int32 × XM) → Option (Int32 × XM)) : Option (Int32 × XM) := (x_gI M a0 9 9).bind fun v7 => if 0 ≤ v7 then j_X9_goesThrough_76 F (a0) (a1) (a2) (a3) M k17 else (x_gI M a0 9 8).bind fun v19 => (x_gI M a0 9 7).bind fun v20 => if v20 ≤ v19 then j_X9_goesThrough_76 F (a0) (a1) (a2) (a3) M k17 else j_X9_goesThrough_77 F (a0) (a1) (a2) (a3) (1 : Int32) M k17
set_option maxHeartbeats 4000000 in
set_option maxRecDepth 100000 in
theorem jp_X9_goesThrough_54 (l : Launch) (D : va_G) (aC : FieldType → ClassId) (bs : Nat) (sz : Nat) (F : Nat) (a0 : Nat) (a1 : Int32) (a2 : Int32) (a3 : Int32) (M : XM) (k17 : (Int32 × Int32 × Int32 × XM) → Option (Int32 × XM)) (hk17 : ∀ (b0 : Int32) (b1 : Int32) (b2 : Int32) (b3 : XM) (r : Int32 × XM), k17 (b0, b1, b2, b3) = some r → x_V l D aC bs yX9_goesThrough cX9_goesThrough 6 (some .int) rm_X9_goesThrough (x_Z D aC bs (some (.int r.1)) sz r.2 rm_X9_goesThrough) 17 [(0, .ref a0), (1, .int a1), (2, .int b0), (3, .int b1), (4, .int b2)] [] sz b3 0 0) {r : Int32 × XM} (h : j_X9_goesThrough_54 F a0 a1 a2 a3 M k17 = some r) : x_V l D aC bs yX9_goesThrough cX9_goesThrough 6 (some .int) rm_X9_goesThrough (x_Z D aC bs (some (.int r.1)) sz r.2 rm_X9_goesThrough) 54 [(0, .ref a0), (1, .int a1), (2, .int a2), (3, .int a3)] [] sz M 0 0 := by
  unfold j_X9_goesThrough_54 at h
  refine x_aload_n dX9_goesThrough_54 0 rfl ?_
  obtain ⟨v7, ev7, h⟩ := x_bd h
  refine x_getI clX9 w_fl_RX9_146 (by decide) dX9_goesThrough_55 ev7 ?_
  refine x_if_ge 76 dX9_goesThrough_58 (by decide) (fun c8 => ?_) (fun c8 => ?_)
  · have h := (if_pos c8).symm.trans h
    exact jp_X9_goesThrough_76 l D aC bs sz F (a0) (a1) (a2) (a3) M k17 hk17 h
  have h := (if_neg c8).symm.trans h
  refine x_aload_n dX9_goesThrough_61 0 rfl ?_
  obtain ⟨v19, ev19, h⟩ := x_bd h
  refine x_getI clX9 w_fl_RX9_135 (by decide) dX9_goesThrough_62 ev19 ?_
  refine x_aload_n dX9_goesThrough_65 0 rfl ?_
  obtain ⟨v20, ev20, h⟩ := x_bd h
  refine x_getI clX9 w_fl_RX9_132 (by decide) dX9_goesThrough_66 ev20 ?_
  refine x_icmp_ge 76 dX9_goesThrough_69 (by decide) (fun c21 => ?_) (fun c21 => ?_)
  · have h := (if_pos c21).symm.trans h
    exact jp_X9_goesThrough_76 l D aC bs sz F (a0) (a1) (a2) (a3) M k17 hk17 h
  have h := (if_neg c21).symm.trans h
  refine x_iconst (v := (1 : Int32)) dX9_goesThrough_72 (by decide) ?_
  refine x_goto 77 dX9_goesThrough_73 (by decide) ?_
  exact jp_X9_goesThrough_77 l D aC bs sz F (a0) (a1) (a2) (a3) (1 : Int32) M k17 hk17 h
def b_X9_goesThrough_17 (F : Nat) (a0 : Nat) (a1 : Int32)  (k17 : (Int32 × Int32 × Int32 × XM) → Option (Int32 × XM)) (q : Int32 × Int32 × Int32 × XM) : Option (Int32 × XM) := if q.2.2.1 = 0 then some (q.1, q.2.2.2) else (x_ob q.2.2.2 a0 9).bind fun u4 => (f_X9_clause F a0 q.2.2.2).bind fun p5 => if a1 = 0 then j_X9_goesThrough_54 F (a0) (a1) (q.1) (q.2.1 + (1 : Int32)) p5.2 k17 else (x_gI p5.2 a0 9 9).bind fun v22 => if 0 ≤ v22 then j_X9_goesThrough_54 F (a0) (a1) (q.1) (q.2.1 + (1 : Int32)) p5.2 k17 else (x_ob p5.2 a0 9).bind fun u24 => (f_X9_does F a0 p5.1 p5.2).bind fun p25 => (f_X9_bit p25.1 p25.2).bind fun p26 => j_X9_goesThrough_54 F (a0) (a1) (q.1 + p26) (q.2.1 + (1 : Int32)) p25.2 k17
set_option maxHeartbeats 4000000 in
set_option maxRecDepth 100000 in
theorem lp_X9_goesThrough_17 (l : Launch) (D : va_G) (aC : FieldType → ClassId) (bs : Nat) (sz : Nat) (F : Nat) (a0 : Nat) (a1 : Int32)   : ∀ (n : Nat) (b0 : Int32) (b1 : Int32) (b2 : Int32) (b3 : XM) (r : Int32 × XM), x_it (b_X9_goesThrough_17 F a0 a1 ) n (b0, b1, b2, b3) = some r → x_V l D aC bs yX9_goesThrough cX9_goesThrough 6 (some .int) rm_X9_goesThrough (x_Z D aC bs (some (.int r.1)) sz r.2 rm_X9_goesThrough) 17 [(0, .ref a0), (1, .int a1), (2, .int b0), (3, .int b1), (4, .int b2)] [] sz b3 0 0 := by
  suffices H : ∀ (n : Nat) (q : Int32 × Int32 × Int32 × XM) (r : Int32 × XM), x_it (b_X9_goesThrough_17 F a0 a1 ) n q = some r → x_V l D aC bs yX9_goesThrough cX9_goesThrough 6 (some .int) rm_X9_goesThrough (x_Z D aC bs (some (.int r.1)) sz r.2 rm_X9_goesThrough) 17 [(0, .ref a0), (1, .int a1), (2, .int q.1), (3, .int q.2.1), (4, .int q.2.2.1)] [] sz q.2.2.2 0 0 from fun n b0 b1 b2 b3 r h => H n (b0, b1, b2, b3) r h
  refine x_loop (P := fun (q : Int32 × Int32 × Int32 × XM) (r : Int32 × XM) => x_V l D aC bs yX9_goesThrough cX9_goesThrough 6 (some .int) rm_X9_goesThrough (x_Z D aC bs (some (.int r.1)) sz r.2 rm_X9_goesThrough) 17 [(0, .ref a0), (1, .int a1), (2, .int q.1), (3, .int q.2.1), (4, .int q.2.2.1)] [] sz q.2.2.2 0 0) (fun k17 hk0 q r h => ?_)
  have hk17 : ∀ (b0 : Int32) (b1 : Int32) (b2 : Int32) (b3 : XM) (r : Int32 × XM), k17 (b0, b1, b2, b3) = some r → x_V l D aC bs yX9_goesThrough cX9_goesThrough 6 (some .int) rm_X9_goesThrough (x_Z D aC bs (some (.int r.1)) sz r.2 rm_X9_goesThrough) 17 [(0, .ref a0), (1, .int a1), (2, .int b0), (3, .int b1), (4, .int b2)] [] sz b3 0 0 := fun b0 b1 b2 b3 r h => hk0 (b0, b1, b2, b3) r h
  unfold b_X9_goesThrough_17 at h
  refine x_iload dX9_goesThrough_17 4 rfl ?_
  refine x_if_eq 128 dX9_goesThrough_19 (by decide) (fun c3 => ?_) (fun c3 => ?_)
  · have h := (if_pos c3).symm.trans h
    refine x_iload_n dX9_goesThrough_128 2 rfl ?_
    obtain rfl := Option.some.inj h
    exact x_iret dX9_goesThrough_129 (Nat.le_of_ble_eq_true rfl) (Nat.le_of_ble_eq_true rfl)
  have h := (if_neg c3).symm.trans h
  refine x_aload_n dX9_goesThrough_22 0 rfl ?_
  obtain ⟨u4, eu4, h⟩ := x_bd h
  obtain ⟨p5, ep5, h⟩ := x_bd h
  refine x_callVI [] [] clX9 me_X9_clause w_ml_RX9_175 w_im_yX9_clause w_se_yX9_clause (Nat.le_of_ble_eq_true rfl) (Nat.le_of_ble_eq_true rfl) rfl (Nat.le_of_ble_eq_true rfl) (Nat.le_of_ble_eq_true rfl) (Nat.le_of_ble_eq_true rfl) dX9_goesThrough_23 eu4 (c_X9_clause l D aC bs sz F ep5) rfl ?_
  refine x_istore [(5, .int p5.1), (0, .ref a0), (1, .int a1), (2, .int q.1), (3, .int q.2.1), (4, .int q.2.2.1)] dX9_goesThrough_26 (by decide) rfl ?_
  refine x_iinc (1 : Int32) 4 [(3, .int (q.2.1 + (1 : Int32))), (5, .int p5.1), (0, .ref a0), (1, .int a1), (2, .int q.1), (4, .int q.2.2.1)] dX9_goesThrough_28 rfl (by decide) (by decide) rfl ?_
  refine x_iload_n dX9_goesThrough_31 3 rfl ?_
  refine x_if_eq 54 dX9_goesThrough_32 (by decide) (fun c6 => ?_) (fun c6 => ?_)
  · have h := (if_pos c6).symm.trans h
    exact x_sub [2, 3, 4, 0] rfl (jp_X9_goesThrough_54 l D aC bs sz F (a0) (a1) (q.1) (q.2.1 + (1 : Int32)) p5.2 k17 hk17 h)
  have h := (if_neg c6).symm.trans h
  refine x_aload_n dX9_goesThrough_35 2 rfl ?_
  obtain ⟨v22, ev22, h⟩ := x_bd h
  refine x_getI clX9 w_fl_RX9_146 (by decide) dX9_goesThrough_36 ev22 ?_
  refine x_if_ge 54 dX9_goesThrough_39 (by decide) (fun c23 => ?_) (fun c23 => ?_)
  · have h := (if_pos c23).symm.trans h
    exact x_sub [2, 3, 4, 0] rfl (jp_X9_goesThrough_54 l D aC bs sz F (a0) (a1) (q.1) (q.2.1 + (1 : Int32)) p5.2 k17 hk17 h)
  have h := (if_neg c23).symm.trans h
  refine x_iload_n dX9_goesThrough_42 4 rfl ?_
  refine x_aload_n dX9_goesThrough_43 2 rfl ?_
  refine x_iload dX9_goesThrough_44 1 rfl ?_
  obtain ⟨u24, eu24, h⟩ := x_bd h
  obtain ⟨p25, ep25, h⟩ := x_bd h
  refine x_callVI [.int p5.1] [.int q.1] clX9 me_X9_does w_ml_RX9_178 w_im_yX9_does w_se_yX9_does (Nat.le_of_ble_eq_true rfl) (Nat.le_of_ble_eq_true rfl) rfl (Nat.le_of_ble_eq_true rfl) (Nat.le_of_ble_eq_true rfl) (Nat.le_of_ble_eq_true rfl) dX9_goesThrough_46 eu24 (c_X9_does l D aC bs sz F ep25) rfl ?_
  obtain ⟨p26, ep26, h⟩ := x_bd h
  refine x_callSI [.int p25.1] [.int q.1] me_X9_bit w_ml_RX9_181 w_st_yX9_bit (Nat.le_of_ble_eq_true rfl) (Nat.le_of_ble_eq_true rfl) rfl (Nat.le_of_ble_eq_true rfl) (Nat.le_of_ble_eq_true rfl) (Nat.le_of_ble_eq_true rfl) dX9_goesThrough_49 (c_X9_bit l D aC bs sz ep26) rfl ?_
  refine x_iadd dX9_goesThrough_52 ?_
  refine x_istore_n 2 [(2, .int (q.1 + p26)), (3, .int (q.2.1 + (1 : Int32))), (5, .int p5.1), (0, .ref a0), (1, .int a1), (4, .int q.2.2.1)] dX9_goesThrough_53 rfl (by decide) rfl ?_
  exact x_sub [3, 4, 0, 1] rfl (jp_X9_goesThrough_54 l D aC bs sz F (a0) (a1) (q.1 + p26) (q.2.1 + (1 : Int32)) p25.2 k17 hk17 h)
def f_X9_goesThrough (F : Nat) (a0 : Nat) (a1 : Int32) (M : XM) : Option (Int32 × XM) := (x_put M a0 9 8 (.int (0 : Int32))).bind fun m1 => (x_put m1 a0 9 9 (.int (-1 : Int32))).bind fun m2 => x_it (b_X9_goesThrough_17 F (a0) (a1)) F ((0 : Int32), (0 : Int32), (1 : Int32), m2)
set_option maxHeartbeats 4000000 in
set_option maxRecDepth 100000 in
theorem c_X9_goesThrough (l : Launch) (D : va_G) (aC : FieldType → ClassId) (bs sz : Nat) (F : Nat) {a0 : Nat} {a1 : Int32} {M : XM} {r : Int32 × XM} (h : f_X9_goesThrough F a0 a1 M = some r) : x_Cn l D aC bs yX9_goesThrough cX9_goesThrough 6 (some .int) rm_X9_goesThrough [.ref a0, .int a1] sz M (some (.int r.1)) sz r.2 := by
  unfold f_X9_goesThrough at h
  refine x_enter2 [(0, .ref a0), (1, .int a1)] me_X9_goesThrough (Nat.le_of_ble_eq_true rfl) rfl ?_
  refine x_aload_n dX9_goesThrough_0 0 rfl ?_
  refine x_iconst (v := (0 : Int32)) dX9_goesThrough_1 (by decide) ?_
  obtain ⟨m1, em1, h⟩ := x_bd h
  refine x_putV clX9 w_fl_RX9_135 (by decide) rfl rfl rfl dX9_goesThrough_2 em1 ?_
  refine x_aload_n dX9_goesThrough_5 0 rfl ?_
  refine x_iconst (v := (-1 : Int32)) dX9_goesThrough_6 (by decide) ?_
  obtain ⟨m2, em2, h⟩ := x_bd h
  refine x_putV clX9 w_fl_RX9_146 (by decide) rfl rfl rfl dX9_goesThrough_7 em2 ?_
  refine x_iconst (v := (0 : Int32)) dX9_goesThrough_10 (by decide) ?_
  refine x_istore_n 2 [(2, .int (0 : Int32)), (0, .ref a0), (1, .int a1)] dX9_goesThrough_11 rfl (by decide) rfl ?_
  refine x_iconst (v := (0 : Int32)) dX9_goesThrough_12 (by decide) ?_
  refine x_istore_n 3 [(3, .int (0 : Int32)), (2, .int (0 : Int32)), (0, .ref a0), (1, .int a1)] dX9_goesThrough_13 rfl (by decide) rfl ?_
  refine x_iconst (v := (1 : Int32)) dX9_goesThrough_14 (by decide) ?_
  refine x_istore [(4, .int (1 : Int32)), (3, .int (0 : Int32)), (2, .int (0 : Int32)), (0, .ref a0), (1, .int a1)] dX9_goesThrough_15 (by decide) rfl ?_
  exact x_sub [3, 4, 2, 1, 0] rfl (lp_X9_goesThrough_17 l D aC bs sz F (a0) (a1)  F _ _ _ _ _ h)

-- SwappedIntervalsModel.read()I
abbrev rm_X9_read : Room := { frames := 6, cells := 0, slots := 0, locals := 142 }
theorem me_X9_read : x_Me yX9_read cX9_read 2 (some .int) 0 := ⟨by decide +kernel, w_co_yX9_read, w_in_SwappedIntervalsModel, by decide +kernel, by decide +kernel, by decide +kernel⟩
def f_X9_read (F : Nat) (a0 : Nat) (M : XM) : Option (Int32 × XM) := (x_ob M a0 9).bind fun u1 => (f_X9_goesThrough F a0 (0 : Int32) M).bind fun p2 => (x_gI p2.2 a0 9 9).bind fun v3 => if 0 ≤ v3 then (x_gI p2.2 a0 9 9).bind fun v5 => (x_put p2.2 a0 9 7 (.int (0 : Int32))).bind fun m6 => some (((-10 : Int32) - v5), m6) else (x_ob p2.2 a0 9).bind fun u7 => (f_X9_goesThrough F a0 (1 : Int32) p2.2).bind fun p8 => (x_put p8.2 a0 9 7 (.int (0 : Int32))).bind fun m9 => some (p8.1, m9)
set_option maxHeartbeats 4000000 in
set_option maxRecDepth 100000 in
theorem c_X9_read (l : Launch) (D : va_G) (aC : FieldType → ClassId) (bs sz : Nat) (F : Nat) {a0 : Nat} {M : XM} {r : Int32 × XM} (h : f_X9_read F a0 M = some r) : x_Cn l D aC bs yX9_read cX9_read 2 (some .int) rm_X9_read [.ref a0] sz M (some (.int r.1)) sz r.2 := by
  unfold f_X9_read at h
  refine x_enter2 [(0, .ref a0)] me_X9_read (Nat.le_of_ble_eq_true rfl) rfl ?_
  refine x_aload_n dX9_read_0 0 rfl ?_
  refine x_iconst (v := (0 : Int32)) dX9_read_1 (by decide) ?_
  obtain ⟨u1, eu1, h⟩ := x_bd h
  obtain ⟨p2, ep2, h⟩ := x_bd h
  refine x_callVI [.int (0 : Int32)] [] clX9 me_X9_goesThrough w_ml_RX9_185 w_im_yX9_goesThrough w_se_yX9_goesThrough (Nat.le_of_ble_eq_true rfl) (Nat.le_of_ble_eq_true rfl) rfl (Nat.le_of_ble_eq_true rfl) (Nat.le_of_ble_eq_true rfl) (Nat.le_of_ble_eq_true rfl) dX9_read_2 eu1 (c_X9_goesThrough l D aC bs sz F ep2) rfl ?_
  refine x_istore_n 1 [(1, .int p2.1), (0, .ref a0)] dX9_read_5 rfl (by decide) rfl ?_
  refine x_aload_n dX9_read_6 1 rfl ?_
  obtain ⟨v3, ev3, h⟩ := x_bd h
  refine x_getI clX9 w_fl_RX9_146 (by decide) dX9_read_7 ev3 ?_
  refine x_if_ge 21 dX9_read_10 (by decide) (fun c4 => ?_) (fun c4 => ?_)
  · have h := (if_pos c4).symm.trans h
    refine x_bipush (v := (-10 : Int32)) dX9_read_21 (by decide) ?_
    refine x_aload_n dX9_read_23 1 rfl ?_
    obtain ⟨v5, ev5, h⟩ := x_bd h
    refine x_getI clX9 w_fl_RX9_146 (by decide) dX9_read_24 ev5 ?_
    refine x_isub dX9_read_27 ?_
    refine x_istore_n 1 [(1, .int ((-10 : Int32) - v5)), (0, .ref a0)] dX9_read_28 rfl (by decide) rfl ?_
    refine x_aload_n dX9_read_29 1 rfl ?_
    refine x_iconst (v := (0 : Int32)) dX9_read_30 (by decide) ?_
    obtain ⟨m6, em6, h⟩ := x_bd h
    refine x_putV clX9 w_fl_RX9_132 (by decide) rfl rfl rfl dX9_read_31 em6 ?_
    refine x_iload_n dX9_read_34 0 rfl ?_
    obtain rfl := Option.some.inj h
    exact x_iret dX9_read_35 (Nat.le_of_ble_eq_true rfl) (Nat.le_of_ble_eq_true rfl)
  have h := (if_neg c4).symm.trans h
  refine x_aload_n dX9_read_13 1 rfl ?_
  refine x_iconst (v := (1 : Int32)) dX9_read_14 (by decide) ?_
  obtain ⟨u7, eu7, h⟩ := x_bd h
  obtain ⟨p8, ep8, h⟩ := x_bd h
  refine x_callVI [.int (1 : Int32)] [] clX9 me_X9_goesThrough w_ml_RX9_185 w_im_yX9_goesThrough w_se_yX9_goesThrough (Nat.le_of_ble_eq_true rfl) (Nat.le_of_ble_eq_true rfl) rfl (Nat.le_of_ble_eq_true rfl) (Nat.le_of_ble_eq_true rfl) (Nat.le_of_ble_eq_true rfl) dX9_read_15 eu7 (c_X9_goesThrough l D aC bs sz F ep8) rfl ?_
  refine x_goto 28 dX9_read_18 (by decide) ?_
  refine x_istore_n 1 [(1, .int p8.1), (0, .ref a0)] dX9_read_28 rfl (by decide) rfl ?_
  refine x_aload_n dX9_read_29 1 rfl ?_
  refine x_iconst (v := (0 : Int32)) dX9_read_30 (by decide) ?_
  obtain ⟨m9, em9, h⟩ := x_bd h
  refine x_putV clX9 w_fl_RX9_132 (by decide) rfl rfl rfl dX9_read_31 em9 ?_
  refine x_iload_n dX9_read_34 0 rfl ?_
  obtain rfl := Option.some.inj h
  exact x_iret dX9_read_35 (Nat.le_of_ble_eq_true rfl) (Nat.le_of_ble_eq_true rfl)

-- SwappedIntervalsModel.findsPoints()I
abbrev rm_X9_findsPoints : Room := { frames := 0, cells := 0, slots := 0, locals := 0 }
theorem me_X9_findsPoints : x_Me yX9_findsPoints cX9_findsPoints 5 (some .int) 0 := ⟨by decide +kernel, w_co_yX9_findsPoints, w_in_SwappedIntervalsModel, by decide +kernel, by decide +kernel, by decide +kernel⟩
def b_X9_findsPoints_81 (F : Nat) (a0 : Nat) (a2 : Int32) (a3 : Int32) (k59 : (Int32 × Int32 × XM) → Option (Int32 × XM)) (k81 : (Int32 × Int32 × XM) → Option (Int32 × XM)) (q : Int32 × Int32 × XM) : Option (Int32 × XM) := (x_gR q.2.2 a0 9 0).bind fun v9 => (x_a32 .int q.2.2 v9 ((12 : Int32) + a3)).bind fun v10 => if v10 ≤ q.2.1 then k59 (q.1, (a2 + (1 : Int32)), q.2.2) else (x_gR q.2.2 a0 9 12).bind fun v12 => (x_w32 .int q.2.2 v12 q.1 a3).bind fun m13 => (x_gR m13 a0 9 11).bind fun v14 => (x_gR m13 a0 9 13).bind fun v15 => (x_a32 .int m13 v15 a3).bind fun v16 => (x_w32 .int m13 v14 q.1 (v16 + q.2.1)).bind fun m17 => k81 ((q.1 + (1 : Int32)), (q.2.1 + (1 : Int32)), m17)
set_option maxHeartbeats 4000000 in
set_option maxRecDepth 100000 in
theorem lp_X9_findsPoints_81 (l : Launch) (D : va_G) (aC : FieldType → ClassId) (bs : Nat) (sz : Nat) (F : Nat) (a0 : Nat) (a2 : Int32) (a3 : Int32) (k59 : (Int32 × Int32 × XM) → Option (Int32 × XM)) (hk59 : ∀ (b0 : Int32) (b1 : Int32) (b2 : XM) (r : Int32 × XM), k59 (b0, b1, b2) = some r → x_V l D aC bs yX9_findsPoints cX9_findsPoints 5 (some .int) rm_X9_findsPoints (x_Z D aC bs (some (.int r.1)) sz r.2 rm_X9_findsPoints) 59 [(0, .ref a0), (1, .int b0), (2, .int b1)] [] sz b2 0 0) : ∀ (n : Nat) (b0 : Int32) (b1 : Int32) (b2 : XM) (r : Int32 × XM), x_it (b_X9_findsPoints_81 F a0 a2 a3 k59) n (b0, b1, b2) = some r → x_V l D aC bs yX9_findsPoints cX9_findsPoints 5 (some .int) rm_X9_findsPoints (x_Z D aC bs (some (.int r.1)) sz r.2 rm_X9_findsPoints) 81 [(0, .ref a0), (1, .int b0), (2, .int a2), (3, .int a3), (4, .int b1)] [] sz b2 0 0 := by
  suffices H : ∀ (n : Nat) (q : Int32 × Int32 × XM) (r : Int32 × XM), x_it (b_X9_findsPoints_81 F a0 a2 a3 k59) n q = some r → x_V l D aC bs yX9_findsPoints cX9_findsPoints 5 (some .int) rm_X9_findsPoints (x_Z D aC bs (some (.int r.1)) sz r.2 rm_X9_findsPoints) 81 [(0, .ref a0), (1, .int q.1), (2, .int a2), (3, .int a3), (4, .int q.2.1)] [] sz q.2.2 0 0 from fun n b0 b1 b2 r h => H n (b0, b1, b2) r h
  refine x_loop (P := fun (q : Int32 × Int32 × XM) (r : Int32 × XM) => x_V l D aC bs yX9_findsPoints cX9_findsPoints 5 (some .int) rm_X9_findsPoints (x_Z D aC bs (some (.int r.1)) sz r.2 rm_X9_findsPoints) 81 [(0, .ref a0), (1, .int q.1), (2, .int a2), (3, .int a3), (4, .int q.2.1)] [] sz q.2.2 0 0) (fun k81 hk0 q r h => ?_)
  have hk81 : ∀ (b0 : Int32) (b1 : Int32) (b2 : XM) (r : Int32 × XM), k81 (b0, b1, b2) = some r → x_V l D aC bs yX9_findsPoints cX9_findsPoints 5 (some .int) rm_X9_findsPoints (x_Z D aC bs (some (.int r.1)) sz r.2 rm_X9_findsPoints) 81 [(0, .ref a0), (1, .int b0), (2, .int a2), (3, .int a3), (4, .int b1)] [] sz b2 0 0 := fun b0 b1 b2 r h => hk0 (b0, b1, b2) r h
  unfold b_X9_findsPoints_81 at h
  refine x_iload dX9_findsPoints_81 4 rfl ?_
  refine x_aload_n dX9_findsPoints_83 0 rfl ?_
  obtain ⟨v9, ev9, h⟩ := x_bd h
  refine x_getR clX9 w_fl_RX9_11 (by decide) dX9_findsPoints_84 ev9 ?_
  refine x_bipush (v := (12 : Int32)) dX9_findsPoints_87 (by decide) ?_
  refine x_iload_n dX9_findsPoints_89 3 rfl ?_
  refine x_iadd dX9_findsPoints_90 ?_
  obtain ⟨v10, ev10, h⟩ := x_bd h
  refine x_iald dX9_findsPoints_91 ev10 ?_
  refine x_icmp_ge 126 dX9_findsPoints_92 (by decide) (fun c11 => ?_) (fun c11 => ?_)
  · have h := (if_pos c11).symm.trans h
    refine x_iinc (1 : Int32) 2 [(2, .int (a2 + (1 : Int32))), (0, .ref a0), (1, .int q.1), (3, .int a3), (4, .int q.2.1)] dX9_findsPoints_126 rfl (by decide) (by decide) rfl ?_
    refine x_goto 59 dX9_findsPoints_129 (by decide) ?_
    exact x_sub [1, 2, 0] rfl (hk59 _ _ _ _ h)
  have h := (if_neg c11).symm.trans h
  refine x_aload_n dX9_findsPoints_95 0 rfl ?_
  obtain ⟨v12, ev12, h⟩ := x_bd h
  refine x_getR clX9 w_fl_RX9_33 (by decide) dX9_findsPoints_96 ev12 ?_
  refine x_iload_n dX9_findsPoints_99 1 rfl ?_
  refine x_iload_n dX9_findsPoints_100 3 rfl ?_
  obtain ⟨m13, em13, h⟩ := x_bd h
  refine x_iast dX9_findsPoints_101 em13 ?_
  refine x_aload_n dX9_findsPoints_102 0 rfl ?_
  obtain ⟨v14, ev14, h⟩ := x_bd h
  refine x_getR clX9 w_fl_RX9_30 (by decide) dX9_findsPoints_103 ev14 ?_
  refine x_iload_n dX9_findsPoints_106 1 rfl ?_
  refine x_aload_n dX9_findsPoints_107 0 rfl ?_
  obtain ⟨v15, ev15, h⟩ := x_bd h
  refine x_getR clX9 w_fl_RX9_36 (by decide) dX9_findsPoints_108 ev15 ?_
  refine x_iload_n dX9_findsPoints_111 3 rfl ?_
  obtain ⟨v16, ev16, h⟩ := x_bd h
  refine x_iald dX9_findsPoints_112 ev16 ?_
  refine x_iload dX9_findsPoints_113 4 rfl ?_
  refine x_iadd dX9_findsPoints_115 ?_
  obtain ⟨m17, em17, h⟩ := x_bd h
  refine x_iast dX9_findsPoints_116 em17 ?_
  refine x_iinc (1 : Int32) 1 [(1, .int (q.1 + (1 : Int32))), (0, .ref a0), (2, .int a2), (3, .int a3), (4, .int q.2.1)] dX9_findsPoints_117 rfl (by decide) (by decide) rfl ?_
  refine x_iinc (1 : Int32) 4 [(4, .int (q.2.1 + (1 : Int32))), (1, .int (q.1 + (1 : Int32))), (0, .ref a0), (2, .int a2), (3, .int a3)] dX9_findsPoints_120 rfl (by decide) (by decide) rfl ?_
  refine x_goto 81 dX9_findsPoints_123 (by decide) ?_
  exact x_sub [2, 1, 3, 4, 0] rfl (hk81 _ _ _ _ h)
def b_X9_findsPoints_59 (F : Nat) (a0 : Nat)  (k59 : (Int32 × Int32 × XM) → Option (Int32 × XM)) (q : Int32 × Int32 × XM) : Option (Int32 × XM) := (x_gR q.2.2 a0 9 0).bind fun v4 => (x_a32 .int q.2.2 v4 (0 : Int32)).bind fun v5 => if v5 ≤ q.2.1 then some (q.1, q.2.2) else (x_gR q.2.2 a0 9 0).bind fun v7 => (x_a32 .int q.2.2 v7 ((2 : Int32) + q.2.1)).bind fun v8 => x_it (b_X9_findsPoints_81 F (a0) (q.2.1) (v8) k59) F (q.1, (0 : Int32), q.2.2)
set_option maxHeartbeats 4000000 in
set_option maxRecDepth 100000 in
theorem lp_X9_findsPoints_59 (l : Launch) (D : va_G) (aC : FieldType → ClassId) (bs : Nat) (sz : Nat) (F : Nat) (a0 : Nat)   : ∀ (n : Nat) (b0 : Int32) (b1 : Int32) (b2 : XM) (r : Int32 × XM), x_it (b_X9_findsPoints_59 F a0 ) n (b0, b1, b2) = some r → x_V l D aC bs yX9_findsPoints cX9_findsPoints 5 (some .int) rm_X9_findsPoints (x_Z D aC bs (some (.int r.1)) sz r.2 rm_X9_findsPoints) 59 [(0, .ref a0), (1, .int b0), (2, .int b1)] [] sz b2 0 0 := by
  suffices H : ∀ (n : Nat) (q : Int32 × Int32 × XM) (r : Int32 × XM), x_it (b_X9_findsPoints_59 F a0 ) n q = some r → x_V l D aC bs yX9_findsPoints cX9_findsPoints 5 (some .int) rm_X9_findsPoints (x_Z D aC bs (some (.int r.1)) sz r.2 rm_X9_findsPoints) 59 [(0, .ref a0), (1, .int q.1), (2, .int q.2.1)] [] sz q.2.2 0 0 from fun n b0 b1 b2 r h => H n (b0, b1, b2) r h
  refine x_loop (P := fun (q : Int32 × Int32 × XM) (r : Int32 × XM) => x_V l D aC bs yX9_findsPoints cX9_findsPoints 5 (some .int) rm_X9_findsPoints (x_Z D aC bs (some (.int r.1)) sz r.2 rm_X9_findsPoints) 59 [(0, .ref a0), (1, .int q.1), (2, .int q.2.1)] [] sz q.2.2 0 0) (fun k59 hk0 q r h => ?_)
  have hk59 : ∀ (b0 : Int32) (b1 : Int32) (b2 : XM) (r : Int32 × XM), k59 (b0, b1, b2) = some r → x_V l D aC bs yX9_findsPoints cX9_findsPoints 5 (some .int) rm_X9_findsPoints (x_Z D aC bs (some (.int r.1)) sz r.2 rm_X9_findsPoints) 59 [(0, .ref a0), (1, .int b0), (2, .int b1)] [] sz b2 0 0 := fun b0 b1 b2 r h => hk0 (b0, b1, b2) r h
  unfold b_X9_findsPoints_59 at h
  refine x_iload_n dX9_findsPoints_59 2 rfl ?_
  refine x_aload_n dX9_findsPoints_60 0 rfl ?_
  obtain ⟨v4, ev4, h⟩ := x_bd h
  refine x_getR clX9 w_fl_RX9_11 (by decide) dX9_findsPoints_61 ev4 ?_
  refine x_iconst (v := (0 : Int32)) dX9_findsPoints_64 (by decide) ?_
  obtain ⟨v5, ev5, h⟩ := x_bd h
  refine x_iald dX9_findsPoints_65 ev5 ?_
  refine x_icmp_ge 132 dX9_findsPoints_66 (by decide) (fun c6 => ?_) (fun c6 => ?_)
  · have h := (if_pos c6).symm.trans h
    refine x_iload_n dX9_findsPoints_132 1 rfl ?_
    obtain rfl := Option.some.inj h
    exact x_iret dX9_findsPoints_133 (Nat.le_of_ble_eq_true rfl) (Nat.le_of_ble_eq_true rfl)
  have h := (if_neg c6).symm.trans h
  refine x_aload_n dX9_findsPoints_69 0 rfl ?_
  obtain ⟨v7, ev7, h⟩ := x_bd h
  refine x_getR clX9 w_fl_RX9_11 (by decide) dX9_findsPoints_70 ev7 ?_
  refine x_iconst (v := (2 : Int32)) dX9_findsPoints_73 (by decide) ?_
  refine x_iload_n dX9_findsPoints_74 2 rfl ?_
  refine x_iadd dX9_findsPoints_75 ?_
  obtain ⟨v8, ev8, h⟩ := x_bd h
  refine x_iald dX9_findsPoints_76 ev8 ?_
  refine x_istore_n 3 [(3, .int v8), (0, .ref a0), (1, .int q.1), (2, .int q.2.1)] dX9_findsPoints_77 rfl (by decide) rfl ?_
  refine x_iconst (v := (0 : Int32)) dX9_findsPoints_78 (by decide) ?_
  refine x_istore [(4, .int (0 : Int32)), (3, .int v8), (0, .ref a0), (1, .int q.1), (2, .int q.2.1)] dX9_findsPoints_79 (by decide) rfl ?_
  exact x_sub [2, 3, 4, 1, 0] rfl (lp_X9_findsPoints_81 l D aC bs sz F (a0) (q.2.1) (v8) k59 hk59 F _ _ _ _ h)
def b_X9_findsPoints_4 (F : Nat) (a0 : Nat)  (k4 : (Int32 × Int32 × XM) → Option (Int32 × XM)) (q : Int32 × Int32 × XM) : Option (Int32 × XM) := (x_gR q.2.2 a0 9 0).bind fun v1 => (x_a32 .int q.2.2 v1 (0 : Int32)).bind fun v2 => if v2 ≤ q.2.1 then x_it (b_X9_findsPoints_59 F (a0)) F ((0 : Int32), (0 : Int32), q.2.2) else (x_gR q.2.2 a0 9 13).bind fun v18 => (x_gR q.2.2 a0 9 0).bind fun v19 => (x_a32 .int q.2.2 v19 ((7 : Int32) + q.2.1)).bind fun v20 => (x_w32 .int q.2.2 v18 v20 q.1).bind fun m21 => (x_gR m21 a0 9 0).bind fun v22 => (x_gR m21 a0 9 0).bind fun v23 => (x_a32 .int m21 v23 ((7 : Int32) + q.2.1)).bind fun v24 => (x_a32 .int m21 v22 ((12 : Int32) + v24)).bind fun v25 => k4 ((q.1 + v25), (q.2.1 + (1 : Int32)), m21)
set_option maxHeartbeats 4000000 in
set_option maxRecDepth 100000 in
theorem lp_X9_findsPoints_4 (l : Launch) (D : va_G) (aC : FieldType → ClassId) (bs : Nat) (sz : Nat) (F : Nat) (a0 : Nat)   : ∀ (n : Nat) (b0 : Int32) (b1 : Int32) (b2 : XM) (r : Int32 × XM), x_it (b_X9_findsPoints_4 F a0 ) n (b0, b1, b2) = some r → x_V l D aC bs yX9_findsPoints cX9_findsPoints 5 (some .int) rm_X9_findsPoints (x_Z D aC bs (some (.int r.1)) sz r.2 rm_X9_findsPoints) 4 [(0, .ref a0), (1, .int b0), (2, .int b1)] [] sz b2 0 0 := by
  suffices H : ∀ (n : Nat) (q : Int32 × Int32 × XM) (r : Int32 × XM), x_it (b_X9_findsPoints_4 F a0 ) n q = some r → x_V l D aC bs yX9_findsPoints cX9_findsPoints 5 (some .int) rm_X9_findsPoints (x_Z D aC bs (some (.int r.1)) sz r.2 rm_X9_findsPoints) 4 [(0, .ref a0), (1, .int q.1), (2, .int q.2.1)] [] sz q.2.2 0 0 from fun n b0 b1 b2 r h => H n (b0, b1, b2) r h
  refine x_loop (P := fun (q : Int32 × Int32 × XM) (r : Int32 × XM) => x_V l D aC bs yX9_findsPoints cX9_findsPoints 5 (some .int) rm_X9_findsPoints (x_Z D aC bs (some (.int r.1)) sz r.2 rm_X9_findsPoints) 4 [(0, .ref a0), (1, .int q.1), (2, .int q.2.1)] [] sz q.2.2 0 0) (fun k4 hk0 q r h => ?_)
  have hk4 : ∀ (b0 : Int32) (b1 : Int32) (b2 : XM) (r : Int32 × XM), k4 (b0, b1, b2) = some r → x_V l D aC bs yX9_findsPoints cX9_findsPoints 5 (some .int) rm_X9_findsPoints (x_Z D aC bs (some (.int r.1)) sz r.2 rm_X9_findsPoints) 4 [(0, .ref a0), (1, .int b0), (2, .int b1)] [] sz b2 0 0 := fun b0 b1 b2 r h => hk0 (b0, b1, b2) r h
  unfold b_X9_findsPoints_4 at h
  refine x_iload_n dX9_findsPoints_4 2 rfl ?_
  refine x_aload_n dX9_findsPoints_5 0 rfl ?_
  obtain ⟨v1, ev1, h⟩ := x_bd h
  refine x_getR clX9 w_fl_RX9_11 (by decide) dX9_findsPoints_6 ev1 ?_
  refine x_iconst (v := (0 : Int32)) dX9_findsPoints_9 (by decide) ?_
  obtain ⟨v2, ev2, h⟩ := x_bd h
  refine x_iald dX9_findsPoints_10 ev2 ?_
  refine x_icmp_ge 55 dX9_findsPoints_11 (by decide) (fun c3 => ?_) (fun c3 => ?_)
  · have h := (if_pos c3).symm.trans h
    refine x_iconst (v := (0 : Int32)) dX9_findsPoints_55 (by decide) ?_
    refine x_istore_n 1 [(1, .int (0 : Int32)), (0, .ref a0), (2, .int q.2.1)] dX9_findsPoints_56 rfl (by decide) rfl ?_
    refine x_iconst (v := (0 : Int32)) dX9_findsPoints_57 (by decide) ?_
    refine x_istore_n 2 [(2, .int (0 : Int32)), (1, .int (0 : Int32)), (0, .ref a0)] dX9_findsPoints_58 rfl (by decide) rfl ?_
    exact x_sub [2, 1, 0] rfl (lp_X9_findsPoints_59 l D aC bs sz F (a0)  F _ _ _ _ h)
  have h := (if_neg c3).symm.trans h
  refine x_aload_n dX9_findsPoints_14 0 rfl ?_
  obtain ⟨v18, ev18, h⟩ := x_bd h
  refine x_getR clX9 w_fl_RX9_36 (by decide) dX9_findsPoints_15 ev18 ?_
  refine x_aload_n dX9_findsPoints_18 0 rfl ?_
  obtain ⟨v19, ev19, h⟩ := x_bd h
  refine x_getR clX9 w_fl_RX9_11 (by decide) dX9_findsPoints_19 ev19 ?_
  refine x_bipush (v := (7 : Int32)) dX9_findsPoints_22 (by decide) ?_
  refine x_iload_n dX9_findsPoints_24 2 rfl ?_
  refine x_iadd dX9_findsPoints_25 ?_
  obtain ⟨v20, ev20, h⟩ := x_bd h
  refine x_iald dX9_findsPoints_26 ev20 ?_
  refine x_iload_n dX9_findsPoints_27 1 rfl ?_
  obtain ⟨m21, em21, h⟩ := x_bd h
  refine x_iast dX9_findsPoints_28 em21 ?_
  refine x_iload_n dX9_findsPoints_29 1 rfl ?_
  refine x_aload_n dX9_findsPoints_30 0 rfl ?_
  obtain ⟨v22, ev22, h⟩ := x_bd h
  refine x_getR clX9 w_fl_RX9_11 (by decide) dX9_findsPoints_31 ev22 ?_
  refine x_bipush (v := (12 : Int32)) dX9_findsPoints_34 (by decide) ?_
  refine x_aload_n dX9_findsPoints_36 0 rfl ?_
  obtain ⟨v23, ev23, h⟩ := x_bd h
  refine x_getR clX9 w_fl_RX9_11 (by decide) dX9_findsPoints_37 ev23 ?_
  refine x_bipush (v := (7 : Int32)) dX9_findsPoints_40 (by decide) ?_
  refine x_iload_n dX9_findsPoints_42 2 rfl ?_
  refine x_iadd dX9_findsPoints_43 ?_
  obtain ⟨v24, ev24, h⟩ := x_bd h
  refine x_iald dX9_findsPoints_44 ev24 ?_
  refine x_iadd dX9_findsPoints_45 ?_
  obtain ⟨v25, ev25, h⟩ := x_bd h
  refine x_iald dX9_findsPoints_46 ev25 ?_
  refine x_iadd dX9_findsPoints_47 ?_
  refine x_istore_n 1 [(1, .int (q.1 + v25)), (0, .ref a0), (2, .int q.2.1)] dX9_findsPoints_48 rfl (by decide) rfl ?_
  refine x_iinc (1 : Int32) 2 [(2, .int (q.2.1 + (1 : Int32))), (1, .int (q.1 + v25)), (0, .ref a0)] dX9_findsPoints_49 rfl (by decide) (by decide) rfl ?_
  refine x_goto 4 dX9_findsPoints_52 (by decide) ?_
  exact x_sub [2, 1, 0] rfl (hk4 _ _ _ _ h)
def f_X9_findsPoints (F : Nat) (a0 : Nat) (M : XM) : Option (Int32 × XM) := x_it (b_X9_findsPoints_4 F (a0)) F ((0 : Int32), (0 : Int32), M)
set_option maxHeartbeats 4000000 in
set_option maxRecDepth 100000 in
theorem c_X9_findsPoints (l : Launch) (D : va_G) (aC : FieldType → ClassId) (bs sz : Nat) (F : Nat) {a0 : Nat} {M : XM} {r : Int32 × XM} (h : f_X9_findsPoints F a0 M = some r) : x_Cn l D aC bs yX9_findsPoints cX9_findsPoints 5 (some .int) rm_X9_findsPoints [.ref a0] sz M (some (.int r.1)) sz r.2 := by
  unfold f_X9_findsPoints at h
  refine x_enter2 [(0, .ref a0)] me_X9_findsPoints (Nat.le_of_ble_eq_true rfl) rfl ?_
  refine x_iconst (v := (0 : Int32)) dX9_findsPoints_0 (by decide) ?_
  refine x_istore_n 1 [(1, .int (0 : Int32)), (0, .ref a0)] dX9_findsPoints_1 rfl (by decide) rfl ?_
  refine x_iconst (v := (0 : Int32)) dX9_findsPoints_2 (by decide) ?_
  refine x_istore_n 2 [(2, .int (0 : Int32)), (1, .int (0 : Int32)), (0, .ref a0)] dX9_findsPoints_3 rfl (by decide) rfl ?_
  exact x_sub [2, 1, 0] rfl (lp_X9_findsPoints_4 l D aC bs sz F (a0)  F _ _ _ _ h)
