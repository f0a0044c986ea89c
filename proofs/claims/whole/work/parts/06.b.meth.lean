-- SwappedIntervals$Rows.movingRow(I)[I
abbrev rm_X3_movingRow : Room := { frames := 0, cells := 0, slots := 0, locals := 0 }
theorem me_X3_movingRow : x_Me yX3_movingRow cX3_movingRow 2 (some (.array .int)) 1 := ⟨by decide +kernel, w_co_yX3_movingRow, w_in_SwappedIntervals_Rows, by decide +kernel, by decide +kernel, by decide +kernel⟩
def f_X3_movingRow (a0 : Nat) (a1 : Int32) (M : XM) : Option (Nat) := if a1 = 0 then (x_gR M a0 3 2).bind fun v3 => some v3 else (x_gR M a0 3 1).bind fun v2 => some v2
set_option maxHeartbeats 4000000 in
set_option maxRecDepth 100000 in
theorem c_X3_movingRow (l : Launch) (D : va_G) (aC : FieldType → ClassId) (bs sz : Nat) {a0 : Nat} {a1 : Int32} {M : XM} {r : Nat} (h : f_X3_movingRow a0 a1 M = some r) : x_Cn l D aC bs yX3_movingRow cX3_movingRow 2 (some (.array .int)) rm_X3_movingRow [.ref a0, .int a1] sz M (some (.ref r)) sz M := by
  unfold f_X3_movingRow at h
  refine x_enter2 [(0, .ref a0), (1, .int a1)] me_X3_movingRow (Nat.le_of_ble_eq_true rfl) rfl ?_
  refine x_iload_n dX3_movingRow_0 1 rfl ?_
  refine x_if_ne 11 dX3_movingRow_1 (by decide) (fun c1 => ?_) (fun c1 => ?_)
  · have h := (if_neg c1).symm.trans h
    refine x_aload_n dX3_movingRow_11 0 rfl ?_
    obtain ⟨v2, ev2, h⟩ := x_bd h
    refine x_getR clX3 w_fl_RX3_9 (by decide) dX3_movingRow_12 ev2 ?_
    obtain rfl := Option.some.inj h
    exact x_aret dX3_movingRow_15 (Nat.le_of_ble_eq_true rfl) (Nat.le_of_ble_eq_true rfl)
  have h := (if_pos c1).symm.trans h
  refine x_aload_n dX3_movingRow_4 0 rfl ?_
  obtain ⟨v3, ev3, h⟩ := x_bd h
  refine x_getR clX3 w_fl_RX3_15 (by decide) dX3_movingRow_5 ev3 ?_
  refine x_goto 15 dX3_movingRow_8 (by decide) ?_
  obtain rfl := Option.some.inj h
  exact x_aret dX3_movingRow_15 (Nat.le_of_ble_eq_true rfl) (Nat.le_of_ble_eq_true rfl)

-- SwappedIntervals$Rows.endsAlike()Z
abbrev rm_X3_endsAlike : Room := { frames := 0, cells := 0, slots := 0, locals := 0 }
theorem me_X3_endsAlike : x_Me yX3_endsAlike cX3_endsAlike 1 (some .boolean) 0 := ⟨by decide +kernel, w_co_yX3_endsAlike, w_in_SwappedIntervals_Rows, by decide +kernel, by decide +kernel, by decide +kernel⟩
def f_X3_endsAlike (a0 : Nat) (M : XM) : Option (Int32) := (x_gR M a0 3 1).bind fun v1 => (x_gI M a0 3 0).bind fun v2 => (x_a32 .int M v1 (v2 - (1 : Int32))).bind fun v3 => (x_gR M a0 3 2).bind fun v4 => (x_gI M a0 3 0).bind fun v5 => (x_a32 .int M v4 (v5 - (1 : Int32))).bind fun v6 => if v3 = v6 then some (1 : Int32) else some (0 : Int32)
set_option maxHeartbeats 4000000 in
set_option maxRecDepth 100000 in
theorem c_X3_endsAlike (l : Launch) (D : va_G) (aC : FieldType → ClassId) (bs sz : Nat) {a0 : Nat} {M : XM} {r : Int32} (h : f_X3_endsAlike a0 M = some r) : x_Cn l D aC bs yX3_endsAlike cX3_endsAlike 1 (some .boolean) rm_X3_endsAlike [.ref a0] sz M (some (.int r)) sz M := by
  unfold f_X3_endsAlike at h
  refine x_enter2 [(0, .ref a0)] me_X3_endsAlike (Nat.le_of_ble_eq_true rfl) rfl ?_
  refine x_aload_n dX3_endsAlike_0 0 rfl ?_
  obtain ⟨v1, ev1, h⟩ := x_bd h
  refine x_getR clX3 w_fl_RX3_9 (by decide) dX3_endsAlike_1 ev1 ?_
  refine x_aload_n dX3_endsAlike_4 0 rfl ?_
  obtain ⟨v2, ev2, h⟩ := x_bd h
  refine x_getI clX3 w_fl_RX3_34 (by decide) dX3_endsAlike_5 ev2 ?_
  refine x_iconst (v := (1 : Int32)) dX3_endsAlike_8 (by decide) ?_
  refine x_isub dX3_endsAlike_9 ?_
  obtain ⟨v3, ev3, h⟩ := x_bd h
  refine x_iald dX3_endsAlike_10 ev3 ?_
  refine x_aload_n dX3_endsAlike_11 0 rfl ?_
  obtain ⟨v4, ev4, h⟩ := x_bd h
  refine x_getR clX3 w_fl_RX3_15 (by decide) dX3_endsAlike_12 ev4 ?_
  refine x_aload_n dX3_endsAlike_15 0 rfl ?_
  obtain ⟨v5, ev5, h⟩ := x_bd h
  refine x_getI clX3 w_fl_RX3_34 (by decide) dX3_endsAlike_16 ev5 ?_
  refine x_iconst (v := (1 : Int32)) dX3_endsAlike_19 (by decide) ?_
  refine x_isub dX3_endsAlike_20 ?_
  obtain ⟨v6, ev6, h⟩ := x_bd h
  refine x_iald dX3_endsAlike_21 ev6 ?_
  refine x_icmp_ne 29 dX3_endsAlike_22 (by decide) (fun c7 => ?_) (fun c7 => ?_)
  · have h := (if_neg c7).symm.trans h
    refine x_iconst (v := (0 : Int32)) dX3_endsAlike_29 (by decide) ?_
    obtain rfl := Option.some.inj h
    exact x_zret dX3_endsAlike_30 (Or.inl rfl) (Nat.le_of_ble_eq_true rfl) (Nat.le_of_ble_eq_true rfl)
  have h := (if_pos c7).symm.trans h
  refine x_iconst (v := (1 : Int32)) dX3_endsAlike_25 (by decide) ?_
  refine x_goto 30 dX3_endsAlike_26 (by decide) ?_
  obtain rfl := Option.some.inj h
  exact x_zret dX3_endsAlike_30 (Or.inr rfl) (Nat.le_of_ble_eq_true rfl) (Nat.le_of_ble_eq_true rfl)

-- SwappedIntervals$Rows.kindOfStep()I
abbrev rm_X3_kindOfStep : Room := { frames := 1, cells := 0, slots := 0, locals := 20 }
theorem me_X3_kindOfStep : x_Me yX3_kindOfStep cX3_kindOfStep 3 (some .int) 0 := ⟨by decide +kernel, w_co_yX3_kindOfStep, w_in_SwappedIntervals_Rows, by decide +kernel, by decide +kernel, by decide +kernel⟩
def f_X3_kindOfStep (a0 : Nat) (M : XM) : Option (Int32) := (x_gR M a0 3 3).bind fun v1 => (x_gR M a0 3 1).bind fun v2 => (x_gI M a0 3 0).bind fun v3 => (x_a32 .int M v2 (v3 - (1 : Int32))).bind fun v4 => (x_a32 .int M v1 v4).bind fun v5 => (x_gR M a0 3 3).bind fun v6 => (x_gR M a0 3 2).bind fun v7 => (x_gI M a0 3 0).bind fun v8 => (x_a32 .int M v7 (v8 - (1 : Int32))).bind fun v9 => (x_a32 .int M v6 v9).bind fun v10 => (x_ob M a0 3).bind fun u11 => (f_X3_endsAlike a0 M).bind fun p12 => if p12 = 0 then if v5 = v10 then some (-1 : Int32) else if v5 ≤ v10 then some (1 : Int32) else some (0 : Int32) else some (-1 : Int32)
set_option maxHeartbeats 4000000 in
set_option maxRecDepth 100000 in
theorem c_X3_kindOfStep (l : Launch) (D : va_G) (aC : FieldType → ClassId) (bs sz : Nat) {a0 : Nat} {M : XM} {r : Int32} (h : f_X3_kindOfStep a0 M = some r) : x_Cn l D aC bs yX3_kindOfStep cX3_kindOfStep 3 (some .int) rm_X3_kindOfStep [.ref a0] sz M (some (.int r)) sz M := by
  unfold f_X3_kindOfStep at h
  refine x_enter2 [(0, .ref a0)] me_X3_kindOfStep (Nat.le_of_ble_eq_true rfl) rfl ?_
  refine x_aload_n dX3_kindOfStep_0 0 rfl ?_
  obtain ⟨v1, ev1, h⟩ := x_bd h
  refine x_getR clX3 w_fl_RX3_18 (by decide) dX3_kindOfStep_1 ev1 ?_
  refine x_aload_n dX3_kindOfStep_4 0 rfl ?_
  obtain ⟨v2, ev2, h⟩ := x_bd h
  refine x_getR clX3 w_fl_RX3_9 (by decide) dX3_kindOfStep_5 ev2 ?_
  refine x_aload_n dX3_kindOfStep_8 0 rfl ?_
  obtain ⟨v3, ev3, h⟩ := x_bd h
  refine x_getI clX3 w_fl_RX3_34 (by decide) dX3_kindOfStep_9 ev3 ?_
  refine x_iconst (v := (1 : Int32)) dX3_kindOfStep_12 (by decide) ?_
  refine x_isub dX3_kindOfStep_13 ?_
  obtain ⟨v4, ev4, h⟩ := x_bd h
  refine x_iald dX3_kindOfStep_14 ev4 ?_
  obtain ⟨v5, ev5, h⟩ := x_bd h
  refine x_iald dX3_kindOfStep_15 ev5 ?_
  refine x_istore_n 1 [(1, .int v5), (0, .ref a0)] dX3_kindOfStep_16 rfl (by decide) rfl ?_
  refine x_aload_n dX3_kindOfStep_17 1 rfl ?_
  obtain ⟨v6, ev6, h⟩ := x_bd h
  refine x_getR clX3 w_fl_RX3_18 (by decide) dX3_kindOfStep_18 ev6 ?_
  refine x_aload_n dX3_kindOfStep_21 1 rfl ?_
  obtain ⟨v7, ev7, h⟩ := x_bd h
  refine x_getR clX3 w_fl_RX3_15 (by decide) dX3_kindOfStep_22 ev7 ?_
  refine x_aload_n dX3_kindOfStep_25 1 rfl ?_
  obtain ⟨v8, ev8, h⟩ := x_bd h
  refine x_getI clX3 w_fl_RX3_34 (by decide) dX3_kindOfStep_26 ev8 ?_
  refine x_iconst (v := (1 : Int32)) dX3_kindOfStep_29 (by decide) ?_
  refine x_isub dX3_kindOfStep_30 ?_
  obtain ⟨v9, ev9, h⟩ := x_bd h
  refine x_iald dX3_kindOfStep_31 ev9 ?_
  obtain ⟨v10, ev10, h⟩ := x_bd h
  refine x_iald dX3_kindOfStep_32 ev10 ?_
  refine x_istore_n 2 [(2, .int v10), (1, .int v5), (0, .ref a0)] dX3_kindOfStep_33 rfl (by decide) rfl ?_
  refine x_aload_n dX3_kindOfStep_34 2 rfl ?_
  obtain ⟨u11, eu11, h⟩ := x_bd h
  obtain ⟨p12, ep12, h⟩ := x_bd h
  refine x_callVI [] [] clX3 me_X3_endsAlike w_ml_RX3_46 w_im_yX3_endsAlike w_se_yX3_endsAlike (Nat.le_of_ble_eq_true rfl) (Nat.le_of_ble_eq_true rfl) rfl (Nat.le_of_ble_eq_true rfl) (Nat.le_of_ble_eq_true rfl) (Nat.le_of_ble_eq_true rfl) dX3_kindOfStep_35 eu11 (c_X3_endsAlike l D aC bs sz ep12) rfl ?_
  refine x_if_ne 46 dX3_kindOfStep_38 (by decide) (fun c13 => ?_) (fun c13 => ?_)
  · have h := (if_neg c13).symm.trans h
    refine x_iconst (v := (-1 : Int32)) dX3_kindOfStep_46 (by decide) ?_
    obtain rfl := Option.some.inj h
    exact x_iret dX3_kindOfStep_47 (Nat.le_of_ble_eq_true rfl) (Nat.le_of_ble_eq_true rfl)
  have h := (if_pos c13).symm.trans h
  refine x_iload_n dX3_kindOfStep_41 1 rfl ?_
  refine x_iload_n dX3_kindOfStep_42 0 rfl ?_
  refine x_icmp_ne 48 dX3_kindOfStep_43 (by decide) (fun c14 => ?_) (fun c14 => ?_)
  · have h := (if_neg c14).symm.trans h
    refine x_iload_n dX3_kindOfStep_48 1 rfl ?_
    refine x_iload_n dX3_kindOfStep_49 0 rfl ?_
    refine x_icmp_le 57 dX3_kindOfStep_50 (by decide) (fun c15 => ?_) (fun c15 => ?_)
    · have h := (if_pos c15).symm.trans h
      refine x_iconst (v := (1 : Int32)) dX3_kindOfStep_57 (by decide) ?_
      obtain rfl := Option.some.inj h
      exact x_iret dX3_kindOfStep_58 (Nat.le_of_ble_eq_true rfl) (Nat.le_of_ble_eq_true rfl)
    have h := (if_neg c15).symm.trans h
    refine x_iconst (v := (0 : Int32)) dX3_kindOfStep_53 (by decide) ?_
    refine x_goto 58 dX3_kindOfStep_54 (by decide) ?_
    obtain rfl := Option.some.inj h
    exact x_iret dX3_kindOfStep_58 (Nat.le_of_ble_eq_true rfl) (Nat.le_of_ble_eq_true rfl)
  have h := (if_pos c14).symm.trans h
  refine x_iconst (v := (-1 : Int32)) dX3_kindOfStep_46 (by decide) ?_
  obtain rfl := Option.some.inj h
  exact x_iret dX3_kindOfStep_47 (Nat.le_of_ble_eq_true rfl) (Nat.le_of_ble_eq_true rfl)

-- SwappedIntervals$Rows.moveForStep(I)V
abbrev rm_X3_moveForStep : Room := { frames := 1, cells := 0, slots := 0, locals := 21 }
theorem me_X3_moveForStep : x_Me yX3_moveForStep cX3_moveForStep 6 none 1 := ⟨by decide +kernel, w_co_yX3_moveForStep, w_in_SwappedIntervals_Rows, by decide +kernel, by decide +kernel, by decide +kernel⟩
def b_X3_moveForStep_37 (F : Nat) (a2 : Int32) (a3 : Nat) (a4 : Int32)  (k37 : (Int32 × XM) → Option (XM)) (q : Int32 × XM) : Option (XM) := if q.1 ≤ 0 then (x_w32 .int q.2 a3 q.1 a4).bind fun m11 => some m11 else (x_a32 .int q.2 a3 (q.1 - (1 : Int32))).bind fun v12 => if v12 = a2 then (x_w32 .int q.2 a3 q.1 a4).bind fun m14 => some m14 else (x_a32 .int q.2 a3 (q.1 - (1 : Int32))).bind fun v15 => (x_w32 .int q.2 a3 q.1 v15).bind fun m16 => k37 ((q.1 + (-1 : Int32)), m16)
set_option maxHeartbeats 4000000 in
set_option maxRecDepth 100000 in
theorem lp_X3_moveForStep_37 (l : Launch) (D : va_G) (aC : FieldType → ClassId) (bs : Nat) (sz : Nat) (F : Nat) (a2 : Int32) (a3 : Nat) (a4 : Int32)   : ∀ (n : Nat) (b0 : Int32) (b1 : XM) (r : XM), x_it (b_X3_moveForStep_37 F a2 a3 a4 ) n (b0, b1) = some r → x_V l D aC bs yX3_moveForStep cX3_moveForStep 6 none rm_X3_moveForStep (x_Z D aC bs none sz r rm_X3_moveForStep) 37 [(2, .int a2), (3, .ref a3), (4, .int a4), (5, .int b0)] [] sz b1 0 0 := by
  suffices H : ∀ (n : Nat) (q : Int32 × XM) (r : XM), x_it (b_X3_moveForStep_37 F a2 a3 a4 ) n q = some r → x_V l D aC bs yX3_moveForStep cX3_moveForStep 6 none rm_X3_moveForStep (x_Z D aC bs none sz r rm_X3_moveForStep) 37 [(2, .int a2), (3, .ref a3), (4, .int a4), (5, .int q.1)] [] sz q.2 0 0 from fun n b0 b1 r h => H n (b0, b1) r h
  refine x_loop (P := fun (q : Int32 × XM) (r : XM) => x_V l D aC bs yX3_moveForStep cX3_moveForStep 6 none rm_X3_moveForStep (x_Z D aC bs none sz r rm_X3_moveForStep) 37 [(2, .int a2), (3, .ref a3), (4, .int a4), (5, .int q.1)] [] sz q.2 0 0) (fun k37 hk0 q r h => ?_)
  have hk37 : ∀ (b0 : Int32) (b1 : XM) (r : XM), k37 (b0, b1) = some r → x_V l D aC bs yX3_moveForStep cX3_moveForStep 6 none rm_X3_moveForStep (x_Z D aC bs none sz r rm_X3_moveForStep) 37 [(2, .int a2), (3, .ref a3), (4, .int a4), (5, .int b0)] [] sz b1 0 0 := fun b0 b1 r h => hk0 (b0, b1) r h
  unfold b_X3_moveForStep_37 at h
  refine x_iload dX3_moveForStep_37 3 rfl ?_
  refine x_if_le 68 dX3_moveForStep_39 (by decide) (fun c10 => ?_) (fun c10 => ?_)
  · have h := (if_pos c10).symm.trans h
    refine x_aload_n dX3_moveForStep_68 1 rfl ?_
    refine x_iload dX3_moveForStep_69 3 rfl ?_
    refine x_iload dX3_moveForStep_71 2 rfl ?_
    obtain ⟨m11, em11, h⟩ := x_bd h
    refine x_iast dX3_moveForStep_73 em11 ?_
    obtain rfl := Option.some.inj h
    exact x_vret dX3_moveForStep_74 (Nat.le_of_ble_eq_true rfl) (Nat.le_of_ble_eq_true rfl)
  have h := (if_neg c10).symm.trans h
  refine x_aload_n dX3_moveForStep_42 1 rfl ?_
  refine x_iload dX3_moveForStep_43 3 rfl ?_
  refine x_iconst (v := (1 : Int32)) dX3_moveForStep_45 (by decide) ?_
  refine x_isub dX3_moveForStep_46 ?_
  obtain ⟨v12, ev12, h⟩ := x_bd h
  refine x_iald dX3_moveForStep_47 ev12 ?_
  refine x_iload_n dX3_moveForStep_48 0 rfl ?_
  refine x_icmp_eq 68 dX3_moveForStep_49 (by decide) (fun c13 => ?_) (fun c13 => ?_)
  · have h := (if_pos c13).symm.trans h
    refine x_aload_n dX3_moveForStep_68 1 rfl ?_
    refine x_iload dX3_moveForStep_69 3 rfl ?_
    refine x_iload dX3_moveForStep_71 2 rfl ?_
    obtain ⟨m14, em14, h⟩ := x_bd h
    refine x_iast dX3_moveForStep_73 em14 ?_
    obtain rfl := Option.some.inj h
    exact x_vret dX3_moveForStep_74 (Nat.le_of_ble_eq_true rfl) (Nat.le_of_ble_eq_true rfl)
  have h := (if_neg c13).symm.trans h
  refine x_aload_n dX3_moveForStep_52 1 rfl ?_
  refine x_iload dX3_moveForStep_53 3 rfl ?_
  refine x_aload_n dX3_moveForStep_55 1 rfl ?_
  refine x_iload dX3_moveForStep_56 3 rfl ?_
  refine x_iconst (v := (1 : Int32)) dX3_moveForStep_58 (by decide) ?_
  refine x_isub dX3_moveForStep_59 ?_
  obtain ⟨v15, ev15, h⟩ := x_bd h
  refine x_iald dX3_moveForStep_60 ev15 ?_
  obtain ⟨m16, em16, h⟩ := x_bd h
  refine x_iast dX3_moveForStep_61 em16 ?_
  refine x_iinc (-1 : Int32) 3 [(5, .int (q.1 + (-1 : Int32))), (2, .int a2), (3, .ref a3), (4, .int a4)] dX3_moveForStep_62 rfl (by decide) (by decide) rfl ?_
  refine x_goto 37 dX3_moveForStep_65 (by decide) ?_
  exact x_sub [1, 2, 3, 0] rfl (hk37 _ _ _ h)
def f_X3_moveForStep (F : Nat) (a0 : Nat) (a1 : Int32) (M : XM) : Option (XM) := (x_ob M a0 3).bind fun u1 => (f_X3_stayingRow a0 a1 M).bind fun p2 => (x_gI M a0 3 0).bind fun v3 => (x_a32 .int M p2 (v3 - (1 : Int32))).bind fun v4 => (x_ob M a0 3).bind fun u5 => (f_X3_movingRow a0 a1 M).bind fun p6 => (x_gI M a0 3 0).bind fun v7 => (x_a32 .int M p6 (v7 - (1 : Int32))).bind fun v8 => (x_gI M a0 3 0).bind fun v9 => x_it (b_X3_moveForStep_37 F (v4) (p6) (v8)) F ((v9 - (1 : Int32)), M)
set_option maxHeartbeats 4000000 in
set_option maxRecDepth 100000 in
theorem c_X3_moveForStep (l : Launch) (D : va_G) (aC : FieldType → ClassId) (bs sz : Nat) (F : Nat) {a0 : Nat} {a1 : Int32} {M : XM} {r : XM} (h : f_X3_moveForStep F a0 a1 M = some r) : x_Cn l D aC bs yX3_moveForStep cX3_moveForStep 6 none rm_X3_moveForStep [.ref a0, .int a1] sz M none sz r := by
  unfold f_X3_moveForStep at h
  refine x_enter2 [(0, .ref a0), (1, .int a1)] me_X3_moveForStep (Nat.le_of_ble_eq_true rfl) rfl ?_
  refine x_aload_n dX3_moveForStep_0 0 rfl ?_
  refine x_iload_n dX3_moveForStep_1 1 rfl ?_
  obtain ⟨u1, eu1, h⟩ := x_bd h
  obtain ⟨p2, ep2, h⟩ := x_bd h
  refine x_callVA [.int a1] [] clX3 me_X3_stayingRow w_ml_RX3_50 w_im_yX3_stayingRow w_se_yX3_stayingRow (Nat.le_of_ble_eq_true rfl) (Nat.le_of_ble_eq_true rfl) rfl (Nat.le_of_ble_eq_true rfl) (Nat.le_of_ble_eq_true rfl) (Nat.le_of_ble_eq_true rfl) dX3_moveForStep_2 eu1 (c_X3_stayingRow l D aC bs sz ep2) rfl ?_
  refine x_aload_n dX3_moveForStep_5 0 rfl ?_
  obtain ⟨v3, ev3, h⟩ := x_bd h
  refine x_getI clX3 w_fl_RX3_34 (by decide) dX3_moveForStep_6 ev3 ?_
  refine x_iconst (v := (1 : Int32)) dX3_moveForStep_9 (by decide) ?_
  refine x_isub dX3_moveForStep_10 ?_
  obtain ⟨v4, ev4, h⟩ := x_bd h
  refine x_iald dX3_moveForStep_11 ev4 ?_
  refine x_istore_n 2 [(2, .int v4), (0, .ref a0), (1, .int a1)] dX3_moveForStep_12 rfl (by decide) rfl ?_
  refine x_aload_n dX3_moveForStep_13 1 rfl ?_
  refine x_iload_n dX3_moveForStep_14 2 rfl ?_
  obtain ⟨u5, eu5, h⟩ := x_bd h
  obtain ⟨p6, ep6, h⟩ := x_bd h
  refine x_callVA [.int a1] [] clX3 me_X3_movingRow w_ml_RX3_54 w_im_yX3_movingRow w_se_yX3_movingRow (Nat.le_of_ble_eq_true rfl) (Nat.le_of_ble_eq_true rfl) rfl (Nat.le_of_ble_eq_true rfl) (Nat.le_of_ble_eq_true rfl) (Nat.le_of_ble_eq_true rfl) dX3_moveForStep_15 eu5 (c_X3_movingRow l D aC bs sz ep6) rfl ?_
  refine x_astore_n 3 [(3, .ref p6), (2, .int v4), (0, .ref a0), (1, .int a1)] dX3_moveForStep_18 rfl (by decide) rfl ?_
  refine x_aload_n dX3_moveForStep_19 0 rfl ?_
  refine x_aload_n dX3_moveForStep_20 2 rfl ?_
  obtain ⟨v7, ev7, h⟩ := x_bd h
  refine x_getI clX3 w_fl_RX3_34 (by decide) dX3_moveForStep_21 ev7 ?_
  refine x_iconst (v := (1 : Int32)) dX3_moveForStep_24 (by decide) ?_
  refine x_isub dX3_moveForStep_25 ?_
  obtain ⟨v8, ev8, h⟩ := x_bd h
  refine x_iald dX3_moveForStep_26 ev8 ?_
  refine x_istore [(4, .int v8), (3, .ref p6), (2, .int v4), (0, .ref a0), (1, .int a1)] dX3_moveForStep_27 (by decide) rfl ?_
  refine x_aload_n dX3_moveForStep_29 3 rfl ?_
  obtain ⟨v9, ev9, h⟩ := x_bd h
  refine x_getI clX3 w_fl_RX3_34 (by decide) dX3_moveForStep_30 ev9 ?_
  refine x_iconst (v := (1 : Int32)) dX3_moveForStep_33 (by decide) ?_
  refine x_isub dX3_moveForStep_34 ?_
  refine x_istore [(5, .int (v9 - (1 : Int32))), (4, .int v8), (3, .ref p6), (2, .int v4), (0, .ref a0), (1, .int a1)] dX3_moveForStep_35 (by decide) rfl ?_
  exact x_sub [3, 2, 1, 0] rfl (lp_X3_moveForStep_37 l D aC bs sz F (v4) (p6) (v8)  F _ _ _ h)

-- SwappedIntervals$Rows.goStep(I)V
abbrev rm_X3_goStep : Room := { frames := 2, cells := 0, slots := 0, locals := 46 }
theorem me_X3_goStep : x_Me yX3_goStep cX3_goStep 4 none 1 := ⟨by decide +kernel, w_co_yX3_goStep, w_in_SwappedIntervals_Rows, by decide +kernel, by decide +kernel, by decide +kernel⟩
def f_X3_goStep (F : Nat) (a0 : Nat) (a1 : Int32) (M : XM) : Option (XM) := (x_ob M a0 3).bind fun u1 => (f_X3_stayingRow a0 a1 M).bind fun p2 => (x_gI M a0 3 0).bind fun v3 => (x_a32 .int M p2 (v3 - (1 : Int32))).bind fun v4 => (x_ob M a0 3).bind fun u5 => (f_X3_movingRow a0 a1 M).bind fun p6 => (x_gI M a0 3 0).bind fun v7 => (x_a32 .int M p6 (v7 - (1 : Int32))).bind fun v8 => (x_gR M a0 3 3).bind fun v9 => (x_a32 .int M v9 v4).bind fun v10 => (x_gR M a0 3 3).bind fun v11 => (x_a32 .int M v11 v8).bind fun v12 => (x_w32 .int M v9 v4 (v10 - v12)).bind fun m13 => (x_ob m13 a0 3).bind fun u14 => (f_X3_moveForStep F a0 a1 m13).bind fun p15 => some p15
set_option maxHeartbeats 4000000 in
set_option maxRecDepth 100000 in
theorem c_X3_goStep (l : Launch) (D : va_G) (aC : FieldType → ClassId) (bs sz : Nat) (F : Nat) {a0 : Nat} {a1 : Int32} {M : XM} {r : XM} (h : f_X3_goStep F a0 a1 M = some r) : x_Cn l D aC bs yX3_goStep cX3_goStep 4 none rm_X3_goStep [.ref a0, .int a1] sz M none sz r := by
  unfold f_X3_goStep at h
  refine x_enter2 [(0, .ref a0), (1, .int a1)] me_X3_goStep (Nat.le_of_ble_eq_true rfl) rfl ?_
  refine x_aload_n dX3_goStep_0 0 rfl ?_
  refine x_iload_n dX3_goStep_1 1 rfl ?_
  obtain ⟨u1, eu1, h⟩ := x_bd h
  obtain ⟨p2, ep2, h⟩ := x_bd h
  refine x_callVA [.int a1] [] clX3 me_X3_stayingRow w_ml_RX3_50 w_im_yX3_stayingRow w_se_yX3_stayingRow (Nat.le_of_ble_eq_true rfl) (Nat.le_of_ble_eq_true rfl) rfl (Nat.le_of_ble_eq_true rfl) (Nat.le_of_ble_eq_true rfl) (Nat.le_of_ble_eq_true rfl) dX3_goStep_2 eu1 (c_X3_stayingRow l D aC bs sz ep2) rfl ?_
  refine x_aload_n dX3_goStep_5 0 rfl ?_
  obtain ⟨v3, ev3, h⟩ := x_bd h
  refine x_getI clX3 w_fl_RX3_34 (by decide) dX3_goStep_6 ev3 ?_
  refine x_iconst (v := (1 : Int32)) dX3_goStep_9 (by decide) ?_
  refine x_isub dX3_goStep_10 ?_
  obtain ⟨v4, ev4, h⟩ := x_bd h
  refine x_iald dX3_goStep_11 ev4 ?_
  refine x_istore_n 2 [(2, .int v4), (0, .ref a0), (1, .int a1)] dX3_goStep_12 rfl (by decide) rfl ?_
  refine x_aload_n dX3_goStep_13 1 rfl ?_
  refine x_iload_n dX3_goStep_14 2 rfl ?_
  obtain ⟨u5, eu5, h⟩ := x_bd h
  obtain ⟨p6, ep6, h⟩ := x_bd h
  refine x_callVA [.int a1] [] clX3 me_X3_movingRow w_ml_RX3_54 w_im_yX3_movingRow w_se_yX3_movingRow (Nat.le_of_ble_eq_true rfl) (Nat.le_of_ble_eq_true rfl) rfl (Nat.le_of_ble_eq_true rfl) (Nat.le_of_ble_eq_true rfl) (Nat.le_of_ble_eq_true rfl) dX3_goStep_15 eu5 (c_X3_movingRow l D aC bs sz ep6) rfl ?_
  refine x_aload_n dX3_goStep_18 1 rfl ?_
  obtain ⟨v7, ev7, h⟩ := x_bd h
  refine x_getI clX3 w_fl_RX3_34 (by decide) dX3_goStep_19 ev7 ?_
  refine x_iconst (v := (1 : Int32)) dX3_goStep_22 (by decide) ?_
  refine x_isub dX3_goStep_23 ?_
  obtain ⟨v8, ev8, h⟩ := x_bd h
  refine x_iald dX3_goStep_24 ev8 ?_
  refine x_istore_n 3 [(3, .int v8), (2, .int v4), (0, .ref a0), (1, .int a1)] dX3_goStep_25 rfl (by decide) rfl ?_
  refine x_aload_n dX3_goStep_26 2 rfl ?_
  obtain ⟨v9, ev9, h⟩ := x_bd h
  refine x_getR clX3 w_fl_RX3_18 (by decide) dX3_goStep_27 ev9 ?_
  refine x_iload_n dX3_goStep_30 1 rfl ?_
  refine x_dup2 dX3_goStep_31 rfl rfl ?_
  obtain ⟨v10, ev10, h⟩ := x_bd h
  refine x_iald dX3_goStep_32 ev10 ?_
  refine x_aload_n dX3_goStep_33 2 rfl ?_
  obtain ⟨v11, ev11, h⟩ := x_bd h
  refine x_getR clX3 w_fl_RX3_18 (by decide) dX3_goStep_34 ev11 ?_
  refine x_iload_n dX3_goStep_37 0 rfl ?_
  obtain ⟨v12, ev12, h⟩ := x_bd h
  refine x_iald dX3_goStep_38 ev12 ?_
  refine x_isub dX3_goStep_39 ?_
  obtain ⟨m13, em13, h⟩ := x_bd h
  refine x_iast dX3_goStep_40 em13 ?_
  refine x_aload_n dX3_goStep_41 2 rfl ?_
  refine x_iload_n dX3_goStep_42 3 rfl ?_
  obtain ⟨u14, eu14, h⟩ := x_bd h
  obtain ⟨p15, ep15, h⟩ := x_bd h
  refine x_callVV [.int a1] [] clX3 me_X3_moveForStep w_ml_RX3_57 w_im_yX3_moveForStep w_se_yX3_moveForStep (Nat.le_of_ble_eq_true rfl) (Nat.le_of_ble_eq_true rfl) rfl (Nat.le_of_ble_eq_true rfl) (Nat.le_of_ble_eq_true rfl) (Nat.le_of_ble_eq_true rfl) dX3_goStep_43 eu14 (c_X3_moveForStep l D aC bs sz F ep15) rfl ?_
  obtain rfl := Option.some.inj h
  exact x_vret dX3_goStep_46 (Nat.le_of_ble_eq_true rfl) (Nat.le_of_ble_eq_true rfl)

-- SwappedIntervals$Rows.refusalOfStepBack(I)I
abbrev rm_X3_refusalOfStepBack : Room := { frames := 2, cells := 0, slots := 0, locals := 46 }
theorem me_X3_refusalOfStepBack : x_Me yX3_refusalOfStepBack cX3_refusalOfStepBack 4 (some .int) 1 := ⟨by decide +kernel, w_co_yX3_refusalOfStepBack, w_in_SwappedIntervals_Rows, by decide +kernel, by decide +kernel, by decide +kernel⟩
def f_X3_refusalOfStepBack (F : Nat) (a0 : Nat) (a1 : Int32) (M : XM) : Option (Int32) := (x_ob M a0 3).bind fun u1 => (f_X3_stayingRow a0 a1 M).bind fun p2 => (x_gI M a0 3 0).bind fun v3 => (x_a32 .int M p2 (v3 - (1 : Int32))).bind fun v4 => (x_ob M a0 3).bind fun u5 => (f_X3_movingRow a0 a1 M).bind fun p6 => (x_ob M a0 3).bind fun u7 => (f_X3_letterBehind F a0 p6 v4 M).bind fun p8 => if p8 = (-1 : Int32) then some (-3 : Int32) else (x_gR M a0 3 3).bind fun v10 => (x_a32 .int M v10 v4).bind fun v11 => (x_gR M a0 3 3).bind fun v12 => (x_a32 .int M v12 p8).bind fun v13 => if (v11 + v13) ≤ (99 : Int32) then some (0 : Int32) else some (-2 : Int32)
set_option maxHeartbeats 4000000 in
set_option maxRecDepth 100000 in
theorem c_X3_refusalOfStepBack (l : Launch) (D : va_G) (aC : FieldType → ClassId) (bs sz : Nat) (F : Nat) {a0 : Nat} {a1 : Int32} {M : XM} {r : Int32} (h : f_X3_refusalOfStepBack F a0 a1 M = some r) : x_Cn l D aC bs yX3_refusalOfStepBack cX3_refusalOfStepBack 4 (some .int) rm_X3_refusalOfStepBack [.ref a0, .int a1] sz M (some (.int r)) sz M := by
  unfold f_X3_refusalOfStepBack at h
  refine x_enter2 [(0, .ref a0), (1, .int a1)] me_X3_refusalOfStepBack (Nat.le_of_ble_eq_true rfl) rfl ?_
  refine x_aload_n dX3_refusalOfStepBack_0 0 rfl ?_
  refine x_iload_n dX3_refusalOfStepBack_1 1 rfl ?_
  obtain ⟨u1, eu1, h⟩ := x_bd h
  obtain ⟨p2, ep2, h⟩ := x_bd h
  refine x_callVA [.int a1] [] clX3 me_X3_stayingRow w_ml_RX3_50 w_im_yX3_stayingRow w_se_yX3_stayingRow (Nat.le_of_ble_eq_true rfl) (Nat.le_of_ble_eq_true rfl) rfl (Nat.le_of_ble_eq_true rfl) (Nat.le_of_ble_eq_true rfl) (Nat.le_of_ble_eq_true rfl) dX3_refusalOfStepBack_2 eu1 (c_X3_stayingRow l D aC bs sz ep2) rfl ?_
  refine x_aload_n dX3_refusalOfStepBack_5 0 rfl ?_
  obtain ⟨v3, ev3, h⟩ := x_bd h
  refine x_getI clX3 w_fl_RX3_34 (by decide) dX3_refusalOfStepBack_6 ev3 ?_
  refine x_iconst (v := (1 : Int32)) dX3_refusalOfStepBack_9 (by decide) ?_
  refine x_isub dX3_refusalOfStepBack_10 ?_
  obtain ⟨v4, ev4, h⟩ := x_bd h
  refine x_iald dX3_refusalOfStepBack_11 ev4 ?_
  refine x_istore_n 2 [(2, .int v4), (0, .ref a0), (1, .int a1)] dX3_refusalOfStepBack_12 rfl (by decide) rfl ?_
  refine x_aload_n dX3_refusalOfStepBack_13 1 rfl ?_
  refine x_aload_n dX3_refusalOfStepBack_14 1 rfl ?_
  refine x_iload_n dX3_refusalOfStepBack_15 2 rfl ?_
  obtain ⟨u5, eu5, h⟩ := x_bd h
  obtain ⟨p6, ep6, h⟩ := x_bd h
  refine x_callVA [.int a1] [.ref a0] clX3 me_X3_movingRow w_ml_RX3_54 w_im_yX3_movingRow w_se_yX3_movingRow (Nat.le_of_ble_eq_true rfl) (Nat.le_of_ble_eq_true rfl) rfl (Nat.le_of_ble_eq_true rfl) (Nat.le_of_ble_eq_true rfl) (Nat.le_of_ble_eq_true rfl) dX3_refusalOfStepBack_16 eu5 (c_X3_movingRow l D aC bs sz ep6) rfl ?_
  refine x_iload_n dX3_refusalOfStepBack_19 0 rfl ?_
  obtain ⟨u7, eu7, h⟩ := x_bd h
  obtain ⟨p8, ep8, h⟩ := x_bd h
  refine x_callVI [.ref p6, .int v4] [] clX3 me_X3_letterBehind w_ml_RX3_60 w_im_yX3_letterBehind w_se_yX3_letterBehind (Nat.le_of_ble_eq_true rfl) (Nat.le_of_ble_eq_true rfl) rfl (Nat.le_of_ble_eq_true rfl) (Nat.le_of_ble_eq_true rfl) (Nat.le_of_ble_eq_true rfl) dX3_refusalOfStepBack_20 eu7 (c_X3_letterBehind l D aC bs sz F ep8) rfl ?_
  refine x_istore_n 3 [(3, .int p8), (2, .int v4), (0, .ref a0), (1, .int a1)] dX3_refusalOfStepBack_23 rfl (by decide) rfl ?_
  refine x_iload_n dX3_refusalOfStepBack_24 0 rfl ?_
  refine x_iconst (v := (-1 : Int32)) dX3_refusalOfStepBack_25 (by decide) ?_
  refine x_icmp_ne 32 dX3_refusalOfStepBack_26 (by decide) (fun c9 => ?_) (fun c9 => ?_)
  · have h := (if_neg c9).symm.trans h
    refine x_aload_n dX3_refusalOfStepBack_32 2 rfl ?_
    obtain ⟨v10, ev10, h⟩ := x_bd h
    refine x_getR clX3 w_fl_RX3_18 (by decide) dX3_refusalOfStepBack_33 ev10 ?_
    refine x_iload_n dX3_refusalOfStepBack_36 1 rfl ?_
    obtain ⟨v11, ev11, h⟩ := x_bd h
    refine x_iald dX3_refusalOfStepBack_37 ev11 ?_
    refine x_aload_n dX3_refusalOfStepBack_38 2 rfl ?_
    obtain ⟨v12, ev12, h⟩ := x_bd h
    refine x_getR clX3 w_fl_RX3_18 (by decide) dX3_refusalOfStepBack_39 ev12 ?_
    refine x_iload_n dX3_refusalOfStepBack_42 0 rfl ?_
    obtain ⟨v13, ev13, h⟩ := x_bd h
    refine x_iald dX3_refusalOfStepBack_43 ev13 ?_
    refine x_iadd dX3_refusalOfStepBack_44 ?_
    refine x_bipush (v := (99 : Int32)) dX3_refusalOfStepBack_45 (by decide) ?_
    refine x_icmp_le 55 dX3_refusalOfStepBack_47 (by decide) (fun c14 => ?_) (fun c14 => ?_)
    · have h := (if_pos c14).symm.trans h
      refine x_iconst (v := (0 : Int32)) dX3_refusalOfStepBack_55 (by decide) ?_
      obtain rfl := Option.some.inj h
      exact x_iret dX3_refusalOfStepBack_56 (Nat.le_of_ble_eq_true rfl) (Nat.le_of_ble_eq_true rfl)
    have h := (if_neg c14).symm.trans h
    refine x_bipush (v := (-2 : Int32)) dX3_refusalOfStepBack_50 (by decide) ?_
    refine x_goto 56 dX3_refusalOfStepBack_52 (by decide) ?_
    obtain rfl := Option.some.inj h
    exact x_iret dX3_refusalOfStepBack_56 (Nat.le_of_ble_eq_true rfl) (Nat.le_of_ble_eq_true rfl)
  have h := (if_pos c9).symm.trans h
  refine x_bipush (v := (-3 : Int32)) dX3_refusalOfStepBack_29 (by decide) ?_
  obtain rfl := Option.some.inj h
  exact x_iret dX3_refusalOfStepBack_31 (Nat.le_of_ble_eq_true rfl) (Nat.le_of_ble_eq_true rfl)

-- SwappedIntervals$Rows.goStepBack(I)V
abbrev rm_X3_goStepBack : Room := { frames := 2, cells := 0, slots := 0, locals := 46 }
theorem me_X3_goStepBack : x_Me yX3_goStepBack cX3_goStepBack 6 none 1 := ⟨by decide +kernel, w_co_yX3_goStepBack, w_in_SwappedIntervals_Rows, by decide +kernel, by decide +kernel, by decide +kernel⟩
def b_X3_goStepBack_44 (F : Nat) (a0 : Nat) (a2 : Int32) (a3 : Nat) (a4 : Int32)  (k44 : (Int32 × XM) → Option (XM)) (q : Int32 × XM) : Option (XM) := (x_gI q.2 a0 3 0).bind fun v12 => if (v12 - (1 : Int32)) ≤ q.1 then (x_gI q.2 a0 3 0).bind fun v14 => (x_w32 .int q.2 a3 (v14 - (1 : Int32)) a4).bind fun m15 => (x_gR m15 a0 3 3).bind fun v16 => (x_a32 .int m15 v16 a2).bind fun v17 => (x_gR m15 a0 3 3).bind fun v18 => (x_a32 .int m15 v18 a4).bind fun v19 => (x_w32 .int m15 v16 a2 (v17 + v19)).bind fun m20 => some m20 else (x_a32 .int q.2 a3 (q.1 + (1 : Int32))).bind fun v21 => (x_w32 .int q.2 a3 q.1 v21).bind fun m22 => k44 ((q.1 + (1 : Int32)), m22)
set_option maxHeartbeats 4000000 in
set_option maxRecDepth 100000 in
theorem lp_X3_goStepBack_44 (l : Launch) (D : va_G) (aC : FieldType → ClassId) (bs : Nat) (sz : Nat) (F : Nat) (a0 : Nat) (a2 : Int32) (a3 : Nat) (a4 : Int32)   : ∀ (n : Nat) (b0 : Int32) (b1 : XM) (r : XM), x_it (b_X3_goStepBack_44 F a0 a2 a3 a4 ) n (b0, b1) = some r → x_V l D aC bs yX3_goStepBack cX3_goStepBack 6 none rm_X3_goStepBack (x_Z D aC bs none sz r rm_X3_goStepBack) 44 [(0, .ref a0), (2, .int a2), (3, .ref a3), (4, .int a4), (5, .int b0)] [] sz b1 0 0 := by
  suffices H : ∀ (n : Nat) (q : Int32 × XM) (r : XM), x_it (b_X3_goStepBack_44 F a0 a2 a3 a4 ) n q = some r → x_V l D aC bs yX3_goStepBack cX3_goStepBack 6 none rm_X3_goStepBack (x_Z D aC bs none sz r rm_X3_goStepBack) 44 [(0, .ref a0), (2, .int a2), (3, .ref a3), (4, .int a4), (5, .int q.1)] [] sz q.2 0 0 from fun n b0 b1 r h => H n (b0, b1) r h
  refine x_loop (P := fun (q : Int32 × XM) (r : XM) => x_V l D aC bs yX3_goStepBack cX3_goStepBack 6 none rm_X3_goStepBack (x_Z D aC bs none sz r rm_X3_goStepBack) 44 [(0, .ref a0), (2, .int a2), (3, .ref a3), (4, .int a4), (5, .int q.1)] [] sz q.2 0 0) (fun k44 hk0 q r h => ?_)
  have hk44 : ∀ (b0 : Int32) (b1 : XM) (r : XM), k44 (b0, b1) = some r → x_V l D aC bs yX3_goStepBack cX3_goStepBack 6 none rm_X3_goStepBack (x_Z D aC bs none sz r rm_X3_goStepBack) 44 [(0, .ref a0), (2, .int a2), (3, .ref a3), (4, .int a4), (5, .int b0)] [] sz b1 0 0 := fun b0 b1 r h => hk0 (b0, b1) r h
  unfold b_X3_goStepBack_44 at h
  refine x_iload dX3_goStepBack_44 4 rfl ?_
  refine x_aload_n dX3_goStepBack_46 0 rfl ?_
  obtain ⟨v12, ev12, h⟩ := x_bd h
  refine x_getI clX3 w_fl_RX3_34 (by decide) dX3_goStepBack_47 ev12 ?_
  refine x_iconst (v := (1 : Int32)) dX3_goStepBack_50 (by decide) ?_
  refine x_isub dX3_goStepBack_51 ?_
  refine x_icmp_ge 71 dX3_goStepBack_52 (by decide) (fun c13 => ?_) (fun c13 => ?_)
  · have h := (if_pos c13).symm.trans h
    refine x_aload_n dX3_goStepBack_71 2 rfl ?_
    refine x_aload_n dX3_goStepBack_72 0 rfl ?_
    obtain ⟨v14, ev14, h⟩ := x_bd h
    refine x_getI clX3 w_fl_RX3_34 (by decide) dX3_goStepBack_73 ev14 ?_
    refine x_iconst (v := (1 : Int32)) dX3_goStepBack_76 (by decide) ?_
    refine x_isub dX3_goStepBack_77 ?_
    refine x_iload dX3_goStepBack_78 3 rfl ?_
    obtain ⟨m15, em15, h⟩ := x_bd h
    refine x_iast dX3_goStepBack_80 em15 ?_
    refine x_aload_n dX3_goStepBack_81 0 rfl ?_
    obtain ⟨v16, ev16, h⟩ := x_bd h
    refine x_getR clX3 w_fl_RX3_18 (by decide) dX3_goStepBack_82 ev16 ?_
    refine x_iload_n dX3_goStepBack_85 1 rfl ?_
    refine x_dup2 dX3_goStepBack_86 rfl rfl ?_
    obtain ⟨v17, ev17, h⟩ := x_bd h
    refine x_iald dX3_goStepBack_87 ev17 ?_
    refine x_aload_n dX3_goStepBack_88 0 rfl ?_
    obtain ⟨v18, ev18, h⟩ := x_bd h
    refine x_getR clX3 w_fl_RX3_18 (by decide) dX3_goStepBack_89 ev18 ?_
    refine x_iload dX3_goStepBack_92 3 rfl ?_
    obtain ⟨v19, ev19, h⟩ := x_bd h
    refine x_iald dX3_goStepBack_94 ev19 ?_
    refine x_iadd dX3_goStepBack_95 ?_
    obtain ⟨m20, em20, h⟩ := x_bd h
    refine x_iast dX3_goStepBack_96 em20 ?_
    obtain rfl := Option.some.inj h
    exact x_vret dX3_goStepBack_97 (Nat.le_of_ble_eq_true rfl) (Nat.le_of_ble_eq_true rfl)
  have h := (if_neg c13).symm.trans h
  refine x_aload_n dX3_goStepBack_55 2 rfl ?_
  refine x_iload dX3_goStepBack_56 4 rfl ?_
  refine x_aload_n dX3_goStepBack_58 2 rfl ?_
  refine x_iload dX3_goStepBack_59 4 rfl ?_
  refine x_iconst (v := (1 : Int32)) dX3_goStepBack_61 (by decide) ?_
  refine x_iadd dX3_goStepBack_62 ?_
  obtain ⟨v21, ev21, h⟩ := x_bd h
  refine x_iald dX3_goStepBack_63 ev21 ?_
  obtain ⟨m22, em22, h⟩ := x_bd h
  refine x_iast dX3_goStepBack_64 em22 ?_
  refine x_iinc (1 : Int32) 4 [(5, .int (q.1 + (1 : Int32))), (0, .ref a0), (2, .int a2), (3, .ref a3), (4, .int a4)] dX3_goStepBack_65 rfl (by decide) (by decide) rfl ?_
  refine x_goto 44 dX3_goStepBack_68 (by decide) ?_
  exact x_sub [1, 2, 3, 4, 0] rfl (hk44 _ _ _ h)
def f_X3_goStepBack (F : Nat) (a0 : Nat) (a1 : Int32) (M : XM) : Option (XM) := (x_ob M a0 3).bind fun u1 => (f_X3_stayingRow a0 a1 M).bind fun p2 => (x_gI M a0 3 0).bind fun v3 => (x_a32 .int M p2 (v3 - (1 : Int32))).bind fun v4 => (x_ob M a0 3).bind fun u5 => (f_X3_movingRow a0 a1 M).bind fun p6 => (x_ob M a0 3).bind fun u7 => (f_X3_letterBehind F a0 p6 v4 M).bind fun p8 => if p8 = (-1 : Int32) then some M else (x_ob M a0 3).bind fun u10 => (f_X3_placeIn F a0 p6 v4 M).bind fun p11 => x_it (b_X3_goStepBack_44 F (a0) (v4) (p6) (p8)) F ((p11 + (1 : Int32)), M)
set_option maxHeartbeats 4000000 in
set_option maxRecDepth 100000 in
theorem c_X3_goStepBack (l : Launch) (D : va_G) (aC : FieldType → ClassId) (bs sz : Nat) (F : Nat) {a0 : Nat} {a1 : Int32} {M : XM} {r : XM} (h : f_X3_goStepBack F a0 a1 M = some r) : x_Cn l D aC bs yX3_goStepBack cX3_goStepBack 6 none rm_X3_goStepBack [.ref a0, .int a1] sz M none sz r := by
  unfold f_X3_goStepBack at h
  refine x_enter2 [(0, .ref a0), (1, .int a1)] me_X3_goStepBack (Nat.le_of_ble_eq_true rfl) rfl ?_
  refine x_aload_n dX3_goStepBack_0 0 rfl ?_
  refine x_iload_n dX3_goStepBack_1 1 rfl ?_
  obtain ⟨u1, eu1, h⟩ := x_bd h
  obtain ⟨p2, ep2, h⟩ := x_bd h
  refine x_callVA [.int a1] [] clX3 me_X3_stayingRow w_ml_RX3_50 w_im_yX3_stayingRow w_se_yX3_stayingRow (Nat.le_of_ble_eq_true rfl) (Nat.le_of_ble_eq_true rfl) rfl (Nat.le_of_ble_eq_true rfl) (Nat.le_of_ble_eq_true rfl) (Nat.le_of_ble_eq_true rfl) dX3_goStepBack_2 eu1 (c_X3_stayingRow l D aC bs sz ep2) rfl ?_
  refine x_aload_n dX3_goStepBack_5 0 rfl ?_
  obtain ⟨v3, ev3, h⟩ := x_bd h
  refine x_getI clX3 w_fl_RX3_34 (by decide) dX3_goStepBack_6 ev3 ?_
  refine x_iconst (v := (1 : Int32)) dX3_goStepBack_9 (by decide) ?_
  refine x_isub dX3_goStepBack_10 ?_
  obtain ⟨v4, ev4, h⟩ := x_bd h
  refine x_iald dX3_goStepBack_11 ev4 ?_
  refine x_istore_n 2 [(2, .int v4), (0, .ref a0), (1, .int a1)] dX3_goStepBack_12 rfl (by decide) rfl ?_
  refine x_aload_n dX3_goStepBack_13 1 rfl ?_
  refine x_iload_n dX3_goStepBack_14 2 rfl ?_
  obtain ⟨u5, eu5, h⟩ := x_bd h
  obtain ⟨p6, ep6, h⟩ := x_bd h
  refine x_callVA [.int a1] [] clX3 me_X3_movingRow w_ml_RX3_54 w_im_yX3_movingRow w_se_yX3_movingRow (Nat.le_of_ble_eq_true rfl) (Nat.le_of_ble_eq_true rfl) rfl (Nat.le_of_ble_eq_true rfl) (Nat.le_of_ble_eq_true rfl) (Nat.le_of_ble_eq_true rfl) dX3_goStepBack_15 eu5 (c_X3_movingRow l D aC bs sz ep6) rfl ?_
  refine x_astore_n 3 [(3, .ref p6), (2, .int v4), (0, .ref a0), (1, .int a1)] dX3_goStepBack_18 rfl (by decide) rfl ?_
  refine x_aload_n dX3_goStepBack_19 2 rfl ?_
  refine x_aload_n dX3_goStepBack_20 0 rfl ?_
  refine x_iload_n dX3_goStepBack_21 1 rfl ?_
  obtain ⟨u7, eu7, h⟩ := x_bd h
  obtain ⟨p8, ep8, h⟩ := x_bd h
  refine x_callVI [.ref p6, .int v4] [] clX3 me_X3_letterBehind w_ml_RX3_60 w_im_yX3_letterBehind w_se_yX3_letterBehind (Nat.le_of_ble_eq_true rfl) (Nat.le_of_ble_eq_true rfl) rfl (Nat.le_of_ble_eq_true rfl) (Nat.le_of_ble_eq_true rfl) (Nat.le_of_ble_eq_true rfl) dX3_goStepBack_22 eu7 (c_X3_letterBehind l D aC bs sz F ep8) rfl ?_
  refine x_istore [(4, .int p8), (3, .ref p6), (2, .int v4), (0, .ref a0), (1, .int a1)] dX3_goStepBack_25 (by decide) rfl ?_
  refine x_iload dX3_goStepBack_27 0 rfl ?_
  refine x_iconst (v := (-1 : Int32)) dX3_goStepBack_29 (by decide) ?_
  refine x_icmp_ne 34 dX3_goStepBack_30 (by decide) (fun c9 => ?_) (fun c9 => ?_)
  · have h := (if_neg c9).symm.trans h
    refine x_aload_n dX3_goStepBack_34 3 rfl ?_
    refine x_aload_n dX3_goStepBack_35 1 rfl ?_
    refine x_iload_n dX3_goStepBack_36 2 rfl ?_
    obtain ⟨u10, eu10, h⟩ := x_bd h
    obtain ⟨p11, ep11, h⟩ := x_bd h
    refine x_callVI [.ref p6, .int v4] [] clX3 me_X3_placeIn w_ml_RX3_42 w_im_yX3_placeIn w_se_yX3_placeIn (Nat.le_of_ble_eq_true rfl) (Nat.le_of_ble_eq_true rfl) rfl (Nat.le_of_ble_eq_true rfl) (Nat.le_of_ble_eq_true rfl) (Nat.le_of_ble_eq_true rfl) dX3_goStepBack_37 eu10 (c_X3_placeIn l D aC bs sz F ep11) rfl ?_
    refine x_iconst (v := (1 : Int32)) dX3_goStepBack_40 (by decide) ?_
    refine x_iadd dX3_goStepBack_41 ?_
    refine x_istore [(5, .int (p11 + (1 : Int32))), (4, .int p8), (3, .ref p6), (2, .int v4), (0, .ref a0), (1, .int a1)] dX3_goStepBack_42 (by decide) rfl ?_
    exact x_sub [4, 3, 2, 1, 0] rfl (lp_X3_goStepBack_44 l D aC bs sz F (a0) (v4) (p6) (p8)  F _ _ _ h)
  have h := (if_pos c9).symm.trans h
  obtain rfl := Option.some.inj h
  exact x_vret dX3_goStepBack_33 (Nat.le_of_ble_eq_true rfl) (Nat.le_of_ble_eq_true rfl)

-- SwappedIntervals$Rows.happen(II)V
abbrev rm_X3_happen : Room := { frames := 3, cells := 0, slots := 0, locals := 71 }
theorem me_X3_happen : x_Me yX3_happen cX3_happen 4 none 2 := ⟨by decide +kernel, w_co_yX3_happen, w_in_SwappedIntervals_Rows, by decide +kernel, by decide +kernel, by decide +kernel⟩
def f_X3_happen (F : Nat) (a0 : Nat) (a1 : Int32) (a2 : Int32) (M : XM) : Option (XM) := if a1 = 0 then (x_ob M a0 3).bind fun u15 => (f_X3_kindOfStep a0 M).bind fun p16 => if p16 = (-1 : Int32) then some M else (x_ob M a0 3).bind fun u18 => (f_X3_goStep F a0 p16 M).bind fun p19 => some p19 else if a1 = (1 : Int32) then (x_ob M a0 3).bind fun u8 => (f_X3_hasLetter a0 a2 M).bind fun p9 => if p9 = 0 then some M else (x_gR M a0 3 3).bind fun v11 => (x_gR M a0 3 3).bind fun v12 => (x_a32 .int M v12 a2).bind fun v13 => (x_w32 .int M v11 a2 (if (99 : Int32) < (v13 + (1 : Int32)) then (99 : Int32) else (v13 + (1 : Int32)))).bind fun m14 => some m14 else (x_ob M a0 3).bind fun u3 => (f_X3_refusalOfStepBack F a0 a2 M).bind fun p4 => if p4 = 0 then (x_ob M a0 3).bind fun u6 => (f_X3_goStepBack F a0 a2 M).bind fun p7 => some p7 else some M
set_option maxHeartbeats 4000000 in
set_option maxRecDepth 100000 in
theorem c_X3_happen (l : Launch) (D : va_G) (aC : FieldType → ClassId) (bs sz : Nat) (F : Nat) {a0 : Nat} {a1 : Int32} {a2 : Int32} {M : XM} {r : XM} (h : f_X3_happen F a0 a1 a2 M = some r) : x_Cn l D aC bs yX3_happen cX3_happen 4 none rm_X3_happen [.ref a0, .int a1, .int a2] sz M none sz r := by
  unfold f_X3_happen at h
  refine x_enter2 [(0, .ref a0), (1, .int a1), (2, .int a2)] me_X3_happen (Nat.le_of_ble_eq_true rfl) rfl ?_
  refine x_iload_n dX3_happen_0 1 rfl ?_
  refine x_if_ne 22 dX3_happen_1 (by decide) (fun c1 => ?_) (fun c1 => ?_)
  · have h := (if_neg c1).symm.trans h
    refine x_iload_n dX3_happen_22 1 rfl ?_
    refine x_iconst (v := (1 : Int32)) dX3_happen_23 (by decide) ?_
    refine x_icmp_ne 57 dX3_happen_24 (by decide) (fun c2 => ?_) (fun c2 => ?_)
    · have h := (if_neg c2).symm.trans h
      refine x_aload_n dX3_happen_57 0 rfl ?_
      refine x_iload_n dX3_happen_58 2 rfl ?_
      obtain ⟨u3, eu3, h⟩ := x_bd h
      obtain ⟨p4, ep4, h⟩ := x_bd h
      refine x_callVI [.int a2] [] clX3 me_X3_refusalOfStepBack w_ml_RX3_73 w_im_yX3_refusalOfStepBack w_se_yX3_refusalOfStepBack (Nat.le_of_ble_eq_true rfl) (Nat.le_of_ble_eq_true rfl) rfl (Nat.le_of_ble_eq_true rfl) (Nat.le_of_ble_eq_true rfl) (Nat.le_of_ble_eq_true rfl) dX3_happen_59 eu3 (c_X3_refusalOfStepBack l D aC bs sz F ep4) rfl ?_
      refine x_if_ne 70 dX3_happen_62 (by decide) (fun c5 => ?_) (fun c5 => ?_)
      · have h := (if_neg c5).symm.trans h
        obtain rfl := Option.some.inj h
        exact x_vret dX3_happen_70 (Nat.le_of_ble_eq_true rfl) (Nat.le_of_ble_eq_true rfl)
      have h := (if_pos c5).symm.trans h
      refine x_aload_n dX3_happen_65 0 rfl ?_
      refine x_iload_n dX3_happen_66 2 rfl ?_
      obtain ⟨u6, eu6, h⟩ := x_bd h
      obtain ⟨p7, ep7, h⟩ := x_bd h
      refine x_callVV [.int a2] [] clX3 me_X3_goStepBack w_ml_RX3_77 w_im_yX3_goStepBack w_se_yX3_goStepBack (Nat.le_of_ble_eq_true rfl) (Nat.le_of_ble_eq_true rfl) rfl (Nat.le_of_ble_eq_true rfl) (Nat.le_of_ble_eq_true rfl) (Nat.le_of_ble_eq_true rfl) dX3_happen_67 eu6 (c_X3_goStepBack l D aC bs sz F ep7) rfl ?_
      obtain rfl := Option.some.inj h
      exact x_vret dX3_happen_70 (Nat.le_of_ble_eq_true rfl) (Nat.le_of_ble_eq_true rfl)
    have h := (if_pos c2).symm.trans h
    refine x_aload_n dX3_happen_27 0 rfl ?_
    refine x_iload_n dX3_happen_28 2 rfl ?_
    obtain ⟨u8, eu8, h⟩ := x_bd h
    obtain ⟨p9, ep9, h⟩ := x_bd h
    refine x_callVI [.int a2] [] clX3 me_X3_hasLetter w_ml_RX3_69 w_im_yX3_hasLetter w_se_yX3_hasLetter (Nat.le_of_ble_eq_true rfl) (Nat.le_of_ble_eq_true rfl) rfl (Nat.le_of_ble_eq_true rfl) (Nat.le_of_ble_eq_true rfl) (Nat.le_of_ble_eq_true rfl) dX3_happen_29 eu8 (c_X3_hasLetter l D aC bs sz ep9) rfl ?_
    refine x_if_eq 70 dX3_happen_32 (by decide) (fun c10 => ?_) (fun c10 => ?_)
    · have h := (if_pos c10).symm.trans h
      obtain rfl := Option.some.inj h
      exact x_vret dX3_happen_70 (Nat.le_of_ble_eq_true rfl) (Nat.le_of_ble_eq_true rfl)
    have h := (if_neg c10).symm.trans h
    refine x_aload_n dX3_happen_35 0 rfl ?_
    obtain ⟨v11, ev11, h⟩ := x_bd h
    refine x_getR clX3 w_fl_RX3_18 (by decide) dX3_happen_36 ev11 ?_
    refine x_iload_n dX3_happen_39 2 rfl ?_
    refine x_aload_n dX3_happen_40 0 rfl ?_
    obtain ⟨v12, ev12, h⟩ := x_bd h
    refine x_getR clX3 w_fl_RX3_18 (by decide) dX3_happen_41 ev12 ?_
    refine x_iload_n dX3_happen_44 2 rfl ?_
    obtain ⟨v13, ev13, h⟩ := x_bd h
    refine x_iald dX3_happen_45 ev13 ?_
    refine x_iconst (v := (1 : Int32)) dX3_happen_46 (by decide) ?_
    refine x_iadd dX3_happen_47 ?_
    refine x_bipush (v := (99 : Int32)) dX3_happen_48 (by decide) ?_
    refine x_mmin w_ml_RX3_25 w_st_Lib_Math_min_name w_in_java_lang_Math w_co_Lib_Math_min_name (Nat.le_of_ble_eq_true rfl) (Nat.le_of_ble_eq_true rfl) (Nat.le_of_ble_eq_true rfl) (Nat.le_of_ble_eq_true rfl) dX3_happen_50 ?_
    obtain ⟨m14, em14, h⟩ := x_bd h
    refine x_iast dX3_happen_53 em14 ?_
    refine x_goto 70 dX3_happen_54 (by decide) ?_
    obtain rfl := Option.some.inj h
    exact x_vret dX3_happen_70 (Nat.le_of_ble_eq_true rfl) (Nat.le_of_ble_eq_true rfl)
  have h := (if_pos c1).symm.trans h
  refine x_aload_n dX3_happen_4 0 rfl ?_
  obtain ⟨u15, eu15, h⟩ := x_bd h
  obtain ⟨p16, ep16, h⟩ := x_bd h
  refine x_callVI [] [] clX3 me_X3_kindOfStep w_ml_RX3_63 w_im_yX3_kindOfStep w_se_yX3_kindOfStep (Nat.le_of_ble_eq_true rfl) (Nat.le_of_ble_eq_true rfl) rfl (Nat.le_of_ble_eq_true rfl) (Nat.le_of_ble_eq_true rfl) (Nat.le_of_ble_eq_true rfl) dX3_happen_5 eu15 (c_X3_kindOfStep l D aC bs sz ep16) rfl ?_
  refine x_istore_n 3 [(3, .int p16), (0, .ref a0), (1, .int a1), (2, .int a2)] dX3_happen_8 rfl (by decide) rfl ?_
  refine x_iload_n dX3_happen_9 0 rfl ?_
  refine x_iconst (v := (-1 : Int32)) dX3_happen_10 (by decide) ?_
  refine x_icmp_eq 19 dX3_happen_11 (by decide) (fun c17 => ?_) (fun c17 => ?_)
  · have h := (if_pos c17).symm.trans h
    refine x_goto 70 dX3_happen_19 (by decide) ?_
    obtain rfl := Option.some.inj h
    exact x_vret dX3_happen_70 (Nat.le_of_ble_eq_true rfl) (Nat.le_of_ble_eq_true rfl)
  have h := (if_neg c17).symm.trans h
  refine x_aload_n dX3_happen_14 1 rfl ?_
  refine x_iload_n dX3_happen_15 0 rfl ?_
  obtain ⟨u18, eu18, h⟩ := x_bd h
  obtain ⟨p19, ep19, h⟩ := x_bd h
  refine x_callVV [.int p16] [] clX3 me_X3_goStep w_ml_RX3_66 w_im_yX3_goStep w_se_yX3_goStep (Nat.le_of_ble_eq_true rfl) (Nat.le_of_ble_eq_true rfl) rfl (Nat.le_of_ble_eq_true rfl) (Nat.le_of_ble_eq_true rfl) (Nat.le_of_ble_eq_true rfl) dX3_happen_16 eu18 (c_X3_goStep l D aC bs sz F ep19) rfl ?_
  refine x_goto 70 dX3_happen_19 (by decide) ?_
  obtain rfl := Option.some.inj h
  exact x_vret dX3_happen_70 (Nat.le_of_ble_eq_true rfl) (Nat.le_of_ble_eq_true rfl)

-- SwappedIntervals$Rows.letterAt(I)I
abbrev rm_X3_letterAt : Room := { frames := 0, cells := 0, slots := 0, locals := 0 }
theorem me_X3_letterAt : x_Me yX3_letterAt cX3_letterAt 4 (some .int) 1 := ⟨by decide +kernel, w_co_yX3_letterAt, w_in_SwappedIntervals_Rows, by decide +kernel, by decide +kernel, by decide +kernel⟩
def b_X3_letterAt_4 (F : Nat) (a0 : Nat) (a1 : Int32) (M : XM)  (k4 : (Int32 × Int32) → Option (Int32)) (q : Int32 × Int32) : Option (Int32) := (x_gI M a0 3 0).bind fun v1 => if v1 ≤ q.2 then some (-1 : Int32) else (x_gR M a0 3 3).bind fun v3 => (x_gR M a0 3 1).bind fun v4 => (x_a32 .int M v4 q.2).bind fun v5 => (x_a32 .int M v3 v5).bind fun v6 => if (q.1 + v6) ≤ a1 then k4 ((q.1 + v6), (q.2 + (1 : Int32))) else (x_gR M a0 3 1).bind fun v8 => (x_a32 .int M v8 q.2).bind fun v9 => some v9
set_option maxHeartbeats 4000000 in
set_option maxRecDepth 100000 in
theorem lp_X3_letterAt_4 (l : Launch) (D : va_G) (aC : FieldType → ClassId) (bs : Nat) (sz : Nat) (F : Nat) (a0 : Nat) (a1 : Int32) (M : XM)   : ∀ (n : Nat) (b0 : Int32) (b1 : Int32) (r : Int32), x_it (b_X3_letterAt_4 F a0 a1 M ) n (b0, b1) = some r → x_V l D aC bs yX3_letterAt cX3_letterAt 4 (some .int) rm_X3_letterAt (x_Z D aC bs (some (.int r)) sz M rm_X3_letterAt) 4 [(0, .ref a0), (1, .int a1), (2, .int b0), (3, .int b1)] [] sz M 0 0 := by
  suffices H : ∀ (n : Nat) (q : Int32 × Int32) (r : Int32), x_it (b_X3_letterAt_4 F a0 a1 M ) n q = some r → x_V l D aC bs yX3_letterAt cX3_letterAt 4 (some .int) rm_X3_letterAt (x_Z D aC bs (some (.int r)) sz M rm_X3_letterAt) 4 [(0, .ref a0), (1, .int a1), (2, .int q.1), (3, .int q.2)] [] sz M 0 0 from fun n b0 b1 r h => H n (b0, b1) r h
  refine x_loop (P := fun (q : Int32 × Int32) (r : Int32) => x_V l D aC bs yX3_letterAt cX3_letterAt 4 (some .int) rm_X3_letterAt (x_Z D aC bs (some (.int r)) sz M rm_X3_letterAt) 4 [(0, .ref a0), (1, .int a1), (2, .int q.1), (3, .int q.2)] [] sz M 0 0) (fun k4 hk0 q r h => ?_)
  have hk4 : ∀ (b0 : Int32) (b1 : Int32) (r : Int32), k4 (b0, b1) = some r → x_V l D aC bs yX3_letterAt cX3_letterAt 4 (some .int) rm_X3_letterAt (x_Z D aC bs (some (.int r)) sz M rm_X3_letterAt) 4 [(0, .ref a0), (1, .int a1), (2, .int b0), (3, .int b1)] [] sz M 0 0 := fun b0 b1 r h => hk0 (b0, b1) r h
  unfold b_X3_letterAt_4 at h
  refine x_iload_n dX3_letterAt_4 3 rfl ?_
  refine x_aload_n dX3_letterAt_5 0 rfl ?_
  obtain ⟨v1, ev1, h⟩ := x_bd h
  refine x_getI clX3 w_fl_RX3_34 (by decide) dX3_letterAt_6 ev1 ?_
  refine x_icmp_ge 44 dX3_letterAt_9 (by decide) (fun c2 => ?_) (fun c2 => ?_)
  · have h := (if_pos c2).symm.trans h
    refine x_iconst (v := (-1 : Int32)) dX3_letterAt_44 (by decide) ?_
    obtain rfl := Option.some.inj h
    exact x_iret dX3_letterAt_45 (Nat.le_of_ble_eq_true rfl) (Nat.le_of_ble_eq_true rfl)
  have h := (if_neg c2).symm.trans h
  refine x_iload_n dX3_letterAt_12 2 rfl ?_
  refine x_aload_n dX3_letterAt_13 0 rfl ?_
  obtain ⟨v3, ev3, h⟩ := x_bd h
  refine x_getR clX3 w_fl_RX3_18 (by decide) dX3_letterAt_14 ev3 ?_
  refine x_aload_n dX3_letterAt_17 0 rfl ?_
  obtain ⟨v4, ev4, h⟩ := x_bd h
  refine x_getR clX3 w_fl_RX3_9 (by decide) dX3_letterAt_18 ev4 ?_
  refine x_iload_n dX3_letterAt_21 3 rfl ?_
  obtain ⟨v5, ev5, h⟩ := x_bd h
  refine x_iald dX3_letterAt_22 ev5 ?_
  obtain ⟨v6, ev6, h⟩ := x_bd h
  refine x_iald dX3_letterAt_23 ev6 ?_
  refine x_iadd dX3_letterAt_24 ?_
  refine x_istore_n 2 [(2, .int (q.1 + v6)), (0, .ref a0), (1, .int a1), (3, .int q.2)] dX3_letterAt_25 rfl (by decide) rfl ?_
  refine x_iload_n dX3_letterAt_26 2 rfl ?_
  refine x_iload_n dX3_letterAt_27 0 rfl ?_
  refine x_icmp_ge 38 dX3_letterAt_28 (by decide) (fun c7 => ?_) (fun c7 => ?_)
  · have h := (if_pos c7).symm.trans h
    refine x_iinc (1 : Int32) 3 [(3, .int (q.2 + (1 : Int32))), (2, .int (q.1 + v6)), (0, .ref a0), (1, .int a1)] dX3_letterAt_38 rfl (by decide) (by decide) rfl ?_
    refine x_goto 4 dX3_letterAt_41 (by decide) ?_
    exact x_sub [2, 3, 1, 0] rfl (hk4 _ _ _ h)
  have h := (if_neg c7).symm.trans h
  refine x_aload_n dX3_letterAt_31 1 rfl ?_
  obtain ⟨v8, ev8, h⟩ := x_bd h
  refine x_getR clX3 w_fl_RX3_9 (by decide) dX3_letterAt_32 ev8 ?_
  refine x_iload_n dX3_letterAt_35 3 rfl ?_
  obtain ⟨v9, ev9, h⟩ := x_bd h
  refine x_iald dX3_letterAt_36 ev9 ?_
  obtain rfl := Option.some.inj h
  exact x_iret dX3_letterAt_37 (Nat.le_of_ble_eq_true rfl) (Nat.le_of_ble_eq_true rfl)
def f_X3_letterAt (F : Nat) (a0 : Nat) (a1 : Int32) (M : XM) : Option (Int32) := x_it (b_X3_letterAt_4 F (a0) (a1) M) F ((0 : Int32), (0 : Int32))
set_option maxHeartbeats 4000000 in
set_option maxRecDepth 100000 in
theorem c_X3_letterAt (l : Launch) (D : va_G) (aC : FieldType → ClassId) (bs sz : Nat) (F : Nat) {a0 : Nat} {a1 : Int32} {M : XM} {r : Int32} (h : f_X3_letterAt F a0 a1 M = some r) : x_Cn l D aC bs yX3_letterAt cX3_letterAt 4 (some .int) rm_X3_letterAt [.ref a0, .int a1] sz M (some (.int r)) sz M := by
  unfold f_X3_letterAt at h
  refine x_enter2 [(0, .ref a0), (1, .int a1)] me_X3_letterAt (Nat.le_of_ble_eq_true rfl) rfl ?_
  refine x_iconst (v := (0 : Int32)) dX3_letterAt_0 (by decide) ?_
  refine x_istore_n 2 [(2, .int (0 : Int32)), (0, .ref a0), (1, .int a1)] dX3_letterAt_1 rfl (by decide) rfl ?_
  refine x_iconst (v := (0 : Int32)) dX3_letterAt_2 (by decide) ?_
  refine x_istore_n 3 [(3, .int (0 : Int32)), (2, .int (0 : Int32)), (0, .ref a0), (1, .int a1)] dX3_letterAt_3 rfl (by decide) rfl ?_
  exact x_sub [2, 3, 1, 0] rfl (lp_X3_letterAt_4 l D aC bs sz F (a0) (a1) M  F _ _ _ h)

-- SwappedIntervals$Rows.goesTo(I)I
abbrev rm_X3_goesTo : Room := { frames := 1, cells := 0, slots := 0, locals := 24 }
theorem me_X3_goesTo : x_Me yX3_goesTo cX3_goesTo 3 (some .int) 1 := ⟨by decide +kernel, w_co_yX3_goesTo, w_in_SwappedIntervals_Rows, by decide +kernel, by decide +kernel, by decide +kernel⟩
def f_X3_goesTo (F : Nat) (a0 : Nat) (a1 : Int32) (M : XM) : Option (Int32) := (x_ob M a0 3).bind fun u1 => (f_X3_letterAt F a0 a1 M).bind fun p2 => (x_gR M a0 3 1).bind fun v3 => (x_ob M a0 3).bind fun u4 => (f_X3_startIn F a0 v3 p2 M).bind fun p5 => (x_gR M a0 3 2).bind fun v6 => (x_ob M a0 3).bind fun u7 => (f_X3_startIn F a0 v6 p2 M).bind fun p8 => some ((a1 - p5) + p8)
set_option maxHeartbeats 4000000 in
set_option maxRecDepth 100000 in
theorem c_X3_goesTo (l : Launch) (D : va_G) (aC : FieldType → ClassId) (bs sz : Nat) (F : Nat) {a0 : Nat} {a1 : Int32} {M : XM} {r : Int32} (h : f_X3_goesTo F a0 a1 M = some r) : x_Cn l D aC bs yX3_goesTo cX3_goesTo 3 (some .int) rm_X3_goesTo [.ref a0, .int a1] sz M (some (.int r)) sz M := by
  unfold f_X3_goesTo at h
  refine x_enter2 [(0, .ref a0), (1, .int a1)] me_X3_goesTo (Nat.le_of_ble_eq_true rfl) rfl ?_
  refine x_aload_n dX3_goesTo_0 0 rfl ?_
  refine x_iload_n dX3_goesTo_1 1 rfl ?_
  obtain ⟨u1, eu1, h⟩ := x_bd h
  obtain ⟨p2, ep2, h⟩ := x_bd h
  refine x_callVI [.int a1] [] clX3 me_X3_letterAt w_ml_RX3_80 w_im_yX3_letterAt w_se_yX3_letterAt (Nat.le_of_ble_eq_true rfl) (Nat.le_of_ble_eq_true rfl) rfl (Nat.le_of_ble_eq_true rfl) (Nat.le_of_ble_eq_true rfl) (Nat.le_of_ble_eq_true rfl) dX3_goesTo_2 eu1 (c_X3_letterAt l D aC bs sz F ep2) rfl ?_
  refine x_istore_n 2 [(2, .int p2), (0, .ref a0), (1, .int a1)] dX3_goesTo_5 rfl (by decide) rfl ?_
  refine x_iload_n dX3_goesTo_6 2 rfl ?_
  refine x_aload_n dX3_goesTo_7 1 rfl ?_
  refine x_aload_n dX3_goesTo_8 1 rfl ?_
  obtain ⟨v3, ev3, h⟩ := x_bd h
  refine x_getR clX3 w_fl_RX3_9 (by decide) dX3_goesTo_9 ev3 ?_
  refine x_iload_n dX3_goesTo_12 0 rfl ?_
  obtain ⟨u4, eu4, h⟩ := x_bd h
  obtain ⟨p5, ep5, h⟩ := x_bd h
  refine x_callVI [.ref v3, .int p2] [.int a1] clX3 me_X3_startIn w_ml_RX3_83 w_im_yX3_startIn w_se_yX3_startIn (Nat.le_of_ble_eq_true rfl) (Nat.le_of_ble_eq_true rfl) rfl (Nat.le_of_ble_eq_true rfl) (Nat.le_of_ble_eq_true rfl) (Nat.le_of_ble_eq_true rfl) dX3_goesTo_13 eu4 (c_X3_startIn l D aC bs sz F ep5) rfl ?_
  refine x_isub dX3_goesTo_16 ?_
  refine x_aload_n dX3_goesTo_17 1 rfl ?_
  refine x_aload_n dX3_goesTo_18 1 rfl ?_
  obtain ⟨v6, ev6, h⟩ := x_bd h
  refine x_getR clX3 w_fl_RX3_15 (by decide) dX3_goesTo_19 ev6 ?_
  refine x_iload_n dX3_goesTo_22 0 rfl ?_
  obtain ⟨u7, eu7, h⟩ := x_bd h
  obtain ⟨p8, ep8, h⟩ := x_bd h
  refine x_callVI [.ref v6, .int p2] [.int (a1 - p5)] clX3 me_X3_startIn w_ml_RX3_83 w_im_yX3_startIn w_se_yX3_startIn (Nat.le_of_ble_eq_true rfl) (Nat.le_of_ble_eq_true rfl) rfl (Nat.le_of_ble_eq_true rfl) (Nat.le_of_ble_eq_true rfl) (Nat.le_of_ble_eq_true rfl) dX3_goesTo_23 eu7 (c_X3_startIn l D aC bs sz F ep8) rfl ?_
  refine x_iadd dX3_goesTo_26 ?_
  obtain rfl := Option.some.inj h
  exact x_iret dX3_goesTo_27 (Nat.le_of_ble_eq_true rfl) (Nat.le_of_ble_eq_true rfl)

-- SwappedIntervals$Rows.meetingBehind(I)I
abbrev rm_X3_meetingBehind : Room := { frames := 2, cells := 0, slots := 0, locals := 46 }
theorem me_X3_meetingBehind : x_Me yX3_meetingBehind cX3_meetingBehind 3 (some .int) 1 := ⟨by decide +kernel, w_co_yX3_meetingBehind, w_in_SwappedIntervals_Rows, by decide +kernel, by decide +kernel, by decide +kernel⟩
def j_X3_meetingBehind_29 (F : Nat) (a0 : Nat) (s0 : Int32) (M : XM)  : Option (Int32) := if s0 = (-1 : Int32) then (x_gI M a0 3 0).bind fun v11 => some v11 else (x_gR M a0 3 1).bind fun v8 => (x_ob M a0 3).bind fun u9 => (f_X3_placeIn F a0 v8 s0 M).bind fun p10 => some p10
set_option maxHeartbeats 4000000 in
set_option maxRecDepth 100000 in
theorem jp_X3_meetingBehind_29 (l : Launch) (D : va_G) (aC : FieldType → ClassId) (bs : Nat) (sz : Nat) (F : Nat) (a0 : Nat) (s0 : Int32) (M : XM)   {r : Int32} (h : j_X3_meetingBehind_29 F a0 s0 M  = some r) : x_V l D aC bs yX3_meetingBehind cX3_meetingBehind 3 (some .int) rm_X3_meetingBehind (x_Z D aC bs (some (.int r)) sz M rm_X3_meetingBehind) 29 [(0, .ref a0)] [.int s0] sz M 0 0 := by
  unfold j_X3_meetingBehind_29 at h
  refine x_istore_n 2 [(2, .int s0), (0, .ref a0)] dX3_meetingBehind_29 rfl (by decide) rfl ?_
  refine x_iload_n dX3_meetingBehind_30 0 rfl ?_
  refine x_iconst (v := (-1 : Int32)) dX3_meetingBehind_31 (by decide) ?_
  refine x_icmp_ne 42 dX3_meetingBehind_32 (by decide) (fun c7 => ?_) (fun c7 => ?_)
  · have h := (if_neg c7).symm.trans h
    refine x_aload_n dX3_meetingBehind_42 1 rfl ?_
    refine x_aload_n dX3_meetingBehind_43 1 rfl ?_
    obtain ⟨v8, ev8, h⟩ := x_bd h
    refine x_getR clX3 w_fl_RX3_9 (by decide) dX3_meetingBehind_44 ev8 ?_
    refine x_iload_n dX3_meetingBehind_47 0 rfl ?_
    obtain ⟨u9, eu9, h⟩ := x_bd h
    obtain ⟨p10, ep10, h⟩ := x_bd h
    refine x_callVI [.ref v8, .int s0] [] clX3 me_X3_placeIn w_ml_RX3_42 w_im_yX3_placeIn w_se_yX3_placeIn (Nat.le_of_ble_eq_true rfl) (Nat.le_of_ble_eq_true rfl) rfl (Nat.le_of_ble_eq_true rfl) (Nat.le_of_ble_eq_true rfl) (Nat.le_of_ble_eq_true rfl) dX3_meetingBehind_48 eu9 (c_X3_placeIn l D aC bs sz F ep10) rfl ?_
    obtain rfl := Option.some.inj h
    exact x_iret dX3_meetingBehind_51 (Nat.le_of_ble_eq_true rfl) (Nat.le_of_ble_eq_true rfl)
  have h := (if_pos c7).symm.trans h
  refine x_aload_n dX3_meetingBehind_35 1 rfl ?_
  obtain ⟨v11, ev11, h⟩ := x_bd h
  refine x_getI clX3 w_fl_RX3_34 (by decide) dX3_meetingBehind_36 ev11 ?_
  refine x_goto 51 dX3_meetingBehind_39 (by decide) ?_
  obtain rfl := Option.some.inj h
  exact x_iret dX3_meetingBehind_51 (Nat.le_of_ble_eq_true rfl) (Nat.le_of_ble_eq_true rfl)
def f_X3_meetingBehind (F : Nat) (a0 : Nat) (a1 : Int32) (M : XM) : Option (Int32) := if a1 = 0 then (x_gR M a0 3 2).bind fun v12 => (x_a32 .int M v12 (0 : Int32)).bind fun v13 => j_X3_meetingBehind_29 F (a0) (v13) M else (x_gR M a0 3 2).bind fun v2 => (x_gR M a0 3 1).bind fun v3 => (x_a32 .int M v3 (a1 - (1 : Int32))).bind fun v4 => (x_ob M a0 3).bind fun u5 => (f_X3_letterBehind F a0 v2 v4 M).bind fun p6 => j_X3_meetingBehind_29 F (a0) (p6) M
set_option maxHeartbeats 4000000 in
set_option maxRecDepth 100000 in
theorem c_X3_meetingBehind (l : Launch) (D : va_G) (aC : FieldType → ClassId) (bs sz : Nat) (F : Nat) {a0 : Nat} {a1 : Int32} {M : XM} {r : Int32} (h : f_X3_meetingBehind F a0 a1 M = some r) : x_Cn l D aC bs yX3_meetingBehind cX3_meetingBehind 3 (some .int) rm_X3_meetingBehind [.ref a0, .int a1] sz M (some (.int r)) sz M := by
  unfold f_X3_meetingBehind at h
  refine x_enter2 [(0, .ref a0), (1, .int a1)] me_X3_meetingBehind (Nat.le_of_ble_eq_true rfl) rfl ?_
  refine x_iload_n dX3_meetingBehind_0 1 rfl ?_
  refine x_if_ne 13 dX3_meetingBehind_1 (by decide) (fun c1 => ?_) (fun c1 => ?_)
  · have h := (if_neg c1).symm.trans h
    refine x_aload_n dX3_meetingBehind_13 0 rfl ?_
    refine x_aload_n dX3_meetingBehind_14 0 rfl ?_
    obtain ⟨v2, ev2, h⟩ := x_bd h
    refine x_getR clX3 w_fl_RX3_15 (by decide) dX3_meetingBehind_15 ev2 ?_
    refine x_aload_n dX3_meetingBehind_18 0 rfl ?_
    obtain ⟨v3, ev3, h⟩ := x_bd h
    refine x_getR clX3 w_fl_RX3_9 (by decide) dX3_meetingBehind_19 ev3 ?_
    refine x_iload_n dX3_meetingBehind_22 1 rfl ?_
    refine x_iconst (v := (1 : Int32)) dX3_meetingBehind_23 (by decide) ?_
    refine x_isub dX3_meetingBehind_24 ?_
    obtain ⟨v4, ev4, h⟩ := x_bd h
    refine x_iald dX3_meetingBehind_25 ev4 ?_
    obtain ⟨u5, eu5, h⟩ := x_bd h
    obtain ⟨p6, ep6, h⟩ := x_bd h
    refine x_callVI [.ref v2, .int v4] [] clX3 me_X3_letterBehind w_ml_RX3_60 w_im_yX3_letterBehind w_se_yX3_letterBehind (Nat.le_of_ble_eq_true rfl) (Nat.le_of_ble_eq_true rfl) rfl (Nat.le_of_ble_eq_true rfl) (Nat.le_of_ble_eq_true rfl) (Nat.le_of_ble_eq_true rfl) dX3_meetingBehind_26 eu5 (c_X3_letterBehind l D aC bs sz F ep6) rfl ?_
    exact x_sub [0] rfl (jp_X3_meetingBehind_29 l D aC bs sz F (a0) (p6) M  h)
  have h := (if_pos c1).symm.trans h
  refine x_aload_n dX3_meetingBehind_4 0 rfl ?_
  obtain ⟨v12, ev12, h⟩ := x_bd h
  refine x_getR clX3 w_fl_RX3_15 (by decide) dX3_meetingBehind_5 ev12 ?_
  refine x_iconst (v := (0 : Int32)) dX3_meetingBehind_8 (by decide) ?_
  obtain ⟨v13, ev13, h⟩ := x_bd h
  refine x_iald dX3_meetingBehind_9 ev13 ?_
  refine x_goto 29 dX3_meetingBehind_10 (by decide) ?_
  exact x_sub [0] rfl (jp_X3_meetingBehind_29 l D aC bs sz F (a0) (v13) M  h)

-- SwappedIntervals$Rows.corners()I
abbrev rm_X3_corners : Room := { frames := 3, cells := 0, slots := 0, locals := 68 }
theorem me_X3_corners : x_Me yX3_corners cX3_corners 6 (some .int) 0 := ⟨by decide +kernel, w_co_yX3_corners, w_in_SwappedIntervals_Rows, by decide +kernel, by decide +kernel, by decide +kernel⟩
def b_X3_corners_31 (F : Nat) (a0 : Nat) (a2 : Int32) (a3 : Int32) (M : XM) (k6 : (Int32 × Int32 × Int32) → Option (Int32)) (k31 : (Int32 × Int32 × Int32) → Option (Int32)) (q : Int32 × Int32 × Int32) : Option (Int32) := (x_gI M a0 3 0).bind fun v4 => if v4 < q.2.2 then k6 (q.1, a2, (a3 + (1 : Int32))) else (x_ob M a0 3).bind fun u6 => (f_X3_meetingBehind F a0 q.2.1 M).bind fun p7 => k31 ((q.1 ||| ((1 : Int32) <<< (q.2.1 &&& 31))), p7, (q.2.2 + (1 : Int32)))
set_option maxHeartbeats 4000000 in
set_option maxRecDepth 100000 in
theorem lp_X3_corners_31 (l : Launch) (D : va_G) (aC : FieldType → ClassId) (bs : Nat) (sz : Nat) (F : Nat) (a0 : Nat) (a2 : Int32) (a3 : Int32) (M : XM) (k6 : (Int32 × Int32 × Int32) → Option (Int32)) (hk6 : ∀ (b0 : Int32) (b1 : Int32) (b2 : Int32) (r : Int32), k6 (b0, b1, b2) = some r → x_V l D aC bs yX3_corners cX3_corners 6 (some .int) rm_X3_corners (x_Z D aC bs (some (.int r)) sz M rm_X3_corners) 6 [(0, .ref a0), (1, .int b0), (2, .int b1), (3, .int b2)] [] sz M 0 0) : ∀ (n : Nat) (b0 : Int32) (b1 : Int32) (b2 : Int32) (r : Int32), x_it (b_X3_corners_31 F a0 a2 a3 M k6) n (b0, b1, b2) = some r → x_V l D aC bs yX3_corners cX3_corners 6 (some .int) rm_X3_corners (x_Z D aC bs (some (.int r)) sz M rm_X3_corners) 31 [(0, .ref a0), (1, .int b0), (2, .int a2), (3, .int a3), (4, .int b1), (5, .int b2)] [] sz M 0 0 := by
  suffices H : ∀ (n : Nat) (q : Int32 × Int32 × Int32) (r : Int32), x_it (b_X3_corners_31 F a0 a2 a3 M k6) n q = some r → x_V l D aC bs yX3_corners cX3_corners 6 (some .int) rm_X3_corners (x_Z D aC bs (some (.int r)) sz M rm_X3_corners) 31 [(0, .ref a0), (1, .int q.1), (2, .int a2), (3, .int a3), (4, .int q.2.1), (5, .int q.2.2)] [] sz M 0 0 from fun n b0 b1 b2 r h => H n (b0, b1, b2) r h
  refine x_loop (P := fun (q : Int32 × Int32 × Int32) (r : Int32) => x_V l D aC bs yX3_corners cX3_corners 6 (some .int) rm_X3_corners (x_Z D aC bs (some (.int r)) sz M rm_X3_corners) 31 [(0, .ref a0), (1, .int q.1), (2, .int a2), (3, .int a3), (4, .int q.2.1), (5, .int q.2.2)] [] sz M 0 0) (fun k31 hk0 q r h => ?_)
  have hk31 : ∀ (b0 : Int32) (b1 : Int32) (b2 : Int32) (r : Int32), k31 (b0, b1, b2) = some r → x_V l D aC bs yX3_corners cX3_corners 6 (some .int) rm_X3_corners (x_Z D aC bs (some (.int r)) sz M rm_X3_corners) 31 [(0, .ref a0), (1, .int b0), (2, .int a2), (3, .int a3), (4, .int b1), (5, .int b2)] [] sz M 0 0 := fun b0 b1 b2 r h => hk0 (b0, b1, b2) r h
  unfold b_X3_corners_31 at h
  refine x_iload dX3_corners_31 5 rfl ?_
  refine x_aload_n dX3_corners_33 0 rfl ?_
  obtain ⟨v4, ev4, h⟩ := x_bd h
  refine x_getI clX3 w_fl_RX3_34 (by decide) dX3_corners_34 ev4 ?_
  refine x_icmp_gt 61 dX3_corners_37 (by decide) (fun c5 => ?_) (fun c5 => ?_)
  · have h := (if_pos c5).symm.trans h
    refine x_iinc (1 : Int32) 3 [(3, .int (a3 + (1 : Int32))), (0, .ref a0), (1, .int q.1), (2, .int a2), (4, .int q.2.1), (5, .int q.2.2)] dX3_corners_61 rfl (by decide) (by decide) rfl ?_
    refine x_goto 6 dX3_corners_64 (by decide) ?_
    exact x_sub [1, 2, 3, 0] rfl (hk6 _ _ _ _ h)
  have h := (if_neg c5).symm.trans h
  refine x_iload_n dX3_corners_40 1 rfl ?_
  refine x_iconst (v := (1 : Int32)) dX3_corners_41 (by decide) ?_
  refine x_iload dX3_corners_42 4 rfl ?_
  refine x_ishl dX3_corners_44 ?_
  refine x_ior dX3_corners_45 ?_
  refine x_istore_n 1 [(1, .int (q.1 ||| ((1 : Int32) <<< (q.2.1 &&& 31)))), (0, .ref a0), (2, .int a2), (3, .int a3), (4, .int q.2.1), (5, .int q.2.2)] dX3_corners_46 rfl (by decide) rfl ?_
  refine x_aload_n dX3_corners_47 1 rfl ?_
  refine x_iload dX3_corners_48 4 rfl ?_
  obtain ⟨u6, eu6, h⟩ := x_bd h
  obtain ⟨p7, ep7, h⟩ := x_bd h
  refine x_callVI [.int q.2.1] [] clX3 me_X3_meetingBehind w_ml_RX3_86 w_im_yX3_meetingBehind w_se_yX3_meetingBehind (Nat.le_of_ble_eq_true rfl) (Nat.le_of_ble_eq_true rfl) rfl (Nat.le_of_ble_eq_true rfl) (Nat.le_of_ble_eq_true rfl) (Nat.le_of_ble_eq_true rfl) dX3_corners_50 eu6 (c_X3_meetingBehind l D aC bs sz F ep7) rfl ?_
  refine x_istore [(4, .int p7), (1, .int (q.1 ||| ((1 : Int32) <<< (q.2.1 &&& 31)))), (0, .ref a0), (2, .int a2), (3, .int a3), (5, .int q.2.2)] dX3_corners_53 (by decide) rfl ?_
  refine x_iinc (1 : Int32) 5 [(5, .int (q.2.2 + (1 : Int32))), (4, .int p7), (1, .int (q.1 ||| ((1 : Int32) <<< (q.2.1 &&& 31)))), (0, .ref a0), (2, .int a2), (3, .int a3)] dX3_corners_55 rfl (by decide) (by decide) rfl ?_
  refine x_goto 31 dX3_corners_58 (by decide) ?_
  exact x_sub [3, 2, 4, 5, 1, 0] rfl (hk31 _ _ _ _ h)
def b_X3_corners_6 (F : Nat) (a0 : Nat) (M : XM)  (k6 : (Int32 × Int32 × Int32) → Option (Int32)) (q : Int32 × Int32 × Int32) : Option (Int32) := (x_gI M a0 3 0).bind fun v1 => if v1 < q.2.2 then some q.2.1 else if ((q.1 >>> (q.2.2 &&& 31)) &&& (1 : Int32)) = 0 then x_it (b_X3_corners_31 F (a0) (q.2.1 + (1 : Int32)) (q.2.2) M k6) F (q.1, q.2.2, (0 : Int32)) else k6 (q.1, q.2.1, (q.2.2 + (1 : Int32)))
set_option maxHeartbeats 4000000 in
set_option maxRecDepth 100000 in
theorem lp_X3_corners_6 (l : Launch) (D : va_G) (aC : FieldType → ClassId) (bs : Nat) (sz : Nat) (F : Nat) (a0 : Nat) (M : XM)   : ∀ (n : Nat) (b0 : Int32) (b1 : Int32) (b2 : Int32) (r : Int32), x_it (b_X3_corners_6 F a0 M ) n (b0, b1, b2) = some r → x_V l D aC bs yX3_corners cX3_corners 6 (some .int) rm_X3_corners (x_Z D aC bs (some (.int r)) sz M rm_X3_corners) 6 [(0, .ref a0), (1, .int b0), (2, .int b1), (3, .int b2)] [] sz M 0 0 := by
  suffices H : ∀ (n : Nat) (q : Int32 × Int32 × Int32) (r : Int32), x_it (b_X3_corners_6 F a0 M ) n q = some r → x_V l D aC bs yX3_corners cX3_corners 6 (some .int) rm_X3_corners (x_Z D aC bs (some (.int r)) sz M rm_X3_corners) 6 [(0, .ref a0), (1, .int q.1), (2, .int q.2.1), (3, .int q.2.2)] [] sz M 0 0 from fun n b0 b1 b2 r h => H n (b0, b1, b2) r h
  refine x_loop (P := fun (q : Int32 × Int32 × Int32) (r : Int32) => x_V l D aC bs yX3_corners cX3_corners 6 (some .int) rm_X3_corners (x_Z D aC bs (some (.int r)) sz M rm_X3_corners) 6 [(0, .ref a0), (1, .int q.1), (2, .int q.2.1), (3, .int q.2.2)] [] sz M 0 0) (fun k6 hk0 q r h => ?_)
  have hk6 : ∀ (b0 : Int32) (b1 : Int32) (b2 : Int32) (r : Int32), k6 (b0, b1, b2) = some r → x_V l D aC bs yX3_corners cX3_corners 6 (some .int) rm_X3_corners (x_Z D aC bs (some (.int r)) sz M rm_X3_corners) 6 [(0, .ref a0), (1, .int b0), (2, .int b1), (3, .int b2)] [] sz M 0 0 := fun b0 b1 b2 r h => hk0 (b0, b1, b2) r h
  unfold b_X3_corners_6 at h
  refine x_iload_n dX3_corners_6 3 rfl ?_
  refine x_aload_n dX3_corners_7 0 rfl ?_
  obtain ⟨v1, ev1, h⟩ := x_bd h
  refine x_getI clX3 w_fl_RX3_34 (by decide) dX3_corners_8 ev1 ?_
  refine x_icmp_gt 67 dX3_corners_11 (by decide) (fun c2 => ?_) (fun c2 => ?_)
  · have h := (if_pos c2).symm.trans h
    refine x_iload_n dX3_corners_67 2 rfl ?_
    obtain rfl := Option.some.inj h
    exact x_iret dX3_corners_68 (Nat.le_of_ble_eq_true rfl) (Nat.le_of_ble_eq_true rfl)
  have h := (if_neg c2).symm.trans h
  refine x_iload_n dX3_corners_14 1 rfl ?_
  refine x_iload_n dX3_corners_15 3 rfl ?_
  refine x_ishr dX3_corners_16 ?_
  refine x_iconst (v := (1 : Int32)) dX3_corners_17 (by decide) ?_
  refine x_iand dX3_corners_18 ?_
  refine x_if_ne 61 dX3_corners_19 (by decide) (fun c3 => ?_) (fun c3 => ?_)
  · have h := (if_neg c3).symm.trans h
    refine x_iinc (1 : Int32) 3 [(3, .int (q.2.2 + (1 : Int32))), (0, .ref a0), (1, .int q.1), (2, .int q.2.1)] dX3_corners_61 rfl (by decide) (by decide) rfl ?_
    refine x_goto 6 dX3_corners_64 (by decide) ?_
    exact x_sub [1, 2, 3, 0] rfl (hk6 _ _ _ _ h)
  have h := (if_pos c3).symm.trans h
  refine x_iinc (1 : Int32) 2 [(2, .int (q.2.1 + (1 : Int32))), (0, .ref a0), (1, .int q.1), (3, .int q.2.2)] dX3_corners_22 rfl (by decide) (by decide) rfl ?_
  refine x_iload_n dX3_corners_25 3 rfl ?_
  refine x_istore [(4, .int q.2.2), (2, .int (q.2.1 + (1 : Int32))), (0, .ref a0), (1, .int q.1), (3, .int q.2.2)] dX3_corners_26 (by decide) rfl ?_
  refine x_iconst (v := (0 : Int32)) dX3_corners_28 (by decide) ?_
  refine x_istore [(5, .int (0 : Int32)), (4, .int q.2.2), (2, .int (q.2.1 + (1 : Int32))), (0, .ref a0), (1, .int q.1), (3, .int q.2.2)] dX3_corners_29 (by decide) rfl ?_
  exact x_sub [3, 4, 2, 5, 1, 0] rfl (lp_X3_corners_31 l D aC bs sz F (a0) (q.2.1 + (1 : Int32)) (q.2.2) M k6 hk6 F _ _ _ _ h)
def f_X3_corners (F : Nat) (a0 : Nat) (M : XM) : Option (Int32) := x_it (b_X3_corners_6 F (a0) M) F ((0 : Int32), (0 : Int32), (0 : Int32))
set_option maxHeartbeats 4000000 in
set_option maxRecDepth 100000 in
theorem c_X3_corners (l : Launch) (D : va_G) (aC : FieldType → ClassId) (bs sz : Nat) (F : Nat) {a0 : Nat} {M : XM} {r : Int32} (h : f_X3_corners F a0 M = some r) : x_Cn l D aC bs yX3_corners cX3_corners 6 (some .int) rm_X3_corners [.ref a0] sz M (some (.int r)) sz M := by
  unfold f_X3_corners at h
  refine x_enter2 [(0, .ref a0)] me_X3_corners (Nat.le_of_ble_eq_true rfl) rfl ?_
  refine x_iconst (v := (0 : Int32)) dX3_corners_0 (by decide) ?_
  refine x_istore_n 1 [(1, .int (0 : Int32)), (0, .ref a0)] dX3_corners_1 rfl (by decide) rfl ?_
  refine x_iconst (v := (0 : Int32)) dX3_corners_2 (by decide) ?_
  refine x_istore_n 2 [(2, .int (0 : Int32)), (1, .int (0 : Int32)), (0, .ref a0)] dX3_corners_3 rfl (by decide) rfl ?_
  refine x_iconst (v := (0 : Int32)) dX3_corners_4 (by decide) ?_
  refine x_istore_n 3 [(3, .int (0 : Int32)), (2, .int (0 : Int32)), (1, .int (0 : Int32)), (0, .ref a0)] dX3_corners_5 rfl (by decide) rfl ?_
  exact x_sub [3, 2, 1, 0] rfl (lp_X3_corners_6 l D aC bs sz F (a0) M  F _ _ _ _ h)

-- SwappedIntervals$Setup.<init>()V
abbrev rm_X4_init : Room := { frames := 3, cells := 13, slots := 76, locals := 63 }
abbrev mc_X4_init : Nat := 13
theorem me_X4_init : x_Me yX4_init cX4_init 1 none 0 := ⟨by decide +kernel, w_co_yX4_init, w_in_SwappedIntervals_Setup, by decide +kernel, by decide +kernel, by decide +kernel⟩
def f_X4_init (F : Nat) (a0 : Nat) (sz : Nat) (M : XM) : Option (XM) := (x_nw M sz (.inr (3, [.int 0, .null, .null, .null]))).bind fun m1 => (f_X3_init F sz (sz + 1) m1).bind fun p2 => (x_put p2 a0 4 0 (.ref sz)).bind fun m3 => (x_gR m3 a0 4 0).bind fun v4 => (x_ob m3 v4 3).bind fun u5 => (f_X3_codeNow F v4 m3).bind fun p6 => (x_put m3 a0 4 1 (.int p6)).bind fun m7 => (x_nw m7 (sz + 4) (.inr (2, [.null, .null, .int 0]))).bind fun m8 => (f_X2_init (sz + 4) (4 : Int32) (sz + 5) m8).bind fun p9 => (x_put p9 a0 4 2 (.ref (sz + 4))).bind fun m10 => (x_nw m10 (sz + 7) (.inr (2, [.null, .null, .int 0]))).bind fun m11 => (f_X2_init (sz + 7) (8 : Int32) (sz + 8) m11).bind fun p12 => (x_put p12 a0 4 3 (.ref (sz + 7))).bind fun m13 => (x_nw m13 (sz + 10) (.inr (2, [.null, .null, .int 0]))).bind fun m14 => (f_X2_init (sz + 10) (8 : Int32) (sz + 11) m14).bind fun p15 => (x_put p15 a0 4 4 (.ref (sz + 10))).bind fun m16 => some m16
set_option maxHeartbeats 4000000 in
set_option maxRecDepth 100000 in
theorem c_X4_init (l : Launch) (D : va_G) (aC : FieldType → ClassId) (bs sz : Nat) (F : Nat) {a0 : Nat} {M : XM} {r : XM} (h : f_X4_init F a0 sz M = some r) : x_Cn l D aC bs yX4_init cX4_init 1 none rm_X4_init [.ref a0] sz M none (sz + mc_X4_init) r := by
  unfold f_X4_init at h
  refine x_enter2 [(0, .ref a0)] me_X4_init (Nat.le_of_ble_eq_true rfl) rfl ?_
  refine x_aload_n dX4_init_0 0 rfl ?_
  refine x_objInit w_ml_RX4_3 w_im_Lib_objectInit w_co_Lib_objectInit (Nat.le_of_ble_eq_true rfl) (Nat.le_of_ble_eq_true rfl) dX4_init_1 ?_
  refine x_aload_n dX4_init_4 0 rfl ?_
  obtain ⟨m1, em1, h⟩ := x_bd h
  refine x_new [.int 0, .null, .null, .null] clX3 w_cl_RX4_9 w_is_SwappedIntervals_Rows w_in_SwappedIntervals_Rows nwX3 (Nat.le_of_ble_eq_true rfl) (Nat.le_of_ble_eq_true rfl) dX4_init_5 ?_
  refine x_castM (Option.some.inj em1) ?_
  refine x_dup dX4_init_8 rfl ?_
  obtain ⟨p2, ep2, h⟩ := x_bd h
  refine x_callIV [] [.ref sz, .ref a0] me_X3_init w_ml_RX4_11 w_im_yX3_init rfl (Nat.le_of_ble_eq_true rfl) (Nat.le_of_ble_eq_true rfl) rfl (Nat.le_of_ble_eq_true rfl) (Nat.le_of_ble_eq_true rfl) (Nat.le_of_ble_eq_true rfl) dX4_init_9 (c_X3_init l D aC bs (sz + 1) F ep2) rfl ?_
  obtain ⟨m3, em3, h⟩ := x_bd h
  refine x_putF clX4 w_fl_RX4_12 (by decide) rfl rfl rfl rfl rfl dX4_init_12 em3 ?_
  refine x_aload_n dX4_init_15 0 rfl ?_
  refine x_aload_n dX4_init_16 0 rfl ?_
  obtain ⟨v4, ev4, h⟩ := x_bd h
  refine x_getR clX4 w_fl_RX4_12 (by decide) dX4_init_17 ev4 ?_
  obtain ⟨u5, eu5, h⟩ := x_bd h
  obtain ⟨p6, ep6, h⟩ := x_bd h
  refine x_callVI [] [.ref a0] clX3 me_X3_codeNow w_ml_RX4_18 w_im_yX3_codeNow w_se_yX3_codeNow (Nat.le_of_ble_eq_true rfl) (Nat.le_of_ble_eq_true rfl) rfl (Nat.le_of_ble_eq_true rfl) (Nat.le_of_ble_eq_true rfl) (Nat.le_of_ble_eq_true rfl) dX4_init_20 eu5 (c_X3_codeNow l D aC bs (sz + 4) F ep6) rfl ?_
  obtain ⟨m7, em7, h⟩ := x_bd h
  refine x_putV clX4 w_fl_RX4_22 (by decide) rfl rfl rfl dX4_init_23 em7 ?_
  refine x_aload_n dX4_init_26 0 rfl ?_
  obtain ⟨m8, em8, h⟩ := x_bd h
  refine x_new [.null, .null, .int 0] clX2 w_cl_RX4_26 w_is_SwappedIntervals_Notes w_in_SwappedIntervals_Notes nwX2 (Nat.le_of_ble_eq_true rfl) (Nat.le_of_ble_eq_true rfl) dX4_init_27 ?_
  refine x_castM (Option.some.inj em8) ?_
  refine x_dup dX4_init_30 rfl ?_
  refine x_iconst (v := (4 : Int32)) dX4_init_31 (by decide) ?_
  obtain ⟨p9, ep9, h⟩ := x_bd h
  refine x_callIV [.int (4 : Int32)] [.ref (sz + 4), .ref a0] me_X2_init w_ml_RX4_28 w_im_yX2_init rfl (Nat.le_of_ble_eq_true rfl) (Nat.le_of_ble_eq_true rfl) rfl (Nat.le_of_ble_eq_true rfl) (Nat.le_of_ble_eq_true rfl) (Nat.le_of_ble_eq_true rfl) dX4_init_32 (c_X2_init l D aC bs (sz + 5) ep9) rfl ?_
  obtain ⟨m10, em10, h⟩ := x_bd h
  refine x_putF clX4 w_fl_RX4_31 (by decide) rfl rfl rfl rfl rfl dX4_init_35 em10 ?_
  refine x_aload_n dX4_init_38 0 rfl ?_
  obtain ⟨m11, em11, h⟩ := x_bd h
  refine x_new [.null, .null, .int 0] clX2 w_cl_RX4_26 w_is_SwappedIntervals_Notes w_in_SwappedIntervals_Notes nwX2 (Nat.le_of_ble_eq_true rfl) (Nat.le_of_ble_eq_true rfl) dX4_init_39 ?_
  refine x_castM (Option.some.inj em11) ?_
  refine x_dup dX4_init_42 rfl ?_
  refine x_bipush (v := (8 : Int32)) dX4_init_43 (by decide) ?_
  obtain ⟨p12, ep12, h⟩ := x_bd h
  refine x_callIV [.int (8 : Int32)] [.ref (sz + 7), .ref a0] me_X2_init w_ml_RX4_28 w_im_yX2_init rfl (Nat.le_of_ble_eq_true rfl) (Nat.le_of_ble_eq_true rfl) rfl (Nat.le_of_ble_eq_true rfl) (Nat.le_of_ble_eq_true rfl) (Nat.le_of_ble_eq_true rfl) dX4_init_45 (c_X2_init l D aC bs (sz + 8) ep12) rfl ?_
  obtain ⟨m13, em13, h⟩ := x_bd h
  refine x_putF clX4 w_fl_RX4_35 (by decide) rfl rfl rfl rfl rfl dX4_init_48 em13 ?_
  refine x_aload_n dX4_init_51 0 rfl ?_
  obtain ⟨m14, em14, h⟩ := x_bd h
  refine x_new [.null, .null, .int 0] clX2 w_cl_RX4_26 w_is_SwappedIntervals_Notes w_in_SwappedIntervals_Notes nwX2 (Nat.le_of_ble_eq_true rfl) (Nat.le_of_ble_eq_true rfl) dX4_init_52 ?_
  refine x_castM (Option.some.inj em14) ?_
  refine x_dup dX4_init_55 rfl ?_
  refine x_bipush (v := (8 : Int32)) dX4_init_56 (by decide) ?_
  obtain ⟨p15, ep15, h⟩ := x_bd h
  refine x_callIV [.int (8 : Int32)] [.ref (sz + 10), .ref a0] me_X2_init w_ml_RX4_28 w_im_yX2_init rfl (Nat.le_of_ble_eq_true rfl) (Nat.le_of_ble_eq_true rfl) rfl (Nat.le_of_ble_eq_true rfl) (Nat.le_of_ble_eq_true rfl) (Nat.le_of_ble_eq_true rfl) dX4_init_58 (c_X2_init l D aC bs (sz + 11) ep15) rfl ?_
  obtain ⟨m16, em16, h⟩ := x_bd h
  refine x_putF clX4 w_fl_RX4_38 (by decide) rfl rfl rfl rfl rfl dX4_init_61 em16 ?_
  obtain rfl := Option.some.inj h
  exact x_vret dX4_init_64 (Nat.le_of_ble_eq_true rfl) (Nat.le_of_ble_eq_true rfl)

-- SwappedIntervals$Setup.begin(I)V
abbrev rm_X4_begin : Room := { frames := 2, cells := 0, slots := 0, locals := 45 }
theorem me_X4_begin : x_Me yX4_begin cX4_begin 2 none 1 := ⟨by decide +kernel, w_co_yX4_begin, w_in_SwappedIntervals_Setup, by decide +kernel, by decide +kernel, by decide +kernel⟩
def f_X4_begin (F : Nat) (a0 : Nat) (a1 : Int32) (M : XM) : Option (XM) := (x_gR M a0 4 0).bind fun v1 => (x_ob M v1 3).bind fun u2 => (f_X3_begin F v1 a1 M).bind fun p3 => (x_gR p3 a0 4 0).bind fun v4 => (x_ob p3 v4 3).bind fun u5 => (f_X3_codeNow F v4 p3).bind fun p6 => (x_put p3 a0 4 1 (.int p6)).bind fun m7 => some m7
set_option maxHeartbeats 4000000 in
set_option maxRecDepth 100000 in
theorem c_X4_begin (l : Launch) (D : va_G) (aC : FieldType → ClassId) (bs sz : Nat) (F : Nat) {a0 : Nat} {a1 : Int32} {M : XM} {r : XM} (h : f_X4_begin F a0 a1 M = some r) : x_Cn l D aC bs yX4_begin cX4_begin 2 none rm_X4_begin [.ref a0, .int a1] sz M none sz r := by
  unfold f_X4_begin at h
  refine x_enter2 [(0, .ref a0), (1, .int a1)] me_X4_begin (Nat.le_of_ble_eq_true rfl) rfl ?_
  refine x_aload_n dX4_begin_0 0 rfl ?_
  obtain ⟨v1, ev1, h⟩ := x_bd h
  refine x_getR clX4 w_fl_RX4_12 (by decide) dX4_begin_1 ev1 ?_
  refine x_iload_n dX4_begin_4 1 rfl ?_
  obtain ⟨u2, eu2, h⟩ := x_bd h
  obtain ⟨p3, ep3, h⟩ := x_bd h
  refine x_callVV [.int a1] [] clX3 me_X3_begin w_ml_RX4_41 w_im_yX3_begin w_se_yX3_begin (Nat.le_of_ble_eq_true rfl) (Nat.le_of_ble_eq_true rfl) rfl (Nat.le_of_ble_eq_true rfl) (Nat.le_of_ble_eq_true rfl) (Nat.le_of_ble_eq_true rfl) dX4_begin_5 eu2 (c_X3_begin l D aC bs sz F ep3) rfl ?_
  refine x_aload_n dX4_begin_8 0 rfl ?_
  refine x_aload_n dX4_begin_9 0 rfl ?_
  obtain ⟨v4, ev4, h⟩ := x_bd h
  refine x_getR clX4 w_fl_RX4_12 (by decide) dX4_begin_10 ev4 ?_
  obtain ⟨u5, eu5, h⟩ := x_bd h
  obtain ⟨p6, ep6, h⟩ := x_bd h
  refine x_callVI [] [.ref a0] clX3 me_X3_codeNow w_ml_RX4_18 w_im_yX3_codeNow w_se_yX3_codeNow (Nat.le_of_ble_eq_true rfl) (Nat.le_of_ble_eq_true rfl) rfl (Nat.le_of_ble_eq_true rfl) (Nat.le_of_ble_eq_true rfl) (Nat.le_of_ble_eq_true rfl) dX4_begin_13 eu5 (c_X3_codeNow l D aC bs sz F ep6) rfl ?_
  obtain ⟨m7, em7, h⟩ := x_bd h
  refine x_putV clX4 w_fl_RX4_22 (by decide) rfl rfl rfl dX4_begin_16 em7 ?_
  obtain rfl := Option.some.inj h
  exact x_vret dX4_begin_19 (Nat.le_of_ble_eq_true rfl) (Nat.le_of_ble_eq_true rfl)

-- SwappedIntervals$Setup.copyFrom(LSwappedIntervals$Setup;)V
abbrev rm_X4_copyFrom : Room := { frames := 2, cells := 0, slots := 0, locals := 44 }
theorem me_X4_copyFrom : x_Me yX4_copyFrom cX4_copyFrom 2 none 1 := ⟨by decide +kernel, w_co_yX4_copyFrom, w_in_SwappedIntervals_Setup, by decide +kernel, by decide +kernel, by decide +kernel⟩
def f_X4_copyFrom (F : Nat) (a0 : Nat) (a1 : Nat) (M : XM) : Option (XM) := (x_gR M a0 4 0).bind fun v1 => (x_gR M a1 4 0).bind fun v2 => (x_ob M v1 3).bind fun u3 => (f_X3_copyFrom F v1 v2 M).bind fun p4 => (x_gI p4 a1 4 1).bind fun v5 => (x_put p4 a0 4 1 (.int v5)).bind fun m6 => (x_gR m6 a0 4 2).bind fun v7 => (x_gR m6 a1 4 2).bind fun v8 => (x_ob m6 v7 2).bind fun u9 => (f_X2_copyFrom F v7 v8 m6).bind fun p10 => (x_gR p10 a0 4 3).bind fun v11 => (x_gR p10 a1 4 3).bind fun v12 => (x_ob p10 v11 2).bind fun u13 => (f_X2_copyFrom F v11 v12 p10).bind fun p14 => (x_gR p14 a0 4 4).bind fun v15 => (x_gR p14 a1 4 4).bind fun v16 => (x_ob p14 v15 2).bind fun u17 => (f_X2_copyFrom F v15 v16 p14).bind fun p18 => some p18
set_option maxHeartbeats 4000000 in
set_option maxRecDepth 100000 in
theorem c_X4_copyFrom (l : Launch) (D : va_G) (aC : FieldType → ClassId) (bs sz : Nat) (F : Nat) {a0 : Nat} {a1 : Nat} {M : XM} {r : XM} (h : f_X4_copyFrom F a0 a1 M = some r) : x_Cn l D aC bs yX4_copyFrom cX4_copyFrom 2 none rm_X4_copyFrom [.ref a0, .ref a1] sz M none sz r := by
  unfold f_X4_copyFrom at h
  refine x_enter2 [(0, .ref a0), (1, .ref a1)] me_X4_copyFrom (Nat.le_of_ble_eq_true rfl) rfl ?_
  refine x_aload_n dX4_copyFrom_0 0 rfl ?_
  obtain ⟨v1, ev1, h⟩ := x_bd h
  refine x_getR clX4 w_fl_RX4_12 (by decide) dX4_copyFrom_1 ev1 ?_
  refine x_aload_n dX4_copyFrom_4 1 rfl ?_
  obtain ⟨v2, ev2, h⟩ := x_bd h
  refine x_getR clX4 w_fl_RX4_12 (by decide) dX4_copyFrom_5 ev2 ?_
  obtain ⟨u3, eu3, h⟩ := x_bd h
  obtain ⟨p4, ep4, h⟩ := x_bd h
  refine x_callVV [.ref v2] [] clX3 me_X3_copyFrom w_ml_RX4_44 w_im_yX3_copyFrom w_se_yX3_copyFrom (Nat.le_of_ble_eq_true rfl) (Nat.le_of_ble_eq_true rfl) rfl (Nat.le_of_ble_eq_true rfl) (Nat.le_of_ble_eq_true rfl) (Nat.le_of_ble_eq_true rfl) dX4_copyFrom_8 eu3 (c_X3_copyFrom l D aC bs sz F ep4) rfl ?_
  refine x_aload_n dX4_copyFrom_11 0 rfl ?_
  refine x_aload_n dX4_copyFrom_12 1 rfl ?_
  obtain ⟨v5, ev5, h⟩ := x_bd h
  refine x_getI clX4 w_fl_RX4_22 (by decide) dX4_copyFrom_13 ev5 ?_
  obtain ⟨m6, em6, h⟩ := x_bd h
  refine x_putV clX4 w_fl_RX4_22 (by decide) rfl rfl rfl dX4_copyFrom_16 em6 ?_
  refine x_aload_n dX4_copyFrom_19 0 rfl ?_
  obtain ⟨v7, ev7, h⟩ := x_bd h
  refine x_getR clX4 w_fl_RX4_31 (by decide) dX4_copyFrom_20 ev7 ?_
  refine x_aload_n dX4_copyFrom_23 1 rfl ?_
  obtain ⟨v8, ev8, h⟩ := x_bd h
  refine x_getR clX4 w_fl_RX4_31 (by decide) dX4_copyFrom_24 ev8 ?_
  obtain ⟨u9, eu9, h⟩ := x_bd h
  obtain ⟨p10, ep10, h⟩ := x_bd h
  refine x_callVV [.ref v8] [] clX2 me_X2_copyFrom w_ml_RX4_48 w_im_yX2_copyFrom w_se_yX2_copyFrom (Nat.le_of_ble_eq_true rfl) (Nat.le_of_ble_eq_true rfl) rfl (Nat.le_of_ble_eq_true rfl) (Nat.le_of_ble_eq_true rfl) (Nat.le_of_ble_eq_true rfl) dX4_copyFrom_27 eu9 (c_X2_copyFrom l D aC bs sz F ep10) rfl ?_
  refine x_aload_n dX4_copyFrom_30 0 rfl ?_
  obtain ⟨v11, ev11, h⟩ := x_bd h
  refine x_getR clX4 w_fl_RX4_35 (by decide) dX4_copyFrom_31 ev11 ?_
  refine x_aload_n dX4_copyFrom_34 1 rfl ?_
  obtain ⟨v12, ev12, h⟩ := x_bd h
  refine x_getR clX4 w_fl_RX4_35 (by decide) dX4_copyFrom_35 ev12 ?_
  obtain ⟨u13, eu13, h⟩ := x_bd h
  obtain ⟨p14, ep14, h⟩ := x_bd h
  refine x_callVV [.ref v12] [] clX2 me_X2_copyFrom w_ml_RX4_48 w_im_yX2_copyFrom w_se_yX2_copyFrom (Nat.le_of_ble_eq_true rfl) (Nat.le_of_ble_eq_true rfl) rfl (Nat.le_of_ble_eq_true rfl) (Nat.le_of_ble_eq_true rfl) (Nat.le_of_ble_eq_true rfl) dX4_copyFrom_38 eu13 (c_X2_copyFrom l D aC bs sz F ep14) rfl ?_
  refine x_aload_n dX4_copyFrom_41 0 rfl ?_
  obtain ⟨v15, ev15, h⟩ := x_bd h
  refine x_getR clX4 w_fl_RX4_38 (by decide) dX4_copyFrom_42 ev15 ?_
  refine x_aload_n dX4_copyFrom_45 1 rfl ?_
  obtain ⟨v16, ev16, h⟩ := x_bd h
  refine x_getR clX4 w_fl_RX4_38 (by decide) dX4_copyFrom_46 ev16 ?_
  obtain ⟨u17, eu17, h⟩ := x_bd h
  obtain ⟨p18, ep18, h⟩ := x_bd h
  refine x_callVV [.ref v16] [] clX2 me_X2_copyFrom w_ml_RX4_48 w_im_yX2_copyFrom w_se_yX2_copyFrom (Nat.le_of_ble_eq_true rfl) (Nat.le_of_ble_eq_true rfl) rfl (Nat.le_of_ble_eq_true rfl) (Nat.le_of_ble_eq_true rfl) (Nat.le_of_ble_eq_true rfl) dX4_copyFrom_49 eu17 (c_X2_copyFrom l D aC bs sz F ep18) rfl ?_
  obtain rfl := Option.some.inj h
  exact x_vret dX4_copyFrom_52 (Nat.le_of_ble_eq_true rfl) (Nat.le_of_ble_eq_true rfl)

-- SwappedIntervals$Shapes.<init>()V
abbrev rm_X5_init : Room := { frames := 3, cells := 6, slots := 259, locals := 63 }
abbrev mc_X5_init : Nat := 6
theorem me_X5_init : x_Me yX5_init cX5_init 1 none 0 := ⟨by decide +kernel, w_co_yX5_init, w_in_SwappedIntervals_Shapes, by decide +kernel, by decide +kernel, by decide +kernel⟩
def f_X5_init (F : Nat) (a0 : Nat) (sz : Nat) (M : XM) : Option (XM) := (x_nw M sz (.inr (3, [.int 0, .null, .null, .null]))).bind fun m1 => (f_X3_init F sz (sz + 1) m1).bind fun p2 => (x_put p2 a0 5 0 (.ref sz)).bind fun m3 => (x_nw m3 (sz + 4) (.inl (.int, 120, .inl (fun _ => 0)))).bind fun m4 => (x_put m4 a0 5 1 (.ref (sz + 4))).bind fun m5 => (x_nw m5 (sz + 5) (.inl (.int, 120, .inl (fun _ => 0)))).bind fun m6 => (x_put m6 a0 5 2 (.ref (sz + 5))).bind fun m7 => (x_put m7 a0 5 3 (.int (0 : Int32))).bind fun m8 => some m8
set_option maxHeartbeats 4000000 in
set_option maxRecDepth 100000 in
theorem c_X5_init (l : Launch) (D : va_G) (aC : FieldType → ClassId) (bs sz : Nat) (F : Nat) {a0 : Nat} {M : XM} {r : XM} (h : f_X5_init F a0 sz M = some r) : x_Cn l D aC bs yX5_init cX5_init 1 none rm_X5_init [.ref a0] sz M none (sz + mc_X5_init) r := by
  unfold f_X5_init at h
  refine x_enter2 [(0, .ref a0)] me_X5_init (Nat.le_of_ble_eq_true rfl) rfl ?_
  refine x_aload_n dX5_init_0 0 rfl ?_
  refine x_objInit w_ml_RX5_3 w_im_Lib_objectInit w_co_Lib_objectInit (Nat.le_of_ble_eq_true rfl) (Nat.le_of_ble_eq_true rfl) dX5_init_1 ?_
  refine x_aload_n dX5_init_4 0 rfl ?_
  obtain ⟨m1, em1, h⟩ := x_bd h
  refine x_new [.int 0, .null, .null, .null] clX3 w_cl_RX5_9 w_is_SwappedIntervals_Rows w_in_SwappedIntervals_Rows nwX3 (Nat.le_of_ble_eq_true rfl) (Nat.le_of_ble_eq_true rfl) dX5_init_5 ?_
  refine x_castM (Option.some.inj em1) ?_
  refine x_dup dX5_init_8 rfl ?_
  obtain ⟨p2, ep2, h⟩ := x_bd h
  refine x_callIV [] [.ref sz, .ref a0] me_X3_init w_ml_RX5_11 w_im_yX3_init rfl (Nat.le_of_ble_eq_true rfl) (Nat.le_of_ble_eq_true rfl) rfl (Nat.le_of_ble_eq_true rfl) (Nat.le_of_ble_eq_true rfl) (Nat.le_of_ble_eq_true rfl) dX5_init_9 (c_X3_init l D aC bs (sz + 1) F ep2) rfl ?_
  obtain ⟨m3, em3, h⟩ := x_bd h
  refine x_putF clX5 w_fl_RX5_12 (by decide) rfl rfl rfl rfl rfl dX5_init_12 em3 ?_
  refine x_aload_n dX5_init_15 0 rfl ?_
  refine x_bipush (v := (120 : Int32)) dX5_init_16 (by decide) ?_
  obtain ⟨m4, em4, h⟩ := x_bd h
  refine x_newI 120 120 w_ac_int (by decide) (by decide) (Nat.le_refl _) (by decide) (Nat.le_of_ble_eq_true rfl) (Nat.le_of_ble_eq_true rfl) dX5_init_18 ?_
  refine x_castM (Option.some.inj em4) ?_
  obtain ⟨m5, em5, h⟩ := x_bd h
  refine x_putF clX5 w_fl_RX5_18 (by decide) rfl rfl rfl rfl rfl dX5_init_20 em5 ?_
  refine x_aload_n dX5_init_23 0 rfl ?_
  refine x_bipush (v := (120 : Int32)) dX5_init_24 (by decide) ?_
  obtain ⟨m6, em6, h⟩ := x_bd h
  refine x_newI 120 120 w_ac_int (by decide) (by decide) (Nat.le_refl _) (by decide) (Nat.le_of_ble_eq_true rfl) (Nat.le_of_ble_eq_true rfl) dX5_init_26 ?_
  refine x_castM (Option.some.inj em6) ?_
  obtain ⟨m7, em7, h⟩ := x_bd h
  refine x_putF clX5 w_fl_RX5_22 (by decide) rfl rfl rfl rfl rfl dX5_init_28 em7 ?_
  refine x_aload_n dX5_init_31 0 rfl ?_
  refine x_iconst (v := (0 : Int32)) dX5_init_32 (by decide) ?_
  obtain ⟨m8, em8, h⟩ := x_bd h
  refine x_putV clX5 w_fl_RX5_25 (by decide) rfl rfl rfl dX5_init_33 em8 ?_
  obtain rfl := Option.some.inj h
  exact x_vret dX5_init_36 (Nat.le_of_ble_eq_true rfl) (Nat.le_of_ble_eq_true rfl)

-- SwappedIntervals$Shapes.follow(III)I
abbrev rm_X5_follow : Room := { frames := 2, cells := 0, slots := 0, locals := 46 }
theorem me_X5_follow : x_Me yX5_follow cX5_follow 4 (some .int) 3 := ⟨by decide +kernel, w_co_yX5_follow, w_in_SwappedIntervals_Shapes, by decide +kernel, by decide +kernel, by decide +kernel⟩
def f_X5_follow (F : Nat) (a0 : Nat) (a1 : Int32) (a2 : Int32) (a3 : Int32) (M : XM) : Option (Int32 × XM) := (x_gR M a0 5 0).bind fun v1 => (x_put M v1 3 0 (.int a2)).bind fun m2 => (x_gR m2 a0 5 0).bind fun v3 => (x_ob m2 v3 3).bind fun u4 => (f_X3_layCode F v3 a1 m2).bind fun p5 => (x_gR p5 a0 5 0).bind fun v6 => (x_ob p5 v6 3).bind fun u7 => (f_X3_endsAlike v6 p5).bind fun p8 => if p8 = 0 then (x_gR p5 a0 5 0).bind fun v10 => (x_ob p5 v10 3).bind fun u11 => (f_X3_moveForStep F v10 a3 p5).bind fun p12 => (x_gR p12 a0 5 0).bind fun v13 => (x_ob p12 v13 3).bind fun u14 => (f_X3_codeNow F v13 p12).bind fun p15 => some (p15, p12) else some ((-5 : Int32), p5)
set_option maxHeartbeats 4000000 in
set_option maxRecDepth 100000 in
theorem c_X5_follow (l : Launch) (D : va_G) (aC : FieldType → ClassId) (bs sz : Nat) (F : Nat) {a0 : Nat} {a1 : Int32} {a2 : Int32} {a3 : Int32} {M : XM} {r : Int32 × XM} (h : f_X5_follow F a0 a1 a2 a3 M = some r) : x_Cn l D aC bs yX5_follow cX5_follow 4 (some .int) rm_X5_follow [.ref a0, .int a1, .int a2, .int a3] sz M (some (.int r.1)) sz r.2 := by
  unfold f_X5_follow at h
  refine x_enter2 [(0, .ref a0), (1, .int a1), (2, .int a2), (3, .int a3)] me_X5_follow (Nat.le_of_ble_eq_true rfl) rfl ?_
  refine x_aload_n dX5_follow_0 0 rfl ?_
  obtain ⟨v1, ev1, h⟩ := x_bd h
  refine x_getR clX5 w_fl_RX5_12 (by decide) dX5_follow_1 ev1 ?_
  refine x_iload_n dX5_follow_4 2 rfl ?_
  obtain ⟨m2, em2, h⟩ := x_bd h
  refine x_putV clX3 w_fl_RX5_29 (by decide) rfl rfl rfl dX5_follow_5 em2 ?_
  refine x_aload_n dX5_follow_8 0 rfl ?_
  obtain ⟨v3, ev3, h⟩ := x_bd h
  refine x_getR clX5 w_fl_RX5_12 (by decide) dX5_follow_9 ev3 ?_
  refine x_iload_n dX5_follow_12 1 rfl ?_
  obtain ⟨u4, eu4, h⟩ := x_bd h
  obtain ⟨p5, ep5, h⟩ := x_bd h
  refine x_callVV [.int a1] [] clX3 me_X3_layCode w_ml_RX5_32 w_im_yX3_layCode w_se_yX3_layCode (Nat.le_of_ble_eq_true rfl) (Nat.le_of_ble_eq_true rfl) rfl (Nat.le_of_ble_eq_true rfl) (Nat.le_of_ble_eq_true rfl) (Nat.le_of_ble_eq_true rfl) dX5_follow_13 eu4 (c_X3_layCode l D aC bs sz F ep5) rfl ?_
  refine x_aload_n dX5_follow_16 0 rfl ?_
  obtain ⟨v6, ev6, h⟩ := x_bd h
  refine x_getR clX5 w_fl_RX5_12 (by decide) dX5_follow_17 ev6 ?_
  obtain ⟨u7, eu7, h⟩ := x_bd h
  obtain ⟨p8, ep8, h⟩ := x_bd h
  refine x_callVI [] [] clX3 me_X3_endsAlike w_ml_RX5_36 w_im_yX3_endsAlike w_se_yX3_endsAlike (Nat.le_of_ble_eq_true rfl) (Nat.le_of_ble_eq_true rfl) rfl (Nat.le_of_ble_eq_true rfl) (Nat.le_of_ble_eq_true rfl) (Nat.le_of_ble_eq_true rfl) dX5_follow_20 eu7 (c_X3_endsAlike l D aC bs sz ep8) rfl ?_
  refine x_if_eq 29 dX5_follow_23 (by decide) (fun c9 => ?_) (fun c9 => ?_)
  · have h := (if_pos c9).symm.trans h
    refine x_aload_n dX5_follow_29 0 rfl ?_
    obtain ⟨v10, ev10, h⟩ := x_bd h
    refine x_getR clX5 w_fl_RX5_12 (by decide) dX5_follow_30 ev10 ?_
    refine x_iload_n dX5_follow_33 3 rfl ?_
    obtain ⟨u11, eu11, h⟩ := x_bd h
    obtain ⟨p12, ep12, h⟩ := x_bd h
    refine x_callVV [.int a3] [] clX3 me_X3_moveForStep w_ml_RX5_40 w_im_yX3_moveForStep w_se_yX3_moveForStep (Nat.le_of_ble_eq_true rfl) (Nat.le_of_ble_eq_true rfl) rfl (Nat.le_of_ble_eq_true rfl) (Nat.le_of_ble_eq_true rfl) (Nat.le_of_ble_eq_true rfl) dX5_follow_34 eu11 (c_X3_moveForStep l D aC bs sz F ep12) rfl ?_
    refine x_aload_n dX5_follow_37 0 rfl ?_
    obtain ⟨v13, ev13, h⟩ := x_bd h
    refine x_getR clX5 w_fl_RX5_12 (by decide) dX5_follow_38 ev13 ?_
    obtain ⟨u14, eu14, h⟩ := x_bd h
    obtain ⟨p15, ep15, h⟩ := x_bd h
    refine x_callVI [] [] clX3 me_X3_codeNow w_ml_RX5_43 w_im_yX3_codeNow w_se_yX3_codeNow (Nat.le_of_ble_eq_true rfl) (Nat.le_of_ble_eq_true rfl) rfl (Nat.le_of_ble_eq_true rfl) (Nat.le_of_ble_eq_true rfl) (Nat.le_of_ble_eq_true rfl) dX5_follow_41 eu14 (c_X3_codeNow l D aC bs sz F ep15) rfl ?_
    obtain rfl := Option.some.inj h
    exact x_iret dX5_follow_44 (Nat.le_of_ble_eq_true rfl) (Nat.le_of_ble_eq_true rfl)
  have h := (if_neg c9).symm.trans h
  refine x_bipush (v := (-5 : Int32)) dX5_follow_26 (by decide) ?_
  obtain rfl := Option.some.inj h
  exact x_iret dX5_follow_28 (Nat.le_of_ble_eq_true rfl) (Nat.le_of_ble_eq_true rfl)

-- SwappedIntervals$Shapes.indexOf(I)I
abbrev rm_X5_indexOf : Room := { frames := 0, cells := 0, slots := 0, locals := 0 }
theorem me_X5_indexOf : x_Me yX5_indexOf cX5_indexOf 3 (some .int) 1 := ⟨by decide +kernel, w_co_yX5_indexOf, w_in_SwappedIntervals_Shapes, by decide +kernel, by decide +kernel, by decide +kernel⟩
def b_X5_indexOf_2 (F : Nat) (a0 : Nat) (a1 : Int32) (M : XM)  (k2 : Int32 → Option (Int32)) (q : Int32) : Option (Int32) := (x_gI M a0 5 3).bind fun v1 => if v1 ≤ q then some (-1 : Int32) else (x_gR M a0 5 1).bind fun v3 => (x_a32 .int M v3 q).bind fun v4 => if v4 = a1 then some q else k2 (q + (1 : Int32))
set_option maxHeartbeats 4000000 in
set_option maxRecDepth 100000 in
theorem lp_X5_indexOf_2 (l : Launch) (D : va_G) (aC : FieldType → ClassId) (bs : Nat) (sz : Nat) (F : Nat) (a0 : Nat) (a1 : Int32) (M : XM)   : ∀ (n : Nat) (b0 : Int32) (r : Int32), x_it (b_X5_indexOf_2 F a0 a1 M ) n b0 = some r → x_V l D aC bs yX5_indexOf cX5_indexOf 3 (some .int) rm_X5_indexOf (x_Z D aC bs (some (.int r)) sz M rm_X5_indexOf) 2 [(0, .ref a0), (1, .int a1), (2, .int b0)] [] sz M 0 0 := by
  suffices H : ∀ (n : Nat) (q : Int32) (r : Int32), x_it (b_X5_indexOf_2 F a0 a1 M ) n q = some r → x_V l D aC bs yX5_indexOf cX5_indexOf 3 (some .int) rm_X5_indexOf (x_Z D aC bs (some (.int r)) sz M rm_X5_indexOf) 2 [(0, .ref a0), (1, .int a1), (2, .int q)] [] sz M 0 0 from fun n b0 r h => H n b0 r h
  refine x_loop (P := fun (q : Int32) (r : Int32) => x_V l D aC bs yX5_indexOf cX5_indexOf 3 (some .int) rm_X5_indexOf (x_Z D aC bs (some (.int r)) sz M rm_X5_indexOf) 2 [(0, .ref a0), (1, .int a1), (2, .int q)] [] sz M 0 0) (fun k2 hk0 q r h => ?_)
  have hk2 : ∀ (b0 : Int32) (r : Int32), k2 b0 = some r → x_V l D aC bs yX5_indexOf cX5_indexOf 3 (some .int) rm_X5_indexOf (x_Z D aC bs (some (.int r)) sz M rm_X5_indexOf) 2 [(0, .ref a0), (1, .int a1), (2, .int b0)] [] sz M 0 0 := fun b0 r h => hk0 b0 r h
  unfold b_X5_indexOf_2 at h
  refine x_iload_n dX5_indexOf_2 2 rfl ?_
  refine x_aload_n dX5_indexOf_3 0 rfl ?_
  obtain ⟨v1, ev1, h⟩ := x_bd h
  refine x_getI clX5 w_fl_RX5_25 (by decide) dX5_indexOf_4 ev1 ?_
  refine x_icmp_ge 28 dX5_indexOf_7 (by decide) (fun c2 => ?_) (fun c2 => ?_)
  · have h := (if_pos c2).symm.trans h
    refine x_iconst (v := (-1 : Int32)) dX5_indexOf_28 (by decide) ?_
    obtain rfl := Option.some.inj h
    exact x_iret dX5_indexOf_29 (Nat.le_of_ble_eq_true rfl) (Nat.le_of_ble_eq_true rfl)
  have h := (if_neg c2).symm.trans h
  refine x_aload_n dX5_indexOf_10 0 rfl ?_
  obtain ⟨v3, ev3, h⟩ := x_bd h
  refine x_getR clX5 w_fl_RX5_18 (by decide) dX5_indexOf_11 ev3 ?_
  refine x_iload_n dX5_indexOf_14 2 rfl ?_
  obtain ⟨v4, ev4, h⟩ := x_bd h
  refine x_iald dX5_indexOf_15 ev4 ?_
  refine x_iload_n dX5_indexOf_16 1 rfl ?_
  refine x_icmp_ne 22 dX5_indexOf_17 (by decide) (fun c5 => ?_) (fun c5 => ?_)
  · have h := (if_neg c5).symm.trans h
    refine x_iinc (1 : Int32) 2 [(2, .int (q + (1 : Int32))), (0, .ref a0), (1, .int a1)] dX5_indexOf_22 rfl (by decide) (by decide) rfl ?_
    refine x_goto 2 dX5_indexOf_25 (by decide) ?_
    exact x_sub [1, 2, 0] rfl (hk2 _ _ h)
  have h := (if_pos c5).symm.trans h
  refine x_iload_n dX5_indexOf_20 2 rfl ?_
  obtain rfl := Option.some.inj h
  exact x_iret dX5_indexOf_21 (Nat.le_of_ble_eq_true rfl) (Nat.le_of_ble_eq_true rfl)
def f_X5_indexOf (F : Nat) (a0 : Nat) (a1 : Int32) (M : XM) : Option (Int32) := x_it (b_X5_indexOf_2 F (a0) (a1) M) F (0 : Int32)
set_option maxHeartbeats 4000000 in
set_option maxRecDepth 100000 in
theorem c_X5_indexOf (l : Launch) (D : va_G) (aC : FieldType → ClassId) (bs sz : Nat) (F : Nat) {a0 : Nat} {a1 : Int32} {M : XM} {r : Int32} (h : f_X5_indexOf F a0 a1 M = some r) : x_Cn l D aC bs yX5_indexOf cX5_indexOf 3 (some .int) rm_X5_indexOf [.ref a0, .int a1] sz M (some (.int r)) sz M := by
  unfold f_X5_indexOf at h
  refine x_enter2 [(0, .ref a0), (1, .int a1)] me_X5_indexOf (Nat.le_of_ble_eq_true rfl) rfl ?_
  refine x_iconst (v := (0 : Int32)) dX5_indexOf_0 (by decide) ?_
  refine x_istore_n 2 [(2, .int (0 : Int32)), (0, .ref a0), (1, .int a1)] dX5_indexOf_1 rfl (by decide) rfl ?_
  exact x_sub [1, 2, 0] rfl (lp_X5_indexOf_2 l D aC bs sz F (a0) (a1) M  F _ _ h)

-- SwappedIntervals$Shapes.note(II)V
abbrev rm_X5_note : Room := { frames := 1, cells := 0, slots := 0, locals := 22 }
theorem me_X5_note : x_Me yX5_note cX5_note 3 none 2 := ⟨by decide +kernel, w_co_yX5_note, w_in_SwappedIntervals_Shapes, by decide +kernel, by decide +kernel, by decide +kernel⟩
def f_X5_note (F : Nat) (a0 : Nat) (a1 : Int32) (a2 : Int32) (M : XM) : Option (XM) := if a1 = (-5 : Int32) then some M else (x_ob M a0 5).bind fun u2 => (f_X5_indexOf F a0 a1 M).bind fun p3 => if p3 = (-1 : Int32) then (x_gI M a0 5 3).bind fun v5 => if v5 < (120 : Int32) then (x_gR M a0 5 1).bind fun v7 => (x_gI M a0 5 3).bind fun v8 => (x_w32 .int M v7 v8 a1).bind fun m9 => (x_gR m9 a0 5 2).bind fun v10 => (x_gI m9 a0 5 3).bind fun v11 => (x_w32 .int m9 v10 v11 a2).bind fun m12 => (x_gI m12 a0 5 3).bind fun v13 => (x_put m12 a0 5 3 (.int (v13 + (1 : Int32)))).bind fun m14 => some m14 else some M else some M
set_option maxHeartbeats 4000000 in
set_option maxRecDepth 100000 in
theorem c_X5_note (l : Launch) (D : va_G) (aC : FieldType → ClassId) (bs sz : Nat) (F : Nat) {a0 : Nat} {a1 : Int32} {a2 : Int32} {M : XM} {r : XM} (h : f_X5_note F a0 a1 a2 M = some r) : x_Cn l D aC bs yX5_note cX5_note 3 none rm_X5_note [.ref a0, .int a1, .int a2] sz M none sz r := by
  unfold f_X5_note at h
  refine x_enter2 [(0, .ref a0), (1, .int a1), (2, .int a2)] me_X5_note (Nat.le_of_ble_eq_true rfl) rfl ?_
  refine x_iload_n dX5_note_0 1 rfl ?_
  refine x_bipush (v := (-5 : Int32)) dX5_note_1 (by decide) ?_
  refine x_icmp_eq 24 dX5_note_3 (by decide) (fun c1 => ?_) (fun c1 => ?_)
  · have h := (if_pos c1).symm.trans h
    obtain rfl := Option.some.inj h
    exact x_vret dX5_note_24 (Nat.le_of_ble_eq_true rfl) (Nat.le_of_ble_eq_true rfl)
  have h := (if_neg c1).symm.trans h
  refine x_aload_n dX5_note_6 0 rfl ?_
  refine x_iload_n dX5_note_7 1 rfl ?_
  obtain ⟨u2, eu2, h⟩ := x_bd h
  obtain ⟨p3, ep3, h⟩ := x_bd h
  refine x_callVI [.int a1] [] clX5 me_X5_indexOf w_ml_RX5_55 w_im_yX5_indexOf w_se_yX5_indexOf (Nat.le_of_ble_eq_true rfl) (Nat.le_of_ble_eq_true rfl) rfl (Nat.le_of_ble_eq_true rfl) (Nat.le_of_ble_eq_true rfl) (Nat.le_of_ble_eq_true rfl) dX5_note_8 eu2 (c_X5_indexOf l D aC bs sz F ep3) rfl ?_
  refine x_iconst (v := (-1 : Int32)) dX5_note_11 (by decide) ?_
  refine x_icmp_ne 24 dX5_note_12 (by decide) (fun c4 => ?_) (fun c4 => ?_)
  · have h := (if_neg c4).symm.trans h
    obtain rfl := Option.some.inj h
    exact x_vret dX5_note_24 (Nat.le_of_ble_eq_true rfl) (Nat.le_of_ble_eq_true rfl)
  have h := (if_pos c4).symm.trans h
  refine x_aload_n dX5_note_15 0 rfl ?_
  obtain ⟨v5, ev5, h⟩ := x_bd h
  refine x_getI clX5 w_fl_RX5_25 (by decide) dX5_note_16 ev5 ?_
  refine x_bipush (v := (120 : Int32)) dX5_note_19 (by decide) ?_
  refine x_icmp_lt 25 dX5_note_21 (by decide) (fun c6 => ?_) (fun c6 => ?_)
  · have h := (if_pos c6).symm.trans h
    refine x_aload_n dX5_note_25 0 rfl ?_
    obtain ⟨v7, ev7, h⟩ := x_bd h
    refine x_getR clX5 w_fl_RX5_18 (by decide) dX5_note_26 ev7 ?_
    refine x_aload_n dX5_note_29 0 rfl ?_
    obtain ⟨v8, ev8, h⟩ := x_bd h
    refine x_getI clX5 w_fl_RX5_25 (by decide) dX5_note_30 ev8 ?_
    refine x_iload_n dX5_note_33 1 rfl ?_
    obtain ⟨m9, em9, h⟩ := x_bd h
    refine x_iast dX5_note_34 em9 ?_
    refine x_aload_n dX5_note_35 0 rfl ?_
    obtain ⟨v10, ev10, h⟩ := x_bd h
    refine x_getR clX5 w_fl_RX5_22 (by decide) dX5_note_36 ev10 ?_
    refine x_aload_n dX5_note_39 0 rfl ?_
    obtain ⟨v11, ev11, h⟩ := x_bd h
    refine x_getI clX5 w_fl_RX5_25 (by decide) dX5_note_40 ev11 ?_
    refine x_iload_n dX5_note_43 2 rfl ?_
    obtain ⟨m12, em12, h⟩ := x_bd h
    refine x_iast dX5_note_44 em12 ?_
    refine x_aload_n dX5_note_45 0 rfl ?_
    refine x_dup dX5_note_46 rfl ?_
    obtain ⟨v13, ev13, h⟩ := x_bd h
    refine x_getI clX5 w_fl_RX5_25 (by decide) dX5_note_47 ev13 ?_
    refine x_iconst (v := (1 : Int32)) dX5_note_50 (by decide) ?_
    refine x_iadd dX5_note_51 ?_
    obtain ⟨m14, em14, h⟩ := x_bd h
    refine x_putV clX5 w_fl_RX5_25 (by decide) rfl rfl rfl dX5_note_52 em14 ?_
    obtain rfl := Option.some.inj h
    exact x_vret dX5_note_55 (Nat.le_of_ble_eq_true rfl) (Nat.le_of_ble_eq_true rfl)
  have h := (if_neg c6).symm.trans h
  obtain rfl := Option.some.inj h
  exact x_vret dX5_note_24 (Nat.le_of_ble_eq_true rfl) (Nat.le_of_ble_eq_true rfl)

-- SwappedIntervals$Shapes.explore(II)V
abbrev rm_X5_explore : Room := { frames := 3, cells := 0, slots := 0, locals := 69 }
theorem me_X5_explore : x_Me yX5_explore cX5_explore 4 none 2 := ⟨by decide +kernel, w_co_yX5_explore, w_in_SwappedIntervals_Shapes, by decide +kernel, by decide +kernel, by decide +kernel⟩
def b_X5_explore_13 (F : Nat) (a0 : Nat) (a2 : Int32)  (k13 : (Int32 × XM) → Option (XM)) (q : Int32 × XM) : Option (XM) := (x_gI q.2 a0 5 3).bind fun v4 => if v4 ≤ q.1 then some q.2 else if (120 : Int32) ≤ q.1 then some q.2 else (x_gR q.2 a0 5 1).bind fun v7 => (x_a32 .int q.2 v7 q.1).bind fun v8 => (x_ob q.2 a0 5).bind fun u9 => (f_X5_follow F a0 v8 a2 (0 : Int32) q.2).bind fun p10 => (x_gR p10.2 a0 5 2).bind fun v11 => (x_a32 .int p10.2 v11 q.1).bind fun v12 => (x_ob p10.2 a0 5).bind fun u13 => (f_X5_note F a0 p10.1 (v12 + (1 : Int32)) p10.2).bind fun p14 => (x_gR p14 a0 5 1).bind fun v15 => (x_a32 .int p14 v15 q.1).bind fun v16 => (x_ob p14 a0 5).bind fun u17 => (f_X5_follow F a0 v16 a2 (1 : Int32) p14).bind fun p18 => (x_gR p18.2 a0 5 2).bind fun v19 => (x_a32 .int p18.2 v19 q.1).bind fun v20 => (x_ob p18.2 a0 5).bind fun u21 => (f_X5_note F a0 p18.1 (v20 + (1 : Int32)) p18.2).bind fun p22 => k13 ((q.1 + (1 : Int32)), p22)
set_option maxHeartbeats 4000000 in
set_option maxRecDepth 100000 in
theorem lp_X5_explore_13 (l : Launch) (D : va_G) (aC : FieldType → ClassId) (bs : Nat) (sz : Nat) (F : Nat) (a0 : Nat) (a2 : Int32)   : ∀ (n : Nat) (b0 : Int32) (b1 : XM) (r : XM), x_it (b_X5_explore_13 F a0 a2 ) n (b0, b1) = some r → x_V l D aC bs yX5_explore cX5_explore 4 none rm_X5_explore (x_Z D aC bs none sz r rm_X5_explore) 13 [(0, .ref a0), (2, .int a2), (3, .int b0)] [] sz b1 0 0 := by
  suffices H : ∀ (n : Nat) (q : Int32 × XM) (r : XM), x_it (b_X5_explore_13 F a0 a2 ) n q = some r → x_V l D aC bs yX5_explore cX5_explore 4 none rm_X5_explore (x_Z D aC bs none sz r rm_X5_explore) 13 [(0, .ref a0), (2, .int a2), (3, .int q.1)] [] sz q.2 0 0 from fun n b0 b1 r h => H n (b0, b1) r h
  refine x_loop (P := fun (q : Int32 × XM) (r : XM) => x_V l D aC bs yX5_explore cX5_explore 4 none rm_X5_explore (x_Z D aC bs none sz r rm_X5_explore) 13 [(0, .ref a0), (2, .int a2), (3, .int q.1)] [] sz q.2 0 0) (fun k13 hk0 q r h => ?_)
  have hk13 : ∀ (b0 : Int32) (b1 : XM) (r : XM), k13 (b0, b1) = some r → x_V l D aC bs yX5_explore cX5_explore 4 none rm_X5_explore (x_Z D aC bs none sz r rm_X5_explore) 13 [(0, .ref a0), (2, .int a2), (3, .int b0)] [] sz b1 0 0 := fun b0 b1 r h => hk0 (b0, b1) r h
  unfold b_X5_explore_13 at h
  refine x_iload_n dX5_explore_13 2 rfl ?_
  refine x_aload_n dX5_explore_14 0 rfl ?_
  obtain ⟨v4, ev4, h⟩ := x_bd h
  refine x_getI clX5 w_fl_RX5_25 (by decide) dX5_explore_15 ev4 ?_
  refine x_icmp_ge 81 dX5_explore_18 (by decide) (fun c5 => ?_) (fun c5 => ?_)
  · have h := (if_pos c5).symm.trans h
    obtain rfl := Option.some.inj h
    exact x_vret dX5_explore_81 (Nat.le_of_ble_eq_true rfl) (Nat.le_of_ble_eq_true rfl)
  have h := (if_neg c5).symm.trans h
  refine x_iload_n dX5_explore_21 2 rfl ?_
  refine x_bipush (v := (120 : Int32)) dX5_explore_22 (by decide) ?_
  refine x_icmp_ge 81 dX5_explore_24 (by decide) (fun c6 => ?_) (fun c6 => ?_)
  · have h := (if_pos c6).symm.trans h
    obtain rfl := Option.some.inj h
    exact x_vret dX5_explore_81 (Nat.le_of_ble_eq_true rfl) (Nat.le_of_ble_eq_true rfl)
  have h := (if_neg c6).symm.trans h
  refine x_aload_n dX5_explore_27 0 rfl ?_
  refine x_aload_n dX5_explore_28 0 rfl ?_
  refine x_aload_n dX5_explore_29 0 rfl ?_
  obtain ⟨v7, ev7, h⟩ := x_bd h
  refine x_getR clX5 w_fl_RX5_18 (by decide) dX5_explore_30 ev7 ?_
  refine x_iload_n dX5_explore_33 2 rfl ?_
  obtain ⟨v8, ev8, h⟩ := x_bd h
  refine x_iald dX5_explore_34 ev8 ?_
  refine x_iload_n dX5_explore_35 1 rfl ?_
  refine x_iconst (v := (0 : Int32)) dX5_explore_36 (by decide) ?_
  obtain ⟨u9, eu9, h⟩ := x_bd h
  obtain ⟨p10, ep10, h⟩ := x_bd h
  refine x_callVI [.int v8, .int a2, .int (0 : Int32)] [.ref a0] clX5 me_X5_follow w_ml_RX5_51 w_im_yX5_follow w_se_yX5_follow (Nat.le_of_ble_eq_true rfl) (Nat.le_of_ble_eq_true rfl) rfl (Nat.le_of_ble_eq_true rfl) (Nat.le_of_ble_eq_true rfl) (Nat.le_of_ble_eq_true rfl) dX5_explore_37 eu9 (c_X5_follow l D aC bs sz F ep10) rfl ?_
  refine x_aload_n dX5_explore_40 0 rfl ?_
  obtain ⟨v11, ev11, h⟩ := x_bd h
  refine x_getR clX5 w_fl_RX5_22 (by decide) dX5_explore_41 ev11 ?_
  refine x_iload_n dX5_explore_44 2 rfl ?_
  obtain ⟨v12, ev12, h⟩ := x_bd h
  refine x_iald dX5_explore_45 ev12 ?_
  refine x_iconst (v := (1 : Int32)) dX5_explore_46 (by decide) ?_
  refine x_iadd dX5_explore_47 ?_
  obtain ⟨u13, eu13, h⟩ := x_bd h
  obtain ⟨p14, ep14, h⟩ := x_bd h
  refine x_callVV [.int p10.1, .int (v12 + (1 : Int32))] [] clX5 me_X5_note w_ml_RX5_47 w_im_yX5_note w_se_yX5_note (Nat.le_of_ble_eq_true rfl) (Nat.le_of_ble_eq_true rfl) rfl (Nat.le_of_ble_eq_true rfl) (Nat.le_of_ble_eq_true rfl) (Nat.le_of_ble_eq_true rfl) dX5_explore_48 eu13 (c_X5_note l D aC bs sz F ep14) rfl ?_
  refine x_aload_n dX5_explore_51 0 rfl ?_
  refine x_aload_n dX5_explore_52 0 rfl ?_
  refine x_aload_n dX5_explore_53 0 rfl ?_
  obtain ⟨v15, ev15, h⟩ := x_bd h
  refine x_getR clX5 w_fl_RX5_18 (by decide) dX5_explore_54 ev15 ?_
  refine x_iload_n dX5_explore_57 2 rfl ?_
  obtain ⟨v16, ev16, h⟩ := x_bd h
  refine x_iald dX5_explore_58 ev16 ?_
  refine x_iload_n dX5_explore_59 1 rfl ?_
  refine x_iconst (v := (1 : Int32)) dX5_explore_60 (by decide) ?_
  obtain ⟨u17, eu17, h⟩ := x_bd h
  obtain ⟨p18, ep18, h⟩ := x_bd h
  refine x_callVI [.int v16, .int a2, .int (1 : Int32)] [.ref a0] clX5 me_X5_follow w_ml_RX5_51 w_im_yX5_follow w_se_yX5_follow (Nat.le_of_ble_eq_true rfl) (Nat.le_of_ble_eq_true rfl) rfl (Nat.le_of_ble_eq_true rfl) (Nat.le_of_ble_eq_true rfl) (Nat.le_of_ble_eq_true rfl) dX5_explore_61 eu17 (c_X5_follow l D aC bs sz F ep18) rfl ?_
  refine x_aload_n dX5_explore_64 0 rfl ?_
  obtain ⟨v19, ev19, h⟩ := x_bd h
  refine x_getR clX5 w_fl_RX5_22 (by decide) dX5_explore_65 ev19 ?_
  refine x_iload_n dX5_explore_68 2 rfl ?_
  obtain ⟨v20, ev20, h⟩ := x_bd h
  refine x_iald dX5_explore_69 ev20 ?_
  refine x_iconst (v := (1 : Int32)) dX5_explore_70 (by decide) ?_
  refine x_iadd dX5_explore_71 ?_
  obtain ⟨u21, eu21, h⟩ := x_bd h
  obtain ⟨p22, ep22, h⟩ := x_bd h
  refine x_callVV [.int p18.1, .int (v20 + (1 : Int32))] [] clX5 me_X5_note w_ml_RX5_47 w_im_yX5_note w_se_yX5_note (Nat.le_of_ble_eq_true rfl) (Nat.le_of_ble_eq_true rfl) rfl (Nat.le_of_ble_eq_true rfl) (Nat.le_of_ble_eq_true rfl) (Nat.le_of_ble_eq_true rfl) dX5_explore_72 eu21 (c_X5_note l D aC bs sz F ep22) rfl ?_
  refine x_iinc (1 : Int32) 2 [(3, .int (q.1 + (1 : Int32))), (0, .ref a0), (2, .int a2)] dX5_explore_75 rfl (by decide) (by decide) rfl ?_
  refine x_goto 13 dX5_explore_78 (by decide) ?_
  exact x_sub [1, 2, 0] rfl (hk13 _ _ _ h)
def f_X5_explore (F : Nat) (a0 : Nat) (a1 : Int32) (a2 : Int32) (M : XM) : Option (XM) := (x_put M a0 5 3 (.int (0 : Int32))).bind fun m1 => (x_ob m1 a0 5).bind fun u2 => (f_X5_note F a0 a1 (0 : Int32) m1).bind fun p3 => x_it (b_X5_explore_13 F (a0) (a2)) F ((0 : Int32), p3)
set_option maxHeartbeats 4000000 in
set_option maxRecDepth 100000 in
theorem c_X5_explore (l : Launch) (D : va_G) (aC : FieldType → ClassId) (bs sz : Nat) (F : Nat) {a0 : Nat} {a1 : Int32} {a2 : Int32} {M : XM} {r : XM} (h : f_X5_explore F a0 a1 a2 M = some r) : x_Cn l D aC bs yX5_explore cX5_explore 4 none rm_X5_explore [.ref a0, .int a1, .int a2] sz M none sz r := by
  unfold f_X5_explore at h
  refine x_enter2 [(0, .ref a0), (1, .int a1), (2, .int a2)] me_X5_explore (Nat.le_of_ble_eq_true rfl) rfl ?_
  refine x_aload_n dX5_explore_0 0 rfl ?_
  refine x_iconst (v := (0 : Int32)) dX5_explore_1 (by decide) ?_
  obtain ⟨m1, em1, h⟩ := x_bd h
  refine x_putV clX5 w_fl_RX5_25 (by decide) rfl rfl rfl dX5_explore_2 em1 ?_
  refine x_aload_n dX5_explore_5 0 rfl ?_
  refine x_iload_n dX5_explore_6 1 rfl ?_
  refine x_iconst (v := (0 : Int32)) dX5_explore_7 (by decide) ?_
  obtain ⟨u2, eu2, h⟩ := x_bd h
  obtain ⟨p3, ep3, h⟩ := x_bd h
  refine x_callVV [.int a1, .int (0 : Int32)] [] clX5 me_X5_note w_ml_RX5_47 w_im_yX5_note w_se_yX5_note (Nat.le_of_ble_eq_true rfl) (Nat.le_of_ble_eq_true rfl) rfl (Nat.le_of_ble_eq_true rfl) (Nat.le_of_ble_eq_true rfl) (Nat.le_of_ble_eq_true rfl) dX5_explore_8 eu2 (c_X5_note l D aC bs sz F ep3) rfl ?_
  refine x_iconst (v := (0 : Int32)) dX5_explore_11 (by decide) ?_
  refine x_istore_n 3 [(3, .int (0 : Int32)), (0, .ref a0), (1, .int a1), (2, .int a2)] dX5_explore_12 rfl (by decide) rfl ?_
  exact x_sub [1, 3, 0] rfl (lp_X5_explore_13 l D aC bs sz F (a0) (a2)  F _ _ _ h)

-- SwappedIntervals$Shapes.stepsTo(I)I
abbrev rm_X5_stepsTo : Room := { frames := 1, cells := 0, slots := 0, locals := 22 }
theorem me_X5_stepsTo : x_Me yX5_stepsTo cX5_stepsTo 3 (some .int) 1 := ⟨by decide +kernel, w_co_yX5_stepsTo, w_in_SwappedIntervals_Shapes, by decide +kernel, by decide +kernel, by decide +kernel⟩
def f_X5_stepsTo (F : Nat) (a0 : Nat) (a1 : Int32) (M : XM) : Option (Int32) := (x_ob M a0 5).bind fun u1 => (f_X5_indexOf F a0 a1 M).bind fun p2 => if p2 = (-1 : Int32) then some (-5 : Int32) else (x_gR M a0 5 2).bind fun v4 => (x_a32 .int M v4 p2).bind fun v5 => some v5
set_option maxHeartbeats 4000000 in
set_option maxRecDepth 100000 in
theorem c_X5_stepsTo (l : Launch) (D : va_G) (aC : FieldType → ClassId) (bs sz : Nat) (F : Nat) {a0 : Nat} {a1 : Int32} {M : XM} {r : Int32} (h : f_X5_stepsTo F a0 a1 M = some r) : x_Cn l D aC bs yX5_stepsTo cX5_stepsTo 3 (some .int) rm_X5_stepsTo [.ref a0, .int a1] sz M (some (.int r)) sz M := by
  unfold f_X5_stepsTo at h
  refine x_enter2 [(0, .ref a0), (1, .int a1)] me_X5_stepsTo (Nat.le_of_ble_eq_true rfl) rfl ?_
  refine x_aload_n dX5_stepsTo_0 0 rfl ?_
  refine x_iload_n dX5_stepsTo_1 1 rfl ?_
  obtain ⟨u1, eu1, h⟩ := x_bd h
  obtain ⟨p2, ep2, h⟩ := x_bd h
  refine x_callVI [.int a1] [] clX5 me_X5_indexOf w_ml_RX5_55 w_im_yX5_indexOf w_se_yX5_indexOf (Nat.le_of_ble_eq_true rfl) (Nat.le_of_ble_eq_true rfl) rfl (Nat.le_of_ble_eq_true rfl) (Nat.le_of_ble_eq_true rfl) (Nat.le_of_ble_eq_true rfl) dX5_stepsTo_2 eu1 (c_X5_indexOf l D aC bs sz F ep2) rfl ?_
  refine x_istore_n 2 [(2, .int p2), (0, .ref a0), (1, .int a1)] dX5_stepsTo_5 rfl (by decide) rfl ?_
  refine x_iload_n dX5_stepsTo_6 0 rfl ?_
  refine x_iconst (v := (-1 : Int32)) dX5_stepsTo_7 (by decide) ?_
  refine x_icmp_ne 16 dX5_stepsTo_8 (by decide) (fun c3 => ?_) (fun c3 => ?_)
  · have h := (if_neg c3).symm.trans h
    refine x_aload_n dX5_stepsTo_16 1 rfl ?_
    obtain ⟨v4, ev4, h⟩ := x_bd h
    refine x_getR clX5 w_fl_RX5_22 (by decide) dX5_stepsTo_17 ev4 ?_
    refine x_iload_n dX5_stepsTo_20 0 rfl ?_
    obtain ⟨v5, ev5, h⟩ := x_bd h
    refine x_iald dX5_stepsTo_21 ev5 ?_
    obtain rfl := Option.some.inj h
    exact x_iret dX5_stepsTo_22 (Nat.le_of_ble_eq_true rfl) (Nat.le_of_ble_eq_true rfl)
  have h := (if_pos c3).symm.trans h
  refine x_bipush (v := (-5 : Int32)) dX5_stepsTo_11 (by decide) ?_
  refine x_goto 22 dX5_stepsTo_13 (by decide) ?_
  obtain rfl := Option.some.inj h
  exact x_iret dX5_stepsTo_22 (Nat.le_of_ble_eq_true rfl) (Nat.le_of_ble_eq_true rfl)

-- SwappedIntervals$Shapes.rankOf(I)I
abbrev rm_X5_rankOf : Room := { frames := 0, cells := 0, slots := 0, locals := 0 }
theorem me_X5_rankOf : x_Me yX5_rankOf cX5_rankOf 4 (some .int) 1 := ⟨by decide +kernel, w_co_yX5_rankOf, w_in_SwappedIntervals_Shapes, by decide +kernel, by decide +kernel, by decide +kernel⟩
def b_X5_rankOf_4 (F : Nat) (a0 : Nat) (a1 : Int32) (M : XM)  (k4 : (Int32 × Int32) → Option (Int32)) (q : Int32 × Int32) : Option (Int32) := (x_gI M a0 5 3).bind fun v1 => if v1 ≤ q.2 then some q.1 else (x_gR M a0 5 1).bind fun v3 => (x_a32 .int M v3 q.2).bind fun v4 => if a1 ≤ v4 then k4 (q.1, (q.2 + (1 : Int32))) else k4 ((q.1 + (1 : Int32)), (q.2 + (1 : Int32)))
set_option maxHeartbeats 4000000 in
set_option maxRecDepth 100000 in
theorem lp_X5_rankOf_4 (l : Launch) (D : va_G) (aC : FieldType → ClassId) (bs : Nat) (sz : Nat) (F : Nat) (a0 : Nat) (a1 : Int32) (M : XM)   : ∀ (n : Nat) (b0 : Int32) (b1 : Int32) (r : Int32), x_it (b_X5_rankOf_4 F a0 a1 M ) n (b0, b1) = some r → x_V l D aC bs yX5_rankOf cX5_rankOf 4 (some .int) rm_X5_rankOf (x_Z D aC bs (some (.int r)) sz M rm_X5_rankOf) 4 [(0, .ref a0), (1, .int a1), (2, .int b0), (3, .int b1)] [] sz M 0 0 := by
  suffices H : ∀ (n : Nat) (q : Int32 × Int32) (r : Int32), x_it (b_X5_rankOf_4 F a0 a1 M ) n q = some r → x_V l D aC bs yX5_rankOf cX5_rankOf 4 (some .int) rm_X5_rankOf (x_Z D aC bs (some (.int r)) sz M rm_X5_rankOf) 4 [(0, .ref a0), (1, .int a1), (2, .int q.1), (3, .int q.2)] [] sz M 0 0 from fun n b0 b1 r h => H n (b0, b1) r h
  refine x_loop (P := fun (q : Int32 × Int32) (r : Int32) => x_V l D aC bs yX5_rankOf cX5_rankOf 4 (some .int) rm_X5_rankOf (x_Z D aC bs (some (.int r)) sz M rm_X5_rankOf) 4 [(0, .ref a0), (1, .int a1), (2, .int q.1), (3, .int q.2)] [] sz M 0 0) (fun k4 hk0 q r h => ?_)
  have hk4 : ∀ (b0 : Int32) (b1 : Int32) (r : Int32), k4 (b0, b1) = some r → x_V l D aC bs yX5_rankOf cX5_rankOf 4 (some .int) rm_X5_rankOf (x_Z D aC bs (some (.int r)) sz M rm_X5_rankOf) 4 [(0, .ref a0), (1, .int a1), (2, .int b0), (3, .int b1)] [] sz M 0 0 := fun b0 b1 r h => hk0 (b0, b1) r h
  unfold b_X5_rankOf_4 at h
  refine x_iload_n dX5_rankOf_4 3 rfl ?_
  refine x_aload_n dX5_rankOf_5 0 rfl ?_
  obtain ⟨v1, ev1, h⟩ := x_bd h
  refine x_getI clX5 w_fl_RX5_25 (by decide) dX5_rankOf_6 ev1 ?_
  refine x_icmp_ge 31 dX5_rankOf_9 (by decide) (fun c2 => ?_) (fun c2 => ?_)
  · have h := (if_pos c2).symm.trans h
    refine x_iload_n dX5_rankOf_31 2 rfl ?_
    obtain rfl := Option.some.inj h
    exact x_iret dX5_rankOf_32 (Nat.le_of_ble_eq_true rfl) (Nat.le_of_ble_eq_true rfl)
  have h := (if_neg c2).symm.trans h
  refine x_aload_n dX5_rankOf_12 0 rfl ?_
  obtain ⟨v3, ev3, h⟩ := x_bd h
  refine x_getR clX5 w_fl_RX5_18 (by decide) dX5_rankOf_13 ev3 ?_
  refine x_iload_n dX5_rankOf_16 3 rfl ?_
  obtain ⟨v4, ev4, h⟩ := x_bd h
  refine x_iald dX5_rankOf_17 ev4 ?_
  refine x_iload_n dX5_rankOf_18 1 rfl ?_
  refine x_icmp_ge 25 dX5_rankOf_19 (by decide) (fun c5 => ?_) (fun c5 => ?_)
  · have h := (if_pos c5).symm.trans h
    refine x_iinc (1 : Int32) 3 [(3, .int (q.2 + (1 : Int32))), (0, .ref a0), (1, .int a1), (2, .int q.1)] dX5_rankOf_25 rfl (by decide) (by decide) rfl ?_
    refine x_goto 4 dX5_rankOf_28 (by decide) ?_
    exact x_sub [1, 2, 3, 0] rfl (hk4 _ _ _ h)
  have h := (if_neg c5).symm.trans h
  refine x_iinc (1 : Int32) 2 [(2, .int (q.1 + (1 : Int32))), (0, .ref a0), (1, .int a1), (3, .int q.2)] dX5_rankOf_22 rfl (by decide) (by decide) rfl ?_
  refine x_iinc (1 : Int32) 3 [(3, .int (q.2 + (1 : Int32))), (2, .int (q.1 + (1 : Int32))), (0, .ref a0), (1, .int a1)] dX5_rankOf_25 rfl (by decide) (by decide) rfl ?_
  refine x_goto 4 dX5_rankOf_28 (by decide) ?_
  exact x_sub [2, 3, 1, 0] rfl (hk4 _ _ _ h)
def f_X5_rankOf (F : Nat) (a0 : Nat) (a1 : Int32) (M : XM) : Option (Int32) := x_it (b_X5_rankOf_4 F (a0) (a1) M) F ((0 : Int32), (0 : Int32))
set_option maxHeartbeats 4000000 in
set_option maxRecDepth 100000 in
theorem c_X5_rankOf (l : Launch) (D : va_G) (aC : FieldType → ClassId) (bs sz : Nat) (F : Nat) {a0 : Nat} {a1 : Int32} {M : XM} {r : Int32} (h : f_X5_rankOf F a0 a1 M = some r) : x_Cn l D aC bs yX5_rankOf cX5_rankOf 4 (some .int) rm_X5_rankOf [.ref a0, .int a1] sz M (some (.int r)) sz M := by
  unfold f_X5_rankOf at h
  refine x_enter2 [(0, .ref a0), (1, .int a1)] me_X5_rankOf (Nat.le_of_ble_eq_true rfl) rfl ?_
  refine x_iconst (v := (0 : Int32)) dX5_rankOf_0 (by decide) ?_
  refine x_istore_n 2 [(2, .int (0 : Int32)), (0, .ref a0), (1, .int a1)] dX5_rankOf_1 rfl (by decide) rfl ?_
  refine x_iconst (v := (0 : Int32)) dX5_rankOf_2 (by decide) ?_
  refine x_istore_n 3 [(3, .int (0 : Int32)), (2, .int (0 : Int32)), (0, .ref a0), (1, .int a1)] dX5_rankOf_3 rfl (by decide) rfl ?_
  exact x_sub [2, 3, 1, 0] rfl (lp_X5_rankOf_4 l D aC bs sz F (a0) (a1) M  F _ _ _ h)

-- SwappedIntervals$Shapes.codeOfRank(I)I
abbrev rm_X5_codeOfRank : Room := { frames := 1, cells := 0, slots := 0, locals := 23 }
theorem me_X5_codeOfRank : x_Me yX5_codeOfRank cX5_codeOfRank 3 (some .int) 1 := ⟨by decide +kernel, w_co_yX5_codeOfRank, w_in_SwappedIntervals_Shapes, by decide +kernel, by decide +kernel, by decide +kernel⟩
def b_X5_codeOfRank_2 (F : Nat) (a0 : Nat) (a1 : Int32) (M : XM)  (k2 : Int32 → Option (Int32)) (q : Int32) : Option (Int32) := (x_gI M a0 5 3).bind fun v1 => if v1 ≤ q then some (-5 : Int32) else (x_gR M a0 5 1).bind fun v3 => (x_a32 .int M v3 q).bind fun v4 => (x_ob M a0 5).bind fun u5 => (f_X5_rankOf F a0 v4 M).bind fun p6 => if p6 = a1 then (x_gR M a0 5 1).bind fun v8 => (x_a32 .int M v8 q).bind fun v9 => some v9 else k2 (q + (1 : Int32))
set_option maxHeartbeats 4000000 in
set_option maxRecDepth 100000 in
theorem lp_X5_codeOfRank_2 (l : Launch) (D : va_G) (aC : FieldType → ClassId) (bs : Nat) (sz : Nat) (F : Nat) (a0 : Nat) (a1 : Int32) (M : XM)   : ∀ (n : Nat) (b0 : Int32) (r : Int32), x_it (b_X5_codeOfRank_2 F a0 a1 M ) n b0 = some r → x_V l D aC bs yX5_codeOfRank cX5_codeOfRank 3 (some .int) rm_X5_codeOfRank (x_Z D aC bs (some (.int r)) sz M rm_X5_codeOfRank) 2 [(0, .ref a0), (1, .int a1), (2, .int b0)] [] sz M 0 0 := by
  suffices H : ∀ (n : Nat) (q : Int32) (r : Int32), x_it (b_X5_codeOfRank_2 F a0 a1 M ) n q = some r → x_V l D aC bs yX5_codeOfRank cX5_codeOfRank 3 (some .int) rm_X5_codeOfRank (x_Z D aC bs (some (.int r)) sz M rm_X5_codeOfRank) 2 [(0, .ref a0), (1, .int a1), (2, .int q)] [] sz M 0 0 from fun n b0 r h => H n b0 r h
  refine x_loop (P := fun (q : Int32) (r : Int32) => x_V l D aC bs yX5_codeOfRank cX5_codeOfRank 3 (some .int) rm_X5_codeOfRank (x_Z D aC bs (some (.int r)) sz M rm_X5_codeOfRank) 2 [(0, .ref a0), (1, .int a1), (2, .int q)] [] sz M 0 0) (fun k2 hk0 q r h => ?_)
  have hk2 : ∀ (b0 : Int32) (r : Int32), k2 b0 = some r → x_V l D aC bs yX5_codeOfRank cX5_codeOfRank 3 (some .int) rm_X5_codeOfRank (x_Z D aC bs (some (.int r)) sz M rm_X5_codeOfRank) 2 [(0, .ref a0), (1, .int a1), (2, .int b0)] [] sz M 0 0 := fun b0 r h => hk0 b0 r h
  unfold b_X5_codeOfRank_2 at h
  refine x_iload_n dX5_codeOfRank_2 2 rfl ?_
  refine x_aload_n dX5_codeOfRank_3 0 rfl ?_
  obtain ⟨v1, ev1, h⟩ := x_bd h
  refine x_getI clX5 w_fl_RX5_25 (by decide) dX5_codeOfRank_4 ev1 ?_
  refine x_icmp_ge 37 dX5_codeOfRank_7 (by decide) (fun c2 => ?_) (fun c2 => ?_)
  · have h := (if_pos c2).symm.trans h
    refine x_bipush (v := (-5 : Int32)) dX5_codeOfRank_37 (by decide) ?_
    obtain rfl := Option.some.inj h
    exact x_iret dX5_codeOfRank_39 (Nat.le_of_ble_eq_true rfl) (Nat.le_of_ble_eq_true rfl)
  have h := (if_neg c2).symm.trans h
  refine x_aload_n dX5_codeOfRank_10 0 rfl ?_
  refine x_aload_n dX5_codeOfRank_11 0 rfl ?_
  obtain ⟨v3, ev3, h⟩ := x_bd h
  refine x_getR clX5 w_fl_RX5_18 (by decide) dX5_codeOfRank_12 ev3 ?_
  refine x_iload_n dX5_codeOfRank_15 2 rfl ?_
  obtain ⟨v4, ev4, h⟩ := x_bd h
  refine x_iald dX5_codeOfRank_16 ev4 ?_
  obtain ⟨u5, eu5, h⟩ := x_bd h
  obtain ⟨p6, ep6, h⟩ := x_bd h
  refine x_callVI [.int v4] [] clX5 me_X5_rankOf w_ml_RX5_59 w_im_yX5_rankOf w_se_yX5_rankOf (Nat.le_of_ble_eq_true rfl) (Nat.le_of_ble_eq_true rfl) rfl (Nat.le_of_ble_eq_true rfl) (Nat.le_of_ble_eq_true rfl) (Nat.le_of_ble_eq_true rfl) dX5_codeOfRank_17 eu5 (c_X5_rankOf l D aC bs sz F ep6) rfl ?_
  refine x_iload_n dX5_codeOfRank_20 1 rfl ?_
  refine x_icmp_ne 31 dX5_codeOfRank_21 (by decide) (fun c7 => ?_) (fun c7 => ?_)
  · have h := (if_neg c7).symm.trans h
    refine x_iinc (1 : Int32) 2 [(2, .int (q + (1 : Int32))), (0, .ref a0), (1, .int a1)] dX5_codeOfRank_31 rfl (by decide) (by decide) rfl ?_
    refine x_goto 2 dX5_codeOfRank_34 (by decide) ?_
    exact x_sub [1, 2, 0] rfl (hk2 _ _ h)
  have h := (if_pos c7).symm.trans h
  refine x_aload_n dX5_codeOfRank_24 0 rfl ?_
  obtain ⟨v8, ev8, h⟩ := x_bd h
  refine x_getR clX5 w_fl_RX5_18 (by decide) dX5_codeOfRank_25 ev8 ?_
  refine x_iload_n dX5_codeOfRank_28 2 rfl ?_
  obtain ⟨v9, ev9, h⟩ := x_bd h
  refine x_iald dX5_codeOfRank_29 ev9 ?_
  obtain rfl := Option.some.inj h
  exact x_iret dX5_codeOfRank_30 (Nat.le_of_ble_eq_true rfl) (Nat.le_of_ble_eq_true rfl)
def f_X5_codeOfRank (F : Nat) (a0 : Nat) (a1 : Int32) (M : XM) : Option (Int32) := x_it (b_X5_codeOfRank_2 F (a0) (a1) M) F (0 : Int32)
set_option maxHeartbeats 4000000 in
set_option maxRecDepth 100000 in
theorem c_X5_codeOfRank (l : Launch) (D : va_G) (aC : FieldType → ClassId) (bs sz : Nat) (F : Nat) {a0 : Nat} {a1 : Int32} {M : XM} {r : Int32} (h : f_X5_codeOfRank F a0 a1 M = some r) : x_Cn l D aC bs yX5_codeOfRank cX5_codeOfRank 3 (some .int) rm_X5_codeOfRank [.ref a0, .int a1] sz M (some (.int r)) sz M := by
  unfold f_X5_codeOfRank at h
  refine x_enter2 [(0, .ref a0), (1, .int a1)] me_X5_codeOfRank (Nat.le_of_ble_eq_true rfl) rfl ?_
  refine x_iconst (v := (0 : Int32)) dX5_codeOfRank_0 (by decide) ?_
  refine x_istore_n 2 [(2, .int (0 : Int32)), (0, .ref a0), (1, .int a1)] dX5_codeOfRank_1 rfl (by decide) rfl ?_
  exact x_sub [1, 2, 0] rfl (lp_X5_codeOfRank_2 l D aC bs sz F (a0) (a1) M  F _ _ h)

-- SwappedIntervals$Tape.<init>()V
abbrev rm_X6_init : Room := { frames := 1, cells := 1, slots := 60, locals := 20 }
abbrev mc_X6_init : Nat := 1
theorem me_X6_init : x_Me yX6_init cX6_init 1 none 0 := ⟨by decide +kernel, w_co_yX6_init, w_in_SwappedIntervals_Tape, by decide +kernel, by decide +kernel, by decide +kernel⟩
def f_X6_init (a0 : Nat) (sz : Nat) (M : XM) : Option (XM) := (x_put M a0 6 0 (.int (-1 : Int32))).bind fun m1 => (x_put m1 a0 6 1 (.int (0 : Int32))).bind fun m2 => (x_nw m2 sz (.inl (.long, 60, .inr (.inl (fun _ => 0))))).bind fun m3 => (x_put m3 a0 6 2 (.ref sz)).bind fun m4 => some m4
set_option maxHeartbeats 4000000 in
set_option maxRecDepth 100000 in
theorem c_X6_init (l : Launch) (D : va_G) (aC : FieldType → ClassId) (bs sz : Nat) {a0 : Nat} {M : XM} {r : XM} (h : f_X6_init a0 sz M = some r) : x_Cn l D aC bs yX6_init cX6_init 1 none rm_X6_init [.ref a0] sz M none (sz + mc_X6_init) r := by
  unfold f_X6_init at h
  refine x_enter2 [(0, .ref a0)] me_X6_init (Nat.le_of_ble_eq_true rfl) rfl ?_
  refine x_aload_n dX6_init_0 0 rfl ?_
  refine x_objInit w_ml_RX6_3 w_im_Lib_objectInit w_co_Lib_objectInit (Nat.le_of_ble_eq_true rfl) (Nat.le_of_ble_eq_true rfl) dX6_init_1 ?_
  refine x_aload_n dX6_init_4 0 rfl ?_
  refine x_iconst (v := (-1 : Int32)) dX6_init_5 (by decide) ?_
  obtain ⟨m1, em1, h⟩ := x_bd h
  refine x_putV clX6 w_fl_RX6_9 (by decide) rfl rfl rfl dX6_init_6 em1 ?_
  refine x_aload_n dX6_init_9 0 rfl ?_
  refine x_iconst (v := (0 : Int32)) dX6_init_10 (by decide) ?_
  obtain ⟨m2, em2, h⟩ := x_bd h
  refine x_putV clX6 w_fl_RX6_15 (by decide) rfl rfl rfl dX6_init_11 em2 ?_
  refine x_aload_n dX6_init_14 0 rfl ?_
  refine x_bipush (v := (60 : Int32)) dX6_init_15 (by decide) ?_
  obtain ⟨m3, em3, h⟩ := x_bd h
  refine x_newL 60 60 w_ac_long (by decide) (by decide) (Nat.le_refl _) (by decide) (Nat.le_of_ble_eq_true rfl) (Nat.le_of_ble_eq_true rfl) dX6_init_17 ?_
  refine x_castM (Option.some.inj em3) ?_
  obtain ⟨m4, em4, h⟩ := x_bd h
  refine x_putF clX6 w_fl_RX6_18 (by decide) rfl rfl rfl rfl rfl dX6_init_19 em4 ?_
  obtain rfl := Option.some.inj h
  exact x_vret dX6_init_22 (Nat.le_of_ble_eq_true rfl) (Nat.le_of_ble_eq_true rfl)

-- java/util/Arrays.fill([JJ)V
abbrev rm_J7_fill_d0a16 : Room := { frames := 0, cells := 0, slots := 0, locals := 0 }
theorem me_J7_fill_d0a16 : x_Me yJ7_fill_d0a16 cJ7_fill_d0a16 5 none 2 := ⟨by decide +kernel, w_co_yJ7_fill_d0a16, w_in_java_util_Arrays, by decide +kernel, by decide +kernel, by decide +kernel⟩
def b_J7_fill_d0a16_6 (F : Nat) (a0 : Nat) (a1 : Int64) (a4 : Int32)  (k6 : (Int32 × XM) → Option (XM)) (q : Int32 × XM) : Option (XM) := if a4 ≤ q.1 then some q.2 else (x_w64 q.2 a0 q.1 a1).bind fun m3 => k6 ((q.1 + (1 : Int32)), m3)
set_option maxHeartbeats 4000000 in
set_option maxRecDepth 100000 in
theorem lp_J7_fill_d0a16_6 (l : Launch) (D : va_G) (aC : FieldType → ClassId) (bs : Nat) (sz : Nat) (F : Nat) (a0 : Nat) (a1 : Int64) (a4 : Int32)   : ∀ (n : Nat) (b0 : Int32) (b1 : XM) (r : XM), x_it (b_J7_fill_d0a16_6 F a0 a1 a4 ) n (b0, b1) = some r → x_V l D aC bs yJ7_fill_d0a16 cJ7_fill_d0a16 5 none rm_J7_fill_d0a16 (x_Z D aC bs none sz r rm_J7_fill_d0a16) 6 [(0, .ref a0), (1, .long a1), (3, .int b0), (4, .int a4)] [] sz b1 0 0 := by
  suffices H : ∀ (n : Nat) (q : Int32 × XM) (r : XM), x_it (b_J7_fill_d0a16_6 F a0 a1 a4 ) n q = some r → x_V l D aC bs yJ7_fill_d0a16 cJ7_fill_d0a16 5 none rm_J7_fill_d0a16 (x_Z D aC bs none sz r rm_J7_fill_d0a16) 6 [(0, .ref a0), (1, .long a1), (3, .int q.1), (4, .int a4)] [] sz q.2 0 0 from fun n b0 b1 r h => H n (b0, b1) r h
  refine x_loop (P := fun (q : Int32 × XM) (r : XM) => x_V l D aC bs yJ7_fill_d0a16 cJ7_fill_d0a16 5 none rm_J7_fill_d0a16 (x_Z D aC bs none sz r rm_J7_fill_d0a16) 6 [(0, .ref a0), (1, .long a1), (3, .int q.1), (4, .int a4)] [] sz q.2 0 0) (fun k6 hk0 q r h => ?_)
  have hk6 : ∀ (b0 : Int32) (b1 : XM) (r : XM), k6 (b0, b1) = some r → x_V l D aC bs yJ7_fill_d0a16 cJ7_fill_d0a16 5 none rm_J7_fill_d0a16 (x_Z D aC bs none sz r rm_J7_fill_d0a16) 6 [(0, .ref a0), (1, .long a1), (3, .int b0), (4, .int a4)] [] sz b1 0 0 := fun b0 b1 r h => hk0 (b0, b1) r h
  unfold b_J7_fill_d0a16_6 at h
  refine x_iload_n dJ7_fill_d0a16_6 2 rfl ?_
  refine x_iload dJ7_fill_d0a16_7 3 rfl ?_
  refine x_icmp_ge 22 dJ7_fill_d0a16_9 (by decide) (fun c2 => ?_) (fun c2 => ?_)
  · have h := (if_pos c2).symm.trans h
    obtain rfl := Option.some.inj h
    exact x_vret dJ7_fill_d0a16_22 (Nat.le_of_ble_eq_true rfl) (Nat.le_of_ble_eq_true rfl)
  have h := (if_neg c2).symm.trans h
  refine x_aload_n dJ7_fill_d0a16_12 0 rfl ?_
  refine x_iload_n dJ7_fill_d0a16_13 2 rfl ?_
  refine x_lload_n dJ7_fill_d0a16_14 1 rfl ?_
  obtain ⟨m3, em3, h⟩ := x_bd h
  refine x_last dJ7_fill_d0a16_15 em3 ?_
  refine x_iinc (1 : Int32) 2 [(3, .int (q.1 + (1 : Int32))), (0, .ref a0), (1, .long a1), (4, .int a4)] dJ7_fill_d0a16_16 rfl (by decide) (by decide) rfl ?_
  refine x_goto 6 dJ7_fill_d0a16_19 (by decide) ?_
  exact x_sub [1, 2, 0, 3] rfl (hk6 _ _ _ h)
def f_J7_fill_d0a16 (F : Nat) (a0 : Nat) (a1 : Int64) (M : XM) : Option (XM) := (x_len .long M a0).bind fun v1 => x_it (b_J7_fill_d0a16_6 F (a0) (a1) (v1)) F ((0 : Int32), M)
set_option maxHeartbeats 4000000 in
set_option maxRecDepth 100000 in
theorem c_J7_fill_d0a16 (l : Launch) (D : va_G) (aC : FieldType → ClassId) (bs sz : Nat) (F : Nat) {a0 : Nat} {a1 : Int64} {M : XM} {r : XM} (h : f_J7_fill_d0a16 F a0 a1 M = some r) : x_Cn l D aC bs yJ7_fill_d0a16 cJ7_fill_d0a16 5 none rm_J7_fill_d0a16 [.ref a0, .long a1] sz M none sz r := by
  unfold f_J7_fill_d0a16 at h
  refine x_enter2 [(0, .ref a0), (1, .long a1)] me_J7_fill_d0a16 (Nat.le_of_ble_eq_true rfl) rfl ?_
  refine x_iconst (v := (0 : Int32)) dJ7_fill_d0a16_0 (by decide) ?_
  refine x_istore_n 3 [(3, .int (0 : Int32)), (0, .ref a0), (1, .long a1)] dJ7_fill_d0a16_1 rfl (by decide) rfl ?_
  refine x_aload_n dJ7_fill_d0a16_2 1 rfl ?_
  obtain ⟨v1, ev1, h⟩ := x_bd h
  refine x_alen (t0 := 1) rfl dJ7_fill_d0a16_3 ev1 ?_
  refine x_istore [(4, .int v1), (3, .int (0 : Int32)), (0, .ref a0), (1, .long a1)] dJ7_fill_d0a16_4 (by decide) rfl ?_
  exact x_sub [2, 3, 1, 0] rfl (lp_J7_fill_d0a16_6 l D aC bs sz F (a0) (a1) (v1)  F _ _ _ h)

-- SwappedIntervals$Tape.become(II)V
abbrev rm_X6_become : Room := { frames := 1, cells := 0, slots := 0, locals := 24 }
theorem me_X6_become : x_Me yX6_become cX6_become 3 none 2 := ⟨by decide +kernel, w_co_yX6_become, w_in_SwappedIntervals_Tape, by decide +kernel, by decide +kernel, by decide +kernel⟩
def f_X6_become (F : Nat) (a0 : Nat) (a1 : Int32) (a2 : Int32) (M : XM) : Option (XM) := (x_put M a0 6 0 (.int a1)).bind fun m1 => (x_put m1 a0 6 1 (.int (if (0 : Int32) < (if (60 : Int32) < a2 then (60 : Int32) else a2) then (if (60 : Int32) < a2 then (60 : Int32) else a2) else (0 : Int32)))).bind fun m2 => (x_gR m2 a0 6 2).bind fun v3 => (f_J7_fill_d0a16 F v3 (0 : Int64) m2).bind fun p4 => some p4
set_option maxHeartbeats 4000000 in
set_option maxRecDepth 100000 in
theorem c_X6_become (l : Launch) (D : va_G) (aC : FieldType → ClassId) (bs sz : Nat) (F : Nat) {a0 : Nat} {a1 : Int32} {a2 : Int32} {M : XM} {r : XM} (h : f_X6_become F a0 a1 a2 M = some r) : x_Cn l D aC bs yX6_become cX6_become 3 none rm_X6_become [.ref a0, .int a1, .int a2] sz M none sz r := by
  unfold f_X6_become at h
  refine x_enter2 [(0, .ref a0), (1, .int a1), (2, .int a2)] me_X6_become (Nat.le_of_ble_eq_true rfl) rfl ?_
  refine x_aload_n dX6_become_0 0 rfl ?_
  refine x_iload_n dX6_become_1 1 rfl ?_
  obtain ⟨m1, em1, h⟩ := x_bd h
  refine x_putV clX6 w_fl_RX6_9 (by decide) rfl rfl rfl dX6_become_2 em1 ?_
  refine x_aload_n dX6_become_5 0 rfl ?_
  refine x_iconst (v := (0 : Int32)) dX6_become_6 (by decide) ?_
  refine x_iload_n dX6_become_7 2 rfl ?_
  refine x_bipush (v := (60 : Int32)) dX6_become_8 (by decide) ?_
  refine x_mmin w_ml_RX6_22 w_st_Lib_Math_min_name w_in_java_lang_Math w_co_Lib_Math_min_name (Nat.le_of_ble_eq_true rfl) (Nat.le_of_ble_eq_true rfl) (Nat.le_of_ble_eq_true rfl) (Nat.le_of_ble_eq_true rfl) dX6_become_10 ?_
  refine x_mmax w_ml_RX6_28 w_st_Lib_Math_max_name w_in_java_lang_Math w_co_Lib_Math_max_name (Nat.le_of_ble_eq_true rfl) (Nat.le_of_ble_eq_true rfl) (Nat.le_of_ble_eq_true rfl) (Nat.le_of_ble_eq_true rfl) dX6_become_13 ?_
  obtain ⟨m2, em2, h⟩ := x_bd h
  refine x_putV clX6 w_fl_RX6_15 (by decide) rfl rfl rfl dX6_become_16 em2 ?_
  refine x_aload_n dX6_become_19 0 rfl ?_
  obtain ⟨v3, ev3, h⟩ := x_bd h
  refine x_getR clX6 w_fl_RX6_18 (by decide) dX6_become_20 ev3 ?_
  refine x_lconst (v := (0 : Int64)) dX6_become_23 (by decide) ?_
  obtain ⟨p4, ep4, h⟩ := x_bd h
  refine x_callSV [.ref v3, .long (0 : Int64)] [] me_J7_fill_d0a16 w_ml_RX6_31 w_st_yJ7_fill_d0a16 (Nat.le_of_ble_eq_true rfl) (Nat.le_of_ble_eq_true rfl) rfl (Nat.le_of_ble_eq_true rfl) (Nat.le_of_ble_eq_true rfl) (Nat.le_of_ble_eq_true rfl) dX6_become_24 (c_J7_fill_d0a16 l D aC bs sz F ep4) rfl ?_
  obtain rfl := Option.some.inj h
  exact x_vret dX6_become_27 (Nat.le_of_ble_eq_true rfl) (Nat.le_of_ble_eq_true rfl)

-- SwappedIntervals$Tape.hasPlace(I)Z
abbrev rm_X6_hasPlace : Room := { frames := 0, cells := 0, slots := 0, locals := 0 }
theorem me_X6_hasPlace : x_Me yX6_hasPlace cX6_hasPlace 2 (some .boolean) 1 := ⟨by decide +kernel, w_co_yX6_hasPlace, w_in_SwappedIntervals_Tape, by decide +kernel, by decide +kernel, by decide +kernel⟩
def f_X6_hasPlace (a0 : Nat) (a1 : Int32) (M : XM) : Option (Int32) := if a1 < 0 then some (0 : Int32) else (x_gI M a0 6 1).bind fun v2 => if v2 ≤ a1 then some (0 : Int32) else some (1 : Int32)
set_option maxHeartbeats 4000000 in
set_option maxRecDepth 100000 in
theorem c_X6_hasPlace (l : Launch) (D : va_G) (aC : FieldType → ClassId) (bs sz : Nat) {a0 : Nat} {a1 : Int32} {M : XM} {r : Int32} (h : f_X6_hasPlace a0 a1 M = some r) : x_Cn l D aC bs yX6_hasPlace cX6_hasPlace 2 (some .boolean) rm_X6_hasPlace [.ref a0, .int a1] sz M (some (.int r)) sz M := by
  unfold f_X6_hasPlace at h
  refine x_enter2 [(0, .ref a0), (1, .int a1)] me_X6_hasPlace (Nat.le_of_ble_eq_true rfl) rfl ?_
  refine x_iload_n dX6_hasPlace_0 1 rfl ?_
  refine x_if_lt 16 dX6_hasPlace_1 (by decide) (fun c1 => ?_) (fun c1 => ?_)
  · have h := (if_pos c1).symm.trans h
    refine x_iconst (v := (0 : Int32)) dX6_hasPlace_16 (by decide) ?_
    obtain rfl := Option.some.inj h
    exact x_zret dX6_hasPlace_17 (Or.inl rfl) (Nat.le_of_ble_eq_true rfl) (Nat.le_of_ble_eq_true rfl)
  have h := (if_neg c1).symm.trans h
  refine x_iload_n dX6_hasPlace_4 1 rfl ?_
  refine x_aload_n dX6_hasPlace_5 0 rfl ?_
  obtain ⟨v2, ev2, h⟩ := x_bd h
  refine x_getI clX6 w_fl_RX6_15 (by decide) dX6_hasPlace_6 ev2 ?_
  refine x_icmp_ge 16 dX6_hasPlace_9 (by decide) (fun c3 => ?_) (fun c3 => ?_)
  · have h := (if_pos c3).symm.trans h
    refine x_iconst (v := (0 : Int32)) dX6_hasPlace_16 (by decide) ?_
    obtain rfl := Option.some.inj h
    exact x_zret dX6_hasPlace_17 (Or.inl rfl) (Nat.le_of_ble_eq_true rfl) (Nat.le_of_ble_eq_true rfl)
  have h := (if_neg c3).symm.trans h
  refine x_iconst (v := (1 : Int32)) dX6_hasPlace_12 (by decide) ?_
  refine x_goto 17 dX6_hasPlace_13 (by decide) ?_
  obtain rfl := Option.some.inj h
  exact x_zret dX6_hasPlace_17 (Or.inr rfl) (Nat.le_of_ble_eq_true rfl) (Nat.le_of_ble_eq_true rfl)

-- SwappedIntervals$Tape.hasRun(II)Z
abbrev rm_X6_hasRun : Room := { frames := 0, cells := 0, slots := 0, locals := 0 }
theorem me_X6_hasRun : x_Me yX6_hasRun cX6_hasRun 3 (some .boolean) 2 := ⟨by decide +kernel, w_co_yX6_hasRun, w_in_SwappedIntervals_Tape, by decide +kernel, by decide +kernel, by decide +kernel⟩
def f_X6_hasRun (a0 : Nat) (a1 : Int32) (a2 : Int32) (M : XM) : Option (Int32) := if a1 < 0 then some (0 : Int32) else if a2 < 0 then some (0 : Int32) else (x_gI M a0 6 1).bind fun v3 => if (v3 - a2) < a1 then some (0 : Int32) else some (1 : Int32)
set_option maxHeartbeats 4000000 in
set_option maxRecDepth 100000 in
theorem c_X6_hasRun (l : Launch) (D : va_G) (aC : FieldType → ClassId) (bs sz : Nat) {a0 : Nat} {a1 : Int32} {a2 : Int32} {M : XM} {r : Int32} (h : f_X6_hasRun a0 a1 a2 M = some r) : x_Cn l D aC bs yX6_hasRun cX6_hasRun 3 (some .boolean) rm_X6_hasRun [.ref a0, .int a1, .int a2] sz M (some (.int r)) sz M := by
  unfold f_X6_hasRun at h
  refine x_enter2 [(0, .ref a0), (1, .int a1), (2, .int a2)] me_X6_hasRun (Nat.le_of_ble_eq_true rfl) rfl ?_
  refine x_iload_n dX6_hasRun_0 1 rfl ?_
  refine x_if_lt 22 dX6_hasRun_1 (by decide) (fun c1 => ?_) (fun c1 => ?_)
  · have h := (if_pos c1).symm.trans h
    refine x_iconst (v := (0 : Int32)) dX6_hasRun_22 (by decide) ?_
    obtain rfl := Option.some.inj h
    exact x_zret dX6_hasRun_23 (Or.inl rfl) (Nat.le_of_ble_eq_true rfl) (Nat.le_of_ble_eq_true rfl)
  have h := (if_neg c1).symm.trans h
  refine x_iload_n dX6_hasRun_4 2 rfl ?_
  refine x_if_lt 22 dX6_hasRun_5 (by decide) (fun c2 => ?_) (fun c2 => ?_)
  · have h := (if_pos c2).symm.trans h
    refine x_iconst (v := (0 : Int32)) dX6_hasRun_22 (by decide) ?_
    obtain rfl := Option.some.inj h
    exact x_zret dX6_hasRun_23 (Or.inl rfl) (Nat.le_of_ble_eq_true rfl) (Nat.le_of_ble_eq_true rfl)
  have h := (if_neg c2).symm.trans h
  refine x_iload_n dX6_hasRun_8 1 rfl ?_
  refine x_aload_n dX6_hasRun_9 0 rfl ?_
  obtain ⟨v3, ev3, h⟩ := x_bd h
  refine x_getI clX6 w_fl_RX6_15 (by decide) dX6_hasRun_10 ev3 ?_
  refine x_iload_n dX6_hasRun_13 2 rfl ?_
  refine x_isub dX6_hasRun_14 ?_
  refine x_icmp_gt 22 dX6_hasRun_15 (by decide) (fun c4 => ?_) (fun c4 => ?_)
  · have h := (if_pos c4).symm.trans h
    refine x_iconst (v := (0 : Int32)) dX6_hasRun_22 (by decide) ?_
    obtain rfl := Option.some.inj h
    exact x_zret dX6_hasRun_23 (Or.inl rfl) (Nat.le_of_ble_eq_true rfl) (Nat.le_of_ble_eq_true rfl)
  have h := (if_neg c4).symm.trans h
  refine x_iconst (v := (1 : Int32)) dX6_hasRun_18 (by decide) ?_
  refine x_goto 23 dX6_hasRun_19 (by decide) ?_
  obtain rfl := Option.some.inj h
  exact x_zret dX6_hasRun_23 (Or.inr rfl) (Nat.le_of_ble_eq_true rfl) (Nat.le_of_ble_eq_true rfl)

-- SwappedIntervals$Tape.put(IJ)V
abbrev rm_X6_put : Room := { frames := 1, cells := 0, slots := 0, locals := 21 }
theorem me_X6_put : x_Me yX6_put cX6_put 4 none 2 := ⟨by decide +kernel, w_co_yX6_put, w_in_SwappedIntervals_Tape, by decide +kernel, by decide +kernel, by decide +kernel⟩
def f_X6_put (a0 : Nat) (a1 : Int32) (a2 : Int64) (M : XM) : Option (XM) := (x_ob M a0 6).bind fun u1 => (f_X6_hasPlace a0 a1 M).bind fun p2 => if p2 = 0 then some M else (x_gI M a0 6 0).bind fun v4 => if v4 = (0 : Int32) then (x_gR M a0 6 2).bind fun v6 => (x_w64 M v6 a1 a2.toInt32.toInt8.toInt32.toInt64).bind fun m7 => some m7 else if v4 = (1 : Int32) then (x_gR M a0 6 2).bind fun v9 => (x_w64 M v9 a1 a2.toInt32.toInt16.toInt32.toInt64).bind fun m10 => some m10 else if v4 = (2 : Int32) then (x_gR M a0 6 2).bind fun v12 => (x_w64 M v12 a1 a2.toInt32.toInt64).bind fun m13 => some m13 else if v4 = (3 : Int32) then (x_gR M a0 6 2).bind fun v15 => (x_w64 M v15 a1 a2).bind fun m16 => some m16 else (x_gR M a0 6 2).bind fun v17 => if (lg_cmp a2 (0 : Int64)) = 0 then (x_w64 M v17 a1 (0 : Int64)).bind fun m19 => some m19 else (x_w64 M v17 a1 (1 : Int64)).bind fun m20 => some m20
set_option maxHeartbeats 4000000 in
set_option maxRecDepth 100000 in
theorem c_X6_put (l : Launch) (D : va_G) (aC : FieldType → ClassId) (bs sz : Nat) {a0 : Nat} {a1 : Int32} {a2 : Int64} {M : XM} {r : XM} (h : f_X6_put a0 a1 a2 M = some r) : x_Cn l D aC bs yX6_put cX6_put 4 none rm_X6_put [.ref a0, .int a1, .long a2] sz M none sz r := by
  unfold f_X6_put at h
  refine x_enter2 [(0, .ref a0), (1, .int a1), (2, .long a2)] me_X6_put (Nat.le_of_ble_eq_true rfl) rfl ?_
  refine x_aload_n dX6_put_0 0 rfl ?_
  refine x_iload_n dX6_put_1 1 rfl ?_
  obtain ⟨u1, eu1, h⟩ := x_bd h
  obtain ⟨p2, ep2, h⟩ := x_bd h
  refine x_callVI [.int a1] [] clX6 me_X6_hasPlace w_ml_RX6_37 w_im_yX6_hasPlace w_se_yX6_hasPlace (Nat.le_of_ble_eq_true rfl) (Nat.le_of_ble_eq_true rfl) rfl (Nat.le_of_ble_eq_true rfl) (Nat.le_of_ble_eq_true rfl) (Nat.le_of_ble_eq_true rfl) dX6_put_2 eu1 (c_X6_hasPlace l D aC bs sz ep2) rfl ?_
  refine x_if_ne 9 dX6_put_5 (by decide) (fun c3 => ?_) (fun c3 => ?_)
  · have h := (if_neg c3).symm.trans h
    refine x_aload_n dX6_put_9 0 rfl ?_
    obtain ⟨v4, ev4, h⟩ := x_bd h
    refine x_getI clX6 w_fl_RX6_9 (by decide) dX6_put_10 ev4 ?_
    by_cases c5 : v4 = (0 : Int32)
    · have h := (if_pos c5).symm.trans h
      refine x_tabIn 0 44 dX6_put_13 (by rw [c5]; decide) (by decide) (by decide) rfl (by decide) ?_
      refine x_aload_n dX6_put_44 0 rfl ?_
      obtain ⟨v6, ev6, h⟩ := x_bd h
      refine x_getR clX6 w_fl_RX6_18 (by decide) dX6_put_45 ev6 ?_
      refine x_iload_n dX6_put_48 1 rfl ?_
      refine x_lload_n dX6_put_49 2 rfl ?_
      refine x_l2i dX6_put_50 ?_
      refine x_i2b dX6_put_51 ?_
      refine x_i2l dX6_put_52 ?_
      obtain ⟨m7, em7, h⟩ := x_bd h
      refine x_last dX6_put_53 em7 ?_
      refine x_goto 109 dX6_put_54 (by decide) ?_
      obtain rfl := Option.some.inj h
      exact x_vret dX6_put_109 (Nat.le_of_ble_eq_true rfl) (Nat.le_of_ble_eq_true rfl)
    have h := (if_neg c5).symm.trans h
    by_cases c8 : v4 = (1 : Int32)
    · have h := (if_pos c8).symm.trans h
      refine x_tabIn 1 57 dX6_put_13 (by rw [c8]; decide) (by decide) (by decide) rfl (by decide) ?_
      refine x_aload_n dX6_put_57 0 rfl ?_
      obtain ⟨v9, ev9, h⟩ := x_bd h
      refine x_getR clX6 w_fl_RX6_18 (by decide) dX6_put_58 ev9 ?_
      refine x_iload_n dX6_put_61 1 rfl ?_
      refine x_lload_n dX6_put_62 2 rfl ?_
      refine x_l2i dX6_put_63 ?_
      refine x_i2s dX6_put_64 ?_
      refine x_i2l dX6_put_65 ?_
      obtain ⟨m10, em10, h⟩ := x_bd h
      refine x_last dX6_put_66 em10 ?_
      refine x_goto 109 dX6_put_67 (by decide) ?_
      obtain rfl := Option.some.inj h
      exact x_vret dX6_put_109 (Nat.le_of_ble_eq_true rfl) (Nat.le_of_ble_eq_true rfl)
    have h := (if_neg c8).symm.trans h
    by_cases c11 : v4 = (2 : Int32)
    · have h := (if_pos c11).symm.trans h
      refine x_tabIn 2 70 dX6_put_13 (by rw [c11]; decide) (by decide) (by decide) rfl (by decide) ?_
      refine x_aload_n dX6_put_70 0 rfl ?_
      obtain ⟨v12, ev12, h⟩ := x_bd h
      refine x_getR clX6 w_fl_RX6_18 (by decide) dX6_put_71 ev12 ?_
      refine x_iload_n dX6_put_74 1 rfl ?_
      refine x_lload_n dX6_put_75 2 rfl ?_
      refine x_l2i dX6_put_76 ?_
      refine x_i2l dX6_put_77 ?_
      obtain ⟨m13, em13, h⟩ := x_bd h
      refine x_last dX6_put_78 em13 ?_
      refine x_goto 109 dX6_put_79 (by decide) ?_
      obtain rfl := Option.some.inj h
      exact x_vret dX6_put_109 (Nat.le_of_ble_eq_true rfl) (Nat.le_of_ble_eq_true rfl)
    have h := (if_neg c11).symm.trans h
    by_cases c14 : v4 = (3 : Int32)
    · have h := (if_pos c14).symm.trans h
      refine x_tabIn 3 82 dX6_put_13 (by rw [c14]; decide) (by decide) (by decide) rfl (by decide) ?_
      refine x_aload_n dX6_put_82 0 rfl ?_
      obtain ⟨v15, ev15, h⟩ := x_bd h
      refine x_getR clX6 w_fl_RX6_18 (by decide) dX6_put_83 ev15 ?_
      refine x_iload_n dX6_put_86 1 rfl ?_
      refine x_lload_n dX6_put_87 2 rfl ?_
      obtain ⟨m16, em16, h⟩ := x_bd h
      refine x_last dX6_put_88 em16 ?_
      refine x_goto 109 dX6_put_89 (by decide) ?_
      obtain rfl := Option.some.inj h
      exact x_vret dX6_put_109 (Nat.le_of_ble_eq_true rfl) (Nat.le_of_ble_eq_true rfl)
    have h := (if_neg c14).symm.trans h
    have nc5 := lv_neT c5 (a := 0) (by decide)
    have nc8 := lv_neT c8 (a := 1) (by decide)
    have nc11 := lv_neT c11 (a := 2) (by decide)
    have nc14 := lv_neT c14 (a := 3) (by decide)
    refine x_tabD 92 dX6_put_13 ?_ (by decide) ?_
    · by_cases r1 : (v4).toInt < 0
      · exact Or.inl r1
      by_cases r2 : 3 < (v4).toInt
      · exact Or.inr (Or.inl r2)
      exfalso
      omega
    refine x_aload_n dX6_put_92 0 rfl ?_
    obtain ⟨v17, ev17, h⟩ := x_bd h
    refine x_getR clX6 w_fl_RX6_18 (by decide) dX6_put_93 ev17 ?_
    refine x_iload_n dX6_put_96 1 rfl ?_
    refine x_lload_n dX6_put_97 2 rfl ?_
    refine x_lconst (v := (0 : Int64)) dX6_put_98 (by decide) ?_
    refine x_lcmp dX6_put_99 ?_
    refine x_if_eq 107 dX6_put_100 (by decide) (fun c18 => ?_) (fun c18 => ?_)
    · have h := (if_pos c18).symm.trans h
      refine x_lconst (v := (0 : Int64)) dX6_put_107 (by decide) ?_
      obtain ⟨m19, em19, h⟩ := x_bd h
      refine x_last dX6_put_108 em19 ?_
      obtain rfl := Option.some.inj h
      exact x_vret dX6_put_109 (Nat.le_of_ble_eq_true rfl) (Nat.le_of_ble_eq_true rfl)
    have h := (if_neg c18).symm.trans h
    refine x_lconst (v := (1 : Int64)) dX6_put_103 (by decide) ?_
    refine x_goto 108 dX6_put_104 (by decide) ?_
    obtain ⟨m20, em20, h⟩ := x_bd h
    refine x_last dX6_put_108 em20 ?_
    obtain rfl := Option.some.inj h
    exact x_vret dX6_put_109 (Nat.le_of_ble_eq_true rfl) (Nat.le_of_ble_eq_true rfl)
  have h := (if_pos c3).symm.trans h
  obtain rfl := Option.some.inj h
  exact x_vret dX6_put_8 (Nat.le_of_ble_eq_true rfl) (Nat.le_of_ble_eq_true rfl)

-- SwappedIntervals$Text.<init>()V
abbrev rm_X7_init : Room := { frames := 1, cells := 4, slots := 136, locals := 20 }
abbrev mc_X7_init : Nat := 4
theorem me_X7_init : x_Me yX7_init cX7_init 1 none 0 := ⟨by decide +kernel, w_co_yX7_init, w_in_SwappedIntervals_Text, by decide +kernel, by decide +kernel, by decide +kernel⟩
def f_X7_init (a0 : Nat) (sz : Nat) (M : XM) : Option (XM) := (x_nw M sz (.inl (.byte, 100, .inl (fun _ => 0)))).bind fun m1 => (x_put m1 a0 7 0 (.ref sz)).bind fun m2 => (x_put m2 a0 7 1 (.int (0 : Int32))).bind fun m3 => (x_put m3 a0 7 2 (.int (0 : Int32))).bind fun m4 => (x_put m4 a0 7 3 (.int (0 : Int32))).bind fun m5 => (x_nw m5 (sz + 1) (.inl (.int, 12, .inl (fun _ => 0)))).bind fun m6 => (x_put m6 a0 7 4 (.ref (sz + 1))).bind fun m7 => (x_nw m7 (sz + 2) (.inl (.int, 12, .inl (fun _ => 0)))).bind fun m8 => (x_put m8 a0 7 5 (.ref (sz + 2))).bind fun m9 => (x_nw m9 (sz + 3) (.inl (.int, 12, .inl (fun _ => 0)))).bind fun m10 => (x_put m10 a0 7 6 (.ref (sz + 3))).bind fun m11 => some m11
set_option maxHeartbeats 4000000 in
set_option maxRecDepth 100000 in
theorem c_X7_init (l : Launch) (D : va_G) (aC : FieldType → ClassId) (bs sz : Nat) {a0 : Nat} {M : XM} {r : XM} (h : f_X7_init a0 sz M = some r) : x_Cn l D aC bs yX7_init cX7_init 1 none rm_X7_init [.ref a0] sz M none (sz + mc_X7_init) r := by
  unfold f_X7_init at h
  refine x_enter2 [(0, .ref a0)] me_X7_init (Nat.le_of_ble_eq_true rfl) rfl ?_
  refine x_aload_n dX7_init_0 0 rfl ?_
  refine x_objInit w_ml_RX7_3 w_im_Lib_objectInit w_co_Lib_objectInit (Nat.le_of_ble_eq_true rfl) (Nat.le_of_ble_eq_true rfl) dX7_init_1 ?_
  refine x_aload_n dX7_init_4 0 rfl ?_
  refine x_bipush (v := (100 : Int32)) dX7_init_5 (by decide) ?_
  obtain ⟨m1, em1, h⟩ := x_bd h
  refine x_newB 100 100 w_ac_byte (by decide) (by decide) (Nat.le_refl _) (by decide) (Nat.le_of_ble_eq_true rfl) (Nat.le_of_ble_eq_true rfl) dX7_init_7 ?_
  refine x_castM (Option.some.inj em1) ?_
  obtain ⟨m2, em2, h⟩ := x_bd h
  refine x_putF clX7 w_fl_RX7_9 (by decide) rfl rfl rfl rfl rfl dX7_init_9 em2 ?_
  refine x_aload_n dX7_init_12 0 rfl ?_
  refine x_iconst (v := (0 : Int32)) dX7_init_13 (by decide) ?_
  obtain ⟨m3, em3, h⟩ := x_bd h
  refine x_putV clX7 w_fl_RX7_15 (by decide) rfl rfl rfl dX7_init_14 em3 ?_
  refine x_aload_n dX7_init_17 0 rfl ?_
  refine x_iconst (v := (0 : Int32)) dX7_init_18 (by decide) ?_
  obtain ⟨m4, em4, h⟩ := x_bd h
  refine x_putV clX7 w_fl_RX7_19 (by decide) rfl rfl rfl dX7_init_19 em4 ?_
  refine x_aload_n dX7_init_22 0 rfl ?_
  refine x_iconst (v := (0 : Int32)) dX7_init_23 (by decide) ?_
  obtain ⟨m5, em5, h⟩ := x_bd h
  refine x_putV clX7 w_fl_RX7_22 (by decide) rfl rfl rfl dX7_init_24 em5 ?_
  refine x_aload_n dX7_init_27 0 rfl ?_
  refine x_bipush (v := (12 : Int32)) dX7_init_28 (by decide) ?_
  obtain ⟨m6, em6, h⟩ := x_bd h
  refine x_newI 12 12 w_ac_int (by decide) (by decide) (Nat.le_refl _) (by decide) (Nat.le_of_ble_eq_true rfl) (Nat.le_of_ble_eq_true rfl) dX7_init_30 ?_
  refine x_castM (Option.some.inj em6) ?_
  obtain ⟨m7, em7, h⟩ := x_bd h
  refine x_putF clX7 w_fl_RX7_25 (by decide) rfl rfl rfl rfl rfl dX7_init_32 em7 ?_
  refine x_aload_n dX7_init_35 0 rfl ?_
  refine x_bipush (v := (12 : Int32)) dX7_init_36 (by decide) ?_
  obtain ⟨m8, em8, h⟩ := x_bd h
  refine x_newI 12 12 w_ac_int (by decide) (by decide) (Nat.le_refl _) (by decide) (Nat.le_of_ble_eq_true rfl) (Nat.le_of_ble_eq_true rfl) dX7_init_38 ?_
  refine x_castM (Option.some.inj em8) ?_
  obtain ⟨m9, em9, h⟩ := x_bd h
  refine x_putF clX7 w_fl_RX7_29 (by decide) rfl rfl rfl rfl rfl dX7_init_40 em9 ?_
  refine x_aload_n dX7_init_43 0 rfl ?_
  refine x_bipush (v := (12 : Int32)) dX7_init_44 (by decide) ?_
  obtain ⟨m10, em10, h⟩ := x_bd h
  refine x_newI 12 12 w_ac_int (by decide) (by decide) (Nat.le_refl _) (by decide) (Nat.le_of_ble_eq_true rfl) (Nat.le_of_ble_eq_true rfl) dX7_init_46 ?_
  refine x_castM (Option.some.inj em10) ?_
  obtain ⟨m11, em11, h⟩ := x_bd h
  refine x_putF clX7 w_fl_RX7_32 (by decide) rfl rfl rfl rfl rfl dX7_init_48 em11 ?_
  obtain rfl := Option.some.inj h
  exact x_vret dX7_init_51 (Nat.le_of_ble_eq_true rfl) (Nat.le_of_ble_eq_true rfl)

-- SwappedIntervals$Text.add(I)I
abbrev rm_X7_add : Room := { frames := 0, cells := 0, slots := 0, locals := 0 }
theorem me_X7_add : x_Me yX7_add cX7_add 2 (some .int) 1 := ⟨by decide +kernel, w_co_yX7_add, w_in_SwappedIntervals_Text, by decide +kernel, by decide +kernel, by decide +kernel⟩
def f_X7_add (a0 : Nat) (a1 : Int32) (M : XM) : Option (Int32 × XM) := (x_gI M a0 7 2).bind fun v1 => if v1 < (100 : Int32) then (x_gR M a0 7 0).bind fun v3 => (x_gI M a0 7 2).bind fun v4 => (x_w32 .byte M v3 v4 (vp_nar .byte a1.toInt8.toInt32)).bind fun m5 => (x_gI m5 a0 7 2).bind fun v6 => (x_put m5 a0 7 2 (.int (v6 + (1 : Int32)))).bind fun m7 => (x_gI m7 a0 7 2).bind fun v8 => some (v8, m7) else some ((-4 : Int32), M)
set_option maxHeartbeats 4000000 in
set_option maxRecDepth 100000 in
theorem c_X7_add (l : Launch) (D : va_G) (aC : FieldType → ClassId) (bs sz : Nat) {a0 : Nat} {a1 : Int32} {M : XM} {r : Int32 × XM} (h : f_X7_add a0 a1 M = some r) : x_Cn l D aC bs yX7_add cX7_add 2 (some .int) rm_X7_add [.ref a0, .int a1] sz M (some (.int r.1)) sz r.2 := by
  unfold f_X7_add at h
  refine x_enter2 [(0, .ref a0), (1, .int a1)] me_X7_add (Nat.le_of_ble_eq_true rfl) rfl ?_
  refine x_aload_n dX7_add_0 0 rfl ?_
  obtain ⟨v1, ev1, h⟩ := x_bd h
  refine x_getI clX7 w_fl_RX7_19 (by decide) dX7_add_1 ev1 ?_
  refine x_bipush (v := (100 : Int32)) dX7_add_4 (by decide) ?_
  refine x_icmp_lt 12 dX7_add_6 (by decide) (fun c2 => ?_) (fun c2 => ?_)
  · have h := (if_pos c2).symm.trans h
    refine x_aload_n dX7_add_12 0 rfl ?_
    obtain ⟨v3, ev3, h⟩ := x_bd h
    refine x_getR clX7 w_fl_RX7_9 (by decide) dX7_add_13 ev3 ?_
    refine x_aload_n dX7_add_16 0 rfl ?_
    obtain ⟨v4, ev4, h⟩ := x_bd h
    refine x_getI clX7 w_fl_RX7_19 (by decide) dX7_add_17 ev4 ?_
    refine x_iload_n dX7_add_20 1 rfl ?_
    refine x_i2b dX7_add_21 ?_
    obtain ⟨m5, em5, h⟩ := x_bd h
    refine x_bast dX7_add_22 em5 ?_
    refine x_aload_n dX7_add_23 0 rfl ?_
    refine x_dup dX7_add_24 rfl ?_
    obtain ⟨v6, ev6, h⟩ := x_bd h
    refine x_getI clX7 w_fl_RX7_19 (by decide) dX7_add_25 ev6 ?_
    refine x_iconst (v := (1 : Int32)) dX7_add_28 (by decide) ?_
    refine x_iadd dX7_add_29 ?_
    obtain ⟨m7, em7, h⟩ := x_bd h
    refine x_putV clX7 w_fl_RX7_19 (by decide) rfl rfl rfl dX7_add_30 em7 ?_
    refine x_aload_n dX7_add_33 0 rfl ?_
    obtain ⟨v8, ev8, h⟩ := x_bd h
    refine x_getI clX7 w_fl_RX7_19 (by decide) dX7_add_34 ev8 ?_
    obtain rfl := Option.some.inj h
    exact x_iret dX7_add_37 (Nat.le_of_ble_eq_true rfl) (Nat.le_of_ble_eq_true rfl)
  have h := (if_neg c2).symm.trans h
  refine x_bipush (v := (-4 : Int32)) dX7_add_9 (by decide) ?_
  obtain rfl := Option.some.inj h
  exact x_iret dX7_add_11 (Nat.le_of_ble_eq_true rfl) (Nat.le_of_ble_eq_true rfl)

-- SwappedIntervals$Text.clear()V
abbrev rm_X7_clear : Room := { frames := 0, cells := 0, slots := 0, locals := 0 }
theorem me_X7_clear : x_Me yX7_clear cX7_clear 1 none 0 := ⟨by decide +kernel, w_co_yX7_clear, w_in_SwappedIntervals_Text, by decide +kernel, by decide +kernel, by decide +kernel⟩
def f_X7_clear (a0 : Nat) (M : XM) : Option (XM) := (x_put M a0 7 2 (.int (0 : Int32))).bind fun m1 => some m1
set_option maxHeartbeats 4000000 in
set_option maxRecDepth 100000 in
theorem c_X7_clear (l : Launch) (D : va_G) (aC : FieldType → ClassId) (bs sz : Nat) {a0 : Nat} {M : XM} {r : XM} (h : f_X7_clear a0 M = some r) : x_Cn l D aC bs yX7_clear cX7_clear 1 none rm_X7_clear [.ref a0] sz M none sz r := by
  unfold f_X7_clear at h
  refine x_enter2 [(0, .ref a0)] me_X7_clear (Nat.le_of_ble_eq_true rfl) rfl ?_
  refine x_aload_n dX7_clear_0 0 rfl ?_
  refine x_iconst (v := (0 : Int32)) dX7_clear_1 (by decide) ?_
  obtain ⟨m1, em1, h⟩ := x_bd h
  refine x_putV clX7 w_fl_RX7_19 (by decide) rfl rfl rfl dX7_clear_2 em1 ?_
  obtain rfl := Option.some.inj h
  exact x_vret dX7_clear_5 (Nat.le_of_ble_eq_true rfl) (Nat.le_of_ble_eq_true rfl)

-- SwappedIntervals$Text.signHere()I
abbrev rm_X7_signHere : Room := { frames := 0, cells := 0, slots := 0, locals := 0 }
theorem me_X7_signHere : x_Me yX7_signHere cX7_signHere 1 (some .int) 0 := ⟨by decide +kernel, w_co_yX7_signHere, w_in_SwappedIntervals_Text, by decide +kernel, by decide +kernel, by decide +kernel⟩
def f_X7_signHere (a0 : Nat) (M : XM) : Option (Int32) := (x_gI M a0 7 1).bind fun v1 => if v1 < 0 then some (-1 : Int32) else (x_gI M a0 7 1).bind fun v3 => (x_gI M a0 7 2).bind fun v4 => if v4 ≤ v3 then some (-1 : Int32) else (x_gR M a0 7 0).bind fun v6 => (x_gI M a0 7 1).bind fun v7 => (x_a32 .byte M v6 v7).bind fun v8 => some v8
set_option maxHeartbeats 4000000 in
set_option maxRecDepth 100000 in
theorem c_X7_signHere (l : Launch) (D : va_G) (aC : FieldType → ClassId) (bs sz : Nat) {a0 : Nat} {M : XM} {r : Int32} (h : f_X7_signHere a0 M = some r) : x_Cn l D aC bs yX7_signHere cX7_signHere 1 (some .int) rm_X7_signHere [.ref a0] sz M (some (.int r)) sz M := by
  unfold f_X7_signHere at h
  refine x_enter2 [(0, .ref a0)] me_X7_signHere (Nat.le_of_ble_eq_true rfl) rfl ?_
  refine x_aload_n dX7_signHere_0 0 rfl ?_
  obtain ⟨v1, ev1, h⟩ := x_bd h
  refine x_getI clX7 w_fl_RX7_15 (by decide) dX7_signHere_1 ev1 ?_
  refine x_if_lt 30 dX7_signHere_4 (by decide) (fun c2 => ?_) (fun c2 => ?_)
  · have h := (if_pos c2).symm.trans h
    refine x_iconst (v := (-1 : Int32)) dX7_signHere_30 (by decide) ?_
    obtain rfl := Option.some.inj h
    exact x_iret dX7_signHere_31 (Nat.le_of_ble_eq_true rfl) (Nat.le_of_ble_eq_true rfl)
  have h := (if_neg c2).symm.trans h
  refine x_aload_n dX7_signHere_7 0 rfl ?_
  obtain ⟨v3, ev3, h⟩ := x_bd h
  refine x_getI clX7 w_fl_RX7_15 (by decide) dX7_signHere_8 ev3 ?_
  refine x_aload_n dX7_signHere_11 0 rfl ?_
  obtain ⟨v4, ev4, h⟩ := x_bd h
  refine x_getI clX7 w_fl_RX7_19 (by decide) dX7_signHere_12 ev4 ?_
  refine x_icmp_ge 30 dX7_signHere_15 (by decide) (fun c5 => ?_) (fun c5 => ?_)
  · have h := (if_pos c5).symm.trans h
    refine x_iconst (v := (-1 : Int32)) dX7_signHere_30 (by decide) ?_
    obtain rfl := Option.some.inj h
    exact x_iret dX7_signHere_31 (Nat.le_of_ble_eq_true rfl) (Nat.le_of_ble_eq_true rfl)
  have h := (if_neg c5).symm.trans h
  refine x_aload_n dX7_signHere_18 0 rfl ?_
  obtain ⟨v6, ev6, h⟩ := x_bd h
  refine x_getR clX7 w_fl_RX7_9 (by decide) dX7_signHere_19 ev6 ?_
  refine x_aload_n dX7_signHere_22 0 rfl ?_
  obtain ⟨v7, ev7, h⟩ := x_bd h
  refine x_getI clX7 w_fl_RX7_15 (by decide) dX7_signHere_23 ev7 ?_
  obtain ⟨v8, ev8, h⟩ := x_bd h
  refine x_bald dX7_signHere_26 ev8 ?_
  refine x_goto 31 dX7_signHere_27 (by decide) ?_
  obtain rfl := Option.some.inj h
  exact x_iret dX7_signHere_31 (Nat.le_of_ble_eq_true rfl) (Nat.le_of_ble_eq_true rfl)

-- SwappedIntervals$Text.mostDigits(II)I
abbrev rm_X7_mostDigits : Room := { frames := 0, cells := 0, slots := 0, locals := 0 }
theorem me_X7_mostDigits : x_Me yX7_mostDigits cX7_mostDigits 2 (some .int) 2 := ⟨by decide +kernel, w_co_yX7_mostDigits, w_in_SwappedIntervals_Text, by decide +kernel, by decide +kernel, by decide +kernel⟩
def f_X7_mostDigits (a0 : Int32) (a1 : Int32) (M : XM) : Option (Int32) := if a0 = (98 : Int32) then if a1 = 0 then some (1 : Int32) else some (0 : Int32) else if a0 = (107 : Int32) then some (0 : Int32) else if a0 = (108 : Int32) then if a1 = 0 then some (1 : Int32) else some (3 : Int32) else if a0 = (110 : Int32) then if a1 = 0 then some (1 : Int32) else some (0 : Int32) else if a0 = (114 : Int32) then if a1 = 0 then some (5 : Int32) else some (0 : Int32) else if a0 = (115 : Int32) then some (0 : Int32) else if a0 = (117 : Int32) then some (0 : Int32) else if a0 = (119 : Int32) then some (1 : Int32) else some (-1 : Int32)
set_option maxHeartbeats 4000000 in
set_option maxRecDepth 100000 in
theorem c_X7_mostDigits (l : Launch) (D : va_G) (aC : FieldType → ClassId) (bs sz : Nat) {a0 : Int32} {a1 : Int32} {M : XM} {r : Int32} (h : f_X7_mostDigits a0 a1 M = some r) : x_Cn l D aC bs yX7_mostDigits cX7_mostDigits 2 (some .int) rm_X7_mostDigits [.int a0, .int a1] sz M (some (.int r)) sz M := by
  unfold f_X7_mostDigits at h
  refine x_enter2 [(0, .int a0), (1, .int a1)] me_X7_mostDigits (Nat.le_of_ble_eq_true rfl) rfl ?_
  refine x_iload_n dX7_mostDigits_0 0 rfl ?_
  by_cases c1 : a0 = (98 : Int32)
  · have h := (if_pos c1).symm.trans h
    refine x_tabIn 98 114 dX7_mostDigits_1 (by rw [c1]; decide) (by decide) (by decide) rfl (by decide) ?_
    refine x_iload_n dX7_mostDigits_114 1 rfl ?_
    refine x_if_ne 122 dX7_mostDigits_115 (by decide) (fun c2 => ?_) (fun c2 => ?_)
    · have h := (if_neg c2).symm.trans h
      refine x_iconst (v := (0 : Int32)) dX7_mostDigits_122 (by decide) ?_
      obtain rfl := Option.some.inj h
      exact x_iret dX7_mostDigits_123 (Nat.le_of_ble_eq_true rfl) (Nat.le_of_ble_eq_true rfl)
    have h := (if_pos c2).symm.trans h
    refine x_iconst (v := (1 : Int32)) dX7_mostDigits_118 (by decide) ?_
    refine x_goto 123 dX7_mostDigits_119 (by decide) ?_
    obtain rfl := Option.some.inj h
    exact x_iret dX7_mostDigits_123 (Nat.le_of_ble_eq_true rfl) (Nat.le_of_ble_eq_true rfl)
  have h := (if_neg c1).symm.trans h
  by_cases c3 : a0 = (107 : Int32)
  · have h := (if_pos c3).symm.trans h
    refine x_tabIn 107 148 dX7_mostDigits_1 (by rw [c3]; decide) (by decide) (by decide) rfl (by decide) ?_
    refine x_iconst (v := (0 : Int32)) dX7_mostDigits_148 (by decide) ?_
    obtain rfl := Option.some.inj h
    exact x_iret dX7_mostDigits_149 (Nat.le_of_ble_eq_true rfl) (Nat.le_of_ble_eq_true rfl)
  have h := (if_neg c3).symm.trans h
  by_cases c4 : a0 = (108 : Int32)
  · have h := (if_pos c4).symm.trans h
    refine x_tabIn 108 134 dX7_mostDigits_1 (by rw [c4]; decide) (by decide) (by decide) rfl (by decide) ?_
    refine x_iload_n dX7_mostDigits_134 1 rfl ?_
    refine x_if_ne 142 dX7_mostDigits_135 (by decide) (fun c5 => ?_) (fun c5 => ?_)
    · have h := (if_neg c5).symm.trans h
      refine x_iconst (v := (3 : Int32)) dX7_mostDigits_142 (by decide) ?_
      obtain rfl := Option.some.inj h
      exact x_iret dX7_mostDigits_143 (Nat.le_of_ble_eq_true rfl) (Nat.le_of_ble_eq_true rfl)
    have h := (if_pos c5).symm.trans h
    refine x_iconst (v := (1 : Int32)) dX7_mostDigits_138 (by decide) ?_
    refine x_goto 143 dX7_mostDigits_139 (by decide) ?_
    obtain rfl := Option.some.inj h
    exact x_iret dX7_mostDigits_143 (Nat.le_of_ble_eq_true rfl) (Nat.le_of_ble_eq_true rfl)
  have h := (if_neg c4).symm.trans h
  by_cases c6 : a0 = (110 : Int32)
  · have h := (if_pos c6).symm.trans h
    refine x_tabIn 110 104 dX7_mostDigits_1 (by rw [c6]; decide) (by decide) (by decide) rfl (by decide) ?_
    refine x_iload_n dX7_mostDigits_104 1 rfl ?_
    refine x_if_ne 112 dX7_mostDigits_105 (by decide) (fun c7 => ?_) (fun c7 => ?_)
    · have h := (if_neg c7).symm.trans h
      refine x_iconst (v := (0 : Int32)) dX7_mostDigits_112 (by decide) ?_
      obtain rfl := Option.some.inj h
      exact x_iret dX7_mostDigits_113 (Nat.le_of_ble_eq_true rfl) (Nat.le_of_ble_eq_true rfl)
    have h := (if_pos c7).symm.trans h
    refine x_iconst (v := (1 : Int32)) dX7_mostDigits_108 (by decide) ?_
    refine x_goto 113 dX7_mostDigits_109 (by decide) ?_
    obtain rfl := Option.some.inj h
    exact x_iret dX7_mostDigits_113 (Nat.le_of_ble_eq_true rfl) (Nat.le_of_ble_eq_true rfl)
  have h := (if_neg c6).symm.trans h
  by_cases c8 : a0 = (114 : Int32)
  · have h := (if_pos c8).symm.trans h
    refine x_tabIn 114 124 dX7_mostDigits_1 (by rw [c8]; decide) (by decide) (by decide) rfl (by decide) ?_
    refine x_iload_n dX7_mostDigits_124 1 rfl ?_
    refine x_if_ne 132 dX7_mostDigits_125 (by decide) (fun c9 => ?_) (fun c9 => ?_)
    · have h := (if_neg c9).symm.trans h
      refine x_iconst (v := (0 : Int32)) dX7_mostDigits_132 (by decide) ?_
      obtain rfl := Option.some.inj h
      exact x_iret dX7_mostDigits_133 (Nat.le_of_ble_eq_true rfl) (Nat.le_of_ble_eq_true rfl)
    have h := (if_pos c9).symm.trans h
    refine x_iconst (v := (5 : Int32)) dX7_mostDigits_128 (by decide) ?_
    refine x_goto 133 dX7_mostDigits_129 (by decide) ?_
    obtain rfl := Option.some.inj h
    exact x_iret dX7_mostDigits_133 (Nat.le_of_ble_eq_true rfl) (Nat.le_of_ble_eq_true rfl)
  have h := (if_neg c8).symm.trans h
  by_cases c10 : a0 = (115 : Int32)
  · have h := (if_pos c10).symm.trans h
    refine x_tabIn 115 146 dX7_mostDigits_1 (by rw [c10]; decide) (by decide) (by decide) rfl (by decide) ?_
    refine x_iconst (v := (0 : Int32)) dX7_mostDigits_146 (by decide) ?_
    obtain rfl := Option.some.inj h
    exact x_iret dX7_mostDigits_147 (Nat.le_of_ble_eq_true rfl) (Nat.le_of_ble_eq_true rfl)
  have h := (if_neg c10).symm.trans h
  by_cases c11 : a0 = (117 : Int32)
  · have h := (if_pos c11).symm.trans h
    refine x_tabIn 117 150 dX7_mostDigits_1 (by rw [c11]; decide) (by decide) (by decide) rfl (by decide) ?_
    refine x_iconst (v := (0 : Int32)) dX7_mostDigits_150 (by decide) ?_
    obtain rfl := Option.some.inj h
    exact x_iret dX7_mostDigits_151 (Nat.le_of_ble_eq_true rfl) (Nat.le_of_ble_eq_true rfl)
  have h := (if_neg c11).symm.trans h
  by_cases c12 : a0 = (119 : Int32)
  · have h := (if_pos c12).symm.trans h
    refine x_tabIn 119 144 dX7_mostDigits_1 (by rw [c12]; decide) (by decide) (by decide) rfl (by decide) ?_
    refine x_iconst (v := (1 : Int32)) dX7_mostDigits_144 (by decide) ?_
    obtain rfl := Option.some.inj h
    exact x_iret dX7_mostDigits_145 (Nat.le_of_ble_eq_true rfl) (Nat.le_of_ble_eq_true rfl)
  have h := (if_neg c12).symm.trans h
  have nc1 := lv_neT c1 (a := 98) (by decide)
  have nc3 := lv_neT c3 (a := 107) (by decide)
  have nc4 := lv_neT c4 (a := 108) (by decide)
  have nc6 := lv_neT c6 (a := 110) (by decide)
  have nc8 := lv_neT c8 (a := 114) (by decide)
  have nc10 := lv_neT c10 (a := 115) (by decide)
  have nc11 := lv_neT c11 (a := 117) (by decide)
  have nc12 := lv_neT c12 (a := 119) (by decide)
  refine x_tabD 152 dX7_mostDigits_1 ?_ (by decide) ?_
  · by_cases r1 : (a0).toInt < 98
    · exact Or.inl r1
    by_cases r2 : 119 < (a0).toInt
    · exact Or.inr (Or.inl r2)
    refine Or.inr (Or.inr ?_)
    rcases (show (a0).toInt = 99 ∨ (a0).toInt = 100 ∨ (a0).toInt = 101 ∨ (a0).toInt = 102 ∨ (a0).toInt = 103 ∨ (a0).toInt = 104 ∨ (a0).toInt = 105 ∨ (a0).toInt = 106 ∨ (a0).toInt = 109 ∨ (a0).toInt = 111 ∨ (a0).toInt = 112 ∨ (a0).toInt = 113 ∨ (a0).toInt = 116 ∨ (a0).toInt = 118 by omega) with r3 | r3 | r3 | r3 | r3 | r3 | r3 | r3 | r3 | r3 | r3 | r3 | r3 | r3 <;> rw [r3] <;> rfl
  refine x_iconst (v := (-1 : Int32)) dX7_mostDigits_152 (by decide) ?_
  obtain rfl := Option.some.inj h
  exact x_iret dX7_mostDigits_153 (Nat.le_of_ble_eq_true rfl) (Nat.le_of_ble_eq_true rfl)

-- SwappedIntervals$Text.takeNumber(I)I
abbrev rm_X7_takeNumber : Room := { frames := 1, cells := 0, slots := 0, locals := 20 }
theorem me_X7_takeNumber : x_Me yX7_takeNumber cX7_takeNumber 5 (some .int) 1 := ⟨by decide +kernel, w_co_yX7_takeNumber, w_in_SwappedIntervals_Text, by decide +kernel, by decide +kernel, by decide +kernel⟩
def b_X7_takeNumber_4 (F : Nat) (a0 : Nat) (a1 : Int32)  (k4 : (Int32 × Int32 × XM) → Option (Int32 × XM)) (q : Int32 × Int32 × XM) : Option (Int32 × XM) := if a1 ≤ q.2.1 then some (q.1, q.2.2) else (x_ob q.2.2 a0 7).bind fun u2 => (f_X7_signHere a0 q.2.2).bind fun p3 => if (p3 - (48 : Int32)) < 0 then if q.2.1 = 0 then some ((-1 : Int32), q.2.2) else some (q.1, q.2.2) else if (p3 - (48 : Int32)) ≤ (9 : Int32) then (x_gI q.2.2 a0 7 1).bind fun v7 => (x_put q.2.2 a0 7 1 (.int (v7 + (1 : Int32)))).bind fun m8 => k4 (((q.1 * (10 : Int32)) + (p3 - (48 : Int32))), (q.2.1 + (1 : Int32)), m8) else if q.2.1 = 0 then some ((-1 : Int32), q.2.2) else some (q.1, q.2.2)
set_option maxHeartbeats 4000000 in
set_option maxRecDepth 100000 in
theorem lp_X7_takeNumber_4 (l : Launch) (D : va_G) (aC : FieldType → ClassId) (bs : Nat) (sz : Nat) (F : Nat) (a0 : Nat) (a1 : Int32)   : ∀ (n : Nat) (b0 : Int32) (b1 : Int32) (b2 : XM) (r : Int32 × XM), x_it (b_X7_takeNumber_4 F a0 a1 ) n (b0, b1, b2) = some r → x_V l D aC bs yX7_takeNumber cX7_takeNumber 5 (some .int) rm_X7_takeNumber (x_Z D aC bs (some (.int r.1)) sz r.2 rm_X7_takeNumber) 4 [(0, .ref a0), (1, .int a1), (2, .int b0), (3, .int b1)] [] sz b2 0 0 := by
  suffices H : ∀ (n : Nat) (q : Int32 × Int32 × XM) (r : Int32 × XM), x_it (b_X7_takeNumber_4 F a0 a1 ) n q = some r → x_V l D aC bs yX7_takeNumber cX7_takeNumber 5 (some .int) rm_X7_takeNumber (x_Z D aC bs (some (.int r.1)) sz r.2 rm_X7_takeNumber) 4 [(0, .ref a0), (1, .int a1), (2, .int q.1), (3, .int q.2.1)] [] sz q.2.2 0 0 from fun n b0 b1 b2 r h => H n (b0, b1, b2) r h
  refine x_loop (P := fun (q : Int32 × Int32 × XM) (r : Int32 × XM) => x_V l D aC bs yX7_takeNumber cX7_takeNumber 5 (some .int) rm_X7_takeNumber (x_Z D aC bs (some (.int r.1)) sz r.2 rm_X7_takeNumber) 4 [(0, .ref a0), (1, .int a1), (2, .int q.1), (3, .int q.2.1)] [] sz q.2.2 0 0) (fun k4 hk0 q r h => ?_)
  have hk4 : ∀ (b0 : Int32) (b1 : Int32) (b2 : XM) (r : Int32 × XM), k4 (b0, b1, b2) = some r → x_V l D aC bs yX7_takeNumber cX7_takeNumber 5 (some .int) rm_X7_takeNumber (x_Z D aC bs (some (.int r.1)) sz r.2 rm_X7_takeNumber) 4 [(0, .ref a0), (1, .int a1), (2, .int b0), (3, .int b1)] [] sz b2 0 0 := fun b0 b1 b2 r h => hk0 (b0, b1, b2) r h
  unfold b_X7_takeNumber_4 at h
  refine x_iload_n dX7_takeNumber_4 3 rfl ?_
  refine x_iload_n dX7_takeNumber_5 1 rfl ?_
  refine x_icmp_ge 64 dX7_takeNumber_6 (by decide) (fun c1 => ?_) (fun c1 => ?_)
  · have h := (if_pos c1).symm.trans h
    refine x_iload_n dX7_takeNumber_64 2 rfl ?_
    obtain rfl := Option.some.inj h
    exact x_iret dX7_takeNumber_65 (Nat.le_of_ble_eq_true rfl) (Nat.le_of_ble_eq_true rfl)
  have h := (if_neg c1).symm.trans h
  refine x_aload_n dX7_takeNumber_9 0 rfl ?_
  obtain ⟨u2, eu2, h⟩ := x_bd h
  obtain ⟨p3, ep3, h⟩ := x_bd h
  refine x_callVI [] [] clX7 me_X7_signHere w_ml_RX7_39 w_im_yX7_signHere w_se_yX7_signHere (Nat.le_of_ble_eq_true rfl) (Nat.le_of_ble_eq_true rfl) rfl (Nat.le_of_ble_eq_true rfl) (Nat.le_of_ble_eq_true rfl) (Nat.le_of_ble_eq_true rfl) dX7_takeNumber_10 eu2 (c_X7_signHere l D aC bs sz ep3) rfl ?_
  refine x_bipush (v := (48 : Int32)) dX7_takeNumber_13 (by decide) ?_
  refine x_isub dX7_takeNumber_15 ?_
  refine x_istore [(4, .int (p3 - (48 : Int32))), (0, .ref a0), (1, .int a1), (2, .int q.1), (3, .int q.2.1)] dX7_takeNumber_16 (by decide) rfl ?_
  refine x_iload dX7_takeNumber_18 0 rfl ?_
  refine x_if_lt 30 dX7_takeNumber_20 (by decide) (fun c4 => ?_) (fun c4 => ?_)
  · have h := (if_pos c4).symm.trans h
    refine x_iload_n dX7_takeNumber_30 4 rfl ?_
    refine x_if_ne 38 dX7_takeNumber_31 (by decide) (fun c5 => ?_) (fun c5 => ?_)
    · have h := (if_neg c5).symm.trans h
      refine x_iload_n dX7_takeNumber_38 3 rfl ?_
      obtain rfl := Option.some.inj h
      exact x_iret dX7_takeNumber_39 (Nat.le_of_ble_eq_true rfl) (Nat.le_of_ble_eq_true rfl)
    have h := (if_pos c5).symm.trans h
    refine x_iconst (v := (-1 : Int32)) dX7_takeNumber_34 (by decide) ?_
    refine x_goto 39 dX7_takeNumber_35 (by decide) ?_
    obtain rfl := Option.some.inj h
    exact x_iret dX7_takeNumber_39 (Nat.le_of_ble_eq_true rfl) (Nat.le_of_ble_eq_true rfl)
  have h := (if_neg c4).symm.trans h
  refine x_iload dX7_takeNumber_23 0 rfl ?_
  refine x_bipush (v := (9 : Int32)) dX7_takeNumber_25 (by decide) ?_
  refine x_icmp_le 40 dX7_takeNumber_27 (by decide) (fun c6 => ?_) (fun c6 => ?_)
  · have h := (if_pos c6).symm.trans h
    refine x_iload_n dX7_takeNumber_40 3 rfl ?_
    refine x_bipush (v := (10 : Int32)) dX7_takeNumber_41 (by decide) ?_
    refine x_imul dX7_takeNumber_43 ?_
    refine x_iload dX7_takeNumber_44 0 rfl ?_
    refine x_iadd dX7_takeNumber_46 ?_
    refine x_istore_n 2 [(2, .int ((q.1 * (10 : Int32)) + (p3 - (48 : Int32)))), (4, .int (p3 - (48 : Int32))), (0, .ref a0), (1, .int a1), (3, .int q.2.1)] dX7_takeNumber_47 rfl (by decide) rfl ?_
    refine x_aload_n dX7_takeNumber_48 2 rfl ?_
    refine x_dup dX7_takeNumber_49 rfl ?_
    obtain ⟨v7, ev7, h⟩ := x_bd h
    refine x_getI clX7 w_fl_RX7_15 (by decide) dX7_takeNumber_50 ev7 ?_
    refine x_iconst (v := (1 : Int32)) dX7_takeNumber_53 (by decide) ?_
    refine x_iadd dX7_takeNumber_54 ?_
    obtain ⟨m8, em8, h⟩ := x_bd h
    refine x_putV clX7 w_fl_RX7_15 (by decide) rfl rfl rfl dX7_takeNumber_55 em8 ?_
    refine x_iinc (1 : Int32) 4 [(3, .int (q.2.1 + (1 : Int32))), (2, .int ((q.1 * (10 : Int32)) + (p3 - (48 : Int32)))), (4, .int (p3 - (48 : Int32))), (0, .ref a0), (1, .int a1)] dX7_takeNumber_58 rfl (by decide) (by decide) rfl ?_
    refine x_goto 4 dX7_takeNumber_61 (by decide) ?_
    exact x_sub [3, 4, 1, 0] rfl (hk4 _ _ _ _ h)
  have h := (if_neg c6).symm.trans h
  refine x_iload_n dX7_takeNumber_30 4 rfl ?_
  refine x_if_ne 38 dX7_takeNumber_31 (by decide) (fun c9 => ?_) (fun c9 => ?_)
  · have h := (if_neg c9).symm.trans h
    refine x_iload_n dX7_takeNumber_38 3 rfl ?_
    obtain rfl := Option.some.inj h
    exact x_iret dX7_takeNumber_39 (Nat.le_of_ble_eq_true rfl) (Nat.le_of_ble_eq_true rfl)
  have h := (if_pos c9).symm.trans h
  refine x_iconst (v := (-1 : Int32)) dX7_takeNumber_34 (by decide) ?_
  refine x_goto 39 dX7_takeNumber_35 (by decide) ?_
  obtain rfl := Option.some.inj h
  exact x_iret dX7_takeNumber_39 (Nat.le_of_ble_eq_true rfl) (Nat.le_of_ble_eq_true rfl)
def f_X7_takeNumber (F : Nat) (a0 : Nat) (a1 : Int32) (M : XM) : Option (Int32 × XM) := x_it (b_X7_takeNumber_4 F (a0) (a1)) F ((0 : Int32), (0 : Int32), M)
set_option maxHeartbeats 4000000 in
set_option maxRecDepth 100000 in
theorem c_X7_takeNumber (l : Launch) (D : va_G) (aC : FieldType → ClassId) (bs sz : Nat) (F : Nat) {a0 : Nat} {a1 : Int32} {M : XM} {r : Int32 × XM} (h : f_X7_takeNumber F a0 a1 M = some r) : x_Cn l D aC bs yX7_takeNumber cX7_takeNumber 5 (some .int) rm_X7_takeNumber [.ref a0, .int a1] sz M (some (.int r.1)) sz r.2 := by
  unfold f_X7_takeNumber at h
  refine x_enter2 [(0, .ref a0), (1, .int a1)] me_X7_takeNumber (Nat.le_of_ble_eq_true rfl) rfl ?_
  refine x_iconst (v := (0 : Int32)) dX7_takeNumber_0 (by decide) ?_
  refine x_istore_n 2 [(2, .int (0 : Int32)), (0, .ref a0), (1, .int a1)] dX7_takeNumber_1 rfl (by decide) rfl ?_
  refine x_iconst (v := (0 : Int32)) dX7_takeNumber_2 (by decide) ?_
  refine x_istore_n 3 [(3, .int (0 : Int32)), (2, .int (0 : Int32)), (0, .ref a0), (1, .int a1)] dX7_takeNumber_3 rfl (by decide) rfl ?_
  exact x_sub [2, 3, 1, 0] rfl (lp_X7_takeNumber_4 l D aC bs sz F (a0) (a1)  F _ _ _ _ h)
