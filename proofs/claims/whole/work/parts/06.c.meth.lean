-- SwappedIntervals$Text.takeClause(I)Z
abbrev rm_X7_takeClause : Room := { frames := 2, cells := 0, slots := 0, locals := 44 }
theorem me_X7_takeClause : x_Me yX7_takeClause cX7_takeClause 6 (some .boolean) 1 := ⟨by decide +kernel, w_co_yX7_takeClause, w_in_SwappedIntervals_Text, by decide +kernel, by decide +kernel, by decide +kernel⟩
def f_X7_takeClause (F : Nat) (a0 : Nat) (a1 : Int32) (M : XM) : Option (Int32 × XM) := (x_ob M a0 7).bind fun u1 => (f_X7_signHere a0 M).bind fun p2 => (f_X7_mostDigits p2 (0 : Int32) M).bind fun p3 => if p3 = (-1 : Int32) then some ((0 : Int32), M) else (x_gI M a0 7 1).bind fun v5 => (x_put M a0 7 1 (.int (v5 + (1 : Int32)))).bind fun m6 => (x_ob m6 a0 7).bind fun u7 => (f_X7_takeNumber F a0 p3 m6).bind fun p8 => if p8.1 = (-1 : Int32) then some ((0 : Int32), p8.2) else (f_X7_mostDigits p2 (1 : Int32) p8.2).bind fun p10 => (x_ob p8.2 a0 7).bind fun u11 => (f_X7_takeNumber F a0 p10 p8.2).bind fun p12 => (x_gR p12.2 a0 7 4).bind fun v13 => (x_w32 .int p12.2 v13 a1 p2).bind fun m14 => (x_gR m14 a0 7 5).bind fun v15 => (x_w32 .int m14 v15 a1 p8.1).bind fun m16 => (x_gR m16 a0 7 6).bind fun v17 => (x_w32 .int m16 v17 a1 p12.1).bind fun m18 => if p12.1 = (-1 : Int32) then some ((0 : Int32), m18) else some ((1 : Int32), m18)
set_option maxHeartbeats 4000000 in
set_option maxRecDepth 100000 in
theorem c_X7_takeClause (l : Launch) (D : va_G) (aC : FieldType → ClassId) (bs sz : Nat) (F : Nat) {a0 : Nat} {a1 : Int32} {M : XM} {r : Int32 × XM} (h : f_X7_takeClause F a0 a1 M = some r) : x_Cn l D aC bs yX7_takeClause cX7_takeClause 6 (some .boolean) rm_X7_takeClause [.ref a0, .int a1] sz M (some (.int r.1)) sz r.2 := by
  unfold f_X7_takeClause at h
  refine x_enter2 [(0, .ref a0), (1, .int a1)] me_X7_takeClause (Nat.le_of_ble_eq_true rfl) rfl ?_
  refine x_aload_n dX7_takeClause_0 0 rfl ?_
  obtain ⟨u1, eu1, h⟩ := x_bd h
  obtain ⟨p2, ep2, h⟩ := x_bd h
  refine x_callVI [] [] clX7 me_X7_signHere w_ml_RX7_39 w_im_yX7_signHere w_se_yX7_signHere (Nat.le_of_ble_eq_true rfl) (Nat.le_of_ble_eq_true rfl) rfl (Nat.le_of_ble_eq_true rfl) (Nat.le_of_ble_eq_true rfl) (Nat.le_of_ble_eq_true rfl) dX7_takeClause_1 eu1 (c_X7_signHere l D aC bs sz ep2) rfl ?_
  refine x_istore_n 2 [(2, .int p2), (0, .ref a0), (1, .int a1)] dX7_takeClause_4 rfl (by decide) rfl ?_
  refine x_iload_n dX7_takeClause_5 0 rfl ?_
  refine x_iconst (v := (0 : Int32)) dX7_takeClause_6 (by decide) ?_
  obtain ⟨p3, ep3, h⟩ := x_bd h
  refine x_callSI [.int p2, .int (0 : Int32)] [] me_X7_mostDigits w_ml_RX7_43 w_st_yX7_mostDigits (Nat.le_of_ble_eq_true rfl) (Nat.le_of_ble_eq_true rfl) rfl (Nat.le_of_ble_eq_true rfl) (Nat.le_of_ble_eq_true rfl) (Nat.le_of_ble_eq_true rfl) dX7_takeClause_7 (c_X7_mostDigits l D aC bs sz ep3) rfl ?_
  refine x_istore_n 3 [(3, .int p3), (2, .int p2), (0, .ref a0), (1, .int a1)] dX7_takeClause_10 rfl (by decide) rfl ?_
  refine x_iload_n dX7_takeClause_11 0 rfl ?_
  refine x_iconst (v := (-1 : Int32)) dX7_takeClause_12 (by decide) ?_
  refine x_icmp_ne 18 dX7_takeClause_13 (by decide) (fun c4 => ?_) (fun c4 => ?_)
  · have h := (if_neg c4).symm.trans h
    refine x_aload_n dX7_takeClause_18 2 rfl ?_
    refine x_dup dX7_takeClause_19 rfl ?_
    obtain ⟨v5, ev5, h⟩ := x_bd h
    refine x_getI clX7 w_fl_RX7_15 (by decide) dX7_takeClause_20 ev5 ?_
    refine x_iconst (v := (1 : Int32)) dX7_takeClause_23 (by decide) ?_
    refine x_iadd dX7_takeClause_24 ?_
    obtain ⟨m6, em6, h⟩ := x_bd h
    refine x_putV clX7 w_fl_RX7_15 (by decide) rfl rfl rfl dX7_takeClause_25 em6 ?_
    refine x_aload_n dX7_takeClause_28 2 rfl ?_
    refine x_iload_n dX7_takeClause_29 0 rfl ?_
    obtain ⟨u7, eu7, h⟩ := x_bd h
    obtain ⟨p8, ep8, h⟩ := x_bd h
    refine x_callVI [.int p3] [] clX7 me_X7_takeNumber w_ml_RX7_47 w_im_yX7_takeNumber w_se_yX7_takeNumber (Nat.le_of_ble_eq_true rfl) (Nat.le_of_ble_eq_true rfl) rfl (Nat.le_of_ble_eq_true rfl) (Nat.le_of_ble_eq_true rfl) (Nat.le_of_ble_eq_true rfl) dX7_takeClause_30 eu7 (c_X7_takeNumber l D aC bs sz F ep8) rfl ?_
    refine x_istore [(4, .int p8.1), (3, .int p3), (2, .int p2), (0, .ref a0), (1, .int a1)] dX7_takeClause_33 (by decide) rfl ?_
    refine x_iload dX7_takeClause_35 0 rfl ?_
    refine x_iconst (v := (-1 : Int32)) dX7_takeClause_37 (by decide) ?_
    refine x_icmp_ne 43 dX7_takeClause_38 (by decide) (fun c9 => ?_) (fun c9 => ?_)
    · have h := (if_neg c9).symm.trans h
      refine x_aload_n dX7_takeClause_43 3 rfl ?_
      refine x_iload_n dX7_takeClause_44 2 rfl ?_
      refine x_iconst (v := (1 : Int32)) dX7_takeClause_45 (by decide) ?_
      obtain ⟨p10, ep10, h⟩ := x_bd h
      refine x_callSI [.int p2, .int (1 : Int32)] [.ref a0] me_X7_mostDigits w_ml_RX7_43 w_st_yX7_mostDigits (Nat.le_of_ble_eq_true rfl) (Nat.le_of_ble_eq_true rfl) rfl (Nat.le_of_ble_eq_true rfl) (Nat.le_of_ble_eq_true rfl) (Nat.le_of_ble_eq_true rfl) dX7_takeClause_46 (c_X7_mostDigits l D aC bs sz ep10) rfl ?_
      obtain ⟨u11, eu11, h⟩ := x_bd h
      obtain ⟨p12, ep12, h⟩ := x_bd h
      refine x_callVI [.int p10] [] clX7 me_X7_takeNumber w_ml_RX7_47 w_im_yX7_takeNumber w_se_yX7_takeNumber (Nat.le_of_ble_eq_true rfl) (Nat.le_of_ble_eq_true rfl) rfl (Nat.le_of_ble_eq_true rfl) (Nat.le_of_ble_eq_true rfl) (Nat.le_of_ble_eq_true rfl) dX7_takeClause_49 eu11 (c_X7_takeNumber l D aC bs sz F ep12) rfl ?_
      refine x_istore [(5, .int p12.1), (4, .int p8.1), (3, .int p3), (2, .int p2), (0, .ref a0), (1, .int a1)] dX7_takeClause_52 (by decide) rfl ?_
      refine x_aload_n dX7_takeClause_54 4 rfl ?_
      obtain ⟨v13, ev13, h⟩ := x_bd h
      refine x_getR clX7 w_fl_RX7_25 (by decide) dX7_takeClause_55 ev13 ?_
      refine x_iload_n dX7_takeClause_58 5 rfl ?_
      refine x_iload_n dX7_takeClause_59 3 rfl ?_
      obtain ⟨m14, em14, h⟩ := x_bd h
      refine x_iast dX7_takeClause_60 em14 ?_
      refine x_aload_n dX7_takeClause_61 4 rfl ?_
      obtain ⟨v15, ev15, h⟩ := x_bd h
      refine x_getR clX7 w_fl_RX7_29 (by decide) dX7_takeClause_62 ev15 ?_
      refine x_iload_n dX7_takeClause_65 5 rfl ?_
      refine x_iload dX7_takeClause_66 1 rfl ?_
      obtain ⟨m16, em16, h⟩ := x_bd h
      refine x_iast dX7_takeClause_68 em16 ?_
      refine x_aload_n dX7_takeClause_69 4 rfl ?_
      obtain ⟨v17, ev17, h⟩ := x_bd h
      refine x_getR clX7 w_fl_RX7_32 (by decide) dX7_takeClause_70 ev17 ?_
      refine x_iload_n dX7_takeClause_73 5 rfl ?_
      refine x_iload dX7_takeClause_74 0 rfl ?_
      obtain ⟨m18, em18, h⟩ := x_bd h
      refine x_iast dX7_takeClause_76 em18 ?_
      refine x_iload dX7_takeClause_77 0 rfl ?_
      refine x_iconst (v := (-1 : Int32)) dX7_takeClause_79 (by decide) ?_
      refine x_icmp_eq 87 dX7_takeClause_80 (by decide) (fun c19 => ?_) (fun c19 => ?_)
      · have h := (if_pos c19).symm.trans h
        refine x_iconst (v := (0 : Int32)) dX7_takeClause_87 (by decide) ?_
        obtain rfl := Option.some.inj h
        exact x_zret dX7_takeClause_88 (Or.inl rfl) (Nat.le_of_ble_eq_true rfl) (Nat.le_of_ble_eq_true rfl)
      have h := (if_neg c19).symm.trans h
      refine x_iconst (v := (1 : Int32)) dX7_takeClause_83 (by decide) ?_
      refine x_goto 88 dX7_takeClause_84 (by decide) ?_
      obtain rfl := Option.some.inj h
      exact x_zret dX7_takeClause_88 (Or.inr rfl) (Nat.le_of_ble_eq_true rfl) (Nat.le_of_ble_eq_true rfl)
    have h := (if_pos c9).symm.trans h
    refine x_iconst (v := (0 : Int32)) dX7_takeClause_41 (by decide) ?_
    obtain rfl := Option.some.inj h
    exact x_zret dX7_takeClause_42 (Or.inl rfl) (Nat.le_of_ble_eq_true rfl) (Nat.le_of_ble_eq_true rfl)
  have h := (if_pos c4).symm.trans h
  refine x_iconst (v := (0 : Int32)) dX7_takeClause_16 (by decide) ?_
  obtain rfl := Option.some.inj h
  exact x_zret dX7_takeClause_17 (Or.inl rfl) (Nat.le_of_ble_eq_true rfl) (Nat.le_of_ble_eq_true rfl)

-- SwappedIntervals$Text.findFault()I
abbrev rm_X7_findFault : Room := { frames := 3, cells := 0, slots := 0, locals := 69 }
theorem me_X7_findFault : x_Me yX7_findFault cX7_findFault 2 (some .int) 0 := ⟨by decide +kernel, w_co_yX7_findFault, w_in_SwappedIntervals_Text, by decide +kernel, by decide +kernel, by decide +kernel⟩
def b_X7_findFault_12 (F : Nat) (a0 : Nat)  (k12 : (Int32 × XM) → Option (Int32 × XM)) (q : Int32 × XM) : Option (Int32 × XM) := if (12 : Int32) ≤ q.1 then (x_gI q.2 a0 7 1).bind fun v4 => some (v4, q.2) else (x_ob q.2 a0 7).bind fun u5 => (f_X7_takeClause F a0 q.1 q.2).bind fun p6 => if p6.1 = 0 then (x_gI p6.2 a0 7 1).bind fun v21 => some (v21, p6.2) else (x_put p6.2 a0 7 3 (.int (q.1 + (1 : Int32)))).bind fun m8 => (x_gI m8 a0 7 1).bind fun v9 => (x_gI m8 a0 7 2).bind fun v10 => if v9 = v10 then some ((-1 : Int32), m8) else (x_ob m8 a0 7).bind fun u12 => (f_X7_signHere a0 m8).bind fun p13 => if p13 = (59 : Int32) then (x_gI m8 a0 7 3).bind fun v16 => if v16 = (12 : Int32) then (x_gI m8 a0 7 1).bind fun v20 => some (v20, m8) else (x_gI m8 a0 7 1).bind fun v18 => (x_put m8 a0 7 1 (.int (v18 + (1 : Int32)))).bind fun m19 => k12 ((q.1 + (1 : Int32)), m19) else (x_gI m8 a0 7 1).bind fun v15 => some (v15, m8)
set_option maxHeartbeats 4000000 in
set_option maxRecDepth 100000 in
theorem lp_X7_findFault_12 (l : Launch) (D : va_G) (aC : FieldType → ClassId) (bs : Nat) (sz : Nat) (F : Nat) (a0 : Nat)   : ∀ (n : Nat) (b0 : Int32) (b1 : XM) (r : Int32 × XM), x_it (b_X7_findFault_12 F a0 ) n (b0, b1) = some r → x_V l D aC bs yX7_findFault cX7_findFault 2 (some .int) rm_X7_findFault (x_Z D aC bs (some (.int r.1)) sz r.2 rm_X7_findFault) 12 [(0, .ref a0), (1, .int b0)] [] sz b1 0 0 := by
  suffices H : ∀ (n : Nat) (q : Int32 × XM) (r : Int32 × XM), x_it (b_X7_findFault_12 F a0 ) n q = some r → x_V l D aC bs yX7_findFault cX7_findFault 2 (some .int) rm_X7_findFault (x_Z D aC bs (some (.int r.1)) sz r.2 rm_X7_findFault) 12 [(0, .ref a0), (1, .int q.1)] [] sz q.2 0 0 from fun n b0 b1 r h => H n (b0, b1) r h
  refine x_loop (P := fun (q : Int32 × XM) (r : Int32 × XM) => x_V l D aC bs yX7_findFault cX7_findFault 2 (some .int) rm_X7_findFault (x_Z D aC bs (some (.int r.1)) sz r.2 rm_X7_findFault) 12 [(0, .ref a0), (1, .int q.1)] [] sz q.2 0 0) (fun k12 hk0 q r h => ?_)
  have hk12 : ∀ (b0 : Int32) (b1 : XM) (r : Int32 × XM), k12 (b0, b1) = some r → x_V l D aC bs yX7_findFault cX7_findFault 2 (some .int) rm_X7_findFault (x_Z D aC bs (some (.int r.1)) sz r.2 rm_X7_findFault) 12 [(0, .ref a0), (1, .int b0)] [] sz b1 0 0 := fun b0 b1 r h => hk0 (b0, b1) r h
  unfold b_X7_findFault_12 at h
  refine x_iload_n dX7_findFault_12 1 rfl ?_
  refine x_bipush (v := (12 : Int32)) dX7_findFault_13 (by decide) ?_
  refine x_icmp_ge 90 dX7_findFault_15 (by decide) (fun c3 => ?_) (fun c3 => ?_)
  · have h := (if_pos c3).symm.trans h
    refine x_aload_n dX7_findFault_90 0 rfl ?_
    obtain ⟨v4, ev4, h⟩ := x_bd h
    refine x_getI clX7 w_fl_RX7_15 (by decide) dX7_findFault_91 ev4 ?_
    obtain rfl := Option.some.inj h
    exact x_iret dX7_findFault_94 (Nat.le_of_ble_eq_true rfl) (Nat.le_of_ble_eq_true rfl)
  have h := (if_neg c3).symm.trans h
  refine x_aload_n dX7_findFault_18 0 rfl ?_
  refine x_iload_n dX7_findFault_19 1 rfl ?_
  obtain ⟨u5, eu5, h⟩ := x_bd h
  obtain ⟨p6, ep6, h⟩ := x_bd h
  refine x_callVI [.int q.1] [] clX7 me_X7_takeClause w_ml_RX7_35 w_im_yX7_takeClause w_se_yX7_takeClause (Nat.le_of_ble_eq_true rfl) (Nat.le_of_ble_eq_true rfl) rfl (Nat.le_of_ble_eq_true rfl) (Nat.le_of_ble_eq_true rfl) (Nat.le_of_ble_eq_true rfl) dX7_findFault_20 eu5 (c_X7_takeClause l D aC bs sz F ep6) rfl ?_
  refine x_if_ne 31 dX7_findFault_23 (by decide) (fun c7 => ?_) (fun c7 => ?_)
  · have h := (if_neg c7).symm.trans h
    refine x_aload_n dX7_findFault_31 0 rfl ?_
    refine x_iload_n dX7_findFault_32 1 rfl ?_
    refine x_iconst (v := (1 : Int32)) dX7_findFault_33 (by decide) ?_
    refine x_iadd dX7_findFault_34 ?_
    obtain ⟨m8, em8, h⟩ := x_bd h
    refine x_putV clX7 w_fl_RX7_22 (by decide) rfl rfl rfl dX7_findFault_35 em8 ?_
    refine x_aload_n dX7_findFault_38 0 rfl ?_
    obtain ⟨v9, ev9, h⟩ := x_bd h
    refine x_getI clX7 w_fl_RX7_15 (by decide) dX7_findFault_39 ev9 ?_
    refine x_aload_n dX7_findFault_42 0 rfl ?_
    obtain ⟨v10, ev10, h⟩ := x_bd h
    refine x_getI clX7 w_fl_RX7_19 (by decide) dX7_findFault_43 ev10 ?_
    refine x_icmp_ne 51 dX7_findFault_46 (by decide) (fun c11 => ?_) (fun c11 => ?_)
    · have h := (if_neg c11).symm.trans h
      refine x_aload_n dX7_findFault_51 0 rfl ?_
      obtain ⟨u12, eu12, h⟩ := x_bd h
      obtain ⟨p13, ep13, h⟩ := x_bd h
      refine x_callVI [] [] clX7 me_X7_signHere w_ml_RX7_39 w_im_yX7_signHere w_se_yX7_signHere (Nat.le_of_ble_eq_true rfl) (Nat.le_of_ble_eq_true rfl) rfl (Nat.le_of_ble_eq_true rfl) (Nat.le_of_ble_eq_true rfl) (Nat.le_of_ble_eq_true rfl) dX7_findFault_52 eu12 (c_X7_signHere l D aC bs sz ep13) rfl ?_
      refine x_bipush (v := (59 : Int32)) dX7_findFault_55 (by decide) ?_
      refine x_icmp_ne 69 dX7_findFault_57 (by decide) (fun c14 => ?_) (fun c14 => ?_)
      · have h := (if_neg c14).symm.trans h
        refine x_aload_n dX7_findFault_69 0 rfl ?_
        obtain ⟨v15, ev15, h⟩ := x_bd h
        refine x_getI clX7 w_fl_RX7_15 (by decide) dX7_findFault_70 ev15 ?_
        obtain rfl := Option.some.inj h
        exact x_iret dX7_findFault_73 (Nat.le_of_ble_eq_true rfl) (Nat.le_of_ble_eq_true rfl)
      have h := (if_pos c14).symm.trans h
      refine x_aload_n dX7_findFault_60 0 rfl ?_
      obtain ⟨v16, ev16, h⟩ := x_bd h
      refine x_getI clX7 w_fl_RX7_22 (by decide) dX7_findFault_61 ev16 ?_
      refine x_bipush (v := (12 : Int32)) dX7_findFault_64 (by decide) ?_
      refine x_icmp_ne 74 dX7_findFault_66 (by decide) (fun c17 => ?_) (fun c17 => ?_)
      · have h := (if_neg c17).symm.trans h
        refine x_aload_n dX7_findFault_74 0 rfl ?_
        refine x_dup dX7_findFault_75 rfl ?_
        obtain ⟨v18, ev18, h⟩ := x_bd h
        refine x_getI clX7 w_fl_RX7_15 (by decide) dX7_findFault_76 ev18 ?_
        refine x_iconst (v := (1 : Int32)) dX7_findFault_79 (by decide) ?_
        refine x_iadd dX7_findFault_80 ?_
        obtain ⟨m19, em19, h⟩ := x_bd h
        refine x_putV clX7 w_fl_RX7_15 (by decide) rfl rfl rfl dX7_findFault_81 em19 ?_
        refine x_iinc (1 : Int32) 1 [(1, .int (q.1 + (1 : Int32))), (0, .ref a0)] dX7_findFault_84 rfl (by decide) (by decide) rfl ?_
        refine x_goto 12 dX7_findFault_87 (by decide) ?_
        exact x_sub [1, 0] rfl (hk12 _ _ _ h)
      have h := (if_pos c17).symm.trans h
      refine x_aload_n dX7_findFault_69 0 rfl ?_
      obtain ⟨v20, ev20, h⟩ := x_bd h
      refine x_getI clX7 w_fl_RX7_15 (by decide) dX7_findFault_70 ev20 ?_
      obtain rfl := Option.some.inj h
      exact x_iret dX7_findFault_73 (Nat.le_of_ble_eq_true rfl) (Nat.le_of_ble_eq_true rfl)
    have h := (if_pos c11).symm.trans h
    refine x_iconst (v := (-1 : Int32)) dX7_findFault_49 (by decide) ?_
    obtain rfl := Option.some.inj h
    exact x_iret dX7_findFault_50 (Nat.le_of_ble_eq_true rfl) (Nat.le_of_ble_eq_true rfl)
  have h := (if_pos c7).symm.trans h
  refine x_aload_n dX7_findFault_26 0 rfl ?_
  obtain ⟨v21, ev21, h⟩ := x_bd h
  refine x_getI clX7 w_fl_RX7_15 (by decide) dX7_findFault_27 ev21 ?_
  obtain rfl := Option.some.inj h
  exact x_iret dX7_findFault_30 (Nat.le_of_ble_eq_true rfl) (Nat.le_of_ble_eq_true rfl)
def f_X7_findFault (F : Nat) (a0 : Nat) (M : XM) : Option (Int32 × XM) := (x_put M a0 7 1 (.int (0 : Int32))).bind fun m1 => (x_put m1 a0 7 3 (.int (0 : Int32))).bind fun m2 => x_it (b_X7_findFault_12 F (a0)) F ((0 : Int32), m2)
set_option maxHeartbeats 4000000 in
set_option maxRecDepth 100000 in
theorem c_X7_findFault (l : Launch) (D : va_G) (aC : FieldType → ClassId) (bs sz : Nat) (F : Nat) {a0 : Nat} {M : XM} {r : Int32 × XM} (h : f_X7_findFault F a0 M = some r) : x_Cn l D aC bs yX7_findFault cX7_findFault 2 (some .int) rm_X7_findFault [.ref a0] sz M (some (.int r.1)) sz r.2 := by
  unfold f_X7_findFault at h
  refine x_enter2 [(0, .ref a0)] me_X7_findFault (Nat.le_of_ble_eq_true rfl) rfl ?_
  refine x_aload_n dX7_findFault_0 0 rfl ?_
  refine x_iconst (v := (0 : Int32)) dX7_findFault_1 (by decide) ?_
  obtain ⟨m1, em1, h⟩ := x_bd h
  refine x_putV clX7 w_fl_RX7_15 (by decide) rfl rfl rfl dX7_findFault_2 em1 ?_
  refine x_aload_n dX7_findFault_5 0 rfl ?_
  refine x_iconst (v := (0 : Int32)) dX7_findFault_6 (by decide) ?_
  obtain ⟨m2, em2, h⟩ := x_bd h
  refine x_putV clX7 w_fl_RX7_22 (by decide) rfl rfl rfl dX7_findFault_7 em2 ?_
  refine x_iconst (v := (0 : Int32)) dX7_findFault_10 (by decide) ?_
  refine x_istore_n 1 [(1, .int (0 : Int32)), (0, .ref a0)] dX7_findFault_11 rfl (by decide) rfl ?_
  exact x_sub [1, 0] rfl (lp_X7_findFault_12 l D aC bs sz F (a0)  F _ _ _ h)

-- SwappedIntervals.<init>()V
abbrev rm_X8_init : Room := { frames := 4, cells := 110, slots := 2207, locals := 84 }
abbrev mc_X8_init : Nat := 110
theorem me_X8_init : x_Me yX8_init cX8_init 2 none 0 := ⟨by decide +kernel, w_co_yX8_init, w_in_SwappedIntervals, by decide +kernel, by decide +kernel, by decide +kernel⟩
def f_X8_init (F : Nat) (a0 : Nat) (sz : Nat) (M : XM) : Option (XM) := (x_nw M sz (.inr (4, [.null, .int 0, .null, .null, .null]))).bind fun m1 => (f_X4_init F sz (sz + 1) m1).bind fun p2 => (x_put p2 a0 8 0 (.ref sz)).bind fun m3 => (x_nw m3 (sz + 14) (.inr (4, [.null, .int 0, .null, .null, .null]))).bind fun m4 => (f_X4_init F (sz + 14) (sz + 15) m4).bind fun p5 => (x_put p5 a0 8 1 (.ref (sz + 14))).bind fun m6 => (x_put m6 a0 8 2 (.int (0 : Int32))).bind fun m7 => (x_nw m7 (sz + 28) (.inr (0, [.null, .int 0, .int 0]))).bind fun m8 => (f_X0_init F (sz + 28) (sz + 29) m8).bind fun p9 => (x_put p9 a0 8 3 (.ref (sz + 28))).bind fun m10 => (x_nw m10 (sz + 78) (.inr (7, [.null, .int 0, .int 0, .int 0, .null, .null, .null]))).bind fun m11 => (f_X7_init (sz + 78) (sz + 79) m11).bind fun p12 => (x_put p12 a0 8 4 (.ref (sz + 78))).bind fun m13 => (x_nw m13 (sz + 83) (.inr (1, [.null, .null, .int 0]))).bind fun m14 => (f_X1_init (sz + 83) (sz + 84) m14).bind fun p15 => (x_put p15 a0 8 5 (.ref (sz + 83))).bind fun m16 => (x_nw m16 (sz + 86) (.inr (5, [.null, .null, .null, .int 0]))).bind fun m17 => (f_X5_init F (sz + 86) (sz + 87) m17).bind fun p18 => (x_put p18 a0 8 6 (.ref (sz + 86))).bind fun m19 => (x_nw m19 (sz + 93) (.inr (3, [.int 0, .null, .null, .null]))).bind fun m20 => (f_X3_init F (sz + 93) (sz + 94) m20).bind fun p21 => (x_put p21 a0 8 7 (.ref (sz + 93))).bind fun m22 => (x_nw m22 (sz + 97) (.inl ((.object RX6), 6, .inr (.inr (.inr (.inr (fun _ => none))))))).bind fun m23 => (x_put m23 a0 8 8 (.ref (sz + 97))).bind fun m24 => (x_gR m24 a0 8 8).bind fun v25 => (x_nw m24 (sz + 98) (.inr (6, [.int 0, .int 0, .null]))).bind fun m26 => (f_X6_init (sz + 98) (sz + 99) m26).bind fun p27 => (x_ob p27 (sz + 98) 6).bind fun u28 => (x_wQ (.object RX6) p27 v25 (0 : Int32) (sz + 98)).bind fun m29 => (x_gR m29 a0 8 8).bind fun v30 => (x_nw m29 (sz + 100) (.inr (6, [.int 0, .int 0, .null]))).bind fun m31 => (f_X6_init (sz + 100) (sz + 101) m31).bind fun p32 => (x_ob p32 (sz + 100) 6).bind fun u33 => (x_wQ (.object RX6) p32 v30 (1 : Int32) (sz + 100)).bind fun m34 => (x_gR m34 a0 8 8).bind fun v35 => (x_nw m34 (sz + 102) (.inr (6, [.int 0, .int 0, .null]))).bind fun m36 => (f_X6_init (sz + 102) (sz + 103) m36).bind fun p37 => (x_ob p37 (sz + 102) 6).bind fun u38 => (x_wQ (.object RX6) p37 v35 (2 : Int32) (sz + 102)).bind fun m39 => (x_gR m39 a0 8 8).bind fun v40 => (x_nw m39 (sz + 104) (.inr (6, [.int 0, .int 0, .null]))).bind fun m41 => (f_X6_init (sz + 104) (sz + 105) m41).bind fun p42 => (x_ob p42 (sz + 104) 6).bind fun u43 => (x_wQ (.object RX6) p42 v40 (3 : Int32) (sz + 104)).bind fun m44 => (x_gR m44 a0 8 8).bind fun v45 => (x_nw m44 (sz + 106) (.inr (6, [.int 0, .int 0, .null]))).bind fun m46 => (f_X6_init (sz + 106) (sz + 107) m46).bind fun p47 => (x_ob p47 (sz + 106) 6).bind fun u48 => (x_wQ (.object RX6) p47 v45 (4 : Int32) (sz + 106)).bind fun m49 => (x_gR m49 a0 8 8).bind fun v50 => (x_nw m49 (sz + 108) (.inr (6, [.int 0, .int 0, .null]))).bind fun m51 => (f_X6_init (sz + 108) (sz + 109) m51).bind fun p52 => (x_ob p52 (sz + 108) 6).bind fun u53 => (x_wQ (.object RX6) p52 v50 (5 : Int32) (sz + 108)).bind fun m54 => some m54
set_option maxHeartbeats 4000000 in
set_option maxRecDepth 100000 in
theorem c_X8_init (l : Launch) (D : va_G) (aC : FieldType → ClassId) (bs sz : Nat) (F : Nat) {a0 : Nat} {M : XM} {r : XM} (h : f_X8_init F a0 sz M = some r) : x_Cn l D aC bs yX8_init cX8_init 2 none rm_X8_init [.ref a0] sz M none (sz + mc_X8_init) r := by
  unfold f_X8_init at h
  refine x_enter2 [(0, .ref a0)] me_X8_init (Nat.le_of_ble_eq_true rfl) rfl ?_
  refine x_aload_n dX8_init_0 0 rfl ?_
  refine x_objInit w_ml_RX8_5 w_im_Lib_objectInit w_co_Lib_objectInit (Nat.le_of_ble_eq_true rfl) (Nat.le_of_ble_eq_true rfl) dX8_init_1 ?_
  refine x_aload_n dX8_init_4 0 rfl ?_
  obtain ⟨m1, em1, h⟩ := x_bd h
  refine x_new [.null, .int 0, .null, .null, .null] clX4 w_cl_RX8_11 w_is_SwappedIntervals_Setup w_in_SwappedIntervals_Setup nwX4 (Nat.le_of_ble_eq_true rfl) (Nat.le_of_ble_eq_true rfl) dX8_init_5 ?_
  refine x_castM (Option.some.inj em1) ?_
  refine x_dup dX8_init_8 rfl ?_
  obtain ⟨p2, ep2, h⟩ := x_bd h
  refine x_callINV [] [.ref sz, .ref a0] rfl me_X4_init (by decide +kernel) w_im_yX4_init rfl (Nat.le_of_ble_eq_true rfl) (Nat.le_of_ble_eq_true rfl) rfl (Nat.le_of_ble_eq_true rfl) (Nat.le_of_ble_eq_true rfl) (Nat.le_of_ble_eq_true rfl) dX8_init_9 (c_X4_init l D aC bs (sz + 1) F ep2) rfl ?_
  obtain ⟨m3, em3, h⟩ := x_bd h
  refine x_putF clX8 w_fl_RX8_14 (by decide) rfl rfl rfl rfl rfl dX8_init_12 em3 ?_
  refine x_aload_n dX8_init_15 0 rfl ?_
  obtain ⟨m4, em4, h⟩ := x_bd h
  refine x_new [.null, .int 0, .null, .null, .null] clX4 w_cl_RX8_11 w_is_SwappedIntervals_Setup w_in_SwappedIntervals_Setup nwX4 (Nat.le_of_ble_eq_true rfl) (Nat.le_of_ble_eq_true rfl) dX8_init_16 ?_
  refine x_castM (Option.some.inj em4) ?_
  refine x_dup dX8_init_19 rfl ?_
  obtain ⟨p5, ep5, h⟩ := x_bd h
  refine x_callINV [] [.ref (sz + 14), .ref a0] rfl me_X4_init (by decide +kernel) w_im_yX4_init rfl (Nat.le_of_ble_eq_true rfl) (Nat.le_of_ble_eq_true rfl) rfl (Nat.le_of_ble_eq_true rfl) (Nat.le_of_ble_eq_true rfl) (Nat.le_of_ble_eq_true rfl) dX8_init_20 (c_X4_init l D aC bs (sz + 15) F ep5) rfl ?_
  obtain ⟨m6, em6, h⟩ := x_bd h
  refine x_putF clX8 w_fl_RX8_18 (by decide) rfl rfl rfl rfl rfl dX8_init_23 em6 ?_
  refine x_aload_n dX8_init_26 0 rfl ?_
  refine x_iconst (v := (0 : Int32)) dX8_init_27 (by decide) ?_
  obtain ⟨m7, em7, h⟩ := x_bd h
  refine x_putV clX8 w_fl_RX8_21 (by decide) rfl rfl rfl dX8_init_28 em7 ?_
  refine x_aload_n dX8_init_31 0 rfl ?_
  obtain ⟨m8, em8, h⟩ := x_bd h
  refine x_new [.null, .int 0, .int 0] clX0 w_cl_RX8_25 w_is_SwappedIntervals_Deeds w_in_SwappedIntervals_Deeds nwX0 (Nat.le_of_ble_eq_true rfl) (Nat.le_of_ble_eq_true rfl) dX8_init_32 ?_
  refine x_castM (Option.some.inj em8) ?_
  refine x_dup dX8_init_35 rfl ?_
  obtain ⟨p9, ep9, h⟩ := x_bd h
  refine x_callIV [] [.ref (sz + 28), .ref a0] me_X0_init w_ml_RX8_27 w_im_yX0_init rfl (Nat.le_of_ble_eq_true rfl) (Nat.le_of_ble_eq_true rfl) rfl (Nat.le_of_ble_eq_true rfl) (Nat.le_of_ble_eq_true rfl) (Nat.le_of_ble_eq_true rfl) dX8_init_36 (c_X0_init l D aC bs (sz + 29) F ep9) rfl ?_
  obtain ⟨m10, em10, h⟩ := x_bd h
  refine x_putF clX8 w_fl_RX8_28 (by decide) rfl rfl rfl rfl rfl dX8_init_39 em10 ?_
  refine x_aload_n dX8_init_42 0 rfl ?_
  obtain ⟨m11, em11, h⟩ := x_bd h
  refine x_new [.null, .int 0, .int 0, .int 0, .null, .null, .null] clX7 w_cl_RX8_32 w_is_SwappedIntervals_Text w_in_SwappedIntervals_Text nwX7 (Nat.le_of_ble_eq_true rfl) (Nat.le_of_ble_eq_true rfl) dX8_init_43 ?_
  refine x_castM (Option.some.inj em11) ?_
  refine x_dup dX8_init_46 rfl ?_
  obtain ⟨p12, ep12, h⟩ := x_bd h
  refine x_callINV [] [.ref (sz + 78), .ref a0] rfl me_X7_init (by decide +kernel) w_im_yX7_init rfl (Nat.le_of_ble_eq_true rfl) (Nat.le_of_ble_eq_true rfl) rfl (Nat.le_of_ble_eq_true rfl) (Nat.le_of_ble_eq_true rfl) (Nat.le_of_ble_eq_true rfl) dX8_init_47 (c_X7_init l D aC bs (sz + 79) ep12) rfl ?_
  obtain ⟨m13, em13, h⟩ := x_bd h
  refine x_putF clX8 w_fl_RX8_35 (by decide) rfl rfl rfl rfl rfl dX8_init_50 em13 ?_
  refine x_aload_n dX8_init_53 0 rfl ?_
  obtain ⟨m14, em14, h⟩ := x_bd h
  refine x_new [.null, .null, .int 0] clX1 w_cl_RX8_39 w_is_SwappedIntervals_Line w_in_SwappedIntervals_Line nwX1 (Nat.le_of_ble_eq_true rfl) (Nat.le_of_ble_eq_true rfl) dX8_init_54 ?_
  refine x_castM (Option.some.inj em14) ?_
  refine x_dup dX8_init_57 rfl ?_
  obtain ⟨p15, ep15, h⟩ := x_bd h
  refine x_callINV [] [.ref (sz + 83), .ref a0] rfl me_X1_init (by decide +kernel) w_im_yX1_init rfl (Nat.le_of_ble_eq_true rfl) (Nat.le_of_ble_eq_true rfl) rfl (Nat.le_of_ble_eq_true rfl) (Nat.le_of_ble_eq_true rfl) (Nat.le_of_ble_eq_true rfl) dX8_init_58 (c_X1_init l D aC bs (sz + 84) ep15) rfl ?_
  obtain ⟨m16, em16, h⟩ := x_bd h
  refine x_putF clX8 w_fl_RX8_42 (by decide) rfl rfl rfl rfl rfl dX8_init_61 em16 ?_
  refine x_aload_n dX8_init_64 0 rfl ?_
  obtain ⟨m17, em17, h⟩ := x_bd h
  refine x_new [.null, .null, .null, .int 0] clX5 w_cl_RX8_46 w_is_SwappedIntervals_Shapes w_in_SwappedIntervals_Shapes nwX5 (Nat.le_of_ble_eq_true rfl) (Nat.le_of_ble_eq_true rfl) dX8_init_65 ?_
  refine x_castM (Option.some.inj em17) ?_
  refine x_dup dX8_init_68 rfl ?_
  obtain ⟨p18, ep18, h⟩ := x_bd h
  refine x_callINV [] [.ref (sz + 86), .ref a0] rfl me_X5_init (by decide +kernel) w_im_yX5_init rfl (Nat.le_of_ble_eq_true rfl) (Nat.le_of_ble_eq_true rfl) rfl (Nat.le_of_ble_eq_true rfl) (Nat.le_of_ble_eq_true rfl) (Nat.le_of_ble_eq_true rfl) dX8_init_69 (c_X5_init l D aC bs (sz + 87) F ep18) rfl ?_
  obtain ⟨m19, em19, h⟩ := x_bd h
  refine x_putF clX8 w_fl_RX8_49 (by decide) rfl rfl rfl rfl rfl dX8_init_72 em19 ?_
  refine x_aload_n dX8_init_75 0 rfl ?_
  obtain ⟨m20, em20, h⟩ := x_bd h
  refine x_new [.int 0, .null, .null, .null] clX3 w_cl_RX8_53 w_is_SwappedIntervals_Rows w_in_SwappedIntervals_Rows nwX3 (Nat.le_of_ble_eq_true rfl) (Nat.le_of_ble_eq_true rfl) dX8_init_76 ?_
  refine x_castM (Option.some.inj em20) ?_
  refine x_dup dX8_init_79 rfl ?_
  obtain ⟨p21, ep21, h⟩ := x_bd h
  refine x_callIV [] [.ref (sz + 93), .ref a0] me_X3_init w_ml_RX8_55 w_im_yX3_init rfl (Nat.le_of_ble_eq_true rfl) (Nat.le_of_ble_eq_true rfl) rfl (Nat.le_of_ble_eq_true rfl) (Nat.le_of_ble_eq_true rfl) (Nat.le_of_ble_eq_true rfl) dX8_init_80 (c_X3_init l D aC bs (sz + 94) F ep21) rfl ?_
  obtain ⟨m22, em22, h⟩ := x_bd h
  refine x_putF clX8 w_fl_RX8_56 (by decide) rfl rfl rfl rfl rfl dX8_init_83 em22 ?_
  refine x_aload_n dX8_init_86 0 rfl ?_
  refine x_bipush (v := (6 : Int32)) dX8_init_87 (by decide) ?_
  obtain ⟨m23, em23, h⟩ := x_bd h
  refine x_newQ (t0 := 5) 6 (fun U h => h.2.2.1) rfl w_cl_RX8_60 (by decide) (by decide) (by decide) (Nat.le_of_ble_eq_true rfl) (Nat.le_of_ble_eq_true rfl) dX8_init_89 ?_
  refine x_castM (Option.some.inj em23) ?_
  obtain ⟨m24, em24, h⟩ := x_bd h
  refine x_putF clX8 w_fl_RX8_62 (by decide) rfl rfl rfl rfl rfl dX8_init_92 em24 ?_
  refine x_iconst (v := (0 : Int32)) dX8_init_95 (by decide) ?_
  refine x_istore_n 1 [(1, .int (0 : Int32)), (0, .ref a0)] dX8_init_96 rfl (by decide) rfl ?_
  refine x_iload_n dX8_init_97 0 rfl ?_
  refine x_bipush (v := (6 : Int32)) dX8_init_98 (by decide) ?_
  refine x_icmp_ge 122 dX8_init_100 (by decide) (fun c9 => absurd c9 (by decide)) (fun _ => ?_)
  refine x_aload_n dX8_init_103 1 rfl ?_
  obtain ⟨v25, ev25, h⟩ := x_bd h
  refine x_getR clX8 w_fl_RX8_62 (by decide) dX8_init_104 ev25 ?_
  refine x_iload_n dX8_init_107 0 rfl ?_
  obtain ⟨m26, em26, h⟩ := x_bd h
  refine x_new [.int 0, .int 0, .null] clX6 w_cl_RX8_60 w_is_SwappedIntervals_Tape w_in_SwappedIntervals_Tape nwX6 (Nat.le_of_ble_eq_true rfl) (Nat.le_of_ble_eq_true rfl) dX8_init_108 ?_
  refine x_castM (Option.some.inj em26) ?_
  refine x_dup dX8_init_111 rfl ?_
  obtain ⟨p27, ep27, h⟩ := x_bd h
  refine x_callINV [] [.ref (sz + 98), .int (0 : Int32), .ref v25] rfl me_X6_init (by decide +kernel) w_im_yX6_init rfl (Nat.le_of_ble_eq_true rfl) (Nat.le_of_ble_eq_true rfl) rfl (Nat.le_of_ble_eq_true rfl) (Nat.le_of_ble_eq_true rfl) (Nat.le_of_ble_eq_true rfl) dX8_init_112 (c_X6_init l D aC bs (sz + 99) ep27) rfl ?_
  obtain ⟨u28, eu28, h⟩ := x_bd h
  obtain ⟨m29, em29, h⟩ := x_bd h
  refine x_aast (t0 := 5) clX6 rfl dX8_init_115 eu28 em29 ?_
  refine x_iinc (1 : Int32) 0 [(1, .int ((0 : Int32) + (1 : Int32))), (0, .ref a0)] dX8_init_116 rfl (by decide) (by decide) rfl ?_
  refine x_goto 97 dX8_init_119 (by decide) ?_
  refine x_iload_n dX8_init_97 0 rfl ?_
  refine x_bipush (v := (6 : Int32)) dX8_init_98 (by decide) ?_
  refine x_icmp_ge 122 dX8_init_100 (by decide) (fun c9 => absurd c9 (by decide)) (fun _ => ?_)
  refine x_aload_n dX8_init_103 1 rfl ?_
  obtain ⟨v30, ev30, h⟩ := x_bd h
  refine x_getR clX8 w_fl_RX8_62 (by decide) dX8_init_104 ev30 ?_
  refine x_iload_n dX8_init_107 0 rfl ?_
  obtain ⟨m31, em31, h⟩ := x_bd h
  refine x_new [.int 0, .int 0, .null] clX6 w_cl_RX8_60 w_is_SwappedIntervals_Tape w_in_SwappedIntervals_Tape nwX6 (Nat.le_of_ble_eq_true rfl) (Nat.le_of_ble_eq_true rfl) dX8_init_108 ?_
  refine x_castM (Option.some.inj em31) ?_
  refine x_dup dX8_init_111 rfl ?_
  obtain ⟨p32, ep32, h⟩ := x_bd h
  refine x_callINV [] [.ref (sz + 100), .int (1 : Int32), .ref v30] rfl me_X6_init (by decide +kernel) w_im_yX6_init rfl (Nat.le_of_ble_eq_true rfl) (Nat.le_of_ble_eq_true rfl) rfl (Nat.le_of_ble_eq_true rfl) (Nat.le_of_ble_eq_true rfl) (Nat.le_of_ble_eq_true rfl) dX8_init_112 (c_X6_init l D aC bs (sz + 101) ep32) rfl ?_
  obtain ⟨u33, eu33, h⟩ := x_bd h
  obtain ⟨m34, em34, h⟩ := x_bd h
  refine x_aast (t0 := 5) clX6 rfl dX8_init_115 eu33 em34 ?_
  refine x_iinc (1 : Int32) 0 [(1, .int ((1 : Int32) + (1 : Int32))), (0, .ref a0)] dX8_init_116 rfl (by decide) (by decide) rfl ?_
  refine x_goto 97 dX8_init_119 (by decide) ?_
  refine x_iload_n dX8_init_97 0 rfl ?_
  refine x_bipush (v := (6 : Int32)) dX8_init_98 (by decide) ?_
  refine x_icmp_ge 122 dX8_init_100 (by decide) (fun c9 => absurd c9 (by decide)) (fun _ => ?_)
  refine x_aload_n dX8_init_103 1 rfl ?_
  obtain ⟨v35, ev35, h⟩ := x_bd h
  refine x_getR clX8 w_fl_RX8_62 (by decide) dX8_init_104 ev35 ?_
  refine x_iload_n dX8_init_107 0 rfl ?_
  obtain ⟨m36, em36, h⟩ := x_bd h
  refine x_new [.int 0, .int 0, .null] clX6 w_cl_RX8_60 w_is_SwappedIntervals_Tape w_in_SwappedIntervals_Tape nwX6 (Nat.le_of_ble_eq_true rfl) (Nat.le_of_ble_eq_true rfl) dX8_init_108 ?_
  refine x_castM (Option.some.inj em36) ?_
  refine x_dup dX8_init_111 rfl ?_
  obtain ⟨p37, ep37, h⟩ := x_bd h
  refine x_callINV [] [.ref (sz + 102), .int (2 : Int32), .ref v35] rfl me_X6_init (by decide +kernel) w_im_yX6_init rfl (Nat.le_of_ble_eq_true rfl) (Nat.le_of_ble_eq_true rfl) rfl (Nat.le_of_ble_eq_true rfl) (Nat.le_of_ble_eq_true rfl) (Nat.le_of_ble_eq_true rfl) dX8_init_112 (c_X6_init l D aC bs (sz + 103) ep37) rfl ?_
  obtain ⟨u38, eu38, h⟩ := x_bd h
  obtain ⟨m39, em39, h⟩ := x_bd h
  refine x_aast (t0 := 5) clX6 rfl dX8_init_115 eu38 em39 ?_
  refine x_iinc (1 : Int32) 0 [(1, .int ((2 : Int32) + (1 : Int32))), (0, .ref a0)] dX8_init_116 rfl (by decide) (by decide) rfl ?_
  refine x_goto 97 dX8_init_119 (by decide) ?_
  refine x_iload_n dX8_init_97 0 rfl ?_
  refine x_bipush (v := (6 : Int32)) dX8_init_98 (by decide) ?_
  refine x_icmp_ge 122 dX8_init_100 (by decide) (fun c9 => absurd c9 (by decide)) (fun _ => ?_)
  refine x_aload_n dX8_init_103 1 rfl ?_
  obtain ⟨v40, ev40, h⟩ := x_bd h
  refine x_getR clX8 w_fl_RX8_62 (by decide) dX8_init_104 ev40 ?_
  refine x_iload_n dX8_init_107 0 rfl ?_
  obtain ⟨m41, em41, h⟩ := x_bd h
  refine x_new [.int 0, .int 0, .null] clX6 w_cl_RX8_60 w_is_SwappedIntervals_Tape w_in_SwappedIntervals_Tape nwX6 (Nat.le_of_ble_eq_true rfl) (Nat.le_of_ble_eq_true rfl) dX8_init_108 ?_
  refine x_castM (Option.some.inj em41) ?_
  refine x_dup dX8_init_111 rfl ?_
  obtain ⟨p42, ep42, h⟩ := x_bd h
  refine x_callINV [] [.ref (sz + 104), .int (3 : Int32), .ref v40] rfl me_X6_init (by decide +kernel) w_im_yX6_init rfl (Nat.le_of_ble_eq_true rfl) (Nat.le_of_ble_eq_true rfl) rfl (Nat.le_of_ble_eq_true rfl) (Nat.le_of_ble_eq_true rfl) (Nat.le_of_ble_eq_true rfl) dX8_init_112 (c_X6_init l D aC bs (sz + 105) ep42) rfl ?_
  obtain ⟨u43, eu43, h⟩ := x_bd h
  obtain ⟨m44, em44, h⟩ := x_bd h
  refine x_aast (t0 := 5) clX6 rfl dX8_init_115 eu43 em44 ?_
  refine x_iinc (1 : Int32) 0 [(1, .int ((3 : Int32) + (1 : Int32))), (0, .ref a0)] dX8_init_116 rfl (by decide) (by decide) rfl ?_
  refine x_goto 97 dX8_init_119 (by decide) ?_
  refine x_iload_n dX8_init_97 0 rfl ?_
  refine x_bipush (v := (6 : Int32)) dX8_init_98 (by decide) ?_
  refine x_icmp_ge 122 dX8_init_100 (by decide) (fun c9 => absurd c9 (by decide)) (fun _ => ?_)
  refine x_aload_n dX8_init_103 1 rfl ?_
  obtain ⟨v45, ev45, h⟩ := x_bd h
  refine x_getR clX8 w_fl_RX8_62 (by decide) dX8_init_104 ev45 ?_
  refine x_iload_n dX8_init_107 0 rfl ?_
  obtain ⟨m46, em46, h⟩ := x_bd h
  refine x_new [.int 0, .int 0, .null] clX6 w_cl_RX8_60 w_is_SwappedIntervals_Tape w_in_SwappedIntervals_Tape nwX6 (Nat.le_of_ble_eq_true rfl) (Nat.le_of_ble_eq_true rfl) dX8_init_108 ?_
  refine x_castM (Option.some.inj em46) ?_
  refine x_dup dX8_init_111 rfl ?_
  obtain ⟨p47, ep47, h⟩ := x_bd h
  refine x_callINV [] [.ref (sz + 106), .int (4 : Int32), .ref v45] rfl me_X6_init (by decide +kernel) w_im_yX6_init rfl (Nat.le_of_ble_eq_true rfl) (Nat.le_of_ble_eq_true rfl) rfl (Nat.le_of_ble_eq_true rfl) (Nat.le_of_ble_eq_true rfl) (Nat.le_of_ble_eq_true rfl) dX8_init_112 (c_X6_init l D aC bs (sz + 107) ep47) rfl ?_
  obtain ⟨u48, eu48, h⟩ := x_bd h
  obtain ⟨m49, em49, h⟩ := x_bd h
  refine x_aast (t0 := 5) clX6 rfl dX8_init_115 eu48 em49 ?_
  refine x_iinc (1 : Int32) 0 [(1, .int ((4 : Int32) + (1 : Int32))), (0, .ref a0)] dX8_init_116 rfl (by decide) (by decide) rfl ?_
  refine x_goto 97 dX8_init_119 (by decide) ?_
  refine x_iload_n dX8_init_97 0 rfl ?_
  refine x_bipush (v := (6 : Int32)) dX8_init_98 (by decide) ?_
  refine x_icmp_ge 122 dX8_init_100 (by decide) (fun c9 => absurd c9 (by decide)) (fun _ => ?_)
  refine x_aload_n dX8_init_103 1 rfl ?_
  obtain ⟨v50, ev50, h⟩ := x_bd h
  refine x_getR clX8 w_fl_RX8_62 (by decide) dX8_init_104 ev50 ?_
  refine x_iload_n dX8_init_107 0 rfl ?_
  obtain ⟨m51, em51, h⟩ := x_bd h
  refine x_new [.int 0, .int 0, .null] clX6 w_cl_RX8_60 w_is_SwappedIntervals_Tape w_in_SwappedIntervals_Tape nwX6 (Nat.le_of_ble_eq_true rfl) (Nat.le_of_ble_eq_true rfl) dX8_init_108 ?_
  refine x_castM (Option.some.inj em51) ?_
  refine x_dup dX8_init_111 rfl ?_
  obtain ⟨p52, ep52, h⟩ := x_bd h
  refine x_callINV [] [.ref (sz + 108), .int (5 : Int32), .ref v50] rfl me_X6_init (by decide +kernel) w_im_yX6_init rfl (Nat.le_of_ble_eq_true rfl) (Nat.le_of_ble_eq_true rfl) rfl (Nat.le_of_ble_eq_true rfl) (Nat.le_of_ble_eq_true rfl) (Nat.le_of_ble_eq_true rfl) dX8_init_112 (c_X6_init l D aC bs (sz + 109) ep52) rfl ?_
  obtain ⟨u53, eu53, h⟩ := x_bd h
  obtain ⟨m54, em54, h⟩ := x_bd h
  refine x_aast (t0 := 5) clX6 rfl dX8_init_115 eu53 em54 ?_
  refine x_iinc (1 : Int32) 0 [(1, .int ((5 : Int32) + (1 : Int32))), (0, .ref a0)] dX8_init_116 rfl (by decide) (by decide) rfl ?_
  refine x_goto 97 dX8_init_119 (by decide) ?_
  refine x_iload_n dX8_init_97 0 rfl ?_
  refine x_bipush (v := (6 : Int32)) dX8_init_98 (by decide) ?_
  refine x_icmp_ge 122 dX8_init_100 (by decide) (fun _ => ?_) (fun c9 => absurd c9 (by decide))
  obtain rfl := Option.some.inj h
  exact x_vret dX8_init_122 (Nat.le_of_ble_eq_true rfl) (Nat.le_of_ble_eq_true rfl)

-- SwappedIntervals.letters(I)I
abbrev rm_X8_letters : Room := { frames := 3, cells := 0, slots := 0, locals := 66 }
theorem me_X8_letters : x_Me yX8_letters cX8_letters 3 (some .int) 1 := ⟨by decide +kernel, w_co_yX8_letters, w_in_SwappedIntervals, by decide +kernel, by decide +kernel, by decide +kernel⟩
def f_X8_letters (F : Nat) (a0 : Nat) (a1 : Int32) (M : XM) : Option (Int32 × XM) := if a1 < (2 : Int32) then some ((-2 : Int32), M) else if a1 ≤ (5 : Int32) then (x_gR M a0 8 0).bind fun v3 => (x_gR M v3 4 0).bind fun v4 => (x_gI M v4 3 0).bind fun v5 => (x_gR M a0 8 0).bind fun v6 => (x_ob M v6 4).bind fun u7 => (f_X4_begin F v6 a1 M).bind fun p8 => (x_gR p8 a0 8 3).bind fun v9 => (x_ob p8 v9 0).bind fun u10 => (f_X0_forget v9 p8).bind fun p11 => some (v5, p11) else some ((-2 : Int32), M)
set_option maxHeartbeats 4000000 in
set_option maxRecDepth 100000 in
theorem c_X8_letters (l : Launch) (D : va_G) (aC : FieldType → ClassId) (bs sz : Nat) (F : Nat) {a0 : Nat} {a1 : Int32} {M : XM} {r : Int32 × XM} (h : f_X8_letters F a0 a1 M = some r) : x_Cn l D aC bs yX8_letters cX8_letters 3 (some .int) rm_X8_letters [.ref a0, .int a1] sz M (some (.int r.1)) sz r.2 := by
  unfold f_X8_letters at h
  refine x_enter2 [(0, .ref a0), (1, .int a1)] me_X8_letters (Nat.le_of_ble_eq_true rfl) rfl ?_
  refine x_iload_n dX8_letters_0 1 rfl ?_
  refine x_iconst (v := (2 : Int32)) dX8_letters_1 (by decide) ?_
  refine x_icmp_lt 10 dX8_letters_2 (by decide) (fun c1 => ?_) (fun c1 => ?_)
  · have h := (if_pos c1).symm.trans h
    refine x_bipush (v := (-2 : Int32)) dX8_letters_10 (by decide) ?_
    obtain rfl := Option.some.inj h
    exact x_iret dX8_letters_12 (Nat.le_of_ble_eq_true rfl) (Nat.le_of_ble_eq_true rfl)
  have h := (if_neg c1).symm.trans h
  refine x_iload_n dX8_letters_5 1 rfl ?_
  refine x_iconst (v := (5 : Int32)) dX8_letters_6 (by decide) ?_
  refine x_icmp_le 13 dX8_letters_7 (by decide) (fun c2 => ?_) (fun c2 => ?_)
  · have h := (if_pos c2).symm.trans h
    refine x_aload_n dX8_letters_13 0 rfl ?_
    obtain ⟨v3, ev3, h⟩ := x_bd h
    refine x_getR clX8 w_fl_RX8_14 (by decide) dX8_letters_14 ev3 ?_
    obtain ⟨v4, ev4, h⟩ := x_bd h
    refine x_getR clX4 w_fl_RX8_67 (by decide) dX8_letters_17 ev4 ?_
    obtain ⟨v5, ev5, h⟩ := x_bd h
    refine x_getI clX3 w_fl_RX8_70 (by decide) dX8_letters_20 ev5 ?_
    refine x_istore_n 2 [(2, .int v5), (0, .ref a0), (1, .int a1)] dX8_letters_23 rfl (by decide) rfl ?_
    refine x_aload_n dX8_letters_24 1 rfl ?_
    obtain ⟨v6, ev6, h⟩ := x_bd h
    refine x_getR clX8 w_fl_RX8_14 (by decide) dX8_letters_25 ev6 ?_
    refine x_iload_n dX8_letters_28 2 rfl ?_
    obtain ⟨u7, eu7, h⟩ := x_bd h
    obtain ⟨p8, ep8, h⟩ := x_bd h
    refine x_callVV [.int a1] [] clX4 me_X4_begin w_ml_RX8_74 w_im_yX4_begin w_se_yX4_begin (Nat.le_of_ble_eq_true rfl) (Nat.le_of_ble_eq_true rfl) rfl (Nat.le_of_ble_eq_true rfl) (Nat.le_of_ble_eq_true rfl) (Nat.le_of_ble_eq_true rfl) dX8_letters_29 eu7 (c_X4_begin l D aC bs sz F ep8) rfl ?_
    refine x_aload_n dX8_letters_32 1 rfl ?_
    obtain ⟨v9, ev9, h⟩ := x_bd h
    refine x_getR clX8 w_fl_RX8_28 (by decide) dX8_letters_33 ev9 ?_
    obtain ⟨u10, eu10, h⟩ := x_bd h
    obtain ⟨p11, ep11, h⟩ := x_bd h
    refine x_callVV [] [] clX0 me_X0_forget w_ml_RX8_78 w_im_yX0_forget w_se_yX0_forget (Nat.le_of_ble_eq_true rfl) (Nat.le_of_ble_eq_true rfl) rfl (Nat.le_of_ble_eq_true rfl) (Nat.le_of_ble_eq_true rfl) (Nat.le_of_ble_eq_true rfl) dX8_letters_36 eu10 (c_X0_forget l D aC bs sz ep11) rfl ?_
    refine x_iload_n dX8_letters_39 0 rfl ?_
    obtain rfl := Option.some.inj h
    exact x_iret dX8_letters_40 (Nat.le_of_ble_eq_true rfl) (Nat.le_of_ble_eq_true rfl)
  have h := (if_neg c2).symm.trans h
  refine x_bipush (v := (-2 : Int32)) dX8_letters_10 (by decide) ?_
  obtain rfl := Option.some.inj h
  exact x_iret dX8_letters_12 (Nat.le_of_ble_eq_true rfl) (Nat.le_of_ble_eq_true rfl)

-- SwappedIntervals.bottom(I)I
abbrev rm_X8_bottom : Room := { frames := 1, cells := 0, slots := 0, locals := 25 }
theorem me_X8_bottom : x_Me yX8_bottom cX8_bottom 2 (some .int) 1 := ⟨by decide +kernel, w_co_yX8_bottom, w_in_SwappedIntervals, by decide +kernel, by decide +kernel, by decide +kernel⟩
def f_X8_bottom (F : Nat) (a0 : Nat) (a1 : Int32) (M : XM) : Option (Int32 × XM) := (x_gR M a0 8 0).bind fun v1 => (x_gR M v1 4 0).bind fun v2 => (x_gI M v2 3 0).bind fun v3 => (f_X3_isCode F a1 v3 M).bind fun p4 => if p4 = 0 then some ((-2 : Int32), M) else (x_gR M a0 8 0).bind fun v6 => (x_gR M v6 4 0).bind fun v7 => (x_ob M v7 3).bind fun u8 => (f_X3_layCode F v7 a1 M).bind fun p9 => (x_gR p9 a0 8 3).bind fun v10 => (x_ob p9 v10 0).bind fun u11 => (f_X0_forget v10 p9).bind fun p12 => some ((1 : Int32), p12)
set_option maxHeartbeats 4000000 in
set_option maxRecDepth 100000 in
theorem c_X8_bottom (l : Launch) (D : va_G) (aC : FieldType → ClassId) (bs sz : Nat) (F : Nat) {a0 : Nat} {a1 : Int32} {M : XM} {r : Int32 × XM} (h : f_X8_bottom F a0 a1 M = some r) : x_Cn l D aC bs yX8_bottom cX8_bottom 2 (some .int) rm_X8_bottom [.ref a0, .int a1] sz M (some (.int r.1)) sz r.2 := by
  unfold f_X8_bottom at h
  refine x_enter2 [(0, .ref a0), (1, .int a1)] me_X8_bottom (Nat.le_of_ble_eq_true rfl) rfl ?_
  refine x_iload_n dX8_bottom_0 1 rfl ?_
  refine x_aload_n dX8_bottom_1 0 rfl ?_
  obtain ⟨v1, ev1, h⟩ := x_bd h
  refine x_getR clX8 w_fl_RX8_14 (by decide) dX8_bottom_2 ev1 ?_
  obtain ⟨v2, ev2, h⟩ := x_bd h
  refine x_getR clX4 w_fl_RX8_67 (by decide) dX8_bottom_5 ev2 ?_
  obtain ⟨v3, ev3, h⟩ := x_bd h
  refine x_getI clX3 w_fl_RX8_70 (by decide) dX8_bottom_8 ev3 ?_
  obtain ⟨p4, ep4, h⟩ := x_bd h
  refine x_callSI [.int a1, .int v3] [] me_X3_isCode w_ml_RX8_81 w_st_yX3_isCode (Nat.le_of_ble_eq_true rfl) (Nat.le_of_ble_eq_true rfl) rfl (Nat.le_of_ble_eq_true rfl) (Nat.le_of_ble_eq_true rfl) (Nat.le_of_ble_eq_true rfl) dX8_bottom_11 (c_X3_isCode l D aC bs sz F ep4) rfl ?_
  refine x_if_ne 20 dX8_bottom_14 (by decide) (fun c5 => ?_) (fun c5 => ?_)
  · have h := (if_neg c5).symm.trans h
    refine x_aload_n dX8_bottom_20 0 rfl ?_
    obtain ⟨v6, ev6, h⟩ := x_bd h
    refine x_getR clX8 w_fl_RX8_14 (by decide) dX8_bottom_21 ev6 ?_
    obtain ⟨v7, ev7, h⟩ := x_bd h
    refine x_getR clX4 w_fl_RX8_67 (by decide) dX8_bottom_24 ev7 ?_
    refine x_iload_n dX8_bottom_27 1 rfl ?_
    obtain ⟨u8, eu8, h⟩ := x_bd h
    obtain ⟨p9, ep9, h⟩ := x_bd h
    refine x_callVV [.int a1] [] clX3 me_X3_layCode w_ml_RX8_85 w_im_yX3_layCode w_se_yX3_layCode (Nat.le_of_ble_eq_true rfl) (Nat.le_of_ble_eq_true rfl) rfl (Nat.le_of_ble_eq_true rfl) (Nat.le_of_ble_eq_true rfl) (Nat.le_of_ble_eq_true rfl) dX8_bottom_28 eu8 (c_X3_layCode l D aC bs sz F ep9) rfl ?_
    refine x_aload_n dX8_bottom_31 0 rfl ?_
    obtain ⟨v10, ev10, h⟩ := x_bd h
    refine x_getR clX8 w_fl_RX8_28 (by decide) dX8_bottom_32 ev10 ?_
    obtain ⟨u11, eu11, h⟩ := x_bd h
    obtain ⟨p12, ep12, h⟩ := x_bd h
    refine x_callVV [] [] clX0 me_X0_forget w_ml_RX8_78 w_im_yX0_forget w_se_yX0_forget (Nat.le_of_ble_eq_true rfl) (Nat.le_of_ble_eq_true rfl) rfl (Nat.le_of_ble_eq_true rfl) (Nat.le_of_ble_eq_true rfl) (Nat.le_of_ble_eq_true rfl) dX8_bottom_35 eu11 (c_X0_forget l D aC bs sz ep12) rfl ?_
    refine x_iconst (v := (1 : Int32)) dX8_bottom_38 (by decide) ?_
    obtain rfl := Option.some.inj h
    exact x_iret dX8_bottom_39 (Nat.le_of_ble_eq_true rfl) (Nat.le_of_ble_eq_true rfl)
  have h := (if_pos c5).symm.trans h
  refine x_bipush (v := (-2 : Int32)) dX8_bottom_17 (by decide) ?_
  obtain rfl := Option.some.inj h
  exact x_iret dX8_bottom_19 (Nat.le_of_ble_eq_true rfl) (Nat.le_of_ble_eq_true rfl)

-- SwappedIntervals.isLength(I)Z
abbrev rm_X8_isLength : Room := { frames := 0, cells := 0, slots := 0, locals := 0 }
theorem me_X8_isLength : x_Me yX8_isLength cX8_isLength 1 (some .boolean) 1 := ⟨by decide +kernel, w_co_yX8_isLength, w_in_SwappedIntervals, by decide +kernel, by decide +kernel, by decide +kernel⟩
def f_X8_isLength (a0 : Int32) (M : XM) : Option (Int32) := if a0 < (1 : Int32) then some (0 : Int32) else if (99 : Int32) < a0 then some (0 : Int32) else some (1 : Int32)
set_option maxHeartbeats 4000000 in
set_option maxRecDepth 100000 in
theorem c_X8_isLength (l : Launch) (D : va_G) (aC : FieldType → ClassId) (bs sz : Nat) {a0 : Int32} {M : XM} {r : Int32} (h : f_X8_isLength a0 M = some r) : x_Cn l D aC bs yX8_isLength cX8_isLength 1 (some .boolean) rm_X8_isLength [.int a0] sz M (some (.int r)) sz M := by
  unfold f_X8_isLength at h
  refine x_enter2 [(0, .int a0)] me_X8_isLength (Nat.le_of_ble_eq_true rfl) rfl ?_
  refine x_iload_n dX8_isLength_0 0 rfl ?_
  refine x_iconst (v := (1 : Int32)) dX8_isLength_1 (by decide) ?_
  refine x_icmp_lt 15 dX8_isLength_2 (by decide) (fun c1 => ?_) (fun c1 => ?_)
  · have h := (if_pos c1).symm.trans h
    refine x_iconst (v := (0 : Int32)) dX8_isLength_15 (by decide) ?_
    obtain rfl := Option.some.inj h
    exact x_zret dX8_isLength_16 (Or.inl rfl) (Nat.le_of_ble_eq_true rfl) (Nat.le_of_ble_eq_true rfl)
  have h := (if_neg c1).symm.trans h
  refine x_iload_n dX8_isLength_5 0 rfl ?_
  refine x_bipush (v := (99 : Int32)) dX8_isLength_6 (by decide) ?_
  refine x_icmp_gt 15 dX8_isLength_8 (by decide) (fun c2 => ?_) (fun c2 => ?_)
  · have h := (if_pos c2).symm.trans h
    refine x_iconst (v := (0 : Int32)) dX8_isLength_15 (by decide) ?_
    obtain rfl := Option.some.inj h
    exact x_zret dX8_isLength_16 (Or.inl rfl) (Nat.le_of_ble_eq_true rfl) (Nat.le_of_ble_eq_true rfl)
  have h := (if_neg c2).symm.trans h
  refine x_iconst (v := (1 : Int32)) dX8_isLength_11 (by decide) ?_
  refine x_goto 16 dX8_isLength_12 (by decide) ?_
  obtain rfl := Option.some.inj h
  exact x_zret dX8_isLength_16 (Or.inr rfl) (Nat.le_of_ble_eq_true rfl) (Nat.le_of_ble_eq_true rfl)

-- SwappedIntervals.length(II)I
abbrev rm_X8_length : Room := { frames := 2, cells := 0, slots := 0, locals := 43 }
theorem me_X8_length : x_Me yX8_length cX8_length 4 (some .int) 2 := ⟨by decide +kernel, w_co_yX8_length, w_in_SwappedIntervals, by decide +kernel, by decide +kernel, by decide +kernel⟩
def f_X8_length (F : Nat) (a0 : Nat) (a1 : Int32) (a2 : Int32) (M : XM) : Option (Int32 × XM) := (x_gR M a0 8 0).bind fun v1 => (x_gR M v1 4 0).bind fun v2 => (x_ob M v2 3).bind fun u3 => (f_X3_hasLetter v2 a1 M).bind fun p4 => if p4 = 0 then some ((-1 : Int32), M) else (f_X8_isLength a2 M).bind fun p6 => if p6 = 0 then some ((-2 : Int32), M) else (x_gR M a0 8 3).bind fun v8 => (x_gR M a0 8 0).bind fun v9 => (x_gR M v9 4 0).bind fun v10 => (x_ob M v8 0).bind fun u11 => (f_X0_remember F v8 v10 M).bind fun p12 => (x_gR p12 a0 8 0).bind fun v13 => (x_gR p12 v13 4 0).bind fun v14 => (x_gR p12 v14 3 3).bind fun v15 => (x_a32 .int p12 v15 a1).bind fun v16 => (x_gR p12 a0 8 0).bind fun v17 => (x_gR p12 v17 4 0).bind fun v18 => (x_gR p12 v18 3 3).bind fun v19 => (x_w32 .int p12 v19 a1 a2).bind fun m20 => some (v16, m20)
set_option maxHeartbeats 4000000 in
set_option maxRecDepth 100000 in
theorem c_X8_length (l : Launch) (D : va_G) (aC : FieldType → ClassId) (bs sz : Nat) (F : Nat) {a0 : Nat} {a1 : Int32} {a2 : Int32} {M : XM} {r : Int32 × XM} (h : f_X8_length F a0 a1 a2 M = some r) : x_Cn l D aC bs yX8_length cX8_length 4 (some .int) rm_X8_length [.ref a0, .int a1, .int a2] sz M (some (.int r.1)) sz r.2 := by
  unfold f_X8_length at h
  refine x_enter2 [(0, .ref a0), (1, .int a1), (2, .int a2)] me_X8_length (Nat.le_of_ble_eq_true rfl) rfl ?_
  refine x_aload_n dX8_length_0 0 rfl ?_
  obtain ⟨v1, ev1, h⟩ := x_bd h
  refine x_getR clX8 w_fl_RX8_14 (by decide) dX8_length_1 ev1 ?_
  obtain ⟨v2, ev2, h⟩ := x_bd h
  refine x_getR clX4 w_fl_RX8_67 (by decide) dX8_length_4 ev2 ?_
  refine x_iload_n dX8_length_7 1 rfl ?_
  obtain ⟨u3, eu3, h⟩ := x_bd h
  obtain ⟨p4, ep4, h⟩ := x_bd h
  refine x_callVI [.int a1] [] clX3 me_X3_hasLetter w_ml_RX8_88 w_im_yX3_hasLetter w_se_yX3_hasLetter (Nat.le_of_ble_eq_true rfl) (Nat.le_of_ble_eq_true rfl) rfl (Nat.le_of_ble_eq_true rfl) (Nat.le_of_ble_eq_true rfl) (Nat.le_of_ble_eq_true rfl) dX8_length_8 eu3 (c_X3_hasLetter l D aC bs sz ep4) rfl ?_
  refine x_if_ne 16 dX8_length_11 (by decide) (fun c5 => ?_) (fun c5 => ?_)
  · have h := (if_neg c5).symm.trans h
    refine x_iload_n dX8_length_16 2 rfl ?_
    obtain ⟨p6, ep6, h⟩ := x_bd h
    refine x_callSI [.int a2] [] me_X8_isLength w_ml_RX8_92 w_st_yX8_isLength (Nat.le_of_ble_eq_true rfl) (Nat.le_of_ble_eq_true rfl) rfl (Nat.le_of_ble_eq_true rfl) (Nat.le_of_ble_eq_true rfl) (Nat.le_of_ble_eq_true rfl) dX8_length_17 (c_X8_isLength l D aC bs sz ep6) rfl ?_
    refine x_if_ne 26 dX8_length_20 (by decide) (fun c7 => ?_) (fun c7 => ?_)
    · have h := (if_neg c7).symm.trans h
      refine x_aload_n dX8_length_26 0 rfl ?_
      obtain ⟨v8, ev8, h⟩ := x_bd h
      refine x_getR clX8 w_fl_RX8_28 (by decide) dX8_length_27 ev8 ?_
      refine x_aload_n dX8_length_30 0 rfl ?_
      obtain ⟨v9, ev9, h⟩ := x_bd h
      refine x_getR clX8 w_fl_RX8_14 (by decide) dX8_length_31 ev9 ?_
      obtain ⟨v10, ev10, h⟩ := x_bd h
      refine x_getR clX4 w_fl_RX8_67 (by decide) dX8_length_34 ev10 ?_
      obtain ⟨u11, eu11, h⟩ := x_bd h
      obtain ⟨p12, ep12, h⟩ := x_bd h
      refine x_callVV [.ref v10] [] clX0 me_X0_remember w_ml_RX8_95 w_im_yX0_remember w_se_yX0_remember (Nat.le_of_ble_eq_true rfl) (Nat.le_of_ble_eq_true rfl) rfl (Nat.le_of_ble_eq_true rfl) (Nat.le_of_ble_eq_true rfl) (Nat.le_of_ble_eq_true rfl) dX8_length_37 eu11 (c_X0_remember l D aC bs sz F ep12) rfl ?_
      refine x_aload_n dX8_length_40 0 rfl ?_
      obtain ⟨v13, ev13, h⟩ := x_bd h
      refine x_getR clX8 w_fl_RX8_14 (by decide) dX8_length_41 ev13 ?_
      obtain ⟨v14, ev14, h⟩ := x_bd h
      refine x_getR clX4 w_fl_RX8_67 (by decide) dX8_length_44 ev14 ?_
      obtain ⟨v15, ev15, h⟩ := x_bd h
      refine x_getR clX3 w_fl_RX8_99 (by decide) dX8_length_47 ev15 ?_
      refine x_iload_n dX8_length_50 1 rfl ?_
      obtain ⟨v16, ev16, h⟩ := x_bd h
      refine x_iald dX8_length_51 ev16 ?_
      refine x_istore_n 3 [(3, .int v16), (0, .ref a0), (1, .int a1), (2, .int a2)] dX8_length_52 rfl (by decide) rfl ?_
      refine x_aload_n dX8_length_53 1 rfl ?_
      obtain ⟨v17, ev17, h⟩ := x_bd h
      refine x_getR clX8 w_fl_RX8_14 (by decide) dX8_length_54 ev17 ?_
      obtain ⟨v18, ev18, h⟩ := x_bd h
      refine x_getR clX4 w_fl_RX8_67 (by decide) dX8_length_57 ev18 ?_
      obtain ⟨v19, ev19, h⟩ := x_bd h
      refine x_getR clX3 w_fl_RX8_99 (by decide) dX8_length_60 ev19 ?_
      refine x_iload_n dX8_length_63 2 rfl ?_
      refine x_iload_n dX8_length_64 3 rfl ?_
      obtain ⟨m20, em20, h⟩ := x_bd h
      refine x_iast dX8_length_65 em20 ?_
      refine x_iload_n dX8_length_66 0 rfl ?_
      obtain rfl := Option.some.inj h
      exact x_iret dX8_length_67 (Nat.le_of_ble_eq_true rfl) (Nat.le_of_ble_eq_true rfl)
    have h := (if_pos c7).symm.trans h
    refine x_bipush (v := (-2 : Int32)) dX8_length_23 (by decide) ?_
    obtain rfl := Option.some.inj h
    exact x_iret dX8_length_25 (Nat.le_of_ble_eq_true rfl) (Nat.le_of_ble_eq_true rfl)
  have h := (if_pos c5).symm.trans h
  refine x_iconst (v := (-1 : Int32)) dX8_length_14 (by decide) ?_
  obtain rfl := Option.some.inj h
  exact x_iret dX8_length_15 (Nat.le_of_ble_eq_true rfl) (Nat.le_of_ble_eq_true rfl)

-- SwappedIntervals.swap(II)I
abbrev rm_X8_swap : Room := { frames := 2, cells := 0, slots := 0, locals := 43 }
theorem me_X8_swap : x_Me yX8_swap cX8_swap 3 (some .int) 2 := ⟨by decide +kernel, w_co_yX8_swap, w_in_SwappedIntervals, by decide +kernel, by decide +kernel, by decide +kernel⟩
def f_X8_swap (F : Nat) (a0 : Nat) (a1 : Int32) (a2 : Int32) (M : XM) : Option (Int32 × XM) := (x_gR M a0 8 0).bind fun v1 => (x_gR M v1 4 0).bind fun v2 => (x_ob M v2 3).bind fun u3 => (f_X3_hasLetter v2 a1 M).bind fun p4 => if p4 = 0 then some ((-1 : Int32), M) else (x_gR M a0 8 0).bind fun v6 => (x_gR M v6 4 0).bind fun v7 => (x_ob M v7 3).bind fun u8 => (f_X3_hasLetter v7 a2 M).bind fun p9 => if p9 = 0 then some ((-1 : Int32), M) else if a1 = a2 then some ((-1 : Int32), M) else (x_gR M a0 8 3).bind fun v12 => (x_gR M a0 8 0).bind fun v13 => (x_gR M v13 4 0).bind fun v14 => (x_ob M v12 0).bind fun u15 => (f_X0_remember F v12 v14 M).bind fun p16 => (x_gR p16 a0 8 0).bind fun v17 => (x_gR p16 v17 4 0).bind fun v18 => (x_ob p16 v18 3).bind fun u19 => (f_X3_swapInBottom F v18 a1 a2 p16).bind fun p20 => some ((1 : Int32), p20)
set_option maxHeartbeats 4000000 in
set_option maxRecDepth 100000 in
theorem c_X8_swap (l : Launch) (D : va_G) (aC : FieldType → ClassId) (bs sz : Nat) (F : Nat) {a0 : Nat} {a1 : Int32} {a2 : Int32} {M : XM} {r : Int32 × XM} (h : f_X8_swap F a0 a1 a2 M = some r) : x_Cn l D aC bs yX8_swap cX8_swap 3 (some .int) rm_X8_swap [.ref a0, .int a1, .int a2] sz M (some (.int r.1)) sz r.2 := by
  unfold f_X8_swap at h
  refine x_enter2 [(0, .ref a0), (1, .int a1), (2, .int a2)] me_X8_swap (Nat.le_of_ble_eq_true rfl) rfl ?_
  refine x_aload_n dX8_swap_0 0 rfl ?_
  obtain ⟨v1, ev1, h⟩ := x_bd h
  refine x_getR clX8 w_fl_RX8_14 (by decide) dX8_swap_1 ev1 ?_
  obtain ⟨v2, ev2, h⟩ := x_bd h
  refine x_getR clX4 w_fl_RX8_67 (by decide) dX8_swap_4 ev2 ?_
  refine x_iload_n dX8_swap_7 1 rfl ?_
  obtain ⟨u3, eu3, h⟩ := x_bd h
  obtain ⟨p4, ep4, h⟩ := x_bd h
  refine x_callVI [.int a1] [] clX3 me_X3_hasLetter w_ml_RX8_88 w_im_yX3_hasLetter w_se_yX3_hasLetter (Nat.le_of_ble_eq_true rfl) (Nat.le_of_ble_eq_true rfl) rfl (Nat.le_of_ble_eq_true rfl) (Nat.le_of_ble_eq_true rfl) (Nat.le_of_ble_eq_true rfl) dX8_swap_8 eu3 (c_X3_hasLetter l D aC bs sz ep4) rfl ?_
  refine x_if_eq 33 dX8_swap_11 (by decide) (fun c5 => ?_) (fun c5 => ?_)
  · have h := (if_pos c5).symm.trans h
    refine x_iconst (v := (-1 : Int32)) dX8_swap_33 (by decide) ?_
    obtain rfl := Option.some.inj h
    exact x_iret dX8_swap_34 (Nat.le_of_ble_eq_true rfl) (Nat.le_of_ble_eq_true rfl)
  have h := (if_neg c5).symm.trans h
  refine x_aload_n dX8_swap_14 0 rfl ?_
  obtain ⟨v6, ev6, h⟩ := x_bd h
  refine x_getR clX8 w_fl_RX8_14 (by decide) dX8_swap_15 ev6 ?_
  obtain ⟨v7, ev7, h⟩ := x_bd h
  refine x_getR clX4 w_fl_RX8_67 (by decide) dX8_swap_18 ev7 ?_
  refine x_iload_n dX8_swap_21 2 rfl ?_
  obtain ⟨u8, eu8, h⟩ := x_bd h
  obtain ⟨p9, ep9, h⟩ := x_bd h
  refine x_callVI [.int a2] [] clX3 me_X3_hasLetter w_ml_RX8_88 w_im_yX3_hasLetter w_se_yX3_hasLetter (Nat.le_of_ble_eq_true rfl) (Nat.le_of_ble_eq_true rfl) rfl (Nat.le_of_ble_eq_true rfl) (Nat.le_of_ble_eq_true rfl) (Nat.le_of_ble_eq_true rfl) dX8_swap_22 eu8 (c_X3_hasLetter l D aC bs sz ep9) rfl ?_
  refine x_if_eq 33 dX8_swap_25 (by decide) (fun c10 => ?_) (fun c10 => ?_)
  · have h := (if_pos c10).symm.trans h
    refine x_iconst (v := (-1 : Int32)) dX8_swap_33 (by decide) ?_
    obtain rfl := Option.some.inj h
    exact x_iret dX8_swap_34 (Nat.le_of_ble_eq_true rfl) (Nat.le_of_ble_eq_true rfl)
  have h := (if_neg c10).symm.trans h
  refine x_iload_n dX8_swap_28 1 rfl ?_
  refine x_iload_n dX8_swap_29 2 rfl ?_
  refine x_icmp_ne 35 dX8_swap_30 (by decide) (fun c11 => ?_) (fun c11 => ?_)
  · have h := (if_neg c11).symm.trans h
    refine x_aload_n dX8_swap_35 0 rfl ?_
    obtain ⟨v12, ev12, h⟩ := x_bd h
    refine x_getR clX8 w_fl_RX8_28 (by decide) dX8_swap_36 ev12 ?_
    refine x_aload_n dX8_swap_39 0 rfl ?_
    obtain ⟨v13, ev13, h⟩ := x_bd h
    refine x_getR clX8 w_fl_RX8_14 (by decide) dX8_swap_40 ev13 ?_
    obtain ⟨v14, ev14, h⟩ := x_bd h
    refine x_getR clX4 w_fl_RX8_67 (by decide) dX8_swap_43 ev14 ?_
    obtain ⟨u15, eu15, h⟩ := x_bd h
    obtain ⟨p16, ep16, h⟩ := x_bd h
    refine x_callVV [.ref v14] [] clX0 me_X0_remember w_ml_RX8_95 w_im_yX0_remember w_se_yX0_remember (Nat.le_of_ble_eq_true rfl) (Nat.le_of_ble_eq_true rfl) rfl (Nat.le_of_ble_eq_true rfl) (Nat.le_of_ble_eq_true rfl) (Nat.le_of_ble_eq_true rfl) dX8_swap_46 eu15 (c_X0_remember l D aC bs sz F ep16) rfl ?_
    refine x_aload_n dX8_swap_49 0 rfl ?_
    obtain ⟨v17, ev17, h⟩ := x_bd h
    refine x_getR clX8 w_fl_RX8_14 (by decide) dX8_swap_50 ev17 ?_
    obtain ⟨v18, ev18, h⟩ := x_bd h
    refine x_getR clX4 w_fl_RX8_67 (by decide) dX8_swap_53 ev18 ?_
    refine x_iload_n dX8_swap_56 1 rfl ?_
    refine x_iload_n dX8_swap_57 2 rfl ?_
    obtain ⟨u19, eu19, h⟩ := x_bd h
    obtain ⟨p20, ep20, h⟩ := x_bd h
    refine x_callVV [.int a1, .int a2] [] clX3 me_X3_swapInBottom w_ml_RX8_103 w_im_yX3_swapInBottom w_se_yX3_swapInBottom (Nat.le_of_ble_eq_true rfl) (Nat.le_of_ble_eq_true rfl) rfl (Nat.le_of_ble_eq_true rfl) (Nat.le_of_ble_eq_true rfl) (Nat.le_of_ble_eq_true rfl) dX8_swap_58 eu19 (c_X3_swapInBottom l D aC bs sz F ep20) rfl ?_
    refine x_iconst (v := (1 : Int32)) dX8_swap_61 (by decide) ?_
    obtain rfl := Option.some.inj h
    exact x_iret dX8_swap_62 (Nat.le_of_ble_eq_true rfl) (Nat.le_of_ble_eq_true rfl)
  have h := (if_pos c11).symm.trans h
  refine x_iconst (v := (-1 : Int32)) dX8_swap_33 (by decide) ?_
  obtain rfl := Option.some.inj h
  exact x_iret dX8_swap_34 (Nat.le_of_ble_eq_true rfl) (Nat.le_of_ble_eq_true rfl)

-- SwappedIntervals.step()I
abbrev rm_X8_step : Room := { frames := 3, cells := 0, slots := 0, locals := 69 }
theorem me_X8_step : x_Me yX8_step cX8_step 2 (some .int) 0 := ⟨by decide +kernel, w_co_yX8_step, w_in_SwappedIntervals, by decide +kernel, by decide +kernel, by decide +kernel⟩
def f_X8_step (F : Nat) (a0 : Nat) (M : XM) : Option (Int32 × XM) := (x_gR M a0 8 0).bind fun v1 => (x_gR M v1 4 0).bind fun v2 => (x_ob M v2 3).bind fun u3 => (f_X3_kindOfStep v2 M).bind fun p4 => if p4 = (-1 : Int32) then some ((-3 : Int32), M) else (x_gR M a0 8 3).bind fun v6 => (x_gR M a0 8 0).bind fun v7 => (x_gR M v7 4 0).bind fun v8 => (x_ob M v6 0).bind fun u9 => (f_X0_remember F v6 v8 M).bind fun p10 => (x_gR p10 a0 8 0).bind fun v11 => (x_gR p10 v11 4 0).bind fun v12 => (x_ob p10 v12 3).bind fun u13 => (f_X3_goStep F v12 p4 p10).bind fun p14 => some (p4, p14)
set_option maxHeartbeats 4000000 in
set_option maxRecDepth 100000 in
theorem c_X8_step (l : Launch) (D : va_G) (aC : FieldType → ClassId) (bs sz : Nat) (F : Nat) {a0 : Nat} {M : XM} {r : Int32 × XM} (h : f_X8_step F a0 M = some r) : x_Cn l D aC bs yX8_step cX8_step 2 (some .int) rm_X8_step [.ref a0] sz M (some (.int r.1)) sz r.2 := by
  unfold f_X8_step at h
  refine x_enter2 [(0, .ref a0)] me_X8_step (Nat.le_of_ble_eq_true rfl) rfl ?_
  refine x_aload_n dX8_step_0 0 rfl ?_
  obtain ⟨v1, ev1, h⟩ := x_bd h
  refine x_getR clX8 w_fl_RX8_14 (by decide) dX8_step_1 ev1 ?_
  obtain ⟨v2, ev2, h⟩ := x_bd h
  refine x_getR clX4 w_fl_RX8_67 (by decide) dX8_step_4 ev2 ?_
  obtain ⟨u3, eu3, h⟩ := x_bd h
  obtain ⟨p4, ep4, h⟩ := x_bd h
  refine x_callVI [] [] clX3 me_X3_kindOfStep w_ml_RX8_107 w_im_yX3_kindOfStep w_se_yX3_kindOfStep (Nat.le_of_ble_eq_true rfl) (Nat.le_of_ble_eq_true rfl) rfl (Nat.le_of_ble_eq_true rfl) (Nat.le_of_ble_eq_true rfl) (Nat.le_of_ble_eq_true rfl) dX8_step_7 eu3 (c_X3_kindOfStep l D aC bs sz ep4) rfl ?_
  refine x_istore_n 1 [(1, .int p4), (0, .ref a0)] dX8_step_10 rfl (by decide) rfl ?_
  refine x_iload_n dX8_step_11 0 rfl ?_
  refine x_iconst (v := (-1 : Int32)) dX8_step_12 (by decide) ?_
  refine x_icmp_ne 19 dX8_step_13 (by decide) (fun c5 => ?_) (fun c5 => ?_)
  · have h := (if_neg c5).symm.trans h
    refine x_aload_n dX8_step_19 1 rfl ?_
    obtain ⟨v6, ev6, h⟩ := x_bd h
    refine x_getR clX8 w_fl_RX8_28 (by decide) dX8_step_20 ev6 ?_
    refine x_aload_n dX8_step_23 1 rfl ?_
    obtain ⟨v7, ev7, h⟩ := x_bd h
    refine x_getR clX8 w_fl_RX8_14 (by decide) dX8_step_24 ev7 ?_
    obtain ⟨v8, ev8, h⟩ := x_bd h
    refine x_getR clX4 w_fl_RX8_67 (by decide) dX8_step_27 ev8 ?_
    obtain ⟨u9, eu9, h⟩ := x_bd h
    obtain ⟨p10, ep10, h⟩ := x_bd h
    refine x_callVV [.ref v8] [] clX0 me_X0_remember w_ml_RX8_95 w_im_yX0_remember w_se_yX0_remember (Nat.le_of_ble_eq_true rfl) (Nat.le_of_ble_eq_true rfl) rfl (Nat.le_of_ble_eq_true rfl) (Nat.le_of_ble_eq_true rfl) (Nat.le_of_ble_eq_true rfl) dX8_step_30 eu9 (c_X0_remember l D aC bs sz F ep10) rfl ?_
    refine x_aload_n dX8_step_33 1 rfl ?_
    obtain ⟨v11, ev11, h⟩ := x_bd h
    refine x_getR clX8 w_fl_RX8_14 (by decide) dX8_step_34 ev11 ?_
    obtain ⟨v12, ev12, h⟩ := x_bd h
    refine x_getR clX4 w_fl_RX8_67 (by decide) dX8_step_37 ev12 ?_
    refine x_iload_n dX8_step_40 0 rfl ?_
    obtain ⟨u13, eu13, h⟩ := x_bd h
    obtain ⟨p14, ep14, h⟩ := x_bd h
    refine x_callVV [.int p4] [] clX3 me_X3_goStep w_ml_RX8_111 w_im_yX3_goStep w_se_yX3_goStep (Nat.le_of_ble_eq_true rfl) (Nat.le_of_ble_eq_true rfl) rfl (Nat.le_of_ble_eq_true rfl) (Nat.le_of_ble_eq_true rfl) (Nat.le_of_ble_eq_true rfl) dX8_step_41 eu13 (c_X3_goStep l D aC bs sz F ep14) rfl ?_
    refine x_iload_n dX8_step_44 0 rfl ?_
    obtain rfl := Option.some.inj h
    exact x_iret dX8_step_45 (Nat.le_of_ble_eq_true rfl) (Nat.le_of_ble_eq_true rfl)
  have h := (if_pos c5).symm.trans h
  refine x_bipush (v := (-3 : Int32)) dX8_step_16 (by decide) ?_
  obtain rfl := Option.some.inj h
  exact x_iret dX8_step_18 (Nat.le_of_ble_eq_true rfl) (Nat.le_of_ble_eq_true rfl)

-- SwappedIntervals.isKind(I)Z
abbrev rm_X8_isKind : Room := { frames := 0, cells := 0, slots := 0, locals := 0 }
theorem me_X8_isKind : x_Me yX8_isKind cX8_isKind 1 (some .boolean) 1 := ⟨by decide +kernel, w_co_yX8_isKind, w_in_SwappedIntervals, by decide +kernel, by decide +kernel, by decide +kernel⟩
def f_X8_isKind (a0 : Int32) (M : XM) : Option (Int32) := if a0 = 0 then some (1 : Int32) else if a0 = (1 : Int32) then some (1 : Int32) else some (0 : Int32)
set_option maxHeartbeats 4000000 in
set_option maxRecDepth 100000 in
theorem c_X8_isKind (l : Launch) (D : va_G) (aC : FieldType → ClassId) (bs sz : Nat) {a0 : Int32} {M : XM} {r : Int32} (h : f_X8_isKind a0 M = some r) : x_Cn l D aC bs yX8_isKind cX8_isKind 1 (some .boolean) rm_X8_isKind [.int a0] sz M (some (.int r)) sz M := by
  unfold f_X8_isKind at h
  refine x_enter2 [(0, .int a0)] me_X8_isKind (Nat.le_of_ble_eq_true rfl) rfl ?_
  refine x_iload_n dX8_isKind_0 0 rfl ?_
  refine x_if_eq 9 dX8_isKind_1 (by decide) (fun c1 => ?_) (fun c1 => ?_)
  · have h := (if_pos c1).symm.trans h
    refine x_iconst (v := (1 : Int32)) dX8_isKind_9 (by decide) ?_
    refine x_goto 14 dX8_isKind_10 (by decide) ?_
    obtain rfl := Option.some.inj h
    exact x_zret dX8_isKind_14 (Or.inr rfl) (Nat.le_of_ble_eq_true rfl) (Nat.le_of_ble_eq_true rfl)
  have h := (if_neg c1).symm.trans h
  refine x_iload_n dX8_isKind_4 0 rfl ?_
  refine x_iconst (v := (1 : Int32)) dX8_isKind_5 (by decide) ?_
  refine x_icmp_ne 13 dX8_isKind_6 (by decide) (fun c2 => ?_) (fun c2 => ?_)
  · have h := (if_neg c2).symm.trans h
    refine x_iconst (v := (0 : Int32)) dX8_isKind_13 (by decide) ?_
    obtain rfl := Option.some.inj h
    exact x_zret dX8_isKind_14 (Or.inl rfl) (Nat.le_of_ble_eq_true rfl) (Nat.le_of_ble_eq_true rfl)
  have h := (if_pos c2).symm.trans h
  refine x_iconst (v := (1 : Int32)) dX8_isKind_9 (by decide) ?_
  refine x_goto 14 dX8_isKind_10 (by decide) ?_
  obtain rfl := Option.some.inj h
  exact x_zret dX8_isKind_14 (Or.inr rfl) (Nat.le_of_ble_eq_true rfl) (Nat.le_of_ble_eq_true rfl)

-- SwappedIntervals.back(I)I
abbrev rm_X8_back : Room := { frames := 3, cells := 0, slots := 0, locals := 71 }
theorem me_X8_back : x_Me yX8_back cX8_back 3 (some .int) 1 := ⟨by decide +kernel, w_co_yX8_back, w_in_SwappedIntervals, by decide +kernel, by decide +kernel, by decide +kernel⟩
def f_X8_back (F : Nat) (a0 : Nat) (a1 : Int32) (M : XM) : Option (Int32 × XM) := (f_X8_isKind a1 M).bind fun p1 => if p1 = 0 then some ((-1 : Int32), M) else (x_gR M a0 8 0).bind fun v3 => (x_gR M v3 4 0).bind fun v4 => (x_ob M v4 3).bind fun u5 => (f_X3_refusalOfStepBack F v4 a1 M).bind fun p6 => if 0 ≤ p6 then (x_gR M a0 8 3).bind fun v8 => (x_gR M a0 8 0).bind fun v9 => (x_gR M v9 4 0).bind fun v10 => (x_ob M v8 0).bind fun u11 => (f_X0_remember F v8 v10 M).bind fun p12 => (x_gR p12 a0 8 0).bind fun v13 => (x_gR p12 v13 4 0).bind fun v14 => (x_ob p12 v14 3).bind fun u15 => (f_X3_goStepBack F v14 a1 p12).bind fun p16 => (x_gR p16 a0 8 0).bind fun v17 => (x_gR p16 v17 4 0).bind fun v18 => (x_ob p16 v18 3).bind fun u19 => (f_X3_points F v18 p16).bind fun p20 => some (p20, p16) else some (p6, M)
set_option maxHeartbeats 4000000 in
set_option maxRecDepth 100000 in
theorem c_X8_back (l : Launch) (D : va_G) (aC : FieldType → ClassId) (bs sz : Nat) (F : Nat) {a0 : Nat} {a1 : Int32} {M : XM} {r : Int32 × XM} (h : f_X8_back F a0 a1 M = some r) : x_Cn l D aC bs yX8_back cX8_back 3 (some .int) rm_X8_back [.ref a0, .int a1] sz M (some (.int r.1)) sz r.2 := by
  unfold f_X8_back at h
  refine x_enter2 [(0, .ref a0), (1, .int a1)] me_X8_back (Nat.le_of_ble_eq_true rfl) rfl ?_
  refine x_iload_n dX8_back_0 1 rfl ?_
  obtain ⟨p1, ep1, h⟩ := x_bd h
  refine x_callSI [.int a1] [] me_X8_isKind w_ml_RX8_114 w_st_yX8_isKind (Nat.le_of_ble_eq_true rfl) (Nat.le_of_ble_eq_true rfl) rfl (Nat.le_of_ble_eq_true rfl) (Nat.le_of_ble_eq_true rfl) (Nat.le_of_ble_eq_true rfl) dX8_back_1 (c_X8_isKind l D aC bs sz ep1) rfl ?_
  refine x_if_ne 9 dX8_back_4 (by decide) (fun c2 => ?_) (fun c2 => ?_)
  · have h := (if_neg c2).symm.trans h
    refine x_aload_n dX8_back_9 0 rfl ?_
    obtain ⟨v3, ev3, h⟩ := x_bd h
    refine x_getR clX8 w_fl_RX8_14 (by decide) dX8_back_10 ev3 ?_
    obtain ⟨v4, ev4, h⟩ := x_bd h
    refine x_getR clX4 w_fl_RX8_67 (by decide) dX8_back_13 ev4 ?_
    refine x_iload_n dX8_back_16 1 rfl ?_
    obtain ⟨u5, eu5, h⟩ := x_bd h
    obtain ⟨p6, ep6, h⟩ := x_bd h
    refine x_callVI [.int a1] [] clX3 me_X3_refusalOfStepBack w_ml_RX8_117 w_im_yX3_refusalOfStepBack w_se_yX3_refusalOfStepBack (Nat.le_of_ble_eq_true rfl) (Nat.le_of_ble_eq_true rfl) rfl (Nat.le_of_ble_eq_true rfl) (Nat.le_of_ble_eq_true rfl) (Nat.le_of_ble_eq_true rfl) dX8_back_17 eu5 (c_X3_refusalOfStepBack l D aC bs sz F ep6) rfl ?_
    refine x_istore_n 2 [(2, .int p6), (0, .ref a0), (1, .int a1)] dX8_back_20 rfl (by decide) rfl ?_
    refine x_iload_n dX8_back_21 0 rfl ?_
    refine x_if_ge 27 dX8_back_22 (by decide) (fun c7 => ?_) (fun c7 => ?_)
    · have h := (if_pos c7).symm.trans h
      refine x_aload_n dX8_back_27 1 rfl ?_
      obtain ⟨v8, ev8, h⟩ := x_bd h
      refine x_getR clX8 w_fl_RX8_28 (by decide) dX8_back_28 ev8 ?_
      refine x_aload_n dX8_back_31 1 rfl ?_
      obtain ⟨v9, ev9, h⟩ := x_bd h
      refine x_getR clX8 w_fl_RX8_14 (by decide) dX8_back_32 ev9 ?_
      obtain ⟨v10, ev10, h⟩ := x_bd h
      refine x_getR clX4 w_fl_RX8_67 (by decide) dX8_back_35 ev10 ?_
      obtain ⟨u11, eu11, h⟩ := x_bd h
      obtain ⟨p12, ep12, h⟩ := x_bd h
      refine x_callVV [.ref v10] [] clX0 me_X0_remember w_ml_RX8_95 w_im_yX0_remember w_se_yX0_remember (Nat.le_of_ble_eq_true rfl) (Nat.le_of_ble_eq_true rfl) rfl (Nat.le_of_ble_eq_true rfl) (Nat.le_of_ble_eq_true rfl) (Nat.le_of_ble_eq_true rfl) dX8_back_38 eu11 (c_X0_remember l D aC bs sz F ep12) rfl ?_
      refine x_aload_n dX8_back_41 1 rfl ?_
      obtain ⟨v13, ev13, h⟩ := x_bd h
      refine x_getR clX8 w_fl_RX8_14 (by decide) dX8_back_42 ev13 ?_
      obtain ⟨v14, ev14, h⟩ := x_bd h
      refine x_getR clX4 w_fl_RX8_67 (by decide) dX8_back_45 ev14 ?_
      refine x_iload_n dX8_back_48 2 rfl ?_
      obtain ⟨u15, eu15, h⟩ := x_bd h
      obtain ⟨p16, ep16, h⟩ := x_bd h
      refine x_callVV [.int a1] [] clX3 me_X3_goStepBack w_ml_RX8_121 w_im_yX3_goStepBack w_se_yX3_goStepBack (Nat.le_of_ble_eq_true rfl) (Nat.le_of_ble_eq_true rfl) rfl (Nat.le_of_ble_eq_true rfl) (Nat.le_of_ble_eq_true rfl) (Nat.le_of_ble_eq_true rfl) dX8_back_49 eu15 (c_X3_goStepBack l D aC bs sz F ep16) rfl ?_
      refine x_aload_n dX8_back_52 1 rfl ?_
      obtain ⟨v17, ev17, h⟩ := x_bd h
      refine x_getR clX8 w_fl_RX8_14 (by decide) dX8_back_53 ev17 ?_
      obtain ⟨v18, ev18, h⟩ := x_bd h
      refine x_getR clX4 w_fl_RX8_67 (by decide) dX8_back_56 ev18 ?_
      obtain ⟨u19, eu19, h⟩ := x_bd h
      obtain ⟨p20, ep20, h⟩ := x_bd h
      refine x_callVI [] [] clX3 me_X3_points w_ml_RX8_124 w_im_yX3_points w_se_yX3_points (Nat.le_of_ble_eq_true rfl) (Nat.le_of_ble_eq_true rfl) rfl (Nat.le_of_ble_eq_true rfl) (Nat.le_of_ble_eq_true rfl) (Nat.le_of_ble_eq_true rfl) dX8_back_59 eu19 (c_X3_points l D aC bs sz F ep20) rfl ?_
      obtain rfl := Option.some.inj h
      exact x_iret dX8_back_62 (Nat.le_of_ble_eq_true rfl) (Nat.le_of_ble_eq_true rfl)
    have h := (if_neg c7).symm.trans h
    refine x_iload_n dX8_back_25 0 rfl ?_
    obtain rfl := Option.some.inj h
    exact x_iret dX8_back_26 (Nat.le_of_ble_eq_true rfl) (Nat.le_of_ble_eq_true rfl)
  have h := (if_pos c2).symm.trans h
  refine x_iconst (v := (-1 : Int32)) dX8_back_7 (by decide) ?_
  obtain rfl := Option.some.inj h
  exact x_iret dX8_back_8 (Nat.le_of_ble_eq_true rfl) (Nat.le_of_ble_eq_true rfl)

-- SwappedIntervals.takeBack()I
abbrev rm_X8_takeBack : Room := { frames := 2, cells := 0, slots := 0, locals := 43 }
theorem me_X8_takeBack : x_Me yX8_takeBack cX8_takeBack 1 (some .int) 0 := ⟨by decide +kernel, w_co_yX8_takeBack, w_in_SwappedIntervals, by decide +kernel, by decide +kernel, by decide +kernel⟩
def f_X8_takeBack (F : Nat) (a0 : Nat) (M : XM) : Option (Int32 × XM) := (x_gR M a0 8 3).bind fun v1 => (x_gI M v1 0 2).bind fun v2 => if v2 = 0 then some ((-3 : Int32), M) else (x_gR M a0 8 3).bind fun v4 => (x_gR M a0 8 0).bind fun v5 => (x_gR M v5 4 0).bind fun v6 => (x_ob M v4 0).bind fun u7 => (f_X0_restoreLatest F v4 v6 M).bind fun p8 => (x_gR p8 a0 8 3).bind fun v9 => (x_gI p8 v9 0 2).bind fun v10 => some (v10, p8)
set_option maxHeartbeats 4000000 in
set_option maxRecDepth 100000 in
theorem c_X8_takeBack (l : Launch) (D : va_G) (aC : FieldType → ClassId) (bs sz : Nat) (F : Nat) {a0 : Nat} {M : XM} {r : Int32 × XM} (h : f_X8_takeBack F a0 M = some r) : x_Cn l D aC bs yX8_takeBack cX8_takeBack 1 (some .int) rm_X8_takeBack [.ref a0] sz M (some (.int r.1)) sz r.2 := by
  unfold f_X8_takeBack at h
  refine x_enter2 [(0, .ref a0)] me_X8_takeBack (Nat.le_of_ble_eq_true rfl) rfl ?_
  refine x_aload_n dX8_takeBack_0 0 rfl ?_
  obtain ⟨v1, ev1, h⟩ := x_bd h
  refine x_getR clX8 w_fl_RX8_28 (by decide) dX8_takeBack_1 ev1 ?_
  obtain ⟨v2, ev2, h⟩ := x_bd h
  refine x_getI clX0 w_fl_RX8_127 (by decide) dX8_takeBack_4 ev2 ?_
  refine x_if_ne 13 dX8_takeBack_7 (by decide) (fun c3 => ?_) (fun c3 => ?_)
  · have h := (if_neg c3).symm.trans h
    refine x_aload_n dX8_takeBack_13 0 rfl ?_
    obtain ⟨v4, ev4, h⟩ := x_bd h
    refine x_getR clX8 w_fl_RX8_28 (by decide) dX8_takeBack_14 ev4 ?_
    refine x_aload_n dX8_takeBack_17 0 rfl ?_
    obtain ⟨v5, ev5, h⟩ := x_bd h
    refine x_getR clX8 w_fl_RX8_14 (by decide) dX8_takeBack_18 ev5 ?_
    obtain ⟨v6, ev6, h⟩ := x_bd h
    refine x_getR clX4 w_fl_RX8_67 (by decide) dX8_takeBack_21 ev6 ?_
    obtain ⟨u7, eu7, h⟩ := x_bd h
    obtain ⟨p8, ep8, h⟩ := x_bd h
    refine x_callVV [.ref v6] [] clX0 me_X0_restoreLatest w_ml_RX8_130 w_im_yX0_restoreLatest w_se_yX0_restoreLatest (Nat.le_of_ble_eq_true rfl) (Nat.le_of_ble_eq_true rfl) rfl (Nat.le_of_ble_eq_true rfl) (Nat.le_of_ble_eq_true rfl) (Nat.le_of_ble_eq_true rfl) dX8_takeBack_24 eu7 (c_X0_restoreLatest l D aC bs sz F ep8) rfl ?_
    refine x_aload_n dX8_takeBack_27 0 rfl ?_
    obtain ⟨v9, ev9, h⟩ := x_bd h
    refine x_getR clX8 w_fl_RX8_28 (by decide) dX8_takeBack_28 ev9 ?_
    obtain ⟨v10, ev10, h⟩ := x_bd h
    refine x_getI clX0 w_fl_RX8_127 (by decide) dX8_takeBack_31 ev10 ?_
    obtain rfl := Option.some.inj h
    exact x_iret dX8_takeBack_34 (Nat.le_of_ble_eq_true rfl) (Nat.le_of_ble_eq_true rfl)
  have h := (if_pos c3).symm.trans h
  refine x_bipush (v := (-3 : Int32)) dX8_takeBack_10 (by decide) ?_
  obtain rfl := Option.some.inj h
  exact x_iret dX8_takeBack_12 (Nat.le_of_ble_eq_true rfl) (Nat.le_of_ble_eq_true rfl)

-- SwappedIntervals.keep()I
abbrev rm_X8_keep : Room := { frames := 2, cells := 0, slots := 0, locals := 45 }
theorem me_X8_keep : x_Me yX8_keep cX8_keep 1 (some .int) 0 := ⟨by decide +kernel, w_co_yX8_keep, w_in_SwappedIntervals, by decide +kernel, by decide +kernel, by decide +kernel⟩
def f_X8_keep (F : Nat) (a0 : Nat) (M : XM) : Option (Int32 × XM) := (x_gR M a0 8 0).bind fun v1 => (x_gR M a0 8 0).bind fun v2 => (x_gR M v2 4 0).bind fun v3 => (x_ob M v3 3).bind fun u4 => (f_X3_codeNow F v3 M).bind fun p5 => (x_put M v1 4 1 (.int p5)).bind fun m6 => (x_gR m6 a0 8 0).bind fun v7 => (x_gI m6 v7 4 1).bind fun v8 => some (v8, m6)
set_option maxHeartbeats 4000000 in
set_option maxRecDepth 100000 in
theorem c_X8_keep (l : Launch) (D : va_G) (aC : FieldType → ClassId) (bs sz : Nat) (F : Nat) {a0 : Nat} {M : XM} {r : Int32 × XM} (h : f_X8_keep F a0 M = some r) : x_Cn l D aC bs yX8_keep cX8_keep 1 (some .int) rm_X8_keep [.ref a0] sz M (some (.int r.1)) sz r.2 := by
  unfold f_X8_keep at h
  refine x_enter2 [(0, .ref a0)] me_X8_keep (Nat.le_of_ble_eq_true rfl) rfl ?_
  refine x_aload_n dX8_keep_0 0 rfl ?_
  obtain ⟨v1, ev1, h⟩ := x_bd h
  refine x_getR clX8 w_fl_RX8_14 (by decide) dX8_keep_1 ev1 ?_
  refine x_aload_n dX8_keep_4 0 rfl ?_
  obtain ⟨v2, ev2, h⟩ := x_bd h
  refine x_getR clX8 w_fl_RX8_14 (by decide) dX8_keep_5 ev2 ?_
  obtain ⟨v3, ev3, h⟩ := x_bd h
  refine x_getR clX4 w_fl_RX8_67 (by decide) dX8_keep_8 ev3 ?_
  obtain ⟨u4, eu4, h⟩ := x_bd h
  obtain ⟨p5, ep5, h⟩ := x_bd h
  refine x_callVI [] [.ref v1] clX3 me_X3_codeNow w_ml_RX8_133 w_im_yX3_codeNow w_se_yX3_codeNow (Nat.le_of_ble_eq_true rfl) (Nat.le_of_ble_eq_true rfl) rfl (Nat.le_of_ble_eq_true rfl) (Nat.le_of_ble_eq_true rfl) (Nat.le_of_ble_eq_true rfl) dX8_keep_11 eu4 (c_X3_codeNow l D aC bs sz F ep5) rfl ?_
  obtain ⟨m6, em6, h⟩ := x_bd h
  refine x_putV clX4 w_fl_RX8_136 (by decide) rfl rfl rfl dX8_keep_14 em6 ?_
  refine x_aload_n dX8_keep_17 0 rfl ?_
  obtain ⟨v7, ev7, h⟩ := x_bd h
  refine x_getR clX8 w_fl_RX8_14 (by decide) dX8_keep_18 ev7 ?_
  obtain ⟨v8, ev8, h⟩ := x_bd h
  refine x_getI clX4 w_fl_RX8_136 (by decide) dX8_keep_21 ev8 ?_
  obtain rfl := Option.some.inj h
  exact x_iret dX8_keep_24 (Nat.le_of_ble_eq_true rfl) (Nat.le_of_ble_eq_true rfl)

-- SwappedIntervals.feed(I)I
abbrev rm_X8_feed : Room := { frames := 1, cells := 0, slots := 0, locals := 21 }
theorem me_X8_feed : x_Me yX8_feed cX8_feed 2 (some .int) 1 := ⟨by decide +kernel, w_co_yX8_feed, w_in_SwappedIntervals, by decide +kernel, by decide +kernel, by decide +kernel⟩
def f_X8_feed (a0 : Nat) (a1 : Int32) (M : XM) : Option (Int32 × XM) := if a1 < 0 then some ((-2 : Int32), M) else if a1 ≤ (127 : Int32) then (x_gR M a0 8 4).bind fun v3 => (x_ob M v3 7).bind fun u4 => (f_X7_add v3 a1 M).bind fun p5 => some (p5.1, p5.2) else some ((-2 : Int32), M)
set_option maxHeartbeats 4000000 in
set_option maxRecDepth 100000 in
theorem c_X8_feed (l : Launch) (D : va_G) (aC : FieldType → ClassId) (bs sz : Nat) {a0 : Nat} {a1 : Int32} {M : XM} {r : Int32 × XM} (h : f_X8_feed a0 a1 M = some r) : x_Cn l D aC bs yX8_feed cX8_feed 2 (some .int) rm_X8_feed [.ref a0, .int a1] sz M (some (.int r.1)) sz r.2 := by
  unfold f_X8_feed at h
  refine x_enter2 [(0, .ref a0), (1, .int a1)] me_X8_feed (Nat.le_of_ble_eq_true rfl) rfl ?_
  refine x_iload_n dX8_feed_0 1 rfl ?_
  refine x_if_lt 10 dX8_feed_1 (by decide) (fun c1 => ?_) (fun c1 => ?_)
  · have h := (if_pos c1).symm.trans h
    refine x_bipush (v := (-2 : Int32)) dX8_feed_10 (by decide) ?_
    obtain rfl := Option.some.inj h
    exact x_iret dX8_feed_12 (Nat.le_of_ble_eq_true rfl) (Nat.le_of_ble_eq_true rfl)
  have h := (if_neg c1).symm.trans h
  refine x_iload_n dX8_feed_4 1 rfl ?_
  refine x_bipush (v := (127 : Int32)) dX8_feed_5 (by decide) ?_
  refine x_icmp_le 13 dX8_feed_7 (by decide) (fun c2 => ?_) (fun c2 => ?_)
  · have h := (if_pos c2).symm.trans h
    refine x_aload_n dX8_feed_13 0 rfl ?_
    obtain ⟨v3, ev3, h⟩ := x_bd h
    refine x_getR clX8 w_fl_RX8_35 (by decide) dX8_feed_14 ev3 ?_
    refine x_iload_n dX8_feed_17 1 rfl ?_
    obtain ⟨u4, eu4, h⟩ := x_bd h
    obtain ⟨p5, ep5, h⟩ := x_bd h
    refine x_callVI [.int a1] [] clX7 me_X7_add w_ml_RX8_139 w_im_yX7_add w_se_yX7_add (Nat.le_of_ble_eq_true rfl) (Nat.le_of_ble_eq_true rfl) rfl (Nat.le_of_ble_eq_true rfl) (Nat.le_of_ble_eq_true rfl) (Nat.le_of_ble_eq_true rfl) dX8_feed_18 eu4 (c_X7_add l D aC bs sz ep5) rfl ?_
    obtain rfl := Option.some.inj h
    exact x_iret dX8_feed_21 (Nat.le_of_ble_eq_true rfl) (Nat.le_of_ble_eq_true rfl)
  have h := (if_neg c2).symm.trans h
  refine x_bipush (v := (-2 : Int32)) dX8_feed_10 (by decide) ?_
  obtain rfl := Option.some.inj h
  exact x_iret dX8_feed_12 (Nat.le_of_ble_eq_true rfl) (Nat.le_of_ble_eq_true rfl)

-- SwappedIntervals.doClause(III)I
abbrev rm_X8_doClause : Room := { frames := 4, cells := 0, slots := 0, locals := 93 }
theorem me_X8_doClause : x_Me yX8_doClause cX8_doClause 4 (some .int) 3 := ⟨by decide +kernel, w_co_yX8_doClause, w_in_SwappedIntervals, by decide +kernel, by decide +kernel, by decide +kernel⟩
def f_X8_doClause (F : Nat) (a0 : Nat) (a1 : Int32) (a2 : Int32) (a3 : Int32) (M : XM) : Option (Int32 × XM) := if a1 = (98 : Int32) then (x_ob M a0 8).bind fun u2 => (f_X8_back F a0 a2 M).bind fun p3 => some (p3.1, p3.2) else if a1 = (107 : Int32) then (x_ob M a0 8).bind fun u5 => (f_X8_keep F a0 M).bind fun p6 => some (p6.1, p6.2) else if a1 = (108 : Int32) then (x_ob M a0 8).bind fun u8 => (f_X8_length F a0 a2 a3 M).bind fun p9 => some (p9.1, p9.2) else if a1 = (110 : Int32) then (x_ob M a0 8).bind fun u11 => (f_X8_letters F a0 a2 M).bind fun p12 => some (p12.1, p12.2) else if a1 = (114 : Int32) then (x_ob M a0 8).bind fun u14 => (f_X8_bottom F a0 a2 M).bind fun p15 => some (p15.1, p15.2) else if a1 = (115 : Int32) then (x_ob M a0 8).bind fun u17 => (f_X8_step F a0 M).bind fun p18 => some (p18.1, p18.2) else if a1 = (117 : Int32) then (x_ob M a0 8).bind fun u20 => (f_X8_takeBack F a0 M).bind fun p21 => some (p21.1, p21.2) else if a1 = (119 : Int32) then (x_ob M a0 8).bind fun u23 => (f_X8_swap F a0 a2 a3 M).bind fun p24 => some (p24.1, p24.2) else some ((-1 : Int32), M)
set_option maxHeartbeats 4000000 in
set_option maxRecDepth 100000 in
theorem c_X8_doClause (l : Launch) (D : va_G) (aC : FieldType → ClassId) (bs sz : Nat) (F : Nat) {a0 : Nat} {a1 : Int32} {a2 : Int32} {a3 : Int32} {M : XM} {r : Int32 × XM} (h : f_X8_doClause F a0 a1 a2 a3 M = some r) : x_Cn l D aC bs yX8_doClause cX8_doClause 4 (some .int) rm_X8_doClause [.ref a0, .int a1, .int a2, .int a3] sz M (some (.int r.1)) sz r.2 := by
  unfold f_X8_doClause at h
  refine x_enter2 [(0, .ref a0), (1, .int a1), (2, .int a2), (3, .int a3)] me_X8_doClause (Nat.le_of_ble_eq_true rfl) rfl ?_
  refine x_iload_n dX8_doClause_0 1 rfl ?_
  by_cases c1 : a1 = (98 : Int32)
  · have h := (if_pos c1).symm.trans h
    refine x_tabIn 98 128 dX8_doClause_1 (by rw [c1]; decide) (by decide) (by decide) rfl (by decide) ?_
    refine x_aload_n dX8_doClause_128 0 rfl ?_
    refine x_iload_n dX8_doClause_129 2 rfl ?_
    obtain ⟨u2, eu2, h⟩ := x_bd h
    obtain ⟨p3, ep3, h⟩ := x_bd h
    refine x_callVI [.int a2] [] clX8 me_X8_back w_ml_RX8_177 w_im_yX8_back w_se_yX8_back (Nat.le_of_ble_eq_true rfl) (Nat.le_of_ble_eq_true rfl) rfl (Nat.le_of_ble_eq_true rfl) (Nat.le_of_ble_eq_true rfl) (Nat.le_of_ble_eq_true rfl) dX8_doClause_130 eu2 (c_X8_back l D aC bs sz F ep3) rfl ?_
    obtain rfl := Option.some.inj h
    exact x_iret dX8_doClause_133 (Nat.le_of_ble_eq_true rfl) (Nat.le_of_ble_eq_true rfl)
  have h := (if_neg c1).symm.trans h
  by_cases c4 : a1 = (107 : Int32)
  · have h := (if_pos c4).symm.trans h
    refine x_tabIn 107 141 dX8_doClause_1 (by rw [c4]; decide) (by decide) (by decide) rfl (by decide) ?_
    refine x_aload_n dX8_doClause_141 0 rfl ?_
    obtain ⟨u5, eu5, h⟩ := x_bd h
    obtain ⟨p6, ep6, h⟩ := x_bd h
    refine x_callVI [] [] clX8 me_X8_keep w_ml_RX8_183 w_im_yX8_keep w_se_yX8_keep (Nat.le_of_ble_eq_true rfl) (Nat.le_of_ble_eq_true rfl) rfl (Nat.le_of_ble_eq_true rfl) (Nat.le_of_ble_eq_true rfl) (Nat.le_of_ble_eq_true rfl) dX8_doClause_142 eu5 (c_X8_keep l D aC bs sz F ep6) rfl ?_
    obtain rfl := Option.some.inj h
    exact x_iret dX8_doClause_145 (Nat.le_of_ble_eq_true rfl) (Nat.le_of_ble_eq_true rfl)
  have h := (if_neg c4).symm.trans h
  by_cases c7 : a1 = (108 : Int32)
  · have h := (if_pos c7).symm.trans h
    refine x_tabIn 108 110 dX8_doClause_1 (by rw [c7]; decide) (by decide) (by decide) rfl (by decide) ?_
    refine x_aload_n dX8_doClause_110 0 rfl ?_
    refine x_iload_n dX8_doClause_111 2 rfl ?_
    refine x_iload_n dX8_doClause_112 3 rfl ?_
    obtain ⟨u8, eu8, h⟩ := x_bd h
    obtain ⟨p9, ep9, h⟩ := x_bd h
    refine x_callVI [.int a2, .int a3] [] clX8 me_X8_length w_ml_RX8_167 w_im_yX8_length w_se_yX8_length (Nat.le_of_ble_eq_true rfl) (Nat.le_of_ble_eq_true rfl) rfl (Nat.le_of_ble_eq_true rfl) (Nat.le_of_ble_eq_true rfl) (Nat.le_of_ble_eq_true rfl) dX8_doClause_113 eu8 (c_X8_length l D aC bs sz F ep9) rfl ?_
    obtain rfl := Option.some.inj h
    exact x_iret dX8_doClause_116 (Nat.le_of_ble_eq_true rfl) (Nat.le_of_ble_eq_true rfl)
  have h := (if_neg c7).symm.trans h
  by_cases c10 : a1 = (110 : Int32)
  · have h := (if_pos c10).symm.trans h
    refine x_tabIn 110 104 dX8_doClause_1 (by rw [c10]; decide) (by decide) (by decide) rfl (by decide) ?_
    refine x_aload_n dX8_doClause_104 0 rfl ?_
    refine x_iload_n dX8_doClause_105 2 rfl ?_
    obtain ⟨u11, eu11, h⟩ := x_bd h
    obtain ⟨p12, ep12, h⟩ := x_bd h
    refine x_callVI [.int a2] [] clX8 me_X8_letters w_ml_RX8_164 w_im_yX8_letters w_se_yX8_letters (Nat.le_of_ble_eq_true rfl) (Nat.le_of_ble_eq_true rfl) rfl (Nat.le_of_ble_eq_true rfl) (Nat.le_of_ble_eq_true rfl) (Nat.le_of_ble_eq_true rfl) dX8_doClause_106 eu11 (c_X8_letters l D aC bs sz F ep12) rfl ?_
    obtain rfl := Option.some.inj h
    exact x_iret dX8_doClause_109 (Nat.le_of_ble_eq_true rfl) (Nat.le_of_ble_eq_true rfl)
  have h := (if_neg c10).symm.trans h
  by_cases c13 : a1 = (114 : Int32)
  · have h := (if_pos c13).symm.trans h
    refine x_tabIn 114 117 dX8_doClause_1 (by rw [c13]; decide) (by decide) (by decide) rfl (by decide) ?_
    refine x_aload_n dX8_doClause_117 0 rfl ?_
    refine x_iload_n dX8_doClause_118 2 rfl ?_
    obtain ⟨u14, eu14, h⟩ := x_bd h
    obtain ⟨p15, ep15, h⟩ := x_bd h
    refine x_callVI [.int a2] [] clX8 me_X8_bottom w_ml_RX8_171 w_im_yX8_bottom w_se_yX8_bottom (Nat.le_of_ble_eq_true rfl) (Nat.le_of_ble_eq_true rfl) rfl (Nat.le_of_ble_eq_true rfl) (Nat.le_of_ble_eq_true rfl) (Nat.le_of_ble_eq_true rfl) dX8_doClause_119 eu14 (c_X8_bottom l D aC bs sz F ep15) rfl ?_
    obtain rfl := Option.some.inj h
    exact x_iret dX8_doClause_122 (Nat.le_of_ble_eq_true rfl) (Nat.le_of_ble_eq_true rfl)
  have h := (if_neg c13).symm.trans h
  by_cases c16 : a1 = (115 : Int32)
  · have h := (if_pos c16).symm.trans h
    refine x_tabIn 115 123 dX8_doClause_1 (by rw [c16]; decide) (by decide) (by decide) rfl (by decide) ?_
    refine x_aload_n dX8_doClause_123 0 rfl ?_
    obtain ⟨u17, eu17, h⟩ := x_bd h
    obtain ⟨p18, ep18, h⟩ := x_bd h
    refine x_callVI [] [] clX8 me_X8_step w_ml_RX8_174 w_im_yX8_step w_se_yX8_step (Nat.le_of_ble_eq_true rfl) (Nat.le_of_ble_eq_true rfl) rfl (Nat.le_of_ble_eq_true rfl) (Nat.le_of_ble_eq_true rfl) (Nat.le_of_ble_eq_true rfl) dX8_doClause_124 eu17 (c_X8_step l D aC bs sz F ep18) rfl ?_
    obtain rfl := Option.some.inj h
    exact x_iret dX8_doClause_127 (Nat.le_of_ble_eq_true rfl) (Nat.le_of_ble_eq_true rfl)
  have h := (if_neg c16).symm.trans h
  by_cases c19 : a1 = (117 : Int32)
  · have h := (if_pos c19).symm.trans h
    refine x_tabIn 117 146 dX8_doClause_1 (by rw [c19]; decide) (by decide) (by decide) rfl (by decide) ?_
    refine x_aload_n dX8_doClause_146 0 rfl ?_
    obtain ⟨u20, eu20, h⟩ := x_bd h
    obtain ⟨p21, ep21, h⟩ := x_bd h
    refine x_callVI [] [] clX8 me_X8_takeBack w_ml_RX8_186 w_im_yX8_takeBack w_se_yX8_takeBack (Nat.le_of_ble_eq_true rfl) (Nat.le_of_ble_eq_true rfl) rfl (Nat.le_of_ble_eq_true rfl) (Nat.le_of_ble_eq_true rfl) (Nat.le_of_ble_eq_true rfl) dX8_doClause_147 eu20 (c_X8_takeBack l D aC bs sz F ep21) rfl ?_
    obtain rfl := Option.some.inj h
    exact x_iret dX8_doClause_150 (Nat.le_of_ble_eq_true rfl) (Nat.le_of_ble_eq_true rfl)
  have h := (if_neg c19).symm.trans h
  by_cases c22 : a1 = (119 : Int32)
  · have h := (if_pos c22).symm.trans h
    refine x_tabIn 119 134 dX8_doClause_1 (by rw [c22]; decide) (by decide) (by decide) rfl (by decide) ?_
    refine x_aload_n dX8_doClause_134 0 rfl ?_
    refine x_iload_n dX8_doClause_135 2 rfl ?_
    refine x_iload_n dX8_doClause_136 3 rfl ?_
    obtain ⟨u23, eu23, h⟩ := x_bd h
    obtain ⟨p24, ep24, h⟩ := x_bd h
    refine x_callVI [.int a2, .int a3] [] clX8 me_X8_swap w_ml_RX8_180 w_im_yX8_swap w_se_yX8_swap (Nat.le_of_ble_eq_true rfl) (Nat.le_of_ble_eq_true rfl) rfl (Nat.le_of_ble_eq_true rfl) (Nat.le_of_ble_eq_true rfl) (Nat.le_of_ble_eq_true rfl) dX8_doClause_137 eu23 (c_X8_swap l D aC bs sz F ep24) rfl ?_
    obtain rfl := Option.some.inj h
    exact x_iret dX8_doClause_140 (Nat.le_of_ble_eq_true rfl) (Nat.le_of_ble_eq_true rfl)
  have h := (if_neg c22).symm.trans h
  have nc1 := lv_neT c1 (a := 98) (by decide)
  have nc4 := lv_neT c4 (a := 107) (by decide)
  have nc7 := lv_neT c7 (a := 108) (by decide)
  have nc10 := lv_neT c10 (a := 110) (by decide)
  have nc13 := lv_neT c13 (a := 114) (by decide)
  have nc16 := lv_neT c16 (a := 115) (by decide)
  have nc19 := lv_neT c19 (a := 117) (by decide)
  have nc22 := lv_neT c22 (a := 119) (by decide)
  refine x_tabD 151 dX8_doClause_1 ?_ (by decide) ?_
  · by_cases r1 : (a1).toInt < 98
    · exact Or.inl r1
    by_cases r2 : 119 < (a1).toInt
    · exact Or.inr (Or.inl r2)
    refine Or.inr (Or.inr ?_)
    rcases (show (a1).toInt = 99 ∨ (a1).toInt = 100 ∨ (a1).toInt = 101 ∨ (a1).toInt = 102 ∨ (a1).toInt = 103 ∨ (a1).toInt = 104 ∨ (a1).toInt = 105 ∨ (a1).toInt = 106 ∨ (a1).toInt = 109 ∨ (a1).toInt = 111 ∨ (a1).toInt = 112 ∨ (a1).toInt = 113 ∨ (a1).toInt = 116 ∨ (a1).toInt = 118 by omega) with r3 | r3 | r3 | r3 | r3 | r3 | r3 | r3 | r3 | r3 | r3 | r3 | r3 | r3 <;> rw [r3] <;> rfl
  refine x_iconst (v := (-1 : Int32)) dX8_doClause_151 (by decide) ?_
  obtain rfl := Option.some.inj h
  exact x_iret dX8_doClause_152 (Nat.le_of_ble_eq_true rfl) (Nat.le_of_ble_eq_true rfl)

-- SwappedIntervals.read()I
abbrev rm_X8_read : Room := { frames := 5, cells := 0, slots := 0, locals := 116 }
theorem me_X8_read : x_Me yX8_read cX8_read 4 (some .int) 0 := ⟨by decide +kernel, w_co_yX8_read, w_in_SwappedIntervals, by decide +kernel, by decide +kernel, by decide +kernel⟩
def b_X8_read_29 (F : Nat) (a0 : Nat)  (k29 : (Int32 × Int32 × XM) → Option (Int32 × XM)) (q : Int32 × Int32 × XM) : Option (Int32 × XM) := (x_gR q.2.2 a0 8 4).bind fun v8 => (x_gI q.2.2 v8 7 3).bind fun v9 => if v9 ≤ q.2.1 then some (q.1, q.2.2) else (x_gR q.2.2 a0 8 4).bind fun v11 => (x_gR q.2.2 v11 7 4).bind fun v12 => (x_a32 .int q.2.2 v12 q.2.1).bind fun v13 => (x_gR q.2.2 a0 8 4).bind fun v14 => (x_gR q.2.2 v14 7 5).bind fun v15 => (x_a32 .int q.2.2 v15 q.2.1).bind fun v16 => (x_gR q.2.2 a0 8 4).bind fun v17 => (x_gR q.2.2 v17 7 6).bind fun v18 => (x_a32 .int q.2.2 v18 q.2.1).bind fun v19 => (x_ob q.2.2 a0 8).bind fun u20 => (f_X8_doClause F a0 v13 v16 v19 q.2.2).bind fun p21 => if p21.1 < 0 then k29 (q.1, (q.2.1 + (1 : Int32)), p21.2) else k29 ((q.1 + (1 : Int32)), (q.2.1 + (1 : Int32)), p21.2)
set_option maxHeartbeats 4000000 in
set_option maxRecDepth 100000 in
theorem lp_X8_read_29 (l : Launch) (D : va_G) (aC : FieldType → ClassId) (bs : Nat) (sz : Nat) (F : Nat) (a0 : Nat)   : ∀ (n : Nat) (b0 : Int32) (b1 : Int32) (b2 : XM) (r : Int32 × XM), x_it (b_X8_read_29 F a0 ) n (b0, b1, b2) = some r → x_V l D aC bs yX8_read cX8_read 4 (some .int) rm_X8_read (x_Z D aC bs (some (.int r.1)) sz r.2 rm_X8_read) 29 [(0, .ref a0), (2, .int b0), (3, .int b1)] [] sz b2 0 0 := by
  suffices H : ∀ (n : Nat) (q : Int32 × Int32 × XM) (r : Int32 × XM), x_it (b_X8_read_29 F a0 ) n q = some r → x_V l D aC bs yX8_read cX8_read 4 (some .int) rm_X8_read (x_Z D aC bs (some (.int r.1)) sz r.2 rm_X8_read) 29 [(0, .ref a0), (2, .int q.1), (3, .int q.2.1)] [] sz q.2.2 0 0 from fun n b0 b1 b2 r h => H n (b0, b1, b2) r h
  refine x_loop (P := fun (q : Int32 × Int32 × XM) (r : Int32 × XM) => x_V l D aC bs yX8_read cX8_read 4 (some .int) rm_X8_read (x_Z D aC bs (some (.int r.1)) sz r.2 rm_X8_read) 29 [(0, .ref a0), (2, .int q.1), (3, .int q.2.1)] [] sz q.2.2 0 0) (fun k29 hk0 q r h => ?_)
  have hk29 : ∀ (b0 : Int32) (b1 : Int32) (b2 : XM) (r : Int32 × XM), k29 (b0, b1, b2) = some r → x_V l D aC bs yX8_read cX8_read 4 (some .int) rm_X8_read (x_Z D aC bs (some (.int r.1)) sz r.2 rm_X8_read) 29 [(0, .ref a0), (2, .int b0), (3, .int b1)] [] sz b2 0 0 := fun b0 b1 b2 r h => hk0 (b0, b1, b2) r h
  unfold b_X8_read_29 at h
  refine x_iload_n dX8_read_29 2 rfl ?_
  refine x_aload_n dX8_read_30 0 rfl ?_
  obtain ⟨v8, ev8, h⟩ := x_bd h
  refine x_getR clX8 w_fl_RX8_35 (by decide) dX8_read_31 ev8 ?_
  obtain ⟨v9, ev9, h⟩ := x_bd h
  refine x_getI clX7 w_fl_RX8_148 (by decide) dX8_read_34 ev9 ?_
  refine x_icmp_ge 83 dX8_read_37 (by decide) (fun c10 => ?_) (fun c10 => ?_)
  · have h := (if_pos c10).symm.trans h
    refine x_iload_n dX8_read_83 1 rfl ?_
    obtain rfl := Option.some.inj h
    exact x_iret dX8_read_84 (Nat.le_of_ble_eq_true rfl) (Nat.le_of_ble_eq_true rfl)
  have h := (if_neg c10).symm.trans h
  refine x_aload_n dX8_read_40 0 rfl ?_
  refine x_aload_n dX8_read_41 0 rfl ?_
  obtain ⟨v11, ev11, h⟩ := x_bd h
  refine x_getR clX8 w_fl_RX8_35 (by decide) dX8_read_42 ev11 ?_
  obtain ⟨v12, ev12, h⟩ := x_bd h
  refine x_getR clX7 w_fl_RX8_151 (by decide) dX8_read_45 ev12 ?_
  refine x_iload_n dX8_read_48 2 rfl ?_
  obtain ⟨v13, ev13, h⟩ := x_bd h
  refine x_iald dX8_read_49 ev13 ?_
  refine x_aload_n dX8_read_50 0 rfl ?_
  obtain ⟨v14, ev14, h⟩ := x_bd h
  refine x_getR clX8 w_fl_RX8_35 (by decide) dX8_read_51 ev14 ?_
  obtain ⟨v15, ev15, h⟩ := x_bd h
  refine x_getR clX7 w_fl_RX8_154 (by decide) dX8_read_54 ev15 ?_
  refine x_iload_n dX8_read_57 2 rfl ?_
  obtain ⟨v16, ev16, h⟩ := x_bd h
  refine x_iald dX8_read_58 ev16 ?_
  refine x_aload_n dX8_read_59 0 rfl ?_
  obtain ⟨v17, ev17, h⟩ := x_bd h
  refine x_getR clX8 w_fl_RX8_35 (by decide) dX8_read_60 ev17 ?_
  obtain ⟨v18, ev18, h⟩ := x_bd h
  refine x_getR clX7 w_fl_RX8_157 (by decide) dX8_read_63 ev18 ?_
  refine x_iload_n dX8_read_66 2 rfl ?_
  obtain ⟨v19, ev19, h⟩ := x_bd h
  refine x_iald dX8_read_67 ev19 ?_
  obtain ⟨u20, eu20, h⟩ := x_bd h
  obtain ⟨p21, ep21, h⟩ := x_bd h
  refine x_callVI [.int v13, .int v16, .int v19] [] clX8 me_X8_doClause w_ml_RX8_160 w_im_yX8_doClause w_se_yX8_doClause (Nat.le_of_ble_eq_true rfl) (Nat.le_of_ble_eq_true rfl) rfl (Nat.le_of_ble_eq_true rfl) (Nat.le_of_ble_eq_true rfl) (Nat.le_of_ble_eq_true rfl) dX8_read_68 eu20 (c_X8_doClause l D aC bs sz F ep21) rfl ?_
  refine x_if_lt 77 dX8_read_71 (by decide) (fun c22 => ?_) (fun c22 => ?_)
  · have h := (if_pos c22).symm.trans h
    refine x_iinc (1 : Int32) 2 [(3, .int (q.2.1 + (1 : Int32))), (0, .ref a0), (2, .int q.1)] dX8_read_77 rfl (by decide) (by decide) rfl ?_
    refine x_goto 29 dX8_read_80 (by decide) ?_
    exact x_sub [1, 2, 0] rfl (hk29 _ _ _ _ h)
  have h := (if_neg c22).symm.trans h
  refine x_iinc (1 : Int32) 1 [(2, .int (q.1 + (1 : Int32))), (0, .ref a0), (3, .int q.2.1)] dX8_read_74 rfl (by decide) (by decide) rfl ?_
  refine x_iinc (1 : Int32) 2 [(3, .int (q.2.1 + (1 : Int32))), (2, .int (q.1 + (1 : Int32))), (0, .ref a0)] dX8_read_77 rfl (by decide) (by decide) rfl ?_
  refine x_goto 29 dX8_read_80 (by decide) ?_
  exact x_sub [2, 1, 0] rfl (hk29 _ _ _ _ h)
def f_X8_read (F : Nat) (a0 : Nat) (M : XM) : Option (Int32 × XM) := (x_gR M a0 8 4).bind fun v1 => (x_ob M v1 7).bind fun u2 => (f_X7_findFault F v1 M).bind fun p3 => (x_gR p3.2 a0 8 4).bind fun v4 => (x_ob p3.2 v4 7).bind fun u5 => (f_X7_clear v4 p3.2).bind fun p6 => if p3.1 = (-1 : Int32) then x_it (b_X8_read_29 F (a0)) F ((0 : Int32), (0 : Int32), p6) else some (((-10 : Int32) - p3.1), p6)
set_option maxHeartbeats 4000000 in
set_option maxRecDepth 100000 in
theorem c_X8_read (l : Launch) (D : va_G) (aC : FieldType → ClassId) (bs sz : Nat) (F : Nat) {a0 : Nat} {M : XM} {r : Int32 × XM} (h : f_X8_read F a0 M = some r) : x_Cn l D aC bs yX8_read cX8_read 4 (some .int) rm_X8_read [.ref a0] sz M (some (.int r.1)) sz r.2 := by
  unfold f_X8_read at h
  refine x_enter2 [(0, .ref a0)] me_X8_read (Nat.le_of_ble_eq_true rfl) rfl ?_
  refine x_aload_n dX8_read_0 0 rfl ?_
  obtain ⟨v1, ev1, h⟩ := x_bd h
  refine x_getR clX8 w_fl_RX8_35 (by decide) dX8_read_1 ev1 ?_
  obtain ⟨u2, eu2, h⟩ := x_bd h
  obtain ⟨p3, ep3, h⟩ := x_bd h
  refine x_callVI [] [] clX7 me_X7_findFault w_ml_RX8_142 w_im_yX7_findFault w_se_yX7_findFault (Nat.le_of_ble_eq_true rfl) (Nat.le_of_ble_eq_true rfl) rfl (Nat.le_of_ble_eq_true rfl) (Nat.le_of_ble_eq_true rfl) (Nat.le_of_ble_eq_true rfl) dX8_read_4 eu2 (c_X7_findFault l D aC bs sz F ep3) rfl ?_
  refine x_istore_n 1 [(1, .int p3.1), (0, .ref a0)] dX8_read_7 rfl (by decide) rfl ?_
  refine x_aload_n dX8_read_8 1 rfl ?_
  obtain ⟨v4, ev4, h⟩ := x_bd h
  refine x_getR clX8 w_fl_RX8_35 (by decide) dX8_read_9 ev4 ?_
  obtain ⟨u5, eu5, h⟩ := x_bd h
  obtain ⟨p6, ep6, h⟩ := x_bd h
  refine x_callVV [] [] clX7 me_X7_clear w_ml_RX8_145 w_im_yX7_clear w_se_yX7_clear (Nat.le_of_ble_eq_true rfl) (Nat.le_of_ble_eq_true rfl) rfl (Nat.le_of_ble_eq_true rfl) (Nat.le_of_ble_eq_true rfl) (Nat.le_of_ble_eq_true rfl) dX8_read_12 eu5 (c_X7_clear l D aC bs sz ep6) rfl ?_
  refine x_iload_n dX8_read_15 0 rfl ?_
  refine x_iconst (v := (-1 : Int32)) dX8_read_16 (by decide) ?_
  refine x_icmp_eq 25 dX8_read_17 (by decide) (fun c7 => ?_) (fun c7 => ?_)
  · have h := (if_pos c7).symm.trans h
    refine x_iconst (v := (0 : Int32)) dX8_read_25 (by decide) ?_
    refine x_istore_n 2 [(2, .int (0 : Int32)), (1, .int p3.1), (0, .ref a0)] dX8_read_26 rfl (by decide) rfl ?_
    refine x_iconst (v := (0 : Int32)) dX8_read_27 (by decide) ?_
    refine x_istore_n 3 [(3, .int (0 : Int32)), (2, .int (0 : Int32)), (1, .int p3.1), (0, .ref a0)] dX8_read_28 rfl (by decide) rfl ?_
    exact x_sub [3, 1, 0] rfl (lp_X8_read_29 l D aC bs sz F (a0)  F _ _ _ _ h)
  have h := (if_neg c7).symm.trans h
  refine x_bipush (v := (-10 : Int32)) dX8_read_20 (by decide) ?_
  refine x_iload_n dX8_read_22 0 rfl ?_
  refine x_isub dX8_read_23 ?_
  obtain rfl := Option.some.inj h
  exact x_iret dX8_read_24 (Nat.le_of_ble_eq_true rfl) (Nat.le_of_ble_eq_true rfl)

-- SwappedIntervals.of(II)I
abbrev rm_X8_of : Room := { frames := 1, cells := 0, slots := 0, locals := 21 }
theorem me_X8_of : x_Me yX8_of cX8_of 3 (some .int) 2 := ⟨by decide +kernel, w_co_yX8_of, w_in_SwappedIntervals, by decide +kernel, by decide +kernel, by decide +kernel⟩
def f_X8_of (a0 : Nat) (a1 : Int32) (a2 : Int32) (M : XM) : Option (Int32) := (x_gR M a0 8 0).bind fun v1 => (x_gR M v1 4 0).bind fun v2 => (x_ob M v2 3).bind fun u3 => (f_X3_hasLetter v2 a1 M).bind fun p4 => if p4 = 0 then some (-1 : Int32) else if a2 = (0 : Int32) then (x_gR M a0 8 0).bind fun v7 => (x_gR M v7 4 0).bind fun v8 => (x_gR M v8 3 1).bind fun v9 => (x_a32 .int M v9 a1).bind fun v10 => some v10 else if a2 = (1 : Int32) then (x_gR M a0 8 0).bind fun v12 => (x_gR M v12 4 0).bind fun v13 => (x_gR M v13 3 2).bind fun v14 => (x_a32 .int M v14 a1).bind fun v15 => some v15 else if a2 = (2 : Int32) then (x_gR M a0 8 0).bind fun v17 => (x_gR M v17 4 0).bind fun v18 => (x_gR M v18 3 3).bind fun v19 => (x_a32 .int M v19 a1).bind fun v20 => some v20 else some (-1 : Int32)
set_option maxHeartbeats 4000000 in
set_option maxRecDepth 100000 in
theorem c_X8_of (l : Launch) (D : va_G) (aC : FieldType → ClassId) (bs sz : Nat) {a0 : Nat} {a1 : Int32} {a2 : Int32} {M : XM} {r : Int32} (h : f_X8_of a0 a1 a2 M = some r) : x_Cn l D aC bs yX8_of cX8_of 3 (some .int) rm_X8_of [.ref a0, .int a1, .int a2] sz M (some (.int r)) sz M := by
  unfold f_X8_of at h
  refine x_enter2 [(0, .ref a0), (1, .int a1), (2, .int a2)] me_X8_of (Nat.le_of_ble_eq_true rfl) rfl ?_
  refine x_aload_n dX8_of_0 0 rfl ?_
  obtain ⟨v1, ev1, h⟩ := x_bd h
  refine x_getR clX8 w_fl_RX8_14 (by decide) dX8_of_1 ev1 ?_
  obtain ⟨v2, ev2, h⟩ := x_bd h
  refine x_getR clX4 w_fl_RX8_67 (by decide) dX8_of_4 ev2 ?_
  refine x_iload_n dX8_of_7 1 rfl ?_
  obtain ⟨u3, eu3, h⟩ := x_bd h
  obtain ⟨p4, ep4, h⟩ := x_bd h
  refine x_callVI [.int a1] [] clX3 me_X3_hasLetter w_ml_RX8_88 w_im_yX3_hasLetter w_se_yX3_hasLetter (Nat.le_of_ble_eq_true rfl) (Nat.le_of_ble_eq_true rfl) rfl (Nat.le_of_ble_eq_true rfl) (Nat.le_of_ble_eq_true rfl) (Nat.le_of_ble_eq_true rfl) dX8_of_8 eu3 (c_X3_hasLetter l D aC bs sz ep4) rfl ?_
  refine x_if_ne 16 dX8_of_11 (by decide) (fun c5 => ?_) (fun c5 => ?_)
  · have h := (if_neg c5).symm.trans h
    refine x_iload_n dX8_of_16 2 rfl ?_
    by_cases c6 : a2 = (0 : Int32)
    · have h := (if_pos c6).symm.trans h
      refine x_tabIn 0 44 dX8_of_17 (by rw [c6]; decide) (by decide) (by decide) rfl (by decide) ?_
      refine x_aload_n dX8_of_44 0 rfl ?_
      obtain ⟨v7, ev7, h⟩ := x_bd h
      refine x_getR clX8 w_fl_RX8_14 (by decide) dX8_of_45 ev7 ?_
      obtain ⟨v8, ev8, h⟩ := x_bd h
      refine x_getR clX4 w_fl_RX8_67 (by decide) dX8_of_48 ev8 ?_
      obtain ⟨v9, ev9, h⟩ := x_bd h
      refine x_getR clX3 w_fl_RX8_189 (by decide) dX8_of_51 ev9 ?_
      refine x_iload_n dX8_of_54 1 rfl ?_
      obtain ⟨v10, ev10, h⟩ := x_bd h
      refine x_iald dX8_of_55 ev10 ?_
      obtain rfl := Option.some.inj h
      exact x_iret dX8_of_56 (Nat.le_of_ble_eq_true rfl) (Nat.le_of_ble_eq_true rfl)
    have h := (if_neg c6).symm.trans h
    by_cases c11 : a2 = (1 : Int32)
    · have h := (if_pos c11).symm.trans h
      refine x_tabIn 1 57 dX8_of_17 (by rw [c11]; decide) (by decide) (by decide) rfl (by decide) ?_
      refine x_aload_n dX8_of_57 0 rfl ?_
      obtain ⟨v12, ev12, h⟩ := x_bd h
      refine x_getR clX8 w_fl_RX8_14 (by decide) dX8_of_58 ev12 ?_
      obtain ⟨v13, ev13, h⟩ := x_bd h
      refine x_getR clX4 w_fl_RX8_67 (by decide) dX8_of_61 ev13 ?_
      obtain ⟨v14, ev14, h⟩ := x_bd h
      refine x_getR clX3 w_fl_RX8_192 (by decide) dX8_of_64 ev14 ?_
      refine x_iload_n dX8_of_67 1 rfl ?_
      obtain ⟨v15, ev15, h⟩ := x_bd h
      refine x_iald dX8_of_68 ev15 ?_
      obtain rfl := Option.some.inj h
      exact x_iret dX8_of_69 (Nat.le_of_ble_eq_true rfl) (Nat.le_of_ble_eq_true rfl)
    have h := (if_neg c11).symm.trans h
    by_cases c16 : a2 = (2 : Int32)
    · have h := (if_pos c16).symm.trans h
      refine x_tabIn 2 70 dX8_of_17 (by rw [c16]; decide) (by decide) (by decide) rfl (by decide) ?_
      refine x_aload_n dX8_of_70 0 rfl ?_
      obtain ⟨v17, ev17, h⟩ := x_bd h
      refine x_getR clX8 w_fl_RX8_14 (by decide) dX8_of_71 ev17 ?_
      obtain ⟨v18, ev18, h⟩ := x_bd h
      refine x_getR clX4 w_fl_RX8_67 (by decide) dX8_of_74 ev18 ?_
      obtain ⟨v19, ev19, h⟩ := x_bd h
      refine x_getR clX3 w_fl_RX8_99 (by decide) dX8_of_77 ev19 ?_
      refine x_iload_n dX8_of_80 1 rfl ?_
      obtain ⟨v20, ev20, h⟩ := x_bd h
      refine x_iald dX8_of_81 ev20 ?_
      obtain rfl := Option.some.inj h
      exact x_iret dX8_of_82 (Nat.le_of_ble_eq_true rfl) (Nat.le_of_ble_eq_true rfl)
    have h := (if_neg c16).symm.trans h
    have nc6 := lv_neT c6 (a := 0) (by decide)
    have nc11 := lv_neT c11 (a := 1) (by decide)
    have nc16 := lv_neT c16 (a := 2) (by decide)
    refine x_tabD 83 dX8_of_17 ?_ (by decide) ?_
    · by_cases r1 : (a2).toInt < 0
      · exact Or.inl r1
      by_cases r2 : 2 < (a2).toInt
      · exact Or.inr (Or.inl r2)
      exfalso
      omega
    refine x_iconst (v := (-1 : Int32)) dX8_of_83 (by decide) ?_
    obtain rfl := Option.some.inj h
    exact x_iret dX8_of_84 (Nat.le_of_ble_eq_true rfl) (Nat.le_of_ble_eq_true rfl)
  have h := (if_pos c5).symm.trans h
  refine x_iconst (v := (-1 : Int32)) dX8_of_14 (by decide) ?_
  obtain rfl := Option.some.inj h
  exact x_iret dX8_of_15 (Nat.le_of_ble_eq_true rfl) (Nat.le_of_ble_eq_true rfl)

-- SwappedIntervals.exploreClass()I
abbrev rm_X8_exploreClass : Room := { frames := 4, cells := 0, slots := 0, locals := 92 }
theorem me_X8_exploreClass : x_Me yX8_exploreClass cX8_exploreClass 1 (some .int) 0 := ⟨by decide +kernel, w_co_yX8_exploreClass, w_in_SwappedIntervals, by decide +kernel, by decide +kernel, by decide +kernel⟩
def f_X8_exploreClass (F : Nat) (a0 : Nat) (M : XM) : Option (Int32 × XM) := (x_gR M a0 8 6).bind fun v1 => (x_gR M a0 8 0).bind fun v2 => (x_gR M v2 4 0).bind fun v3 => (x_ob M v3 3).bind fun u4 => (f_X3_codeNow F v3 M).bind fun p5 => (x_gR M a0 8 0).bind fun v6 => (x_gR M v6 4 0).bind fun v7 => (x_gI M v7 3 0).bind fun v8 => (x_ob M v1 5).bind fun u9 => (f_X5_explore F v1 p5 v8 M).bind fun p10 => (x_gR p10 a0 8 6).bind fun v11 => (x_gI p10 v11 5 3).bind fun v12 => some (v12, p10)
set_option maxHeartbeats 4000000 in
set_option maxRecDepth 100000 in
theorem c_X8_exploreClass (l : Launch) (D : va_G) (aC : FieldType → ClassId) (bs sz : Nat) (F : Nat) {a0 : Nat} {M : XM} {r : Int32 × XM} (h : f_X8_exploreClass F a0 M = some r) : x_Cn l D aC bs yX8_exploreClass cX8_exploreClass 1 (some .int) rm_X8_exploreClass [.ref a0] sz M (some (.int r.1)) sz r.2 := by
  unfold f_X8_exploreClass at h
  refine x_enter2 [(0, .ref a0)] me_X8_exploreClass (Nat.le_of_ble_eq_true rfl) rfl ?_
  refine x_aload_n dX8_exploreClass_0 0 rfl ?_
  obtain ⟨v1, ev1, h⟩ := x_bd h
  refine x_getR clX8 w_fl_RX8_49 (by decide) dX8_exploreClass_1 ev1 ?_
  refine x_aload_n dX8_exploreClass_4 0 rfl ?_
  obtain ⟨v2, ev2, h⟩ := x_bd h
  refine x_getR clX8 w_fl_RX8_14 (by decide) dX8_exploreClass_5 ev2 ?_
  obtain ⟨v3, ev3, h⟩ := x_bd h
  refine x_getR clX4 w_fl_RX8_67 (by decide) dX8_exploreClass_8 ev3 ?_
  obtain ⟨u4, eu4, h⟩ := x_bd h
  obtain ⟨p5, ep5, h⟩ := x_bd h
  refine x_callVI [] [.ref v1] clX3 me_X3_codeNow w_ml_RX8_133 w_im_yX3_codeNow w_se_yX3_codeNow (Nat.le_of_ble_eq_true rfl) (Nat.le_of_ble_eq_true rfl) rfl (Nat.le_of_ble_eq_true rfl) (Nat.le_of_ble_eq_true rfl) (Nat.le_of_ble_eq_true rfl) dX8_exploreClass_11 eu4 (c_X3_codeNow l D aC bs sz F ep5) rfl ?_
  refine x_aload_n dX8_exploreClass_14 0 rfl ?_
  obtain ⟨v6, ev6, h⟩ := x_bd h
  refine x_getR clX8 w_fl_RX8_14 (by decide) dX8_exploreClass_15 ev6 ?_
  obtain ⟨v7, ev7, h⟩ := x_bd h
  refine x_getR clX4 w_fl_RX8_67 (by decide) dX8_exploreClass_18 ev7 ?_
  obtain ⟨v8, ev8, h⟩ := x_bd h
  refine x_getI clX3 w_fl_RX8_70 (by decide) dX8_exploreClass_21 ev8 ?_
  obtain ⟨u9, eu9, h⟩ := x_bd h
  obtain ⟨p10, ep10, h⟩ := x_bd h
  refine x_callVV [.int p5, .int v8] [] clX5 me_X5_explore w_ml_RX8_216 w_im_yX5_explore w_se_yX5_explore (Nat.le_of_ble_eq_true rfl) (Nat.le_of_ble_eq_true rfl) rfl (Nat.le_of_ble_eq_true rfl) (Nat.le_of_ble_eq_true rfl) (Nat.le_of_ble_eq_true rfl) dX8_exploreClass_24 eu9 (c_X5_explore l D aC bs sz F ep10) rfl ?_
  refine x_aload_n dX8_exploreClass_27 0 rfl ?_
  obtain ⟨v11, ev11, h⟩ := x_bd h
  refine x_getR clX8 w_fl_RX8_49 (by decide) dX8_exploreClass_28 ev11 ?_
  obtain ⟨v12, ev12, h⟩ := x_bd h
  refine x_getI clX5 w_fl_RX8_219 (by decide) dX8_exploreClass_31 ev12 ?_
  obtain rfl := Option.some.inj h
  exact x_iret dX8_exploreClass_34 (Nat.le_of_ble_eq_true rfl) (Nat.le_of_ble_eq_true rfl)

-- SwappedIntervals.stepsToKept()I
abbrev rm_X8_stepsToKept : Room := { frames := 5, cells := 0, slots := 0, locals := 112 }
theorem me_X8_stepsToKept : x_Me yX8_stepsToKept cX8_stepsToKept 1 (some .int) 0 := ⟨by decide +kernel, w_co_yX8_stepsToKept, w_in_SwappedIntervals, by decide +kernel, by decide +kernel, by decide +kernel⟩
def f_X8_stepsToKept (F : Nat) (a0 : Nat) (M : XM) : Option (Int32 × XM) := (x_ob M a0 8).bind fun u1 => (f_X8_exploreClass F a0 M).bind fun p2 => (x_gR p2.2 a0 8 6).bind fun v3 => (x_gR p2.2 a0 8 0).bind fun v4 => (x_gI p2.2 v4 4 1).bind fun v5 => (x_ob p2.2 v3 5).bind fun u6 => (f_X5_stepsTo F v3 v5 p2.2).bind fun p7 => some (p7, p2.2)
set_option maxHeartbeats 4000000 in
set_option maxRecDepth 100000 in
theorem c_X8_stepsToKept (l : Launch) (D : va_G) (aC : FieldType → ClassId) (bs sz : Nat) (F : Nat) {a0 : Nat} {M : XM} {r : Int32 × XM} (h : f_X8_stepsToKept F a0 M = some r) : x_Cn l D aC bs yX8_stepsToKept cX8_stepsToKept 1 (some .int) rm_X8_stepsToKept [.ref a0] sz M (some (.int r.1)) sz r.2 := by
  unfold f_X8_stepsToKept at h
  refine x_enter2 [(0, .ref a0)] me_X8_stepsToKept (Nat.le_of_ble_eq_true rfl) rfl ?_
  refine x_aload_n dX8_stepsToKept_0 0 rfl ?_
  obtain ⟨u1, eu1, h⟩ := x_bd h
  obtain ⟨p2, ep2, h⟩ := x_bd h
  refine x_callVI [] [] clX8 me_X8_exploreClass w_ml_RX8_198 w_im_yX8_exploreClass w_se_yX8_exploreClass (Nat.le_of_ble_eq_true rfl) (Nat.le_of_ble_eq_true rfl) rfl (Nat.le_of_ble_eq_true rfl) (Nat.le_of_ble_eq_true rfl) (Nat.le_of_ble_eq_true rfl) dX8_stepsToKept_1 eu1 (c_X8_exploreClass l D aC bs sz F ep2) rfl ?_
  refine x_pop dX8_stepsToKept_4 rfl ?_
  refine x_aload_n dX8_stepsToKept_5 0 rfl ?_
  obtain ⟨v3, ev3, h⟩ := x_bd h
  refine x_getR clX8 w_fl_RX8_49 (by decide) dX8_stepsToKept_6 ev3 ?_
  refine x_aload_n dX8_stepsToKept_9 0 rfl ?_
  obtain ⟨v4, ev4, h⟩ := x_bd h
  refine x_getR clX8 w_fl_RX8_14 (by decide) dX8_stepsToKept_10 ev4 ?_
  obtain ⟨v5, ev5, h⟩ := x_bd h
  refine x_getI clX4 w_fl_RX8_136 (by decide) dX8_stepsToKept_13 ev5 ?_
  obtain ⟨u6, eu6, h⟩ := x_bd h
  obtain ⟨p7, ep7, h⟩ := x_bd h
  refine x_callVI [.int v5] [] clX5 me_X5_stepsTo w_ml_RX8_222 w_im_yX5_stepsTo w_se_yX5_stepsTo (Nat.le_of_ble_eq_true rfl) (Nat.le_of_ble_eq_true rfl) rfl (Nat.le_of_ble_eq_true rfl) (Nat.le_of_ble_eq_true rfl) (Nat.le_of_ble_eq_true rfl) dX8_stepsToKept_16 eu6 (c_X5_stepsTo l D aC bs sz F ep7) rfl ?_
  obtain rfl := Option.some.inj h
  exact x_iret dX8_stepsToKept_19 (Nat.le_of_ble_eq_true rfl) (Nat.le_of_ble_eq_true rfl)

-- SwappedIntervals.genus()I
abbrev rm_X8_genus : Room := { frames := 4, cells := 0, slots := 0, locals := 93 }
theorem me_X8_genus : x_Me yX8_genus cX8_genus 1 (some .int) 0 := ⟨by decide +kernel, w_co_yX8_genus, w_in_SwappedIntervals, by decide +kernel, by decide +kernel, by decide +kernel⟩
def f_X8_genus (F : Nat) (a0 : Nat) (M : XM) : Option (Int32) := (x_gR M a0 8 0).bind fun v1 => (x_gR M v1 4 0).bind fun v2 => (x_ob M v2 3).bind fun u3 => (f_X3_isWhole F v2 M).bind fun p4 => if p4 = 0 then some (-5 : Int32) else (x_gR M a0 8 0).bind fun v6 => (x_gR M v6 4 0).bind fun v7 => (x_gI M v7 3 0).bind fun v8 => (x_gR M a0 8 0).bind fun v9 => (x_gR M v9 4 0).bind fun v10 => (x_ob M v10 3).bind fun u11 => (f_X3_corners F v10 M).bind fun p12 => some (((v8 + (1 : Int32)) - p12) / (2 : Int32))
set_option maxHeartbeats 4000000 in
set_option maxRecDepth 100000 in
theorem c_X8_genus (l : Launch) (D : va_G) (aC : FieldType → ClassId) (bs sz : Nat) (F : Nat) {a0 : Nat} {M : XM} {r : Int32} (h : f_X8_genus F a0 M = some r) : x_Cn l D aC bs yX8_genus cX8_genus 1 (some .int) rm_X8_genus [.ref a0] sz M (some (.int r)) sz M := by
  unfold f_X8_genus at h
  refine x_enter2 [(0, .ref a0)] me_X8_genus (Nat.le_of_ble_eq_true rfl) rfl ?_
  refine x_aload_n dX8_genus_0 0 rfl ?_
  obtain ⟨v1, ev1, h⟩ := x_bd h
  refine x_getR clX8 w_fl_RX8_14 (by decide) dX8_genus_1 ev1 ?_
  obtain ⟨v2, ev2, h⟩ := x_bd h
  refine x_getR clX4 w_fl_RX8_67 (by decide) dX8_genus_4 ev2 ?_
  obtain ⟨u3, eu3, h⟩ := x_bd h
  obtain ⟨p4, ep4, h⟩ := x_bd h
  refine x_callVI [] [] clX3 me_X3_isWhole w_ml_RX8_194 w_im_yX3_isWhole w_se_yX3_isWhole (Nat.le_of_ble_eq_true rfl) (Nat.le_of_ble_eq_true rfl) rfl (Nat.le_of_ble_eq_true rfl) (Nat.le_of_ble_eq_true rfl) (Nat.le_of_ble_eq_true rfl) dX8_genus_7 eu3 (c_X3_isWhole l D aC bs sz F ep4) rfl ?_
  refine x_if_ne 16 dX8_genus_10 (by decide) (fun c5 => ?_) (fun c5 => ?_)
  · have h := (if_neg c5).symm.trans h
    refine x_aload_n dX8_genus_16 0 rfl ?_
    obtain ⟨v6, ev6, h⟩ := x_bd h
    refine x_getR clX8 w_fl_RX8_14 (by decide) dX8_genus_17 ev6 ?_
    obtain ⟨v7, ev7, h⟩ := x_bd h
    refine x_getR clX4 w_fl_RX8_67 (by decide) dX8_genus_20 ev7 ?_
    obtain ⟨v8, ev8, h⟩ := x_bd h
    refine x_getI clX3 w_fl_RX8_70 (by decide) dX8_genus_23 ev8 ?_
    refine x_iconst (v := (1 : Int32)) dX8_genus_26 (by decide) ?_
    refine x_iadd dX8_genus_27 ?_
    refine x_aload_n dX8_genus_28 0 rfl ?_
    obtain ⟨v9, ev9, h⟩ := x_bd h
    refine x_getR clX8 w_fl_RX8_14 (by decide) dX8_genus_29 ev9 ?_
    obtain ⟨v10, ev10, h⟩ := x_bd h
    refine x_getR clX4 w_fl_RX8_67 (by decide) dX8_genus_32 ev10 ?_
    obtain ⟨u11, eu11, h⟩ := x_bd h
    obtain ⟨p12, ep12, h⟩ := x_bd h
    refine x_callVI [] [.int (v8 + (1 : Int32))] clX3 me_X3_corners w_ml_RX8_204 w_im_yX3_corners w_se_yX3_corners (Nat.le_of_ble_eq_true rfl) (Nat.le_of_ble_eq_true rfl) rfl (Nat.le_of_ble_eq_true rfl) (Nat.le_of_ble_eq_true rfl) (Nat.le_of_ble_eq_true rfl) dX8_genus_35 eu11 (c_X3_corners l D aC bs sz F ep12) rfl ?_
    refine x_isub dX8_genus_38 ?_
    refine x_iconst (v := (2 : Int32)) dX8_genus_39 (by decide) ?_
    refine x_idiv dX8_genus_40 (by decide) ?_
    obtain rfl := Option.some.inj h
    exact x_iret dX8_genus_41 (Nat.le_of_ble_eq_true rfl) (Nat.le_of_ble_eq_true rfl)
  have h := (if_pos c5).symm.trans h
  refine x_bipush (v := (-5 : Int32)) dX8_genus_13 (by decide) ?_
  obtain rfl := Option.some.inj h
  exact x_iret dX8_genus_15 (Nat.le_of_ble_eq_true rfl) (Nat.le_of_ble_eq_true rfl)

-- SwappedIntervals.rounds()I
abbrev rm_X8_rounds : Room := { frames := 2, cells := 0, slots := 0, locals := 49 }
theorem me_X8_rounds : x_Me yX8_rounds cX8_rounds 1 (some .int) 0 := ⟨by decide +kernel, w_co_yX8_rounds, w_in_SwappedIntervals, by decide +kernel, by decide +kernel, by decide +kernel⟩
def f_X8_rounds (F : Nat) (a0 : Nat) (M : XM) : Option (Int32 × XM) := (x_gR M a0 8 5).bind fun v1 => (x_gR M a0 8 0).bind fun v2 => (x_gR M v2 4 0).bind fun v3 => (x_ob M v1 1).bind fun u4 => (f_X1_lay F v1 v3 M).bind fun p5 => (x_gR p5 a0 8 5).bind fun v6 => (x_ob p5 v6 1).bind fun u7 => (f_X1_rounds F v6 p5).bind fun p8 => some (p8.1, p8.2)
set_option maxHeartbeats 4000000 in
set_option maxRecDepth 100000 in
theorem c_X8_rounds (l : Launch) (D : va_G) (aC : FieldType → ClassId) (bs sz : Nat) (F : Nat) {a0 : Nat} {M : XM} {r : Int32 × XM} (h : f_X8_rounds F a0 M = some r) : x_Cn l D aC bs yX8_rounds cX8_rounds 1 (some .int) rm_X8_rounds [.ref a0] sz M (some (.int r.1)) sz r.2 := by
  unfold f_X8_rounds at h
  refine x_enter2 [(0, .ref a0)] me_X8_rounds (Nat.le_of_ble_eq_true rfl) rfl ?_
  refine x_aload_n dX8_rounds_0 0 rfl ?_
  obtain ⟨v1, ev1, h⟩ := x_bd h
  refine x_getR clX8 w_fl_RX8_42 (by decide) dX8_rounds_1 ev1 ?_
  refine x_aload_n dX8_rounds_4 0 rfl ?_
  obtain ⟨v2, ev2, h⟩ := x_bd h
  refine x_getR clX8 w_fl_RX8_14 (by decide) dX8_rounds_5 ev2 ?_
  obtain ⟨v3, ev3, h⟩ := x_bd h
  refine x_getR clX4 w_fl_RX8_67 (by decide) dX8_rounds_8 ev3 ?_
  obtain ⟨u4, eu4, h⟩ := x_bd h
  obtain ⟨p5, ep5, h⟩ := x_bd h
  refine x_callVV [.ref v3] [] clX1 me_X1_lay w_ml_RX8_225 w_im_yX1_lay w_se_yX1_lay (Nat.le_of_ble_eq_true rfl) (Nat.le_of_ble_eq_true rfl) rfl (Nat.le_of_ble_eq_true rfl) (Nat.le_of_ble_eq_true rfl) (Nat.le_of_ble_eq_true rfl) dX8_rounds_11 eu4 (c_X1_lay l D aC bs sz F ep5) rfl ?_
  refine x_aload_n dX8_rounds_14 0 rfl ?_
  obtain ⟨v6, ev6, h⟩ := x_bd h
  refine x_getR clX8 w_fl_RX8_42 (by decide) dX8_rounds_15 ev6 ?_
  obtain ⟨u7, eu7, h⟩ := x_bd h
  obtain ⟨p8, ep8, h⟩ := x_bd h
  refine x_callVI [] [] clX1 me_X1_rounds w_ml_RX8_228 w_im_yX1_rounds w_se_yX1_rounds (Nat.le_of_ble_eq_true rfl) (Nat.le_of_ble_eq_true rfl) rfl (Nat.le_of_ble_eq_true rfl) (Nat.le_of_ble_eq_true rfl) (Nat.le_of_ble_eq_true rfl) dX8_rounds_18 eu7 (c_X1_rounds l D aC bs sz F ep8) rfl ?_
  obtain rfl := Option.some.inj h
  exact x_iret dX8_rounds_21 (Nat.le_of_ble_eq_true rfl) (Nat.le_of_ble_eq_true rfl)

-- SwappedIntervals.ends()I
abbrev rm_X8_ends : Room := { frames := 3, cells := 0, slots := 0, locals := 69 }
theorem me_X8_ends : x_Me yX8_ends cX8_ends 3 (some .int) 0 := ⟨by decide +kernel, w_co_yX8_ends, w_in_SwappedIntervals, by decide +kernel, by decide +kernel, by decide +kernel⟩
def b_X8_ends_16 (F : Nat) (a0 : Nat)  (k16 : (Int32 × XM) → Option (Int32 × XM)) (q : Int32 × XM) : Option (Int32 × XM) := if (9999 : Int32) ≤ q.1 then some ((9999 : Int32), q.2) else (x_gR q.2 a0 8 7).bind fun v7 => (x_ob q.2 v7 3).bind fun u8 => (f_X3_kindOfStep v7 q.2).bind fun p9 => if p9 = (-1 : Int32) then some (q.1, q.2) else (x_gR q.2 a0 8 7).bind fun v11 => (x_ob q.2 v11 3).bind fun u12 => (f_X3_goStep F v11 p9 q.2).bind fun p13 => k16 ((q.1 + (1 : Int32)), p13)
set_option maxHeartbeats 4000000 in
set_option maxRecDepth 100000 in
theorem lp_X8_ends_16 (l : Launch) (D : va_G) (aC : FieldType → ClassId) (bs : Nat) (sz : Nat) (F : Nat) (a0 : Nat)   : ∀ (n : Nat) (b0 : Int32) (b1 : XM) (r : Int32 × XM), x_it (b_X8_ends_16 F a0 ) n (b0, b1) = some r → x_V l D aC bs yX8_ends cX8_ends 3 (some .int) rm_X8_ends (x_Z D aC bs (some (.int r.1)) sz r.2 rm_X8_ends) 16 [(0, .ref a0), (1, .int b0)] [] sz b1 0 0 := by
  suffices H : ∀ (n : Nat) (q : Int32 × XM) (r : Int32 × XM), x_it (b_X8_ends_16 F a0 ) n q = some r → x_V l D aC bs yX8_ends cX8_ends 3 (some .int) rm_X8_ends (x_Z D aC bs (some (.int r.1)) sz r.2 rm_X8_ends) 16 [(0, .ref a0), (1, .int q.1)] [] sz q.2 0 0 from fun n b0 b1 r h => H n (b0, b1) r h
  refine x_loop (P := fun (q : Int32 × XM) (r : Int32 × XM) => x_V l D aC bs yX8_ends cX8_ends 3 (some .int) rm_X8_ends (x_Z D aC bs (some (.int r.1)) sz r.2 rm_X8_ends) 16 [(0, .ref a0), (1, .int q.1)] [] sz q.2 0 0) (fun k16 hk0 q r h => ?_)
  have hk16 : ∀ (b0 : Int32) (b1 : XM) (r : Int32 × XM), k16 (b0, b1) = some r → x_V l D aC bs yX8_ends cX8_ends 3 (some .int) rm_X8_ends (x_Z D aC bs (some (.int r.1)) sz r.2 rm_X8_ends) 16 [(0, .ref a0), (1, .int b0)] [] sz b1 0 0 := fun b0 b1 r h => hk0 (b0, b1) r h
  unfold b_X8_ends_16 at h
  refine x_iload_n dX8_ends_16 1 rfl ?_
  refine x_sipush (v := (9999 : Int32)) dX8_ends_17 (by decide) ?_
  refine x_icmp_ge 52 dX8_ends_20 (by decide) (fun c6 => ?_) (fun c6 => ?_)
  · have h := (if_pos c6).symm.trans h
    refine x_sipush (v := (9999 : Int32)) dX8_ends_52 (by decide) ?_
    obtain rfl := Option.some.inj h
    exact x_iret dX8_ends_55 (Nat.le_of_ble_eq_true rfl) (Nat.le_of_ble_eq_true rfl)
  have h := (if_neg c6).symm.trans h
  refine x_aload_n dX8_ends_23 0 rfl ?_
  obtain ⟨v7, ev7, h⟩ := x_bd h
  refine x_getR clX8 w_fl_RX8_56 (by decide) dX8_ends_24 ev7 ?_
  obtain ⟨u8, eu8, h⟩ := x_bd h
  obtain ⟨p9, ep9, h⟩ := x_bd h
  refine x_callVI [] [] clX3 me_X3_kindOfStep w_ml_RX8_107 w_im_yX3_kindOfStep w_se_yX3_kindOfStep (Nat.le_of_ble_eq_true rfl) (Nat.le_of_ble_eq_true rfl) rfl (Nat.le_of_ble_eq_true rfl) (Nat.le_of_ble_eq_true rfl) (Nat.le_of_ble_eq_true rfl) dX8_ends_27 eu8 (c_X3_kindOfStep l D aC bs sz ep9) rfl ?_
  refine x_istore_n 2 [(2, .int p9), (0, .ref a0), (1, .int q.1)] dX8_ends_30 rfl (by decide) rfl ?_
  refine x_iload_n dX8_ends_31 0 rfl ?_
  refine x_iconst (v := (-1 : Int32)) dX8_ends_32 (by decide) ?_
  refine x_icmp_ne 38 dX8_ends_33 (by decide) (fun c10 => ?_) (fun c10 => ?_)
  · have h := (if_neg c10).symm.trans h
    refine x_aload_n dX8_ends_38 1 rfl ?_
    obtain ⟨v11, ev11, h⟩ := x_bd h
    refine x_getR clX8 w_fl_RX8_56 (by decide) dX8_ends_39 ev11 ?_
    refine x_iload_n dX8_ends_42 0 rfl ?_
    obtain ⟨u12, eu12, h⟩ := x_bd h
    obtain ⟨p13, ep13, h⟩ := x_bd h
    refine x_callVV [.int p9] [] clX3 me_X3_goStep w_ml_RX8_111 w_im_yX3_goStep w_se_yX3_goStep (Nat.le_of_ble_eq_true rfl) (Nat.le_of_ble_eq_true rfl) rfl (Nat.le_of_ble_eq_true rfl) (Nat.le_of_ble_eq_true rfl) (Nat.le_of_ble_eq_true rfl) dX8_ends_43 eu12 (c_X3_goStep l D aC bs sz F ep13) rfl ?_
    refine x_iinc (1 : Int32) 2 [(1, .int (q.1 + (1 : Int32))), (2, .int p9), (0, .ref a0)] dX8_ends_46 rfl (by decide) (by decide) rfl ?_
    refine x_goto 16 dX8_ends_49 (by decide) ?_
    exact x_sub [2, 0] rfl (hk16 _ _ _ h)
  have h := (if_pos c10).symm.trans h
  refine x_iload_n dX8_ends_36 2 rfl ?_
  obtain rfl := Option.some.inj h
  exact x_iret dX8_ends_37 (Nat.le_of_ble_eq_true rfl) (Nat.le_of_ble_eq_true rfl)
def f_X8_ends (F : Nat) (a0 : Nat) (M : XM) : Option (Int32 × XM) := (x_gR M a0 8 7).bind fun v1 => (x_gR M a0 8 0).bind fun v2 => (x_gR M v2 4 0).bind fun v3 => (x_ob M v1 3).bind fun u4 => (f_X3_copyFrom F v1 v3 M).bind fun p5 => x_it (b_X8_ends_16 F (a0)) F ((0 : Int32), p5)
set_option maxHeartbeats 4000000 in
set_option maxRecDepth 100000 in
theorem c_X8_ends (l : Launch) (D : va_G) (aC : FieldType → ClassId) (bs sz : Nat) (F : Nat) {a0 : Nat} {M : XM} {r : Int32 × XM} (h : f_X8_ends F a0 M = some r) : x_Cn l D aC bs yX8_ends cX8_ends 3 (some .int) rm_X8_ends [.ref a0] sz M (some (.int r.1)) sz r.2 := by
  unfold f_X8_ends at h
  refine x_enter2 [(0, .ref a0)] me_X8_ends (Nat.le_of_ble_eq_true rfl) rfl ?_
  refine x_aload_n dX8_ends_0 0 rfl ?_
  obtain ⟨v1, ev1, h⟩ := x_bd h
  refine x_getR clX8 w_fl_RX8_56 (by decide) dX8_ends_1 ev1 ?_
  refine x_aload_n dX8_ends_4 0 rfl ?_
  obtain ⟨v2, ev2, h⟩ := x_bd h
  refine x_getR clX8 w_fl_RX8_14 (by decide) dX8_ends_5 ev2 ?_
  obtain ⟨v3, ev3, h⟩ := x_bd h
  refine x_getR clX4 w_fl_RX8_67 (by decide) dX8_ends_8 ev3 ?_
  obtain ⟨u4, eu4, h⟩ := x_bd h
  obtain ⟨p5, ep5, h⟩ := x_bd h
  refine x_callVV [.ref v3] [] clX3 me_X3_copyFrom w_ml_RX8_229 w_im_yX3_copyFrom w_se_yX3_copyFrom (Nat.le_of_ble_eq_true rfl) (Nat.le_of_ble_eq_true rfl) rfl (Nat.le_of_ble_eq_true rfl) (Nat.le_of_ble_eq_true rfl) (Nat.le_of_ble_eq_true rfl) dX8_ends_11 eu4 (c_X3_copyFrom l D aC bs sz F ep5) rfl ?_
  refine x_iconst (v := (0 : Int32)) dX8_ends_14 (by decide) ?_
  refine x_istore_n 1 [(1, .int (0 : Int32)), (0, .ref a0)] dX8_ends_15 rfl (by decide) rfl ?_
  exact x_sub [1, 0] rfl (lp_X8_ends_16 l D aC bs sz F (a0)  F _ _ _ h)

-- SwappedIntervals.told(I)I
abbrev rm_X8_told : Room := { frames := 6, cells := 0, slots := 0, locals := 132 }
theorem me_X8_told : x_Me yX8_told cX8_told 2 (some .int) 1 := ⟨by decide +kernel, w_co_yX8_told, w_in_SwappedIntervals, by decide +kernel, by decide +kernel, by decide +kernel⟩
def f_X8_told (F : Nat) (a0 : Nat) (a1 : Int32) (M : XM) : Option (Int32 × XM) := if a1 = (0 : Int32) then (x_gR M a0 8 0).bind fun v2 => (x_gR M v2 4 0).bind fun v3 => (x_gI M v3 3 0).bind fun v4 => some (v4, M) else if a1 = (1 : Int32) then (x_gR M a0 8 0).bind fun v6 => (x_gR M v6 4 0).bind fun v7 => (x_ob M v7 3).bind fun u8 => (f_X3_points F v7 M).bind fun p9 => some (p9, M) else if a1 = (2 : Int32) then (x_gR M a0 8 0).bind fun v11 => (x_gR M v11 4 0).bind fun v12 => (x_ob M v12 3).bind fun u13 => (f_X3_codeNow F v12 M).bind fun p14 => some (p14, M) else if a1 = (3 : Int32) then (x_gR M a0 8 0).bind fun v16 => (x_gI M v16 4 1).bind fun v17 => some (v17, M) else if a1 = (4 : Int32) then (x_gR M a0 8 0).bind fun v19 => (x_gR M v19 4 0).bind fun v20 => (x_ob M v20 3).bind fun u21 => (f_X3_isWhole F v20 M).bind fun p22 => if p22 = 0 then some ((0 : Int32), M) else some ((1 : Int32), M) else if a1 = (5 : Int32) then (x_ob M a0 8).bind fun u25 => (f_X8_exploreClass F a0 M).bind fun p26 => some (p26.1, p26.2) else if a1 = (6 : Int32) then (x_ob M a0 8).bind fun u28 => (f_X8_stepsToKept F a0 M).bind fun p29 => some (p29.1, p29.2) else if a1 = (7 : Int32) then (x_gR M a0 8 0).bind fun v31 => (x_gR M v31 4 0).bind fun v32 => (x_ob M v32 3).bind fun u33 => (f_X3_corners F v32 M).bind fun p34 => some (p34, M) else if a1 = (8 : Int32) then (x_ob M a0 8).bind fun u36 => (f_X8_genus F a0 M).bind fun p37 => some (p37, M) else if a1 = (9 : Int32) then (x_ob M a0 8).bind fun u39 => (f_X8_rounds F a0 M).bind fun p40 => some (p40.1, p40.2) else if a1 = (10 : Int32) then (x_ob M a0 8).bind fun u42 => (f_X8_ends F a0 M).bind fun p43 => some (p43.1, p43.2) else some ((-1 : Int32), M)
set_option maxHeartbeats 4000000 in
set_option maxRecDepth 100000 in
theorem c_X8_told (l : Launch) (D : va_G) (aC : FieldType → ClassId) (bs sz : Nat) (F : Nat) {a0 : Nat} {a1 : Int32} {M : XM} {r : Int32 × XM} (h : f_X8_told F a0 a1 M = some r) : x_Cn l D aC bs yX8_told cX8_told 2 (some .int) rm_X8_told [.ref a0, .int a1] sz M (some (.int r.1)) sz r.2 := by
  unfold f_X8_told at h
  refine x_enter2 [(0, .ref a0), (1, .int a1)] me_X8_told (Nat.le_of_ble_eq_true rfl) rfl ?_
  refine x_iload_n dX8_told_0 1 rfl ?_
  by_cases c1 : a1 = (0 : Int32)
  · have h := (if_pos c1).symm.trans h
    refine x_tabIn 0 60 dX8_told_1 (by rw [c1]; decide) (by decide) (by decide) rfl (by decide) ?_
    refine x_aload_n dX8_told_60 0 rfl ?_
    obtain ⟨v2, ev2, h⟩ := x_bd h
    refine x_getR clX8 w_fl_RX8_14 (by decide) dX8_told_61 ev2 ?_
    obtain ⟨v3, ev3, h⟩ := x_bd h
    refine x_getR clX4 w_fl_RX8_67 (by decide) dX8_told_64 ev3 ?_
    obtain ⟨v4, ev4, h⟩ := x_bd h
    refine x_getI clX3 w_fl_RX8_70 (by decide) dX8_told_67 ev4 ?_
    obtain rfl := Option.some.inj h
    exact x_iret dX8_told_70 (Nat.le_of_ble_eq_true rfl) (Nat.le_of_ble_eq_true rfl)
  have h := (if_neg c1).symm.trans h
  by_cases c5 : a1 = (1 : Int32)
  · have h := (if_pos c5).symm.trans h
    refine x_tabIn 1 71 dX8_told_1 (by rw [c5]; decide) (by decide) (by decide) rfl (by decide) ?_
    refine x_aload_n dX8_told_71 0 rfl ?_
    obtain ⟨v6, ev6, h⟩ := x_bd h
    refine x_getR clX8 w_fl_RX8_14 (by decide) dX8_told_72 ev6 ?_
    obtain ⟨v7, ev7, h⟩ := x_bd h
    refine x_getR clX4 w_fl_RX8_67 (by decide) dX8_told_75 ev7 ?_
    obtain ⟨u8, eu8, h⟩ := x_bd h
    obtain ⟨p9, ep9, h⟩ := x_bd h
    refine x_callVI [] [] clX3 me_X3_points w_ml_RX8_124 w_im_yX3_points w_se_yX3_points (Nat.le_of_ble_eq_true rfl) (Nat.le_of_ble_eq_true rfl) rfl (Nat.le_of_ble_eq_true rfl) (Nat.le_of_ble_eq_true rfl) (Nat.le_of_ble_eq_true rfl) dX8_told_78 eu8 (c_X3_points l D aC bs sz F ep9) rfl ?_
    obtain rfl := Option.some.inj h
    exact x_iret dX8_told_81 (Nat.le_of_ble_eq_true rfl) (Nat.le_of_ble_eq_true rfl)
  have h := (if_neg c5).symm.trans h
  by_cases c10 : a1 = (2 : Int32)
  · have h := (if_pos c10).symm.trans h
    refine x_tabIn 2 82 dX8_told_1 (by rw [c10]; decide) (by decide) (by decide) rfl (by decide) ?_
    refine x_aload_n dX8_told_82 0 rfl ?_
    obtain ⟨v11, ev11, h⟩ := x_bd h
    refine x_getR clX8 w_fl_RX8_14 (by decide) dX8_told_83 ev11 ?_
    obtain ⟨v12, ev12, h⟩ := x_bd h
    refine x_getR clX4 w_fl_RX8_67 (by decide) dX8_told_86 ev12 ?_
    obtain ⟨u13, eu13, h⟩ := x_bd h
    obtain ⟨p14, ep14, h⟩ := x_bd h
    refine x_callVI [] [] clX3 me_X3_codeNow w_ml_RX8_133 w_im_yX3_codeNow w_se_yX3_codeNow (Nat.le_of_ble_eq_true rfl) (Nat.le_of_ble_eq_true rfl) rfl (Nat.le_of_ble_eq_true rfl) (Nat.le_of_ble_eq_true rfl) (Nat.le_of_ble_eq_true rfl) dX8_told_89 eu13 (c_X3_codeNow l D aC bs sz F ep14) rfl ?_
    obtain rfl := Option.some.inj h
    exact x_iret dX8_told_92 (Nat.le_of_ble_eq_true rfl) (Nat.le_of_ble_eq_true rfl)
  have h := (if_neg c10).symm.trans h
  by_cases c15 : a1 = (3 : Int32)
  · have h := (if_pos c15).symm.trans h
    refine x_tabIn 3 93 dX8_told_1 (by rw [c15]; decide) (by decide) (by decide) rfl (by decide) ?_
    refine x_aload_n dX8_told_93 0 rfl ?_
    obtain ⟨v16, ev16, h⟩ := x_bd h
    refine x_getR clX8 w_fl_RX8_14 (by decide) dX8_told_94 ev16 ?_
    obtain ⟨v17, ev17, h⟩ := x_bd h
    refine x_getI clX4 w_fl_RX8_136 (by decide) dX8_told_97 ev17 ?_
    obtain rfl := Option.some.inj h
    exact x_iret dX8_told_100 (Nat.le_of_ble_eq_true rfl) (Nat.le_of_ble_eq_true rfl)
  have h := (if_neg c15).symm.trans h
  by_cases c18 : a1 = (4 : Int32)
  · have h := (if_pos c18).symm.trans h
    refine x_tabIn 4 101 dX8_told_1 (by rw [c18]; decide) (by decide) (by decide) rfl (by decide) ?_
    refine x_aload_n dX8_told_101 0 rfl ?_
    obtain ⟨v19, ev19, h⟩ := x_bd h
    refine x_getR clX8 w_fl_RX8_14 (by decide) dX8_told_102 ev19 ?_
    obtain ⟨v20, ev20, h⟩ := x_bd h
    refine x_getR clX4 w_fl_RX8_67 (by decide) dX8_told_105 ev20 ?_
    obtain ⟨u21, eu21, h⟩ := x_bd h
    obtain ⟨p22, ep22, h⟩ := x_bd h
    refine x_callVI [] [] clX3 me_X3_isWhole w_ml_RX8_194 w_im_yX3_isWhole w_se_yX3_isWhole (Nat.le_of_ble_eq_true rfl) (Nat.le_of_ble_eq_true rfl) rfl (Nat.le_of_ble_eq_true rfl) (Nat.le_of_ble_eq_true rfl) (Nat.le_of_ble_eq_true rfl) dX8_told_108 eu21 (c_X3_isWhole l D aC bs sz F ep22) rfl ?_
    refine x_if_eq 118 dX8_told_111 (by decide) (fun c23 => ?_) (fun c23 => ?_)
    · have h := (if_pos c23).symm.trans h
      refine x_iconst (v := (0 : Int32)) dX8_told_118 (by decide) ?_
      obtain rfl := Option.some.inj h
      exact x_iret dX8_told_119 (Nat.le_of_ble_eq_true rfl) (Nat.le_of_ble_eq_true rfl)
    have h := (if_neg c23).symm.trans h
    refine x_iconst (v := (1 : Int32)) dX8_told_114 (by decide) ?_
    refine x_goto 119 dX8_told_115 (by decide) ?_
    obtain rfl := Option.some.inj h
    exact x_iret dX8_told_119 (Nat.le_of_ble_eq_true rfl) (Nat.le_of_ble_eq_true rfl)
  have h := (if_neg c18).symm.trans h
  by_cases c24 : a1 = (5 : Int32)
  · have h := (if_pos c24).symm.trans h
    refine x_tabIn 5 120 dX8_told_1 (by rw [c24]; decide) (by decide) (by decide) rfl (by decide) ?_
    refine x_aload_n dX8_told_120 0 rfl ?_
    obtain ⟨u25, eu25, h⟩ := x_bd h
    obtain ⟨p26, ep26, h⟩ := x_bd h
    refine x_callVI [] [] clX8 me_X8_exploreClass w_ml_RX8_198 w_im_yX8_exploreClass w_se_yX8_exploreClass (Nat.le_of_ble_eq_true rfl) (Nat.le_of_ble_eq_true rfl) rfl (Nat.le_of_ble_eq_true rfl) (Nat.le_of_ble_eq_true rfl) (Nat.le_of_ble_eq_true rfl) dX8_told_121 eu25 (c_X8_exploreClass l D aC bs sz F ep26) rfl ?_
    obtain rfl := Option.some.inj h
    exact x_iret dX8_told_124 (Nat.le_of_ble_eq_true rfl) (Nat.le_of_ble_eq_true rfl)
  have h := (if_neg c24).symm.trans h
  by_cases c27 : a1 = (6 : Int32)
  · have h := (if_pos c27).symm.trans h
    refine x_tabIn 6 125 dX8_told_1 (by rw [c27]; decide) (by decide) (by decide) rfl (by decide) ?_
    refine x_aload_n dX8_told_125 0 rfl ?_
    obtain ⟨u28, eu28, h⟩ := x_bd h
    obtain ⟨p29, ep29, h⟩ := x_bd h
    refine x_callVI [] [] clX8 me_X8_stepsToKept w_ml_RX8_201 w_im_yX8_stepsToKept w_se_yX8_stepsToKept (Nat.le_of_ble_eq_true rfl) (Nat.le_of_ble_eq_true rfl) rfl (Nat.le_of_ble_eq_true rfl) (Nat.le_of_ble_eq_true rfl) (Nat.le_of_ble_eq_true rfl) dX8_told_126 eu28 (c_X8_stepsToKept l D aC bs sz F ep29) rfl ?_
    obtain rfl := Option.some.inj h
    exact x_iret dX8_told_129 (Nat.le_of_ble_eq_true rfl) (Nat.le_of_ble_eq_true rfl)
  have h := (if_neg c27).symm.trans h
  by_cases c30 : a1 = (7 : Int32)
  · have h := (if_pos c30).symm.trans h
    refine x_tabIn 7 130 dX8_told_1 (by rw [c30]; decide) (by decide) (by decide) rfl (by decide) ?_
    refine x_aload_n dX8_told_130 0 rfl ?_
    obtain ⟨v31, ev31, h⟩ := x_bd h
    refine x_getR clX8 w_fl_RX8_14 (by decide) dX8_told_131 ev31 ?_
    obtain ⟨v32, ev32, h⟩ := x_bd h
    refine x_getR clX4 w_fl_RX8_67 (by decide) dX8_told_134 ev32 ?_
    obtain ⟨u33, eu33, h⟩ := x_bd h
    obtain ⟨p34, ep34, h⟩ := x_bd h
    refine x_callVI [] [] clX3 me_X3_corners w_ml_RX8_204 w_im_yX3_corners w_se_yX3_corners (Nat.le_of_ble_eq_true rfl) (Nat.le_of_ble_eq_true rfl) rfl (Nat.le_of_ble_eq_true rfl) (Nat.le_of_ble_eq_true rfl) (Nat.le_of_ble_eq_true rfl) dX8_told_137 eu33 (c_X3_corners l D aC bs sz F ep34) rfl ?_
    obtain rfl := Option.some.inj h
    exact x_iret dX8_told_140 (Nat.le_of_ble_eq_true rfl) (Nat.le_of_ble_eq_true rfl)
  have h := (if_neg c30).symm.trans h
  by_cases c35 : a1 = (8 : Int32)
  · have h := (if_pos c35).symm.trans h
    refine x_tabIn 8 141 dX8_told_1 (by rw [c35]; decide) (by decide) (by decide) rfl (by decide) ?_
    refine x_aload_n dX8_told_141 0 rfl ?_
    obtain ⟨u36, eu36, h⟩ := x_bd h
    obtain ⟨p37, ep37, h⟩ := x_bd h
    refine x_callVI [] [] clX8 me_X8_genus w_ml_RX8_207 w_im_yX8_genus w_se_yX8_genus (Nat.le_of_ble_eq_true rfl) (Nat.le_of_ble_eq_true rfl) rfl (Nat.le_of_ble_eq_true rfl) (Nat.le_of_ble_eq_true rfl) (Nat.le_of_ble_eq_true rfl) dX8_told_142 eu36 (c_X8_genus l D aC bs sz F ep37) rfl ?_
    obtain rfl := Option.some.inj h
    exact x_iret dX8_told_145 (Nat.le_of_ble_eq_true rfl) (Nat.le_of_ble_eq_true rfl)
  have h := (if_neg c35).symm.trans h
  by_cases c38 : a1 = (9 : Int32)
  · have h := (if_pos c38).symm.trans h
    refine x_tabIn 9 146 dX8_told_1 (by rw [c38]; decide) (by decide) (by decide) rfl (by decide) ?_
    refine x_aload_n dX8_told_146 0 rfl ?_
    obtain ⟨u39, eu39, h⟩ := x_bd h
    obtain ⟨p40, ep40, h⟩ := x_bd h
    refine x_callVI [] [] clX8 me_X8_rounds w_ml_RX8_210 w_im_yX8_rounds w_se_yX8_rounds (Nat.le_of_ble_eq_true rfl) (Nat.le_of_ble_eq_true rfl) rfl (Nat.le_of_ble_eq_true rfl) (Nat.le_of_ble_eq_true rfl) (Nat.le_of_ble_eq_true rfl) dX8_told_147 eu39 (c_X8_rounds l D aC bs sz F ep40) rfl ?_
    obtain rfl := Option.some.inj h
    exact x_iret dX8_told_150 (Nat.le_of_ble_eq_true rfl) (Nat.le_of_ble_eq_true rfl)
  have h := (if_neg c38).symm.trans h
  by_cases c41 : a1 = (10 : Int32)
  · have h := (if_pos c41).symm.trans h
    refine x_tabIn 10 151 dX8_told_1 (by rw [c41]; decide) (by decide) (by decide) rfl (by decide) ?_
    refine x_aload_n dX8_told_151 0 rfl ?_
    obtain ⟨u42, eu42, h⟩ := x_bd h
    obtain ⟨p43, ep43, h⟩ := x_bd h
    refine x_callVI [] [] clX8 me_X8_ends w_ml_RX8_213 w_im_yX8_ends w_se_yX8_ends (Nat.le_of_ble_eq_true rfl) (Nat.le_of_ble_eq_true rfl) rfl (Nat.le_of_ble_eq_true rfl) (Nat.le_of_ble_eq_true rfl) (Nat.le_of_ble_eq_true rfl) dX8_told_152 eu42 (c_X8_ends l D aC bs sz F ep43) rfl ?_
    obtain rfl := Option.some.inj h
    exact x_iret dX8_told_155 (Nat.le_of_ble_eq_true rfl) (Nat.le_of_ble_eq_true rfl)
  have h := (if_neg c41).symm.trans h
  have nc1 := lv_neT c1 (a := 0) (by decide)
  have nc5 := lv_neT c5 (a := 1) (by decide)
  have nc10 := lv_neT c10 (a := 2) (by decide)
  have nc15 := lv_neT c15 (a := 3) (by decide)
  have nc18 := lv_neT c18 (a := 4) (by decide)
  have nc24 := lv_neT c24 (a := 5) (by decide)
  have nc27 := lv_neT c27 (a := 6) (by decide)
  have nc30 := lv_neT c30 (a := 7) (by decide)
  have nc35 := lv_neT c35 (a := 8) (by decide)
  have nc38 := lv_neT c38 (a := 9) (by decide)
  have nc41 := lv_neT c41 (a := 10) (by decide)
  refine x_tabD 156 dX8_told_1 ?_ (by decide) ?_
  · by_cases r1 : (a1).toInt < 0
    · exact Or.inl r1
    by_cases r2 : 10 < (a1).toInt
    · exact Or.inr (Or.inl r2)
    exfalso
    omega
  refine x_iconst (v := (-1 : Int32)) dX8_told_156 (by decide) ?_
  obtain rfl := Option.some.inj h
  exact x_iret dX8_told_157 (Nat.le_of_ble_eq_true rfl) (Nat.le_of_ble_eq_true rfl)

-- SwappedIntervals.period(I)I
abbrev rm_X8_period : Room := { frames := 2, cells := 0, slots := 0, locals := 49 }
theorem me_X8_period : x_Me yX8_period cX8_period 2 (some .int) 1 := ⟨by decide +kernel, w_co_yX8_period, w_in_SwappedIntervals, by decide +kernel, by decide +kernel, by decide +kernel⟩
def f_X8_period (F : Nat) (a0 : Nat) (a1 : Int32) (M : XM) : Option (Int32 × XM) := (x_gR M a0 8 5).bind fun v1 => (x_gR M a0 8 0).bind fun v2 => (x_gR M v2 4 0).bind fun v3 => (x_ob M v1 1).bind fun u4 => (f_X1_lay F v1 v3 M).bind fun p5 => (x_gR p5 a0 8 5).bind fun v6 => (x_ob p5 v6 1).bind fun u7 => (f_X1_periodOf F v6 a1 p5).bind fun p8 => some (p8, p5)
set_option maxHeartbeats 4000000 in
set_option maxRecDepth 100000 in
theorem c_X8_period (l : Launch) (D : va_G) (aC : FieldType → ClassId) (bs sz : Nat) (F : Nat) {a0 : Nat} {a1 : Int32} {M : XM} {r : Int32 × XM} (h : f_X8_period F a0 a1 M = some r) : x_Cn l D aC bs yX8_period cX8_period 2 (some .int) rm_X8_period [.ref a0, .int a1] sz M (some (.int r.1)) sz r.2 := by
  unfold f_X8_period at h
  refine x_enter2 [(0, .ref a0), (1, .int a1)] me_X8_period (Nat.le_of_ble_eq_true rfl) rfl ?_
  refine x_aload_n dX8_period_0 0 rfl ?_
  obtain ⟨v1, ev1, h⟩ := x_bd h
  refine x_getR clX8 w_fl_RX8_42 (by decide) dX8_period_1 ev1 ?_
  refine x_aload_n dX8_period_4 0 rfl ?_
  obtain ⟨v2, ev2, h⟩ := x_bd h
  refine x_getR clX8 w_fl_RX8_14 (by decide) dX8_period_5 ev2 ?_
  obtain ⟨v3, ev3, h⟩ := x_bd h
  refine x_getR clX4 w_fl_RX8_67 (by decide) dX8_period_8 ev3 ?_
  obtain ⟨u4, eu4, h⟩ := x_bd h
  obtain ⟨p5, ep5, h⟩ := x_bd h
  refine x_callVV [.ref v3] [] clX1 me_X1_lay w_ml_RX8_225 w_im_yX1_lay w_se_yX1_lay (Nat.le_of_ble_eq_true rfl) (Nat.le_of_ble_eq_true rfl) rfl (Nat.le_of_ble_eq_true rfl) (Nat.le_of_ble_eq_true rfl) (Nat.le_of_ble_eq_true rfl) dX8_period_11 eu4 (c_X1_lay l D aC bs sz F ep5) rfl ?_
  refine x_aload_n dX8_period_14 0 rfl ?_
  obtain ⟨v6, ev6, h⟩ := x_bd h
  refine x_getR clX8 w_fl_RX8_42 (by decide) dX8_period_15 ev6 ?_
  refine x_iload_n dX8_period_18 1 rfl ?_
  obtain ⟨u7, eu7, h⟩ := x_bd h
  obtain ⟨p8, ep8, h⟩ := x_bd h
  refine x_callVI [.int a1] [] clX1 me_X1_periodOf w_ml_RX8_244 w_im_yX1_periodOf w_se_yX1_periodOf (Nat.le_of_ble_eq_true rfl) (Nat.le_of_ble_eq_true rfl) rfl (Nat.le_of_ble_eq_true rfl) (Nat.le_of_ble_eq_true rfl) (Nat.le_of_ble_eq_true rfl) dX8_period_19 eu7 (c_X1_periodOf l D aC bs sz F ep8) rfl ?_
  obtain rfl := Option.some.inj h
  exact x_iret dX8_period_22 (Nat.le_of_ble_eq_true rfl) (Nat.le_of_ble_eq_true rfl)

-- SwappedIntervals.point(II)I
abbrev rm_X8_point : Room := { frames := 3, cells := 0, slots := 0, locals := 70 }
theorem me_X8_point : x_Me yX8_point cX8_point 3 (some .int) 2 := ⟨by decide +kernel, w_co_yX8_point, w_in_SwappedIntervals, by decide +kernel, by decide +kernel, by decide +kernel⟩
def f_X8_point (F : Nat) (a0 : Nat) (a1 : Int32) (a2 : Int32) (M : XM) : Option (Int32 × XM) := (x_gR M a0 8 0).bind fun v1 => (x_gR M v1 4 0).bind fun v2 => (x_ob M v2 3).bind fun u3 => (f_X3_hasPoint F v2 a1 M).bind fun p4 => if p4 = 0 then some ((-1 : Int32), M) else if a2 = (0 : Int32) then (x_gR M a0 8 0).bind fun v7 => (x_gR M v7 4 0).bind fun v8 => (x_ob M v8 3).bind fun u9 => (f_X3_goesTo F v8 a1 M).bind fun p10 => some (p10, M) else if a2 = (1 : Int32) then (x_gR M a0 8 0).bind fun v12 => (x_gR M v12 4 0).bind fun v13 => (x_ob M v13 3).bind fun u14 => (f_X3_letterAt F v13 a1 M).bind fun p15 => some (p15, M) else if a2 = (2 : Int32) then (x_ob M a0 8).bind fun u17 => (f_X8_period F a0 a1 M).bind fun p18 => some (p18.1, p18.2) else some ((-1 : Int32), M)
set_option maxHeartbeats 4000000 in
set_option maxRecDepth 100000 in
theorem c_X8_point (l : Launch) (D : va_G) (aC : FieldType → ClassId) (bs sz : Nat) (F : Nat) {a0 : Nat} {a1 : Int32} {a2 : Int32} {M : XM} {r : Int32 × XM} (h : f_X8_point F a0 a1 a2 M = some r) : x_Cn l D aC bs yX8_point cX8_point 3 (some .int) rm_X8_point [.ref a0, .int a1, .int a2] sz M (some (.int r.1)) sz r.2 := by
  unfold f_X8_point at h
  refine x_enter2 [(0, .ref a0), (1, .int a1), (2, .int a2)] me_X8_point (Nat.le_of_ble_eq_true rfl) rfl ?_
  refine x_aload_n dX8_point_0 0 rfl ?_
  obtain ⟨v1, ev1, h⟩ := x_bd h
  refine x_getR clX8 w_fl_RX8_14 (by decide) dX8_point_1 ev1 ?_
  obtain ⟨v2, ev2, h⟩ := x_bd h
  refine x_getR clX4 w_fl_RX8_67 (by decide) dX8_point_4 ev2 ?_
  refine x_iload_n dX8_point_7 1 rfl ?_
  obtain ⟨u3, eu3, h⟩ := x_bd h
  obtain ⟨p4, ep4, h⟩ := x_bd h
  refine x_callVI [.int a1] [] clX3 me_X3_hasPoint w_ml_RX8_232 w_im_yX3_hasPoint w_se_yX3_hasPoint (Nat.le_of_ble_eq_true rfl) (Nat.le_of_ble_eq_true rfl) rfl (Nat.le_of_ble_eq_true rfl) (Nat.le_of_ble_eq_true rfl) (Nat.le_of_ble_eq_true rfl) dX8_point_8 eu3 (c_X3_hasPoint l D aC bs sz F ep4) rfl ?_
  refine x_if_ne 16 dX8_point_11 (by decide) (fun c5 => ?_) (fun c5 => ?_)
  · have h := (if_neg c5).symm.trans h
    refine x_iload_n dX8_point_16 2 rfl ?_
    by_cases c6 : a2 = (0 : Int32)
    · have h := (if_pos c6).symm.trans h
      refine x_tabIn 0 44 dX8_point_17 (by rw [c6]; decide) (by decide) (by decide) rfl (by decide) ?_
      refine x_aload_n dX8_point_44 0 rfl ?_
      obtain ⟨v7, ev7, h⟩ := x_bd h
      refine x_getR clX8 w_fl_RX8_14 (by decide) dX8_point_45 ev7 ?_
      obtain ⟨v8, ev8, h⟩ := x_bd h
      refine x_getR clX4 w_fl_RX8_67 (by decide) dX8_point_48 ev8 ?_
      refine x_iload_n dX8_point_51 1 rfl ?_
      obtain ⟨u9, eu9, h⟩ := x_bd h
      obtain ⟨p10, ep10, h⟩ := x_bd h
      refine x_callVI [.int a1] [] clX3 me_X3_goesTo w_ml_RX8_235 w_im_yX3_goesTo w_se_yX3_goesTo (Nat.le_of_ble_eq_true rfl) (Nat.le_of_ble_eq_true rfl) rfl (Nat.le_of_ble_eq_true rfl) (Nat.le_of_ble_eq_true rfl) (Nat.le_of_ble_eq_true rfl) dX8_point_52 eu9 (c_X3_goesTo l D aC bs sz F ep10) rfl ?_
      obtain rfl := Option.some.inj h
      exact x_iret dX8_point_55 (Nat.le_of_ble_eq_true rfl) (Nat.le_of_ble_eq_true rfl)
    have h := (if_neg c6).symm.trans h
    by_cases c11 : a2 = (1 : Int32)
    · have h := (if_pos c11).symm.trans h
      refine x_tabIn 1 56 dX8_point_17 (by rw [c11]; decide) (by decide) (by decide) rfl (by decide) ?_
      refine x_aload_n dX8_point_56 0 rfl ?_
      obtain ⟨v12, ev12, h⟩ := x_bd h
      refine x_getR clX8 w_fl_RX8_14 (by decide) dX8_point_57 ev12 ?_
      obtain ⟨v13, ev13, h⟩ := x_bd h
      refine x_getR clX4 w_fl_RX8_67 (by decide) dX8_point_60 ev13 ?_
      refine x_iload_n dX8_point_63 1 rfl ?_
      obtain ⟨u14, eu14, h⟩ := x_bd h
      obtain ⟨p15, ep15, h⟩ := x_bd h
      refine x_callVI [.int a1] [] clX3 me_X3_letterAt w_ml_RX8_238 w_im_yX3_letterAt w_se_yX3_letterAt (Nat.le_of_ble_eq_true rfl) (Nat.le_of_ble_eq_true rfl) rfl (Nat.le_of_ble_eq_true rfl) (Nat.le_of_ble_eq_true rfl) (Nat.le_of_ble_eq_true rfl) dX8_point_64 eu14 (c_X3_letterAt l D aC bs sz F ep15) rfl ?_
      obtain rfl := Option.some.inj h
      exact x_iret dX8_point_67 (Nat.le_of_ble_eq_true rfl) (Nat.le_of_ble_eq_true rfl)
    have h := (if_neg c11).symm.trans h
    by_cases c16 : a2 = (2 : Int32)
    · have h := (if_pos c16).symm.trans h
      refine x_tabIn 2 68 dX8_point_17 (by rw [c16]; decide) (by decide) (by decide) rfl (by decide) ?_
      refine x_aload_n dX8_point_68 0 rfl ?_
      refine x_iload_n dX8_point_69 1 rfl ?_
      obtain ⟨u17, eu17, h⟩ := x_bd h
      obtain ⟨p18, ep18, h⟩ := x_bd h
      refine x_callVI [.int a1] [] clX8 me_X8_period w_ml_RX8_241 w_im_yX8_period w_se_yX8_period (Nat.le_of_ble_eq_true rfl) (Nat.le_of_ble_eq_true rfl) rfl (Nat.le_of_ble_eq_true rfl) (Nat.le_of_ble_eq_true rfl) (Nat.le_of_ble_eq_true rfl) dX8_point_70 eu17 (c_X8_period l D aC bs sz F ep18) rfl ?_
      obtain rfl := Option.some.inj h
      exact x_iret dX8_point_73 (Nat.le_of_ble_eq_true rfl) (Nat.le_of_ble_eq_true rfl)
    have h := (if_neg c16).symm.trans h
    have nc6 := lv_neT c6 (a := 0) (by decide)
    have nc11 := lv_neT c11 (a := 1) (by decide)
    have nc16 := lv_neT c16 (a := 2) (by decide)
    refine x_tabD 74 dX8_point_17 ?_ (by decide) ?_
    · by_cases r1 : (a2).toInt < 0
      · exact Or.inl r1
      by_cases r2 : 2 < (a2).toInt
      · exact Or.inr (Or.inl r2)
      exfalso
      omega
    refine x_iconst (v := (-1 : Int32)) dX8_point_74 (by decide) ?_
    obtain rfl := Option.some.inj h
    exact x_iret dX8_point_75 (Nat.le_of_ble_eq_true rfl) (Nat.le_of_ble_eq_true rfl)
  have h := (if_pos c5).symm.trans h
  refine x_iconst (v := (-1 : Int32)) dX8_point_14 (by decide) ?_
  obtain rfl := Option.some.inj h
  exact x_iret dX8_point_15 (Nat.le_of_ble_eq_true rfl) (Nat.le_of_ble_eq_true rfl)

-- SwappedIntervals.gone(II)I
abbrev rm_X8_gone : Room := { frames := 2, cells := 0, slots := 0, locals := 49 }
theorem me_X8_gone : x_Me yX8_gone cX8_gone 3 (some .int) 2 := ⟨by decide +kernel, w_co_yX8_gone, w_in_SwappedIntervals, by decide +kernel, by decide +kernel, by decide +kernel⟩
def f_X8_gone (F : Nat) (a0 : Nat) (a1 : Int32) (a2 : Int32) (M : XM) : Option (Int32 × XM) := (x_gR M a0 8 0).bind fun v1 => (x_gR M v1 4 0).bind fun v2 => (x_ob M v2 3).bind fun u3 => (f_X3_hasPoint F v2 a1 M).bind fun p4 => if p4 = 0 then some ((-1 : Int32), M) else if a2 < 0 then some ((-2 : Int32), M) else if a2 ≤ (9999 : Int32) then (x_gR M a0 8 5).bind fun v8 => (x_gR M a0 8 0).bind fun v9 => (x_gR M v9 4 0).bind fun v10 => (x_ob M v8 1).bind fun u11 => (f_X1_lay F v8 v10 M).bind fun p12 => (x_gR p12 a0 8 5).bind fun v13 => (x_ob p12 v13 1).bind fun u14 => (f_X1_behind F v13 a1 a2 p12).bind fun p15 => some (p15, p12) else some ((-2 : Int32), M)
set_option maxHeartbeats 4000000 in
set_option maxRecDepth 100000 in
theorem c_X8_gone (l : Launch) (D : va_G) (aC : FieldType → ClassId) (bs sz : Nat) (F : Nat) {a0 : Nat} {a1 : Int32} {a2 : Int32} {M : XM} {r : Int32 × XM} (h : f_X8_gone F a0 a1 a2 M = some r) : x_Cn l D aC bs yX8_gone cX8_gone 3 (some .int) rm_X8_gone [.ref a0, .int a1, .int a2] sz M (some (.int r.1)) sz r.2 := by
  unfold f_X8_gone at h
  refine x_enter2 [(0, .ref a0), (1, .int a1), (2, .int a2)] me_X8_gone (Nat.le_of_ble_eq_true rfl) rfl ?_
  refine x_aload_n dX8_gone_0 0 rfl ?_
  obtain ⟨v1, ev1, h⟩ := x_bd h
  refine x_getR clX8 w_fl_RX8_14 (by decide) dX8_gone_1 ev1 ?_
  obtain ⟨v2, ev2, h⟩ := x_bd h
  refine x_getR clX4 w_fl_RX8_67 (by decide) dX8_gone_4 ev2 ?_
  refine x_iload_n dX8_gone_7 1 rfl ?_
  obtain ⟨u3, eu3, h⟩ := x_bd h
  obtain ⟨p4, ep4, h⟩ := x_bd h
  refine x_callVI [.int a1] [] clX3 me_X3_hasPoint w_ml_RX8_232 w_im_yX3_hasPoint w_se_yX3_hasPoint (Nat.le_of_ble_eq_true rfl) (Nat.le_of_ble_eq_true rfl) rfl (Nat.le_of_ble_eq_true rfl) (Nat.le_of_ble_eq_true rfl) (Nat.le_of_ble_eq_true rfl) dX8_gone_8 eu3 (c_X3_hasPoint l D aC bs sz F ep4) rfl ?_
  refine x_if_ne 16 dX8_gone_11 (by decide) (fun c5 => ?_) (fun c5 => ?_)
  · have h := (if_neg c5).symm.trans h
    refine x_iload_n dX8_gone_16 2 rfl ?_
    refine x_if_lt 27 dX8_gone_17 (by decide) (fun c6 => ?_) (fun c6 => ?_)
    · have h := (if_pos c6).symm.trans h
      refine x_bipush (v := (-2 : Int32)) dX8_gone_27 (by decide) ?_
      obtain rfl := Option.some.inj h
      exact x_iret dX8_gone_29 (Nat.le_of_ble_eq_true rfl) (Nat.le_of_ble_eq_true rfl)
    have h := (if_neg c6).symm.trans h
    refine x_iload_n dX8_gone_20 2 rfl ?_
    refine x_sipush (v := (9999 : Int32)) dX8_gone_21 (by decide) ?_
    refine x_icmp_le 30 dX8_gone_24 (by decide) (fun c7 => ?_) (fun c7 => ?_)
    · have h := (if_pos c7).symm.trans h
      refine x_aload_n dX8_gone_30 0 rfl ?_
      obtain ⟨v8, ev8, h⟩ := x_bd h
      refine x_getR clX8 w_fl_RX8_42 (by decide) dX8_gone_31 ev8 ?_
      refine x_aload_n dX8_gone_34 0 rfl ?_
      obtain ⟨v9, ev9, h⟩ := x_bd h
      refine x_getR clX8 w_fl_RX8_14 (by decide) dX8_gone_35 ev9 ?_
      obtain ⟨v10, ev10, h⟩ := x_bd h
      refine x_getR clX4 w_fl_RX8_67 (by decide) dX8_gone_38 ev10 ?_
      obtain ⟨u11, eu11, h⟩ := x_bd h
      obtain ⟨p12, ep12, h⟩ := x_bd h
      refine x_callVV [.ref v10] [] clX1 me_X1_lay w_ml_RX8_225 w_im_yX1_lay w_se_yX1_lay (Nat.le_of_ble_eq_true rfl) (Nat.le_of_ble_eq_true rfl) rfl (Nat.le_of_ble_eq_true rfl) (Nat.le_of_ble_eq_true rfl) (Nat.le_of_ble_eq_true rfl) dX8_gone_41 eu11 (c_X1_lay l D aC bs sz F ep12) rfl ?_
      refine x_aload_n dX8_gone_44 0 rfl ?_
      obtain ⟨v13, ev13, h⟩ := x_bd h
      refine x_getR clX8 w_fl_RX8_42 (by decide) dX8_gone_45 ev13 ?_
      refine x_iload_n dX8_gone_48 1 rfl ?_
      refine x_iload_n dX8_gone_49 2 rfl ?_
      obtain ⟨u14, eu14, h⟩ := x_bd h
      obtain ⟨p15, ep15, h⟩ := x_bd h
      refine x_callVI [.int a1, .int a2] [] clX1 me_X1_behind w_ml_RX8_247 w_im_yX1_behind w_se_yX1_behind (Nat.le_of_ble_eq_true rfl) (Nat.le_of_ble_eq_true rfl) rfl (Nat.le_of_ble_eq_true rfl) (Nat.le_of_ble_eq_true rfl) (Nat.le_of_ble_eq_true rfl) dX8_gone_50 eu14 (c_X1_behind l D aC bs sz F ep15) rfl ?_
      obtain rfl := Option.some.inj h
      exact x_iret dX8_gone_53 (Nat.le_of_ble_eq_true rfl) (Nat.le_of_ble_eq_true rfl)
    have h := (if_neg c7).symm.trans h
    refine x_bipush (v := (-2 : Int32)) dX8_gone_27 (by decide) ?_
    obtain rfl := Option.some.inj h
    exact x_iret dX8_gone_29 (Nat.le_of_ble_eq_true rfl) (Nat.le_of_ble_eq_true rfl)
  have h := (if_pos c5).symm.trans h
  refine x_iconst (v := (-1 : Int32)) dX8_gone_14 (by decide) ?_
  obtain rfl := Option.some.inj h
  exact x_iret dX8_gone_15 (Nat.le_of_ble_eq_true rfl) (Nat.le_of_ble_eq_true rfl)

-- SwappedIntervals.code(I)I
abbrev rm_X8_code : Room := { frames := 5, cells := 0, slots := 0, locals := 112 }
theorem me_X8_code : x_Me yX8_code cX8_code 2 (some .int) 1 := ⟨by decide +kernel, w_co_yX8_code, w_in_SwappedIntervals, by decide +kernel, by decide +kernel, by decide +kernel⟩
def f_X8_code (F : Nat) (a0 : Nat) (a1 : Int32) (M : XM) : Option (Int32 × XM) := if 0 ≤ a1 then (x_ob M a0 8).bind fun u2 => (f_X8_exploreClass F a0 M).bind fun p3 => (x_gR p3.2 a0 8 6).bind fun v4 => (x_ob p3.2 v4 5).bind fun u5 => (f_X5_codeOfRank F v4 a1 p3.2).bind fun p6 => some (p6, p3.2) else some ((-1 : Int32), M)
set_option maxHeartbeats 4000000 in
set_option maxRecDepth 100000 in
theorem c_X8_code (l : Launch) (D : va_G) (aC : FieldType → ClassId) (bs sz : Nat) (F : Nat) {a0 : Nat} {a1 : Int32} {M : XM} {r : Int32 × XM} (h : f_X8_code F a0 a1 M = some r) : x_Cn l D aC bs yX8_code cX8_code 2 (some .int) rm_X8_code [.ref a0, .int a1] sz M (some (.int r.1)) sz r.2 := by
  unfold f_X8_code at h
  refine x_enter2 [(0, .ref a0), (1, .int a1)] me_X8_code (Nat.le_of_ble_eq_true rfl) rfl ?_
  refine x_iload_n dX8_code_0 1 rfl ?_
  refine x_if_ge 6 dX8_code_1 (by decide) (fun c1 => ?_) (fun c1 => ?_)
  · have h := (if_pos c1).symm.trans h
    refine x_aload_n dX8_code_6 0 rfl ?_
    obtain ⟨u2, eu2, h⟩ := x_bd h
    obtain ⟨p3, ep3, h⟩ := x_bd h
    refine x_callVI [] [] clX8 me_X8_exploreClass w_ml_RX8_198 w_im_yX8_exploreClass w_se_yX8_exploreClass (Nat.le_of_ble_eq_true rfl) (Nat.le_of_ble_eq_true rfl) rfl (Nat.le_of_ble_eq_true rfl) (Nat.le_of_ble_eq_true rfl) (Nat.le_of_ble_eq_true rfl) dX8_code_7 eu2 (c_X8_exploreClass l D aC bs sz F ep3) rfl ?_
    refine x_pop dX8_code_10 rfl ?_
    refine x_aload_n dX8_code_11 0 rfl ?_
    obtain ⟨v4, ev4, h⟩ := x_bd h
    refine x_getR clX8 w_fl_RX8_49 (by decide) dX8_code_12 ev4 ?_
    refine x_iload_n dX8_code_15 1 rfl ?_
    obtain ⟨u5, eu5, h⟩ := x_bd h
    obtain ⟨p6, ep6, h⟩ := x_bd h
    refine x_callVI [.int a1] [] clX5 me_X5_codeOfRank w_ml_RX8_250 w_im_yX5_codeOfRank w_se_yX5_codeOfRank (Nat.le_of_ble_eq_true rfl) (Nat.le_of_ble_eq_true rfl) rfl (Nat.le_of_ble_eq_true rfl) (Nat.le_of_ble_eq_true rfl) (Nat.le_of_ble_eq_true rfl) dX8_code_16 eu5 (c_X5_codeOfRank l D aC bs sz F ep6) rfl ?_
    obtain rfl := Option.some.inj h
    exact x_iret dX8_code_19 (Nat.le_of_ble_eq_true rfl) (Nat.le_of_ble_eq_true rfl)
  have h := (if_neg c1).symm.trans h
  refine x_iconst (v := (-1 : Int32)) dX8_code_4 (by decide) ?_
  obtain rfl := Option.some.inj h
  exact x_iret dX8_code_5 (Nat.le_of_ble_eq_true rfl) (Nat.le_of_ble_eq_true rfl)

-- SwappedIntervals.next(II)I
abbrev rm_X8_next : Room := { frames := 3, cells := 0, slots := 0, locals := 69 }
theorem me_X8_next : x_Me yX8_next cX8_next 3 (some .int) 2 := ⟨by decide +kernel, w_co_yX8_next, w_in_SwappedIntervals, by decide +kernel, by decide +kernel, by decide +kernel⟩
def f_X8_next (F : Nat) (a0 : Nat) (a1 : Int32) (a2 : Int32) (M : XM) : Option (Int32 × XM) := (f_X8_isKind a2 M).bind fun p1 => if p1 = 0 then some ((-1 : Int32), M) else (x_gR M a0 8 0).bind fun v3 => (x_gR M v3 4 0).bind fun v4 => (x_gI M v4 3 0).bind fun v5 => (f_X3_isCode F a1 v5 M).bind fun p6 => if p6 = 0 then some ((-2 : Int32), M) else (x_gR M a0 8 6).bind fun v8 => (x_gR M a0 8 0).bind fun v9 => (x_gR M v9 4 0).bind fun v10 => (x_gI M v10 3 0).bind fun v11 => (x_ob M v8 5).bind fun u12 => (f_X5_follow F v8 a1 v11 a2 M).bind fun p13 => some (p13.1, p13.2)
set_option maxHeartbeats 4000000 in
set_option maxRecDepth 100000 in
theorem c_X8_next (l : Launch) (D : va_G) (aC : FieldType → ClassId) (bs sz : Nat) (F : Nat) {a0 : Nat} {a1 : Int32} {a2 : Int32} {M : XM} {r : Int32 × XM} (h : f_X8_next F a0 a1 a2 M = some r) : x_Cn l D aC bs yX8_next cX8_next 3 (some .int) rm_X8_next [.ref a0, .int a1, .int a2] sz M (some (.int r.1)) sz r.2 := by
  unfold f_X8_next at h
  refine x_enter2 [(0, .ref a0), (1, .int a1), (2, .int a2)] me_X8_next (Nat.le_of_ble_eq_true rfl) rfl ?_
  refine x_iload_n dX8_next_0 2 rfl ?_
  obtain ⟨p1, ep1, h⟩ := x_bd h
  refine x_callSI [.int a2] [] me_X8_isKind w_ml_RX8_114 w_st_yX8_isKind (Nat.le_of_ble_eq_true rfl) (Nat.le_of_ble_eq_true rfl) rfl (Nat.le_of_ble_eq_true rfl) (Nat.le_of_ble_eq_true rfl) (Nat.le_of_ble_eq_true rfl) dX8_next_1 (c_X8_isKind l D aC bs sz ep1) rfl ?_
  refine x_if_ne 9 dX8_next_4 (by decide) (fun c2 => ?_) (fun c2 => ?_)
  · have h := (if_neg c2).symm.trans h
    refine x_iload_n dX8_next_9 1 rfl ?_
    refine x_aload_n dX8_next_10 0 rfl ?_
    obtain ⟨v3, ev3, h⟩ := x_bd h
    refine x_getR clX8 w_fl_RX8_14 (by decide) dX8_next_11 ev3 ?_
    obtain ⟨v4, ev4, h⟩ := x_bd h
    refine x_getR clX4 w_fl_RX8_67 (by decide) dX8_next_14 ev4 ?_
    obtain ⟨v5, ev5, h⟩ := x_bd h
    refine x_getI clX3 w_fl_RX8_70 (by decide) dX8_next_17 ev5 ?_
    obtain ⟨p6, ep6, h⟩ := x_bd h
    refine x_callSI [.int a1, .int v5] [] me_X3_isCode w_ml_RX8_81 w_st_yX3_isCode (Nat.le_of_ble_eq_true rfl) (Nat.le_of_ble_eq_true rfl) rfl (Nat.le_of_ble_eq_true rfl) (Nat.le_of_ble_eq_true rfl) (Nat.le_of_ble_eq_true rfl) dX8_next_20 (c_X3_isCode l D aC bs sz F ep6) rfl ?_
    refine x_if_ne 29 dX8_next_23 (by decide) (fun c7 => ?_) (fun c7 => ?_)
    · have h := (if_neg c7).symm.trans h
      refine x_aload_n dX8_next_29 0 rfl ?_
      obtain ⟨v8, ev8, h⟩ := x_bd h
      refine x_getR clX8 w_fl_RX8_49 (by decide) dX8_next_30 ev8 ?_
      refine x_iload_n dX8_next_33 1 rfl ?_
      refine x_aload_n dX8_next_34 0 rfl ?_
      obtain ⟨v9, ev9, h⟩ := x_bd h
      refine x_getR clX8 w_fl_RX8_14 (by decide) dX8_next_35 ev9 ?_
      obtain ⟨v10, ev10, h⟩ := x_bd h
      refine x_getR clX4 w_fl_RX8_67 (by decide) dX8_next_38 ev10 ?_
      obtain ⟨v11, ev11, h⟩ := x_bd h
      refine x_getI clX3 w_fl_RX8_70 (by decide) dX8_next_41 ev11 ?_
      refine x_iload_n dX8_next_44 2 rfl ?_
      obtain ⟨u12, eu12, h⟩ := x_bd h
      obtain ⟨p13, ep13, h⟩ := x_bd h
      refine x_callVI [.int a1, .int v11, .int a2] [] clX5 me_X5_follow w_ml_RX8_253 w_im_yX5_follow w_se_yX5_follow (Nat.le_of_ble_eq_true rfl) (Nat.le_of_ble_eq_true rfl) rfl (Nat.le_of_ble_eq_true rfl) (Nat.le_of_ble_eq_true rfl) (Nat.le_of_ble_eq_true rfl) dX8_next_45 eu12 (c_X5_follow l D aC bs sz F ep13) rfl ?_
      obtain rfl := Option.some.inj h
      exact x_iret dX8_next_48 (Nat.le_of_ble_eq_true rfl) (Nat.le_of_ble_eq_true rfl)
    have h := (if_pos c7).symm.trans h
    refine x_bipush (v := (-2 : Int32)) dX8_next_26 (by decide) ?_
    obtain rfl := Option.some.inj h
    exact x_iret dX8_next_28 (Nat.le_of_ble_eq_true rfl) (Nat.le_of_ble_eq_true rfl)
  have h := (if_pos c2).symm.trans h
  refine x_iconst (v := (-1 : Int32)) dX8_next_7 (by decide) ?_
  obtain rfl := Option.some.inj h
  exact x_iret dX8_next_8 (Nat.le_of_ble_eq_true rfl) (Nat.le_of_ble_eq_true rfl)

-- SwappedIntervals.meeting(I)I
abbrev rm_X8_meeting : Room := { frames := 3, cells := 0, slots := 0, locals := 68 }
theorem me_X8_meeting : x_Me yX8_meeting cX8_meeting 2 (some .int) 1 := ⟨by decide +kernel, w_co_yX8_meeting, w_in_SwappedIntervals, by decide +kernel, by decide +kernel, by decide +kernel⟩
def f_X8_meeting (F : Nat) (a0 : Nat) (a1 : Int32) (M : XM) : Option (Int32) := if a1 < 0 then some (-1 : Int32) else (x_gR M a0 8 0).bind fun v2 => (x_gR M v2 4 0).bind fun v3 => (x_gI M v3 3 0).bind fun v4 => if a1 ≤ v4 then (x_gR M a0 8 0).bind fun v6 => (x_gR M v6 4 0).bind fun v7 => (x_ob M v7 3).bind fun u8 => (f_X3_meetingBehind F v7 a1 M).bind fun p9 => some p9 else some (-1 : Int32)
set_option maxHeartbeats 4000000 in
set_option maxRecDepth 100000 in
theorem c_X8_meeting (l : Launch) (D : va_G) (aC : FieldType → ClassId) (bs sz : Nat) (F : Nat) {a0 : Nat} {a1 : Int32} {M : XM} {r : Int32} (h : f_X8_meeting F a0 a1 M = some r) : x_Cn l D aC bs yX8_meeting cX8_meeting 2 (some .int) rm_X8_meeting [.ref a0, .int a1] sz M (some (.int r)) sz M := by
  unfold f_X8_meeting at h
  refine x_enter2 [(0, .ref a0), (1, .int a1)] me_X8_meeting (Nat.le_of_ble_eq_true rfl) rfl ?_
  refine x_iload_n dX8_meeting_0 1 rfl ?_
  refine x_if_lt 18 dX8_meeting_1 (by decide) (fun c1 => ?_) (fun c1 => ?_)
  · have h := (if_pos c1).symm.trans h
    refine x_iconst (v := (-1 : Int32)) dX8_meeting_18 (by decide) ?_
    obtain rfl := Option.some.inj h
    exact x_iret dX8_meeting_19 (Nat.le_of_ble_eq_true rfl) (Nat.le_of_ble_eq_true rfl)
  have h := (if_neg c1).symm.trans h
  refine x_iload_n dX8_meeting_4 1 rfl ?_
  refine x_aload_n dX8_meeting_5 0 rfl ?_
  obtain ⟨v2, ev2, h⟩ := x_bd h
  refine x_getR clX8 w_fl_RX8_14 (by decide) dX8_meeting_6 ev2 ?_
  obtain ⟨v3, ev3, h⟩ := x_bd h
  refine x_getR clX4 w_fl_RX8_67 (by decide) dX8_meeting_9 ev3 ?_
  obtain ⟨v4, ev4, h⟩ := x_bd h
  refine x_getI clX3 w_fl_RX8_70 (by decide) dX8_meeting_12 ev4 ?_
  refine x_icmp_le 20 dX8_meeting_15 (by decide) (fun c5 => ?_) (fun c5 => ?_)
  · have h := (if_pos c5).symm.trans h
    refine x_aload_n dX8_meeting_20 0 rfl ?_
    obtain ⟨v6, ev6, h⟩ := x_bd h
    refine x_getR clX8 w_fl_RX8_14 (by decide) dX8_meeting_21 ev6 ?_
    obtain ⟨v7, ev7, h⟩ := x_bd h
    refine x_getR clX4 w_fl_RX8_67 (by decide) dX8_meeting_24 ev7 ?_
    refine x_iload_n dX8_meeting_27 1 rfl ?_
    obtain ⟨u8, eu8, h⟩ := x_bd h
    obtain ⟨p9, ep9, h⟩ := x_bd h
    refine x_callVI [.int a1] [] clX3 me_X3_meetingBehind w_ml_RX8_256 w_im_yX3_meetingBehind w_se_yX3_meetingBehind (Nat.le_of_ble_eq_true rfl) (Nat.le_of_ble_eq_true rfl) rfl (Nat.le_of_ble_eq_true rfl) (Nat.le_of_ble_eq_true rfl) (Nat.le_of_ble_eq_true rfl) dX8_meeting_28 eu8 (c_X3_meetingBehind l D aC bs sz F ep9) rfl ?_
    obtain rfl := Option.some.inj h
    exact x_iret dX8_meeting_31 (Nat.le_of_ble_eq_true rfl) (Nat.le_of_ble_eq_true rfl)
  have h := (if_neg c5).symm.trans h
  refine x_iconst (v := (-1 : Int32)) dX8_meeting_18 (by decide) ?_
  obtain rfl := Option.some.inj h
  exact x_iret dX8_meeting_19 (Nat.le_of_ble_eq_true rfl) (Nat.le_of_ble_eq_true rfl)

-- SwappedIntervals.canBeSeen(I)Z
abbrev rm_X8_canBeSeen : Room := { frames := 0, cells := 0, slots := 0, locals := 0 }
theorem me_X8_canBeSeen : x_Me yX8_canBeSeen cX8_canBeSeen 1 (some .boolean) 1 := ⟨by decide +kernel, w_co_yX8_canBeSeen, w_in_SwappedIntervals, by decide +kernel, by decide +kernel, by decide +kernel⟩
def f_X8_canBeSeen (a0 : Int32) (M : XM) : Option (Int32) := if a0 < 0 then some (0 : Int32) else if (499 : Int32) < a0 then some (0 : Int32) else some (1 : Int32)
set_option maxHeartbeats 4000000 in
set_option maxRecDepth 100000 in
theorem c_X8_canBeSeen (l : Launch) (D : va_G) (aC : FieldType → ClassId) (bs sz : Nat) {a0 : Int32} {M : XM} {r : Int32} (h : f_X8_canBeSeen a0 M = some r) : x_Cn l D aC bs yX8_canBeSeen cX8_canBeSeen 1 (some .boolean) rm_X8_canBeSeen [.int a0] sz M (some (.int r)) sz M := by
  unfold f_X8_canBeSeen at h
  refine x_enter2 [(0, .int a0)] me_X8_canBeSeen (Nat.le_of_ble_eq_true rfl) rfl ?_
  refine x_iload_n dX8_canBeSeen_0 0 rfl ?_
  refine x_if_lt 15 dX8_canBeSeen_1 (by decide) (fun c1 => ?_) (fun c1 => ?_)
  · have h := (if_pos c1).symm.trans h
    refine x_iconst (v := (0 : Int32)) dX8_canBeSeen_15 (by decide) ?_
    obtain rfl := Option.some.inj h
    exact x_zret dX8_canBeSeen_16 (Or.inl rfl) (Nat.le_of_ble_eq_true rfl) (Nat.le_of_ble_eq_true rfl)
  have h := (if_neg c1).symm.trans h
  refine x_iload_n dX8_canBeSeen_4 0 rfl ?_
  refine x_sipush (v := (499 : Int32)) dX8_canBeSeen_5 (by decide) ?_
  refine x_icmp_gt 15 dX8_canBeSeen_8 (by decide) (fun c2 => ?_) (fun c2 => ?_)
  · have h := (if_pos c2).symm.trans h
    refine x_iconst (v := (0 : Int32)) dX8_canBeSeen_15 (by decide) ?_
    obtain rfl := Option.some.inj h
    exact x_zret dX8_canBeSeen_16 (Or.inl rfl) (Nat.le_of_ble_eq_true rfl) (Nat.le_of_ble_eq_true rfl)
  have h := (if_neg c2).symm.trans h
  refine x_iconst (v := (1 : Int32)) dX8_canBeSeen_11 (by decide) ?_
  refine x_goto 16 dX8_canBeSeen_12 (by decide) ?_
  obtain rfl := Option.some.inj h
  exact x_zret dX8_canBeSeen_16 (Or.inr rfl) (Nat.le_of_ble_eq_true rfl) (Nat.le_of_ble_eq_true rfl)

-- SwappedIntervals.see(II)I
abbrev rm_X8_see : Room := { frames := 1, cells := 0, slots := 0, locals := 22 }
theorem me_X8_see : x_Me yX8_see cX8_see 3 (some .int) 2 := ⟨by decide +kernel, w_co_yX8_see, w_in_SwappedIntervals, by decide +kernel, by decide +kernel, by decide +kernel⟩
def f_X8_see (a0 : Nat) (a1 : Int32) (a2 : Int32) (M : XM) : Option (Int32 × XM) := if a1 = (-1 : Int32) then (x_gR M a0 8 0).bind fun v10 => (x_gR M v10 4 2).bind fun v11 => (x_ob M v11 2).bind fun u12 => (f_X2_clear v11 M).bind fun p13 => some (p13.1, p13.2) else (f_X8_canBeSeen a1 M).bind fun p2 => if p2 = 0 then some ((-2 : Int32), M) else (f_X8_canBeSeen a2 M).bind fun p4 => if p4 = 0 then some ((-2 : Int32), M) else (x_gR M a0 8 0).bind fun v6 => (x_gR M v6 4 2).bind fun v7 => (x_ob M v7 2).bind fun u8 => (f_X2_add v7 a1 a2 M).bind fun p9 => some (p9.1, p9.2)
set_option maxHeartbeats 4000000 in
set_option maxRecDepth 100000 in
theorem c_X8_see (l : Launch) (D : va_G) (aC : FieldType → ClassId) (bs sz : Nat) {a0 : Nat} {a1 : Int32} {a2 : Int32} {M : XM} {r : Int32 × XM} (h : f_X8_see a0 a1 a2 M = some r) : x_Cn l D aC bs yX8_see cX8_see 3 (some .int) rm_X8_see [.ref a0, .int a1, .int a2] sz M (some (.int r.1)) sz r.2 := by
  unfold f_X8_see at h
  refine x_enter2 [(0, .ref a0), (1, .int a1), (2, .int a2)] me_X8_see (Nat.le_of_ble_eq_true rfl) rfl ?_
  refine x_iload_n dX8_see_0 1 rfl ?_
  refine x_iconst (v := (-1 : Int32)) dX8_see_1 (by decide) ?_
  refine x_icmp_ne 16 dX8_see_2 (by decide) (fun c1 => ?_) (fun c1 => ?_)
  · have h := (if_neg c1).symm.trans h
    refine x_iload_n dX8_see_16 1 rfl ?_
    obtain ⟨p2, ep2, h⟩ := x_bd h
    refine x_callSI [.int a1] [] me_X8_canBeSeen w_ml_RX8_267 w_st_yX8_canBeSeen (Nat.le_of_ble_eq_true rfl) (Nat.le_of_ble_eq_true rfl) rfl (Nat.le_of_ble_eq_true rfl) (Nat.le_of_ble_eq_true rfl) (Nat.le_of_ble_eq_true rfl) dX8_see_17 (c_X8_canBeSeen l D aC bs sz ep2) rfl ?_
    refine x_if_eq 30 dX8_see_20 (by decide) (fun c3 => ?_) (fun c3 => ?_)
    · have h := (if_pos c3).symm.trans h
      refine x_bipush (v := (-2 : Int32)) dX8_see_30 (by decide) ?_
      obtain rfl := Option.some.inj h
      exact x_iret dX8_see_32 (Nat.le_of_ble_eq_true rfl) (Nat.le_of_ble_eq_true rfl)
    have h := (if_neg c3).symm.trans h
    refine x_iload_n dX8_see_23 2 rfl ?_
    obtain ⟨p4, ep4, h⟩ := x_bd h
    refine x_callSI [.int a2] [] me_X8_canBeSeen w_ml_RX8_267 w_st_yX8_canBeSeen (Nat.le_of_ble_eq_true rfl) (Nat.le_of_ble_eq_true rfl) rfl (Nat.le_of_ble_eq_true rfl) (Nat.le_of_ble_eq_true rfl) (Nat.le_of_ble_eq_true rfl) dX8_see_24 (c_X8_canBeSeen l D aC bs sz ep4) rfl ?_
    refine x_if_ne 33 dX8_see_27 (by decide) (fun c5 => ?_) (fun c5 => ?_)
    · have h := (if_neg c5).symm.trans h
      refine x_aload_n dX8_see_33 0 rfl ?_
      obtain ⟨v6, ev6, h⟩ := x_bd h
      refine x_getR clX8 w_fl_RX8_14 (by decide) dX8_see_34 ev6 ?_
      obtain ⟨v7, ev7, h⟩ := x_bd h
      refine x_getR clX4 w_fl_RX8_259 (by decide) dX8_see_37 ev7 ?_
      refine x_iload_n dX8_see_40 1 rfl ?_
      refine x_iload_n dX8_see_41 2 rfl ?_
      obtain ⟨u8, eu8, h⟩ := x_bd h
      obtain ⟨p9, ep9, h⟩ := x_bd h
      refine x_callVI [.int a1, .int a2] [] clX2 me_X2_add w_ml_RX8_270 w_im_yX2_add w_se_yX2_add (Nat.le_of_ble_eq_true rfl) (Nat.le_of_ble_eq_true rfl) rfl (Nat.le_of_ble_eq_true rfl) (Nat.le_of_ble_eq_true rfl) (Nat.le_of_ble_eq_true rfl) dX8_see_42 eu8 (c_X2_add l D aC bs sz ep9) rfl ?_
      obtain rfl := Option.some.inj h
      exact x_iret dX8_see_45 (Nat.le_of_ble_eq_true rfl) (Nat.le_of_ble_eq_true rfl)
    have h := (if_pos c5).symm.trans h
    refine x_bipush (v := (-2 : Int32)) dX8_see_30 (by decide) ?_
    obtain rfl := Option.some.inj h
    exact x_iret dX8_see_32 (Nat.le_of_ble_eq_true rfl) (Nat.le_of_ble_eq_true rfl)
  have h := (if_pos c1).symm.trans h
  refine x_aload_n dX8_see_5 0 rfl ?_
  obtain ⟨v10, ev10, h⟩ := x_bd h
  refine x_getR clX8 w_fl_RX8_14 (by decide) dX8_see_6 ev10 ?_
  obtain ⟨v11, ev11, h⟩ := x_bd h
  refine x_getR clX4 w_fl_RX8_259 (by decide) dX8_see_9 ev11 ?_
  obtain ⟨u12, eu12, h⟩ := x_bd h
  obtain ⟨p13, ep13, h⟩ := x_bd h
  refine x_callVI [] [] clX2 me_X2_clear w_ml_RX8_263 w_im_yX2_clear w_se_yX2_clear (Nat.le_of_ble_eq_true rfl) (Nat.le_of_ble_eq_true rfl) rfl (Nat.le_of_ble_eq_true rfl) (Nat.le_of_ble_eq_true rfl) (Nat.le_of_ble_eq_true rfl) dX8_see_12 eu12 (c_X2_clear l D aC bs sz ep13) rfl ?_
  obtain rfl := Option.some.inj h
  exact x_iret dX8_see_15 (Nat.le_of_ble_eq_true rfl) (Nat.le_of_ble_eq_true rfl)

-- SwappedIntervals.isAllSeen(LSwappedIntervals$Rows;)Z
abbrev rm_X8_isAllSeen : Room := { frames := 2, cells := 0, slots := 0, locals := 46 }
theorem me_X8_isAllSeen : x_Me yX8_isAllSeen cX8_isAllSeen 4 (some .boolean) 1 := ⟨by decide +kernel, w_co_yX8_isAllSeen, w_in_SwappedIntervals, by decide +kernel, by decide +kernel, by decide +kernel⟩
def b_X8_isAllSeen_2 (F : Nat) (a0 : Nat) (a1 : Nat) (M : XM)  (k2 : Int32 → Option (Int32)) (q : Int32) : Option (Int32) := (x_gR M a0 8 0).bind fun v1 => (x_gR M v1 4 2).bind fun v2 => (x_gI M v2 2 2).bind fun v3 => if v3 ≤ q then some (1 : Int32) else (x_gR M a0 8 0).bind fun v5 => (x_gR M v5 4 2).bind fun v6 => (x_gR M v6 2 0).bind fun v7 => (x_a32 .int M v7 q).bind fun v8 => (x_ob M a1 3).bind fun u9 => (f_X3_hasPoint F a1 v8 M).bind fun p10 => if p10 = 0 then some (0 : Int32) else (x_ob M a1 3).bind fun u12 => (f_X3_goesTo F a1 v8 M).bind fun p13 => (x_gR M a0 8 0).bind fun v14 => (x_gR M v14 4 2).bind fun v15 => (x_gR M v15 2 1).bind fun v16 => (x_a32 .int M v16 q).bind fun v17 => if p13 = v17 then k2 (q + (1 : Int32)) else some (0 : Int32)
set_option maxHeartbeats 4000000 in
set_option maxRecDepth 100000 in
theorem lp_X8_isAllSeen_2 (l : Launch) (D : va_G) (aC : FieldType → ClassId) (bs : Nat) (sz : Nat) (F : Nat) (a0 : Nat) (a1 : Nat) (M : XM)   : ∀ (n : Nat) (b0 : Int32) (r : Int32), x_it (b_X8_isAllSeen_2 F a0 a1 M ) n b0 = some r → x_V l D aC bs yX8_isAllSeen cX8_isAllSeen 4 (some .boolean) rm_X8_isAllSeen (x_Z D aC bs (some (.int r)) sz M rm_X8_isAllSeen) 2 [(0, .ref a0), (1, .ref a1), (2, .int b0)] [] sz M 0 0 := by
  suffices H : ∀ (n : Nat) (q : Int32) (r : Int32), x_it (b_X8_isAllSeen_2 F a0 a1 M ) n q = some r → x_V l D aC bs yX8_isAllSeen cX8_isAllSeen 4 (some .boolean) rm_X8_isAllSeen (x_Z D aC bs (some (.int r)) sz M rm_X8_isAllSeen) 2 [(0, .ref a0), (1, .ref a1), (2, .int q)] [] sz M 0 0 from fun n b0 r h => H n b0 r h
  refine x_loop (P := fun (q : Int32) (r : Int32) => x_V l D aC bs yX8_isAllSeen cX8_isAllSeen 4 (some .boolean) rm_X8_isAllSeen (x_Z D aC bs (some (.int r)) sz M rm_X8_isAllSeen) 2 [(0, .ref a0), (1, .ref a1), (2, .int q)] [] sz M 0 0) (fun k2 hk0 q r h => ?_)
  have hk2 : ∀ (b0 : Int32) (r : Int32), k2 b0 = some r → x_V l D aC bs yX8_isAllSeen cX8_isAllSeen 4 (some .boolean) rm_X8_isAllSeen (x_Z D aC bs (some (.int r)) sz M rm_X8_isAllSeen) 2 [(0, .ref a0), (1, .ref a1), (2, .int b0)] [] sz M 0 0 := fun b0 r h => hk0 b0 r h
  unfold b_X8_isAllSeen_2 at h
  refine x_iload_n dX8_isAllSeen_2 2 rfl ?_
  refine x_aload_n dX8_isAllSeen_3 0 rfl ?_
  obtain ⟨v1, ev1, h⟩ := x_bd h
  refine x_getR clX8 w_fl_RX8_14 (by decide) dX8_isAllSeen_4 ev1 ?_
  obtain ⟨v2, ev2, h⟩ := x_bd h
  refine x_getR clX4 w_fl_RX8_259 (by decide) dX8_isAllSeen_7 ev2 ?_
  obtain ⟨v3, ev3, h⟩ := x_bd h
  refine x_getI clX2 w_fl_RX8_276 (by decide) dX8_isAllSeen_10 ev3 ?_
  refine x_icmp_ge 65 dX8_isAllSeen_13 (by decide) (fun c4 => ?_) (fun c4 => ?_)
  · have h := (if_pos c4).symm.trans h
    refine x_iconst (v := (1 : Int32)) dX8_isAllSeen_65 (by decide) ?_
    obtain rfl := Option.some.inj h
    exact x_zret dX8_isAllSeen_66 (Or.inr rfl) (Nat.le_of_ble_eq_true rfl) (Nat.le_of_ble_eq_true rfl)
  have h := (if_neg c4).symm.trans h
  refine x_aload_n dX8_isAllSeen_16 0 rfl ?_
  obtain ⟨v5, ev5, h⟩ := x_bd h
  refine x_getR clX8 w_fl_RX8_14 (by decide) dX8_isAllSeen_17 ev5 ?_
  obtain ⟨v6, ev6, h⟩ := x_bd h
  refine x_getR clX4 w_fl_RX8_259 (by decide) dX8_isAllSeen_20 ev6 ?_
  obtain ⟨v7, ev7, h⟩ := x_bd h
  refine x_getR clX2 w_fl_RX8_277 (by decide) dX8_isAllSeen_23 ev7 ?_
  refine x_iload_n dX8_isAllSeen_26 2 rfl ?_
  obtain ⟨v8, ev8, h⟩ := x_bd h
  refine x_iald dX8_isAllSeen_27 ev8 ?_
  refine x_istore_n 3 [(3, .int v8), (0, .ref a0), (1, .ref a1), (2, .int q)] dX8_isAllSeen_28 rfl (by decide) rfl ?_
  refine x_aload_n dX8_isAllSeen_29 2 rfl ?_
  refine x_iload_n dX8_isAllSeen_30 0 rfl ?_
  obtain ⟨u9, eu9, h⟩ := x_bd h
  obtain ⟨p10, ep10, h⟩ := x_bd h
  refine x_callVI [.int v8] [] clX3 me_X3_hasPoint w_ml_RX8_232 w_im_yX3_hasPoint w_se_yX3_hasPoint (Nat.le_of_ble_eq_true rfl) (Nat.le_of_ble_eq_true rfl) rfl (Nat.le_of_ble_eq_true rfl) (Nat.le_of_ble_eq_true rfl) (Nat.le_of_ble_eq_true rfl) dX8_isAllSeen_31 eu9 (c_X3_hasPoint l D aC bs sz F ep10) rfl ?_
  refine x_if_eq 57 dX8_isAllSeen_34 (by decide) (fun c11 => ?_) (fun c11 => ?_)
  · have h := (if_pos c11).symm.trans h
    refine x_iconst (v := (0 : Int32)) dX8_isAllSeen_57 (by decide) ?_
    obtain rfl := Option.some.inj h
    exact x_zret dX8_isAllSeen_58 (Or.inl rfl) (Nat.le_of_ble_eq_true rfl) (Nat.le_of_ble_eq_true rfl)
  have h := (if_neg c11).symm.trans h
  refine x_aload_n dX8_isAllSeen_37 2 rfl ?_
  refine x_iload_n dX8_isAllSeen_38 0 rfl ?_
  obtain ⟨u12, eu12, h⟩ := x_bd h
  obtain ⟨p13, ep13, h⟩ := x_bd h
  refine x_callVI [.int v8] [] clX3 me_X3_goesTo w_ml_RX8_235 w_im_yX3_goesTo w_se_yX3_goesTo (Nat.le_of_ble_eq_true rfl) (Nat.le_of_ble_eq_true rfl) rfl (Nat.le_of_ble_eq_true rfl) (Nat.le_of_ble_eq_true rfl) (Nat.le_of_ble_eq_true rfl) dX8_isAllSeen_39 eu12 (c_X3_goesTo l D aC bs sz F ep13) rfl ?_
  refine x_aload_n dX8_isAllSeen_42 1 rfl ?_
  obtain ⟨v14, ev14, h⟩ := x_bd h
  refine x_getR clX8 w_fl_RX8_14 (by decide) dX8_isAllSeen_43 ev14 ?_
  obtain ⟨v15, ev15, h⟩ := x_bd h
  refine x_getR clX4 w_fl_RX8_259 (by decide) dX8_isAllSeen_46 ev15 ?_
  obtain ⟨v16, ev16, h⟩ := x_bd h
  refine x_getR clX2 w_fl_RX8_278 (by decide) dX8_isAllSeen_49 ev16 ?_
  refine x_iload_n dX8_isAllSeen_52 3 rfl ?_
  obtain ⟨v17, ev17, h⟩ := x_bd h
  refine x_iald dX8_isAllSeen_53 ev17 ?_
  refine x_icmp_eq 59 dX8_isAllSeen_54 (by decide) (fun c18 => ?_) (fun c18 => ?_)
  · have h := (if_pos c18).symm.trans h
    refine x_iinc (1 : Int32) 3 [(2, .int (q + (1 : Int32))), (3, .int v8), (0, .ref a0), (1, .ref a1)] dX8_isAllSeen_59 rfl (by decide) (by decide) rfl ?_
    refine x_goto 2 dX8_isAllSeen_62 (by decide) ?_
    exact x_sub [2, 3, 0] rfl (hk2 _ _ h)
  have h := (if_neg c18).symm.trans h
  refine x_iconst (v := (0 : Int32)) dX8_isAllSeen_57 (by decide) ?_
  obtain rfl := Option.some.inj h
  exact x_zret dX8_isAllSeen_58 (Or.inl rfl) (Nat.le_of_ble_eq_true rfl) (Nat.le_of_ble_eq_true rfl)
def f_X8_isAllSeen (F : Nat) (a0 : Nat) (a1 : Nat) (M : XM) : Option (Int32) := x_it (b_X8_isAllSeen_2 F (a0) (a1) M) F (0 : Int32)
set_option maxHeartbeats 4000000 in
set_option maxRecDepth 100000 in
theorem c_X8_isAllSeen (l : Launch) (D : va_G) (aC : FieldType → ClassId) (bs sz : Nat) (F : Nat) {a0 : Nat} {a1 : Nat} {M : XM} {r : Int32} (h : f_X8_isAllSeen F a0 a1 M = some r) : x_Cn l D aC bs yX8_isAllSeen cX8_isAllSeen 4 (some .boolean) rm_X8_isAllSeen [.ref a0, .ref a1] sz M (some (.int r)) sz M := by
  unfold f_X8_isAllSeen at h
  refine x_enter2 [(0, .ref a0), (1, .ref a1)] me_X8_isAllSeen (Nat.le_of_ble_eq_true rfl) rfl ?_
  refine x_iconst (v := (0 : Int32)) dX8_isAllSeen_0 (by decide) ?_
  refine x_istore_n 2 [(2, .int (0 : Int32)), (0, .ref a0), (1, .ref a1)] dX8_isAllSeen_1 rfl (by decide) rfl ?_
  exact x_sub [1, 2, 0] rfl (lp_X8_isAllSeen_2 l D aC bs sz F (a0) (a1) M  F _ _ h)
