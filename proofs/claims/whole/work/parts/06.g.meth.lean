-- SwappedIntervalsModel.mean(I)J
abbrev rm_X9_mean : Room := { frames := 1, cells := 0, slots := 0, locals := 30 }
theorem me_X9_mean : x_Me yX9_mean cX9_mean 5 (some .long) 1 := ⟨by decide +kernel, w_co_yX9_mean, w_in_SwappedIntervalsModel, by decide +kernel, by decide +kernel, by decide +kernel⟩
def b_X9_mean_24 (F : Nat) (a0 : Nat) (a1 : Int32) (a2 : Int32) (M : XM)  (k24 : (Int32 × Int32) → Option (Int64 × XM)) (q : Int32 × Int32) : Option (Int64 × XM) := if a2 ≤ q.2 then (f_X9_told_ F q.1.toInt64 a2.toInt64 a1 M).bind fun p6 => some (p6, M) else (x_gR M a0 9 11).bind fun v7 => (x_a32 .int M v7 q.2).bind fun v8 => if q.2 ≤ v8 then (x_gR M a0 9 11).bind fun v10 => (x_a32 .int M v10 q.2).bind fun v11 => k24 ((q.1 + (v11 - q.2)), (q.2 + (1 : Int32))) else (x_gR M a0 9 11).bind fun v12 => (x_a32 .int M v12 q.2).bind fun v13 => k24 ((q.1 + (q.2 - v13)), (q.2 + (1 : Int32)))
set_option maxHeartbeats 4000000 in
set_option maxRecDepth 100000 in
theorem lp_X9_mean_24 (l : Launch) (D : va_G) (aC : FieldType → ClassId) (bs : Nat) (sz : Nat) (F : Nat) (a0 : Nat) (a1 : Int32) (a2 : Int32) (M : XM)   : ∀ (n : Nat) (b0 : Int32) (b1 : Int32) (r : Int64 × XM), x_it (b_X9_mean_24 F a0 a1 a2 M ) n (b0, b1) = some r → x_V l D aC bs yX9_mean cX9_mean 5 (some .long) rm_X9_mean (x_Z D aC bs (some (.long r.1)) sz r.2 rm_X9_mean) 24 [(0, .ref a0), (1, .int a1), (2, .int a2), (3, .int b0), (4, .int b1)] [] sz M 0 0 := by
  suffices H : ∀ (n : Nat) (q : Int32 × Int32) (r : Int64 × XM), x_it (b_X9_mean_24 F a0 a1 a2 M ) n q = some r → x_V l D aC bs yX9_mean cX9_mean 5 (some .long) rm_X9_mean (x_Z D aC bs (some (.long r.1)) sz r.2 rm_X9_mean) 24 [(0, .ref a0), (1, .int a1), (2, .int a2), (3, .int q.1), (4, .int q.2)] [] sz M 0 0 from fun n b0 b1 r h => H n (b0, b1) r h
  refine x_loop (P := fun (q : Int32 × Int32) (r : Int64 × XM) => x_V l D aC bs yX9_mean cX9_mean 5 (some .long) rm_X9_mean (x_Z D aC bs (some (.long r.1)) sz r.2 rm_X9_mean) 24 [(0, .ref a0), (1, .int a1), (2, .int a2), (3, .int q.1), (4, .int q.2)] [] sz M 0 0) (fun k24 hk0 q r h => ?_)
  have hk24 : ∀ (b0 : Int32) (b1 : Int32) (r : Int64 × XM), k24 (b0, b1) = some r → x_V l D aC bs yX9_mean cX9_mean 5 (some .long) rm_X9_mean (x_Z D aC bs (some (.long r.1)) sz r.2 rm_X9_mean) 24 [(0, .ref a0), (1, .int a1), (2, .int a2), (3, .int b0), (4, .int b1)] [] sz M 0 0 := fun b0 b1 r h => hk0 (b0, b1) r h
  unfold b_X9_mean_24 at h
  refine x_iload dX9_mean_24 4 rfl ?_
  refine x_iload_n dX9_mean_26 2 rfl ?_
  refine x_icmp_ge 74 dX9_mean_27 (by decide) (fun c5 => ?_) (fun c5 => ?_)
  · have h := (if_pos c5).symm.trans h
    refine x_iload_n dX9_mean_74 3 rfl ?_
    refine x_i2l dX9_mean_75 ?_
    refine x_iload_n dX9_mean_76 2 rfl ?_
    refine x_i2l dX9_mean_77 ?_
    refine x_iload_n dX9_mean_78 1 rfl ?_
    obtain ⟨p6, ep6, h⟩ := x_bd h
    refine x_callSJ [.long q.1.toInt64, .long a2.toInt64, .int a1] [] me_X9_told_ w_ml_RX9_227 w_st_yX9_told_ (Nat.le_of_ble_eq_true rfl) (Nat.le_of_ble_eq_true rfl) rfl (Nat.le_of_ble_eq_true rfl) (Nat.le_of_ble_eq_true rfl) (Nat.le_of_ble_eq_true rfl) dX9_mean_79 (c_X9_told_ l D aC bs sz F ep6) rfl ?_
    obtain rfl := Option.some.inj h
    exact x_lret dX9_mean_82 (Nat.le_of_ble_eq_true rfl) (Nat.le_of_ble_eq_true rfl)
  have h := (if_neg c5).symm.trans h
  refine x_iload_n dX9_mean_30 3 rfl ?_
  refine x_aload_n dX9_mean_31 0 rfl ?_
  obtain ⟨v7, ev7, h⟩ := x_bd h
  refine x_getR clX9 w_fl_RX9_30 (by decide) dX9_mean_32 ev7 ?_
  refine x_iload dX9_mean_35 4 rfl ?_
  obtain ⟨v8, ev8, h⟩ := x_bd h
  refine x_iald dX9_mean_37 ev8 ?_
  refine x_iload dX9_mean_38 4 rfl ?_
  refine x_icmp_ge 56 dX9_mean_40 (by decide) (fun c9 => ?_) (fun c9 => ?_)
  · have h := (if_pos c9).symm.trans h
    refine x_aload_n dX9_mean_56 0 rfl ?_
    obtain ⟨v10, ev10, h⟩ := x_bd h
    refine x_getR clX9 w_fl_RX9_30 (by decide) dX9_mean_57 ev10 ?_
    refine x_iload dX9_mean_60 4 rfl ?_
    obtain ⟨v11, ev11, h⟩ := x_bd h
    refine x_iald dX9_mean_62 ev11 ?_
    refine x_iload dX9_mean_63 4 rfl ?_
    refine x_isub dX9_mean_65 ?_
    refine x_iadd dX9_mean_66 ?_
    refine x_istore_n 3 [(3, .int (q.1 + (v11 - q.2))), (0, .ref a0), (1, .int a1), (2, .int a2), (4, .int q.2)] dX9_mean_67 rfl (by decide) rfl ?_
    refine x_iinc (1 : Int32) 4 [(4, .int (q.2 + (1 : Int32))), (3, .int (q.1 + (v11 - q.2))), (0, .ref a0), (1, .int a1), (2, .int a2)] dX9_mean_68 rfl (by decide) (by decide) rfl ?_
    refine x_goto 24 dX9_mean_71 (by decide) ?_
    exact x_sub [2, 3, 4, 1, 0] rfl (hk24 _ _ _ h)
  have h := (if_neg c9).symm.trans h
  refine x_iload dX9_mean_43 4 rfl ?_
  refine x_aload_n dX9_mean_45 0 rfl ?_
  obtain ⟨v12, ev12, h⟩ := x_bd h
  refine x_getR clX9 w_fl_RX9_30 (by decide) dX9_mean_46 ev12 ?_
  refine x_iload dX9_mean_49 4 rfl ?_
  obtain ⟨v13, ev13, h⟩ := x_bd h
  refine x_iald dX9_mean_51 ev13 ?_
  refine x_isub dX9_mean_52 ?_
  refine x_goto 66 dX9_mean_53 (by decide) ?_
  refine x_iadd dX9_mean_66 ?_
  refine x_istore_n 3 [(3, .int (q.1 + (q.2 - v13))), (0, .ref a0), (1, .int a1), (2, .int a2), (4, .int q.2)] dX9_mean_67 rfl (by decide) rfl ?_
  refine x_iinc (1 : Int32) 4 [(4, .int (q.2 + (1 : Int32))), (3, .int (q.1 + (q.2 - v13))), (0, .ref a0), (1, .int a1), (2, .int a2)] dX9_mean_68 rfl (by decide) (by decide) rfl ?_
  refine x_goto 24 dX9_mean_71 (by decide) ?_
  exact x_sub [2, 3, 4, 1, 0] rfl (hk24 _ _ _ h)
def f_X9_mean (F : Nat) (a0 : Nat) (a1 : Int32) (M : XM) : Option (Int64 × XM) := (f_X9_in a1.toInt64 (0 : Int64) (1 : Int64) M).bind fun p1 => if p1 = 0 then some ((-9223372036854775808 : Int64), M) else (x_ob M a0 9).bind fun u3 => (f_X9_findsPoints F a0 M).bind fun p4 => x_it (b_X9_mean_24 F (a0) (a1) (p4.1) p4.2) F ((0 : Int32), (0 : Int32))
set_option maxHeartbeats 4000000 in
set_option maxRecDepth 100000 in
theorem c_X9_mean (l : Launch) (D : va_G) (aC : FieldType → ClassId) (bs sz : Nat) (F : Nat) {a0 : Nat} {a1 : Int32} {M : XM} {r : Int64 × XM} (h : f_X9_mean F a0 a1 M = some r) : x_Cn l D aC bs yX9_mean cX9_mean 5 (some .long) rm_X9_mean [.ref a0, .int a1] sz M (some (.long r.1)) sz r.2 := by
  unfold f_X9_mean at h
  refine x_enter2 [(0, .ref a0), (1, .int a1)] me_X9_mean (Nat.le_of_ble_eq_true rfl) rfl ?_
  refine x_iload_n dX9_mean_0 1 rfl ?_
  refine x_i2l dX9_mean_1 ?_
  refine x_lconst (v := (0 : Int64)) dX9_mean_2 (by decide) ?_
  refine x_lconst (v := (1 : Int64)) dX9_mean_3 (by decide) ?_
  obtain ⟨p1, ep1, h⟩ := x_bd h
  refine x_callSI [.long a1.toInt64, .long (0 : Int64), .long (1 : Int64)] [] me_X9_in w_ml_RX9_66 w_st_yX9_in (Nat.le_of_ble_eq_true rfl) (Nat.le_of_ble_eq_true rfl) rfl (Nat.le_of_ble_eq_true rfl) (Nat.le_of_ble_eq_true rfl) (Nat.le_of_ble_eq_true rfl) dX9_mean_4 (c_X9_in l D aC bs sz ep1) rfl ?_
  refine x_if_ne 14 dX9_mean_7 (by decide) (fun c2 => ?_) (fun c2 => ?_)
  · have h := (if_neg c2).symm.trans h
    refine x_aload_n dX9_mean_14 0 rfl ?_
    obtain ⟨u3, eu3, h⟩ := x_bd h
    obtain ⟨p4, ep4, h⟩ := x_bd h
    refine x_callVI [] [] clX9 me_X9_findsPoints w_ml_RX9_188 w_im_yX9_findsPoints w_se_yX9_findsPoints (Nat.le_of_ble_eq_true rfl) (Nat.le_of_ble_eq_true rfl) rfl (Nat.le_of_ble_eq_true rfl) (Nat.le_of_ble_eq_true rfl) (Nat.le_of_ble_eq_true rfl) dX9_mean_15 eu3 (c_X9_findsPoints l D aC bs sz F ep4) rfl ?_
    refine x_istore_n 2 [(2, .int p4.1), (0, .ref a0), (1, .int a1)] dX9_mean_18 rfl (by decide) rfl ?_
    refine x_iconst (v := (0 : Int32)) dX9_mean_19 (by decide) ?_
    refine x_istore_n 3 [(3, .int (0 : Int32)), (2, .int p4.1), (0, .ref a0), (1, .int a1)] dX9_mean_20 rfl (by decide) rfl ?_
    refine x_iconst (v := (0 : Int32)) dX9_mean_21 (by decide) ?_
    refine x_istore [(4, .int (0 : Int32)), (3, .int (0 : Int32)), (2, .int p4.1), (0, .ref a0), (1, .int a1)] dX9_mean_22 (by decide) rfl ?_
    exact x_sub [3, 4, 2, 1, 0] rfl (lp_X9_mean_24 l D aC bs sz F (a0) (a1) (p4.1) p4.2  F _ _ _ h)
  have h := (if_pos c2).symm.trans h
  refine x_ldc2 (v := (-9223372036854775808 : Int64)) dX9_mean_10 w_cn_RX9_225 ?_
  obtain rfl := Option.some.inj h
  exact x_lret dX9_mean_13 (Nat.le_of_ble_eq_true rfl) (Nat.le_of_ble_eq_true rfl)

-- SwappedIntervalsModel.event(II)I
abbrev rm_X9_event : Room := { frames := 2, cells := 0, slots := 0, locals := 46 }
theorem me_X9_event : x_Me yX9_event cX9_event 3 (some .int) 2 := ⟨by decide +kernel, w_co_yX9_event, w_in_SwappedIntervalsModel, by decide +kernel, by decide +kernel, by decide +kernel⟩
def j_X9_event_68 (a0 : Nat) (a1 : Int32) (a2 : Int32) (M : XM)  : Option (Int32 × XM) := (x_gR M a0 9 0).bind fun v7 => (x_a32 .int M v7 (26 : Int32)).bind fun v8 => if v8 = (8 : Int32) then some ((-4 : Int32), M) else (x_gR M a0 9 0).bind fun v10 => (x_gR M a0 9 0).bind fun v11 => (x_a32 .int M v11 (26 : Int32)).bind fun v12 => (x_w32 .int M v10 ((27 : Int32) + ((2 : Int32) * v12)) a1).bind fun m13 => (x_gR m13 a0 9 0).bind fun v14 => (x_gR m13 a0 9 0).bind fun v15 => (x_a32 .int m13 v15 (26 : Int32)).bind fun v16 => (x_w32 .int m13 v14 (((27 : Int32) + ((2 : Int32) * v16)) + (1 : Int32)) a2).bind fun m17 => (x_gR m17 a0 9 0).bind fun v18 => (x_a32 .int m17 v18 (26 : Int32)).bind fun v19 => (x_w32 .int m17 v18 (26 : Int32) (v19 + (1 : Int32))).bind fun m20 => (x_gR m20 a0 9 0).bind fun v21 => (x_a32 .int m20 v21 (26 : Int32)).bind fun v22 => some (v22, m20)
set_option maxHeartbeats 4000000 in
set_option maxRecDepth 100000 in
theorem jp_X9_event_68 (l : Launch) (D : va_G) (aC : FieldType → ClassId) (bs : Nat) (sz : Nat) (a0 : Nat) (a1 : Int32) (a2 : Int32) (M : XM)   {r : Int32 × XM} (h : j_X9_event_68 a0 a1 a2 M  = some r) : x_V l D aC bs yX9_event cX9_event 3 (some .int) rm_X9_event (x_Z D aC bs (some (.int r.1)) sz r.2 rm_X9_event) 68 [(0, .ref a0), (1, .int a1), (2, .int a2)] [] sz M 0 0 := by
  unfold j_X9_event_68 at h
  refine x_aload_n dX9_event_68 0 rfl ?_
  obtain ⟨v7, ev7, h⟩ := x_bd h
  refine x_getR clX9 w_fl_RX9_11 (by decide) dX9_event_69 ev7 ?_
  refine x_bipush (v := (26 : Int32)) dX9_event_72 (by decide) ?_
  obtain ⟨v8, ev8, h⟩ := x_bd h
  refine x_iald dX9_event_74 ev8 ?_
  refine x_bipush (v := (8 : Int32)) dX9_event_75 (by decide) ?_
  refine x_icmp_ne 83 dX9_event_77 (by decide) (fun c9 => ?_) (fun c9 => ?_)
  · have h := (if_neg c9).symm.trans h
    refine x_aload_n dX9_event_83 0 rfl ?_
    obtain ⟨v10, ev10, h⟩ := x_bd h
    refine x_getR clX9 w_fl_RX9_11 (by decide) dX9_event_84 ev10 ?_
    refine x_bipush (v := (27 : Int32)) dX9_event_87 (by decide) ?_
    refine x_iconst (v := (2 : Int32)) dX9_event_89 (by decide) ?_
    refine x_aload_n dX9_event_90 0 rfl ?_
    obtain ⟨v11, ev11, h⟩ := x_bd h
    refine x_getR clX9 w_fl_RX9_11 (by decide) dX9_event_91 ev11 ?_
    refine x_bipush (v := (26 : Int32)) dX9_event_94 (by decide) ?_
    obtain ⟨v12, ev12, h⟩ := x_bd h
    refine x_iald dX9_event_96 ev12 ?_
    refine x_imul dX9_event_97 ?_
    refine x_iadd dX9_event_98 ?_
    refine x_iload_n dX9_event_99 1 rfl ?_
    obtain ⟨m13, em13, h⟩ := x_bd h
    refine x_iast dX9_event_100 em13 ?_
    refine x_aload_n dX9_event_101 0 rfl ?_
    obtain ⟨v14, ev14, h⟩ := x_bd h
    refine x_getR clX9 w_fl_RX9_11 (by decide) dX9_event_102 ev14 ?_
    refine x_bipush (v := (27 : Int32)) dX9_event_105 (by decide) ?_
    refine x_iconst (v := (2 : Int32)) dX9_event_107 (by decide) ?_
    refine x_aload_n dX9_event_108 0 rfl ?_
    obtain ⟨v15, ev15, h⟩ := x_bd h
    refine x_getR clX9 w_fl_RX9_11 (by decide) dX9_event_109 ev15 ?_
    refine x_bipush (v := (26 : Int32)) dX9_event_112 (by decide) ?_
    obtain ⟨v16, ev16, h⟩ := x_bd h
    refine x_iald dX9_event_114 ev16 ?_
    refine x_imul dX9_event_115 ?_
    refine x_iadd dX9_event_116 ?_
    refine x_iconst (v := (1 : Int32)) dX9_event_117 (by decide) ?_
    refine x_iadd dX9_event_118 ?_
    refine x_iload_n dX9_event_119 2 rfl ?_
    obtain ⟨m17, em17, h⟩ := x_bd h
    refine x_iast dX9_event_120 em17 ?_
    refine x_aload_n dX9_event_121 0 rfl ?_
    obtain ⟨v18, ev18, h⟩ := x_bd h
    refine x_getR clX9 w_fl_RX9_11 (by decide) dX9_event_122 ev18 ?_
    refine x_bipush (v := (26 : Int32)) dX9_event_125 (by decide) ?_
    refine x_dup2 dX9_event_127 rfl rfl ?_
    obtain ⟨v19, ev19, h⟩ := x_bd h
    refine x_iald dX9_event_128 ev19 ?_
    refine x_iconst (v := (1 : Int32)) dX9_event_129 (by decide) ?_
    refine x_iadd dX9_event_130 ?_
    obtain ⟨m20, em20, h⟩ := x_bd h
    refine x_iast dX9_event_131 em20 ?_
    refine x_aload_n dX9_event_132 0 rfl ?_
    obtain ⟨v21, ev21, h⟩ := x_bd h
    refine x_getR clX9 w_fl_RX9_11 (by decide) dX9_event_133 ev21 ?_
    refine x_bipush (v := (26 : Int32)) dX9_event_136 (by decide) ?_
    obtain ⟨v22, ev22, h⟩ := x_bd h
    refine x_iald dX9_event_138 ev22 ?_
    obtain rfl := Option.some.inj h
    exact x_iret dX9_event_139 (Nat.le_of_ble_eq_true rfl) (Nat.le_of_ble_eq_true rfl)
  have h := (if_pos c9).symm.trans h
  refine x_bipush (v := (-4 : Int32)) dX9_event_80 (by decide) ?_
  obtain rfl := Option.some.inj h
  exact x_iret dX9_event_82 (Nat.le_of_ble_eq_true rfl) (Nat.le_of_ble_eq_true rfl)
def j_X9_event_57 (a0 : Nat) (a1 : Int32) (a2 : Int32) (M : XM)  : Option (Int32 × XM) := if a1 = 0 then if a2 = 0 then j_X9_event_68 (a0) (a1) (a2) M else some ((-2 : Int32), M) else j_X9_event_68 (a0) (a1) (a2) M
set_option maxHeartbeats 4000000 in
set_option maxRecDepth 100000 in
theorem jp_X9_event_57 (l : Launch) (D : va_G) (aC : FieldType → ClassId) (bs : Nat) (sz : Nat) (a0 : Nat) (a1 : Int32) (a2 : Int32) (M : XM)   {r : Int32 × XM} (h : j_X9_event_57 a0 a1 a2 M  = some r) : x_V l D aC bs yX9_event cX9_event 3 (some .int) rm_X9_event (x_Z D aC bs (some (.int r.1)) sz r.2 rm_X9_event) 57 [(0, .ref a0), (1, .int a1), (2, .int a2)] [] sz M 0 0 := by
  unfold j_X9_event_57 at h
  refine x_iload_n dX9_event_57 1 rfl ?_
  refine x_if_ne 68 dX9_event_58 (by decide) (fun c6 => ?_) (fun c6 => ?_)
  · have h := (if_neg c6).symm.trans h
    exact jp_X9_event_68 l D aC bs sz (a0) (a1) (a2) M  h
  have h := (if_pos c6).symm.trans h
  refine x_iload_n dX9_event_61 2 rfl ?_
  refine x_if_eq 68 dX9_event_62 (by decide) (fun c23 => ?_) (fun c23 => ?_)
  · have h := (if_pos c23).symm.trans h
    exact jp_X9_event_68 l D aC bs sz (a0) (a1) (a2) M  h
  have h := (if_neg c23).symm.trans h
  refine x_bipush (v := (-2 : Int32)) dX9_event_65 (by decide) ?_
  obtain rfl := Option.some.inj h
  exact x_iret dX9_event_67 (Nat.le_of_ble_eq_true rfl) (Nat.le_of_ble_eq_true rfl)
def j_X9_event_40 (a0 : Nat) (a1 : Int32) (a2 : Int32) (M : XM)  : Option (Int32 × XM) := if a1 = (2 : Int32) then (f_X9_in a2.toInt64 (0 : Int64) (1 : Int64) M).bind fun p24 => if p24 = 0 then some ((-1 : Int32), M) else j_X9_event_57 (a0) (a1) (a2) M else j_X9_event_57 (a0) (a1) (a2) M
set_option maxHeartbeats 4000000 in
set_option maxRecDepth 100000 in
theorem jp_X9_event_40 (l : Launch) (D : va_G) (aC : FieldType → ClassId) (bs : Nat) (sz : Nat) (a0 : Nat) (a1 : Int32) (a2 : Int32) (M : XM)   {r : Int32 × XM} (h : j_X9_event_40 a0 a1 a2 M  = some r) : x_V l D aC bs yX9_event cX9_event 3 (some .int) rm_X9_event (x_Z D aC bs (some (.int r.1)) sz r.2 rm_X9_event) 40 [(0, .ref a0), (1, .int a1), (2, .int a2)] [] sz M 0 0 := by
  unfold j_X9_event_40 at h
  refine x_iload_n dX9_event_40 1 rfl ?_
  refine x_iconst (v := (2 : Int32)) dX9_event_41 (by decide) ?_
  refine x_icmp_ne 57 dX9_event_42 (by decide) (fun c5 => ?_) (fun c5 => ?_)
  · have h := (if_neg c5).symm.trans h
    exact jp_X9_event_57 l D aC bs sz (a0) (a1) (a2) M  h
  have h := (if_pos c5).symm.trans h
  refine x_iload_n dX9_event_45 2 rfl ?_
  refine x_i2l dX9_event_46 ?_
  refine x_lconst (v := (0 : Int64)) dX9_event_47 (by decide) ?_
  refine x_lconst (v := (1 : Int64)) dX9_event_48 (by decide) ?_
  obtain ⟨p24, ep24, h⟩ := x_bd h
  refine x_callSI [.long a2.toInt64, .long (0 : Int64), .long (1 : Int64)] [] me_X9_in w_ml_RX9_66 w_st_yX9_in (Nat.le_of_ble_eq_true rfl) (Nat.le_of_ble_eq_true rfl) rfl (Nat.le_of_ble_eq_true rfl) (Nat.le_of_ble_eq_true rfl) (Nat.le_of_ble_eq_true rfl) dX9_event_49 (c_X9_in l D aC bs sz ep24) rfl ?_
  refine x_if_ne 57 dX9_event_52 (by decide) (fun c25 => ?_) (fun c25 => ?_)
  · have h := (if_neg c25).symm.trans h
    exact jp_X9_event_57 l D aC bs sz (a0) (a1) (a2) M  h
  have h := (if_pos c25).symm.trans h
  refine x_iconst (v := (-1 : Int32)) dX9_event_55 (by decide) ?_
  obtain rfl := Option.some.inj h
  exact x_iret dX9_event_56 (Nat.le_of_ble_eq_true rfl) (Nat.le_of_ble_eq_true rfl)
def f_X9_event (a0 : Nat) (a1 : Int32) (a2 : Int32) (M : XM) : Option (Int32 × XM) := if a1 = (-1 : Int32) then (x_gR M a0 9 0).bind fun v29 => (x_w32 .int M v29 (26 : Int32) (0 : Int32)).bind fun m30 => some ((0 : Int32), m30) else (f_X9_in a1.toInt64 (0 : Int64) (2 : Int64) M).bind fun p2 => if p2 = 0 then some ((-1 : Int32), M) else if a1 = (1 : Int32) then (x_ob M a0 9).bind fun u26 => (f_X9_isLetter a0 a2 M).bind fun p27 => if p27 = 0 then some ((-1 : Int32), M) else j_X9_event_40 (a0) (a1) (a2) M else j_X9_event_40 (a0) (a1) (a2) M
set_option maxHeartbeats 4000000 in
set_option maxRecDepth 100000 in
theorem c_X9_event (l : Launch) (D : va_G) (aC : FieldType → ClassId) (bs sz : Nat) {a0 : Nat} {a1 : Int32} {a2 : Int32} {M : XM} {r : Int32 × XM} (h : f_X9_event a0 a1 a2 M = some r) : x_Cn l D aC bs yX9_event cX9_event 3 (some .int) rm_X9_event [.ref a0, .int a1, .int a2] sz M (some (.int r.1)) sz r.2 := by
  unfold f_X9_event at h
  refine x_enter2 [(0, .ref a0), (1, .int a1), (2, .int a2)] me_X9_event (Nat.le_of_ble_eq_true rfl) rfl ?_
  refine x_iload_n dX9_event_0 1 rfl ?_
  refine x_iconst (v := (-1 : Int32)) dX9_event_1 (by decide) ?_
  refine x_icmp_ne 15 dX9_event_2 (by decide) (fun c1 => ?_) (fun c1 => ?_)
  · have h := (if_neg c1).symm.trans h
    refine x_iload_n dX9_event_15 1 rfl ?_
    refine x_i2l dX9_event_16 ?_
    refine x_lconst (v := (0 : Int64)) dX9_event_17 (by decide) ?_
    refine x_ldc2 (v := (2 : Int64)) dX9_event_18 w_cn_RX9_95 ?_
    obtain ⟨p2, ep2, h⟩ := x_bd h
    refine x_callSI [.long a1.toInt64, .long (0 : Int64), .long (2 : Int64)] [] me_X9_in w_ml_RX9_66 w_st_yX9_in (Nat.le_of_ble_eq_true rfl) (Nat.le_of_ble_eq_true rfl) rfl (Nat.le_of_ble_eq_true rfl) (Nat.le_of_ble_eq_true rfl) (Nat.le_of_ble_eq_true rfl) dX9_event_21 (c_X9_in l D aC bs sz ep2) rfl ?_
    refine x_if_eq 55 dX9_event_24 (by decide) (fun c3 => ?_) (fun c3 => ?_)
    · have h := (if_pos c3).symm.trans h
      refine x_iconst (v := (-1 : Int32)) dX9_event_55 (by decide) ?_
      obtain rfl := Option.some.inj h
      exact x_iret dX9_event_56 (Nat.le_of_ble_eq_true rfl) (Nat.le_of_ble_eq_true rfl)
    have h := (if_neg c3).symm.trans h
    refine x_iload_n dX9_event_27 1 rfl ?_
    refine x_iconst (v := (1 : Int32)) dX9_event_28 (by decide) ?_
    refine x_icmp_ne 40 dX9_event_29 (by decide) (fun c4 => ?_) (fun c4 => ?_)
    · have h := (if_neg c4).symm.trans h
      exact jp_X9_event_40 l D aC bs sz (a0) (a1) (a2) M  h
    have h := (if_pos c4).symm.trans h
    refine x_aload_n dX9_event_32 0 rfl ?_
    refine x_iload_n dX9_event_33 2 rfl ?_
    obtain ⟨u26, eu26, h⟩ := x_bd h
    obtain ⟨p27, ep27, h⟩ := x_bd h
    refine x_callVI [.int a2] [] clX9 me_X9_isLetter w_ml_RX9_99 w_im_yX9_isLetter w_se_yX9_isLetter (Nat.le_of_ble_eq_true rfl) (Nat.le_of_ble_eq_true rfl) rfl (Nat.le_of_ble_eq_true rfl) (Nat.le_of_ble_eq_true rfl) (Nat.le_of_ble_eq_true rfl) dX9_event_34 eu26 (c_X9_isLetter l D aC bs sz ep27) rfl ?_
    refine x_if_eq 55 dX9_event_37 (by decide) (fun c28 => ?_) (fun c28 => ?_)
    · have h := (if_pos c28).symm.trans h
      refine x_iconst (v := (-1 : Int32)) dX9_event_55 (by decide) ?_
      obtain rfl := Option.some.inj h
      exact x_iret dX9_event_56 (Nat.le_of_ble_eq_true rfl) (Nat.le_of_ble_eq_true rfl)
    have h := (if_neg c28).symm.trans h
    exact jp_X9_event_40 l D aC bs sz (a0) (a1) (a2) M  h
  have h := (if_pos c1).symm.trans h
  refine x_aload_n dX9_event_5 0 rfl ?_
  obtain ⟨v29, ev29, h⟩ := x_bd h
  refine x_getR clX9 w_fl_RX9_11 (by decide) dX9_event_6 ev29 ?_
  refine x_bipush (v := (26 : Int32)) dX9_event_9 (by decide) ?_
  refine x_iconst (v := (0 : Int32)) dX9_event_11 (by decide) ?_
  obtain ⟨m30, em30, h⟩ := x_bd h
  refine x_iast dX9_event_12 em30 ?_
  refine x_iconst (v := (0 : Int32)) dX9_event_13 (by decide) ?_
  obtain rfl := Option.some.inj h
  exact x_iret dX9_event_14 (Nat.le_of_ble_eq_true rfl) (Nat.le_of_ble_eq_true rfl)

-- SwappedIntervalsModel.happens(II)V
abbrev rm_X9_happens : Room := { frames := 3, cells := 0, slots := 0, locals := 71 }
theorem me_X9_happens : x_Me yX9_happens cX9_happens 7 none 2 := ⟨by decide +kernel, w_co_yX9_happens, w_in_SwappedIntervalsModel, by decide +kernel, by decide +kernel, by decide +kernel⟩
def j_X9_happens_90 (F : Nat) (a0 : Nat) (a2 : Int32) (a3 : Int32) (s0 : Int32) (M : XM)  : Option (XM) := (x_ob M a0 9).bind fun u8 => (f_X9_placeIn F a0 s0 a3 M).bind fun p9 => (x_gR M a0 9 0).bind fun v10 => (x_a32 .int M v10 (0 : Int32)).bind fun v11 => if v11 ≤ (p9 + (1 : Int32)) then some M else (x_gR M a0 9 0).bind fun v13 => (x_a32 .int M v13 ((12 : Int32) + a3)).bind fun v14 => (x_gR M a0 9 0).bind fun v15 => (x_gR M a0 9 0).bind fun v16 => (x_a32 .int M v16 ((s0 + p9) + (1 : Int32))).bind fun v17 => (x_a32 .int M v15 ((12 : Int32) + v17)).bind fun v18 => if (99 : Int32) < (v14 + v18) then some M else (x_ob M a0 9).bind fun u20 => (f_X9_stepsBack F a0 a2 M).bind fun p21 => some p21.2
set_option maxHeartbeats 4000000 in
set_option maxRecDepth 100000 in
theorem jp_X9_happens_90 (l : Launch) (D : va_G) (aC : FieldType → ClassId) (bs : Nat) (sz : Nat) (F : Nat) (a0 : Nat) (a2 : Int32) (a3 : Int32) (s0 : Int32) (M : XM)   {r : XM} (h : j_X9_happens_90 F a0 a2 a3 s0 M  = some r) : x_V l D aC bs yX9_happens cX9_happens 7 none rm_X9_happens (x_Z D aC bs none sz r rm_X9_happens) 90 [(0, .ref a0), (2, .int a2), (3, .int a3)] [.int s0] sz M 0 0 := by
  unfold j_X9_happens_90 at h
  refine x_istore [(4, .int s0), (0, .ref a0), (2, .int a2), (3, .int a3)] dX9_happens_90 (by decide) rfl ?_
  refine x_aload_n dX9_happens_92 1 rfl ?_
  refine x_iload dX9_happens_93 0 rfl ?_
  refine x_iload_n dX9_happens_95 3 rfl ?_
  obtain ⟨u8, eu8, h⟩ := x_bd h
  obtain ⟨p9, ep9, h⟩ := x_bd h
  refine x_callVI [.int s0, .int a3] [] clX9 me_X9_placeIn w_ml_RX9_78 w_im_yX9_placeIn w_se_yX9_placeIn (Nat.le_of_ble_eq_true rfl) (Nat.le_of_ble_eq_true rfl) rfl (Nat.le_of_ble_eq_true rfl) (Nat.le_of_ble_eq_true rfl) (Nat.le_of_ble_eq_true rfl) dX9_happens_96 eu8 (c_X9_placeIn l D aC bs sz F ep9) rfl ?_
  refine x_istore [(5, .int p9), (4, .int s0), (0, .ref a0), (2, .int a2), (3, .int a3)] dX9_happens_99 (by decide) rfl ?_
  refine x_iload dX9_happens_101 0 rfl ?_
  refine x_iconst (v := (1 : Int32)) dX9_happens_103 (by decide) ?_
  refine x_iadd dX9_happens_104 ?_
  refine x_aload_n dX9_happens_105 2 rfl ?_
  obtain ⟨v10, ev10, h⟩ := x_bd h
  refine x_getR clX9 w_fl_RX9_11 (by decide) dX9_happens_106 ev10 ?_
  refine x_iconst (v := (0 : Int32)) dX9_happens_109 (by decide) ?_
  obtain ⟨v11, ev11, h⟩ := x_bd h
  refine x_iald dX9_happens_110 ev11 ?_
  refine x_icmp_ge 156 dX9_happens_111 (by decide) (fun c12 => ?_) (fun c12 => ?_)
  · have h := (if_pos c12).symm.trans h
    obtain rfl := Option.some.inj h
    exact x_vret dX9_happens_156 (Nat.le_of_ble_eq_true rfl) (Nat.le_of_ble_eq_true rfl)
  have h := (if_neg c12).symm.trans h
  refine x_aload_n dX9_happens_114 2 rfl ?_
  obtain ⟨v13, ev13, h⟩ := x_bd h
  refine x_getR clX9 w_fl_RX9_11 (by decide) dX9_happens_115 ev13 ?_
  refine x_bipush (v := (12 : Int32)) dX9_happens_118 (by decide) ?_
  refine x_iload_n dX9_happens_120 4 rfl ?_
  refine x_iadd dX9_happens_121 ?_
  obtain ⟨v14, ev14, h⟩ := x_bd h
  refine x_iald dX9_happens_122 ev14 ?_
  refine x_aload_n dX9_happens_123 2 rfl ?_
  obtain ⟨v15, ev15, h⟩ := x_bd h
  refine x_getR clX9 w_fl_RX9_11 (by decide) dX9_happens_124 ev15 ?_
  refine x_bipush (v := (12 : Int32)) dX9_happens_127 (by decide) ?_
  refine x_aload_n dX9_happens_129 2 rfl ?_
  obtain ⟨v16, ev16, h⟩ := x_bd h
  refine x_getR clX9 w_fl_RX9_11 (by decide) dX9_happens_130 ev16 ?_
  refine x_iload dX9_happens_133 1 rfl ?_
  refine x_iload dX9_happens_135 0 rfl ?_
  refine x_iadd dX9_happens_137 ?_
  refine x_iconst (v := (1 : Int32)) dX9_happens_138 (by decide) ?_
  refine x_iadd dX9_happens_139 ?_
  obtain ⟨v17, ev17, h⟩ := x_bd h
  refine x_iald dX9_happens_140 ev17 ?_
  refine x_iadd dX9_happens_141 ?_
  obtain ⟨v18, ev18, h⟩ := x_bd h
  refine x_iald dX9_happens_142 ev18 ?_
  refine x_iadd dX9_happens_143 ?_
  refine x_bipush (v := (99 : Int32)) dX9_happens_144 (by decide) ?_
  refine x_icmp_gt 156 dX9_happens_146 (by decide) (fun c19 => ?_) (fun c19 => ?_)
  · have h := (if_pos c19).symm.trans h
    obtain rfl := Option.some.inj h
    exact x_vret dX9_happens_156 (Nat.le_of_ble_eq_true rfl) (Nat.le_of_ble_eq_true rfl)
  have h := (if_neg c19).symm.trans h
  refine x_aload_n dX9_happens_149 2 rfl ?_
  refine x_iload_n dX9_happens_150 3 rfl ?_
  obtain ⟨u20, eu20, h⟩ := x_bd h
  obtain ⟨p21, ep21, h⟩ := x_bd h
  refine x_callVI [.int a2] [] clX9 me_X9_stepsBack w_ml_RX9_118 w_im_yX9_stepsBack w_se_yX9_stepsBack (Nat.le_of_ble_eq_true rfl) (Nat.le_of_ble_eq_true rfl) rfl (Nat.le_of_ble_eq_true rfl) (Nat.le_of_ble_eq_true rfl) (Nat.le_of_ble_eq_true rfl) dX9_happens_151 eu20 (c_X9_stepsBack l D aC bs sz F ep21) rfl ?_
  refine x_istore [(6, .int p21.1), (5, .int p9), (4, .int s0), (0, .ref a0), (2, .int a2), (3, .int a3)] dX9_happens_154 (by decide) rfl ?_
  obtain rfl := Option.some.inj h
  exact x_vret dX9_happens_156 (Nat.le_of_ble_eq_true rfl) (Nat.le_of_ble_eq_true rfl)
def j_X9_happens_76 (F : Nat) (a0 : Nat) (a2 : Int32) (s0 : Int32) (s1 : Nat) (M : XM)  : Option (XM) := (x_ob M s1 9).bind fun u5 => (f_X9_lastIn s1 s0 M).bind fun p6 => if a2 = 0 then j_X9_happens_90 F (a0) (a2) (p6) (7 : Int32) M else j_X9_happens_90 F (a0) (a2) (p6) (2 : Int32) M
set_option maxHeartbeats 4000000 in
set_option maxRecDepth 100000 in
theorem jp_X9_happens_76 (l : Launch) (D : va_G) (aC : FieldType → ClassId) (bs : Nat) (sz : Nat) (F : Nat) (a0 : Nat) (a2 : Int32) (s0 : Int32) (s1 : Nat) (M : XM)   {r : XM} (h : j_X9_happens_76 F a0 a2 s0 s1 M  = some r) : x_V l D aC bs yX9_happens cX9_happens 7 none rm_X9_happens (x_Z D aC bs none sz r rm_X9_happens) 76 [(0, .ref a0), (2, .int a2)] [.int s0, .ref s1] sz M 0 0 := by
  unfold j_X9_happens_76 at h
  obtain ⟨u5, eu5, h⟩ := x_bd h
  obtain ⟨p6, ep6, h⟩ := x_bd h
  refine x_callVI [.int s0] [] clX9 me_X9_lastIn w_ml_RX9_74 w_im_yX9_lastIn w_se_yX9_lastIn (Nat.le_of_ble_eq_true rfl) (Nat.le_of_ble_eq_true rfl) rfl (Nat.le_of_ble_eq_true rfl) (Nat.le_of_ble_eq_true rfl) (Nat.le_of_ble_eq_true rfl) dX9_happens_76 eu5 (c_X9_lastIn l D aC bs sz ep6) rfl ?_
  refine x_istore_n 3 [(3, .int p6), (0, .ref a0), (2, .int a2)] dX9_happens_79 rfl (by decide) rfl ?_
  refine x_iload_n dX9_happens_80 2 rfl ?_
  refine x_if_ne 89 dX9_happens_81 (by decide) (fun c7 => ?_) (fun c7 => ?_)
  · have h := (if_neg c7).symm.trans h
    refine x_iconst (v := (2 : Int32)) dX9_happens_89 (by decide) ?_
    exact x_sub [1, 2, 0] rfl (jp_X9_happens_90 l D aC bs sz F (a0) (a2) (p6) (2 : Int32) M  h)
  have h := (if_pos c7).symm.trans h
  refine x_bipush (v := (7 : Int32)) dX9_happens_84 (by decide) ?_
  refine x_goto 90 dX9_happens_86 (by decide) ?_
  exact x_sub [1, 2, 0] rfl (jp_X9_happens_90 l D aC bs sz F (a0) (a2) (p6) (7 : Int32) M  h)
def j_X9_happens_60 (F : Nat) (a0 : Nat) (a1 : Int32) (a2 : Int32) (M : XM)  : Option (XM) := if a1 = (2 : Int32) then if a2 = 0 then j_X9_happens_76 F (a0) (a2) (2 : Int32) (a0) M else j_X9_happens_76 F (a0) (a2) (7 : Int32) (a0) M else some M
set_option maxHeartbeats 4000000 in
set_option maxRecDepth 100000 in
theorem jp_X9_happens_60 (l : Launch) (D : va_G) (aC : FieldType → ClassId) (bs : Nat) (sz : Nat) (F : Nat) (a0 : Nat) (a1 : Int32) (a2 : Int32) (M : XM)   {r : XM} (h : j_X9_happens_60 F a0 a1 a2 M  = some r) : x_V l D aC bs yX9_happens cX9_happens 7 none rm_X9_happens (x_Z D aC bs none sz r rm_X9_happens) 60 [(0, .ref a0), (1, .int a1), (2, .int a2)] [] sz M 0 0 := by
  unfold j_X9_happens_60 at h
  refine x_iload_n dX9_happens_60 1 rfl ?_
  refine x_iconst (v := (2 : Int32)) dX9_happens_61 (by decide) ?_
  refine x_icmp_ne 156 dX9_happens_62 (by decide) (fun c3 => ?_) (fun c3 => ?_)
  · have h := (if_neg c3).symm.trans h
    obtain rfl := Option.some.inj h
    exact x_vret dX9_happens_156 (Nat.le_of_ble_eq_true rfl) (Nat.le_of_ble_eq_true rfl)
  have h := (if_pos c3).symm.trans h
  refine x_aload_n dX9_happens_65 0 rfl ?_
  refine x_iload_n dX9_happens_66 2 rfl ?_
  refine x_if_ne 74 dX9_happens_67 (by decide) (fun c4 => ?_) (fun c4 => ?_)
  · have h := (if_neg c4).symm.trans h
    refine x_bipush (v := (7 : Int32)) dX9_happens_74 (by decide) ?_
    exact x_sub [0, 2] rfl (jp_X9_happens_76 l D aC bs sz F (a0) (a2) (7 : Int32) (a0) M  h)
  have h := (if_pos c4).symm.trans h
  refine x_iconst (v := (2 : Int32)) dX9_happens_70 (by decide) ?_
  refine x_goto 76 dX9_happens_71 (by decide) ?_
  exact x_sub [0, 2] rfl (jp_X9_happens_76 l D aC bs sz F (a0) (a2) (2 : Int32) (a0) M  h)
def j_X9_happens_20 (F : Nat) (a0 : Nat) (a1 : Int32) (a2 : Int32) (M : XM)  : Option (XM) := if a1 = (1 : Int32) then (x_ob M a0 9).bind fun u22 => (f_X9_isLetter a0 a2 M).bind fun p23 => if p23 = 0 then j_X9_happens_60 F (a0) (a1) (a2) M else (x_gR M a0 9 0).bind fun v25 => (x_a32 .int M v25 ((12 : Int32) + a2)).bind fun v26 => if (99 : Int32) ≤ v26 then j_X9_happens_60 F (a0) (a1) (a2) M else (x_gR M a0 9 0).bind fun v28 => (x_a32 .int M v28 ((12 : Int32) + a2)).bind fun v29 => (x_w32 .int M v28 ((12 : Int32) + a2) (v29 + (1 : Int32))).bind fun m30 => j_X9_happens_60 F (a0) (a1) (a2) m30 else j_X9_happens_60 F (a0) (a1) (a2) M
set_option maxHeartbeats 4000000 in
set_option maxRecDepth 100000 in
theorem jp_X9_happens_20 (l : Launch) (D : va_G) (aC : FieldType → ClassId) (bs : Nat) (sz : Nat) (F : Nat) (a0 : Nat) (a1 : Int32) (a2 : Int32) (M : XM)   {r : XM} (h : j_X9_happens_20 F a0 a1 a2 M  = some r) : x_V l D aC bs yX9_happens cX9_happens 7 none rm_X9_happens (x_Z D aC bs none sz r rm_X9_happens) 20 [(0, .ref a0), (1, .int a1), (2, .int a2)] [] sz M 0 0 := by
  unfold j_X9_happens_20 at h
  refine x_iload_n dX9_happens_20 1 rfl ?_
  refine x_iconst (v := (1 : Int32)) dX9_happens_21 (by decide) ?_
  refine x_icmp_ne 60 dX9_happens_22 (by decide) (fun c2 => ?_) (fun c2 => ?_)
  · have h := (if_neg c2).symm.trans h
    exact jp_X9_happens_60 l D aC bs sz F (a0) (a1) (a2) M  h
  have h := (if_pos c2).symm.trans h
  refine x_aload_n dX9_happens_25 0 rfl ?_
  refine x_iload_n dX9_happens_26 2 rfl ?_
  obtain ⟨u22, eu22, h⟩ := x_bd h
  obtain ⟨p23, ep23, h⟩ := x_bd h
  refine x_callVI [.int a2] [] clX9 me_X9_isLetter w_ml_RX9_99 w_im_yX9_isLetter w_se_yX9_isLetter (Nat.le_of_ble_eq_true rfl) (Nat.le_of_ble_eq_true rfl) rfl (Nat.le_of_ble_eq_true rfl) (Nat.le_of_ble_eq_true rfl) (Nat.le_of_ble_eq_true rfl) dX9_happens_27 eu22 (c_X9_isLetter l D aC bs sz ep23) rfl ?_
  refine x_if_eq 60 dX9_happens_30 (by decide) (fun c24 => ?_) (fun c24 => ?_)
  · have h := (if_pos c24).symm.trans h
    exact jp_X9_happens_60 l D aC bs sz F (a0) (a1) (a2) M  h
  have h := (if_neg c24).symm.trans h
  refine x_aload_n dX9_happens_33 0 rfl ?_
  obtain ⟨v25, ev25, h⟩ := x_bd h
  refine x_getR clX9 w_fl_RX9_11 (by decide) dX9_happens_34 ev25 ?_
  refine x_bipush (v := (12 : Int32)) dX9_happens_37 (by decide) ?_
  refine x_iload_n dX9_happens_39 2 rfl ?_
  refine x_iadd dX9_happens_40 ?_
  obtain ⟨v26, ev26, h⟩ := x_bd h
  refine x_iald dX9_happens_41 ev26 ?_
  refine x_bipush (v := (99 : Int32)) dX9_happens_42 (by decide) ?_
  refine x_icmp_ge 60 dX9_happens_44 (by decide) (fun c27 => ?_) (fun c27 => ?_)
  · have h := (if_pos c27).symm.trans h
    exact jp_X9_happens_60 l D aC bs sz F (a0) (a1) (a2) M  h
  have h := (if_neg c27).symm.trans h
  refine x_aload_n dX9_happens_47 0 rfl ?_
  obtain ⟨v28, ev28, h⟩ := x_bd h
  refine x_getR clX9 w_fl_RX9_11 (by decide) dX9_happens_48 ev28 ?_
  refine x_bipush (v := (12 : Int32)) dX9_happens_51 (by decide) ?_
  refine x_iload_n dX9_happens_53 2 rfl ?_
  refine x_iadd dX9_happens_54 ?_
  refine x_dup2 dX9_happens_55 rfl rfl ?_
  obtain ⟨v29, ev29, h⟩ := x_bd h
  refine x_iald dX9_happens_56 ev29 ?_
  refine x_iconst (v := (1 : Int32)) dX9_happens_57 (by decide) ?_
  refine x_iadd dX9_happens_58 ?_
  obtain ⟨m30, em30, h⟩ := x_bd h
  refine x_iast dX9_happens_59 em30 ?_
  exact jp_X9_happens_60 l D aC bs sz F (a0) (a1) (a2) m30  h
def f_X9_happens (F : Nat) (a0 : Nat) (a1 : Int32) (a2 : Int32) (M : XM) : Option (XM) := if a1 = 0 then (x_ob M a0 9).bind fun u31 => (f_X9_kindNow a0 M).bind fun p32 => if p32 = (-1 : Int32) then j_X9_happens_20 F (a0) (a1) (a2) M else (x_ob M a0 9).bind fun u34 => (f_X9_kindNow a0 M).bind fun p35 => (x_ob M a0 9).bind fun u36 => (f_X9_steps F a0 p35 M).bind fun p37 => j_X9_happens_20 F (a0) (a1) (a2) p37 else j_X9_happens_20 F (a0) (a1) (a2) M
set_option maxHeartbeats 4000000 in
set_option maxRecDepth 100000 in
theorem c_X9_happens (l : Launch) (D : va_G) (aC : FieldType → ClassId) (bs sz : Nat) (F : Nat) {a0 : Nat} {a1 : Int32} {a2 : Int32} {M : XM} {r : XM} (h : f_X9_happens F a0 a1 a2 M = some r) : x_Cn l D aC bs yX9_happens cX9_happens 7 none rm_X9_happens [.ref a0, .int a1, .int a2] sz M none sz r := by
  unfold f_X9_happens at h
  refine x_enter2 [(0, .ref a0), (1, .int a1), (2, .int a2)] me_X9_happens (Nat.le_of_ble_eq_true rfl) rfl ?_
  refine x_iload_n dX9_happens_0 1 rfl ?_
  refine x_if_ne 20 dX9_happens_1 (by decide) (fun c1 => ?_) (fun c1 => ?_)
  · have h := (if_neg c1).symm.trans h
    exact jp_X9_happens_20 l D aC bs sz F (a0) (a1) (a2) M  h
  have h := (if_pos c1).symm.trans h
  refine x_aload_n dX9_happens_4 0 rfl ?_
  obtain ⟨u31, eu31, h⟩ := x_bd h
  obtain ⟨p32, ep32, h⟩ := x_bd h
  refine x_callVI [] [] clX9 me_X9_kindNow w_ml_RX9_111 w_im_yX9_kindNow w_se_yX9_kindNow (Nat.le_of_ble_eq_true rfl) (Nat.le_of_ble_eq_true rfl) rfl (Nat.le_of_ble_eq_true rfl) (Nat.le_of_ble_eq_true rfl) (Nat.le_of_ble_eq_true rfl) dX9_happens_5 eu31 (c_X9_kindNow l D aC bs sz ep32) rfl ?_
  refine x_iconst (v := (-1 : Int32)) dX9_happens_8 (by decide) ?_
  refine x_icmp_eq 20 dX9_happens_9 (by decide) (fun c33 => ?_) (fun c33 => ?_)
  · have h := (if_pos c33).symm.trans h
    exact jp_X9_happens_20 l D aC bs sz F (a0) (a1) (a2) M  h
  have h := (if_neg c33).symm.trans h
  refine x_aload_n dX9_happens_12 0 rfl ?_
  refine x_aload_n dX9_happens_13 0 rfl ?_
  obtain ⟨u34, eu34, h⟩ := x_bd h
  obtain ⟨p35, ep35, h⟩ := x_bd h
  refine x_callVI [] [.ref a0] clX9 me_X9_kindNow w_ml_RX9_111 w_im_yX9_kindNow w_se_yX9_kindNow (Nat.le_of_ble_eq_true rfl) (Nat.le_of_ble_eq_true rfl) rfl (Nat.le_of_ble_eq_true rfl) (Nat.le_of_ble_eq_true rfl) (Nat.le_of_ble_eq_true rfl) dX9_happens_14 eu34 (c_X9_kindNow l D aC bs sz ep35) rfl ?_
  obtain ⟨u36, eu36, h⟩ := x_bd h
  obtain ⟨p37, ep37, h⟩ := x_bd h
  refine x_callVV [.int p35] [] clX9 me_X9_steps w_ml_RX9_115 w_im_yX9_steps w_se_yX9_steps (Nat.le_of_ble_eq_true rfl) (Nat.le_of_ble_eq_true rfl) rfl (Nat.le_of_ble_eq_true rfl) (Nat.le_of_ble_eq_true rfl) (Nat.le_of_ble_eq_true rfl) dX9_happens_17 eu36 (c_X9_steps l D aC bs sz F ep37) rfl ?_
  exact jp_X9_happens_20 l D aC bs sz F (a0) (a1) (a2) p37  h

-- SwappedIntervalsModel.after(I)I
abbrev rm_X9_after : Room := { frames := 4, cells := 0, slots := 0, locals := 97 }
theorem me_X9_after : x_Me yX9_after cX9_after 3 (some .int) 1 := ⟨by decide +kernel, w_co_yX9_after, w_in_SwappedIntervalsModel, by decide +kernel, by decide +kernel, by decide +kernel⟩
def j_X9_after_106 (F : Nat) (a0 : Nat) (s0 : Int32) (M : XM)  : Option (Int32 × XM) := (x_gR M a0 9 15).bind fun v14 => (x_gR M a0 9 0).bind fun v15 => (x_cpI M v14 (0 : Int32) v15 (0 : Int32) (60 : Int32)).bind fun m16 => some (s0, m16)
set_option maxHeartbeats 4000000 in
set_option maxRecDepth 100000 in
theorem jp_X9_after_106 (l : Launch) (D : va_G) (aC : FieldType → ClassId) (bs : Nat) (sz : Nat) (F : Nat) (a0 : Nat) (s0 : Int32) (M : XM)   {r : Int32 × XM} (h : j_X9_after_106 F a0 s0 M  = some r) : x_V l D aC bs yX9_after cX9_after 3 (some .int) rm_X9_after (x_Z D aC bs (some (.int r.1)) sz r.2 rm_X9_after) 106 [(0, .ref a0)] [.int s0] sz M 0 0 := by
  unfold j_X9_after_106 at h
  refine x_istore_n 2 [(2, .int s0), (0, .ref a0)] dX9_after_106 rfl (by decide) rfl ?_
  refine x_aload_n dX9_after_107 1 rfl ?_
  obtain ⟨v14, ev14, h⟩ := x_bd h
  refine x_getR clX9 w_fl_RX9_43 (by decide) dX9_after_108 ev14 ?_
  refine x_iconst (v := (0 : Int32)) dX9_after_111 (by decide) ?_
  refine x_aload_n dX9_after_112 1 rfl ?_
  obtain ⟨v15, ev15, h⟩ := x_bd h
  refine x_getR clX9 w_fl_RX9_11 (by decide) dX9_after_113 ev15 ?_
  refine x_iconst (v := (0 : Int32)) dX9_after_116 (by decide) ?_
  refine x_bipush (v := (60 : Int32)) dX9_after_117 (by decide) ?_
  obtain ⟨m16, em16, h⟩ := x_bd h
  refine x_acI w_ml_RX9_89 w_na_arraycopyName w_st_arraycopyName w_in_java_lang_System (Nat.le_of_ble_eq_true rfl) (Nat.le_of_ble_eq_true rfl) dX9_after_119 em16 ?_
  refine x_iload_n dX9_after_122 0 rfl ?_
  obtain rfl := Option.some.inj h
  exact x_iret dX9_after_123 (Nat.le_of_ble_eq_true rfl) (Nat.le_of_ble_eq_true rfl)
def b_X9_after_31 (F : Nat) (a0 : Nat) (a1 : Int32)  (k31 : (Int32 × XM) → Option (Int32 × XM)) (q : Int32 × XM) : Option (Int32 × XM) := (x_gR q.2 a0 9 15).bind fun v6 => (x_a32 .int q.2 v6 (26 : Int32)).bind fun v7 => if v7 ≤ q.1 then if a1 = 0 then (x_ob q.2 a0 9).bind fun u19 => (f_X9_points F a0 q.2).bind fun p20 => j_X9_after_106 F (a0) (p20) q.2 else if a1 = (1 : Int32) then (x_ob q.2 a0 9).bind fun u17 => (f_X9_codeNow F a0 q.2).bind fun p18 => j_X9_after_106 F (a0) (p18) q.2 else (x_ob q.2 a0 9).bind fun u11 => (f_X9_isWhole F a0 q.2).bind fun p12 => (f_X9_bit p12 q.2).bind fun p13 => j_X9_after_106 F (a0) (p13) q.2 else (x_gR q.2 a0 9 15).bind fun v21 => (x_a32 .int q.2 v21 ((27 : Int32) + ((2 : Int32) * q.1))).bind fun v22 => (x_gR q.2 a0 9 15).bind fun v23 => (x_a32 .int q.2 v23 (((27 : Int32) + ((2 : Int32) * q.1)) + (1 : Int32))).bind fun v24 => (x_ob q.2 a0 9).bind fun u25 => (f_X9_happens F a0 v22 v24 q.2).bind fun p26 => k31 ((q.1 + (1 : Int32)), p26)
set_option maxHeartbeats 4000000 in
set_option maxRecDepth 100000 in
theorem lp_X9_after_31 (l : Launch) (D : va_G) (aC : FieldType → ClassId) (bs : Nat) (sz : Nat) (F : Nat) (a0 : Nat) (a1 : Int32)   : ∀ (n : Nat) (b0 : Int32) (b1 : XM) (r : Int32 × XM), x_it (b_X9_after_31 F a0 a1 ) n (b0, b1) = some r → x_V l D aC bs yX9_after cX9_after 3 (some .int) rm_X9_after (x_Z D aC bs (some (.int r.1)) sz r.2 rm_X9_after) 31 [(0, .ref a0), (1, .int a1), (2, .int b0)] [] sz b1 0 0 := by
  suffices H : ∀ (n : Nat) (q : Int32 × XM) (r : Int32 × XM), x_it (b_X9_after_31 F a0 a1 ) n q = some r → x_V l D aC bs yX9_after cX9_after 3 (some .int) rm_X9_after (x_Z D aC bs (some (.int r.1)) sz r.2 rm_X9_after) 31 [(0, .ref a0), (1, .int a1), (2, .int q.1)] [] sz q.2 0 0 from fun n b0 b1 r h => H n (b0, b1) r h
  refine x_loop (P := fun (q : Int32 × XM) (r : Int32 × XM) => x_V l D aC bs yX9_after cX9_after 3 (some .int) rm_X9_after (x_Z D aC bs (some (.int r.1)) sz r.2 rm_X9_after) 31 [(0, .ref a0), (1, .int a1), (2, .int q.1)] [] sz q.2 0 0) (fun k31 hk0 q r h => ?_)
  have hk31 : ∀ (b0 : Int32) (b1 : XM) (r : Int32 × XM), k31 (b0, b1) = some r → x_V l D aC bs yX9_after cX9_after 3 (some .int) rm_X9_after (x_Z D aC bs (some (.int r.1)) sz r.2 rm_X9_after) 31 [(0, .ref a0), (1, .int a1), (2, .int b0)] [] sz b1 0 0 := fun b0 b1 r h => hk0 (b0, b1) r h
  unfold b_X9_after_31 at h
  refine x_iload_n dX9_after_31 2 rfl ?_
  refine x_aload_n dX9_after_32 0 rfl ?_
  obtain ⟨v6, ev6, h⟩ := x_bd h
  refine x_getR clX9 w_fl_RX9_43 (by decide) dX9_after_33 ev6 ?_
  refine x_bipush (v := (26 : Int32)) dX9_after_36 (by decide) ?_
  obtain ⟨v7, ev7, h⟩ := x_bd h
  refine x_iald dX9_after_38 ev7 ?_
  refine x_icmp_ge 76 dX9_after_39 (by decide) (fun c8 => ?_) (fun c8 => ?_)
  · have h := (if_pos c8).symm.trans h
    refine x_iload_n dX9_after_76 1 rfl ?_
    refine x_if_ne 87 dX9_after_77 (by decide) (fun c9 => ?_) (fun c9 => ?_)
    · have h := (if_neg c9).symm.trans h
      refine x_iload_n dX9_after_87 1 rfl ?_
      refine x_iconst (v := (1 : Int32)) dX9_after_88 (by decide) ?_
      refine x_icmp_ne 99 dX9_after_89 (by decide) (fun c10 => ?_) (fun c10 => ?_)
      · have h := (if_neg c10).symm.trans h
        refine x_aload_n dX9_after_99 0 rfl ?_
        obtain ⟨u11, eu11, h⟩ := x_bd h
        obtain ⟨p12, ep12, h⟩ := x_bd h
        refine x_callVI [] [] clX9 me_X9_isWhole w_ml_RX9_206 w_im_yX9_isWhole w_se_yX9_isWhole (Nat.le_of_ble_eq_true rfl) (Nat.le_of_ble_eq_true rfl) rfl (Nat.le_of_ble_eq_true rfl) (Nat.le_of_ble_eq_true rfl) (Nat.le_of_ble_eq_true rfl) dX9_after_100 eu11 (c_X9_isWhole l D aC bs sz F ep12) rfl ?_
        obtain ⟨p13, ep13, h⟩ := x_bd h
        refine x_callSI [.int p12] [] me_X9_bit w_ml_RX9_181 w_st_yX9_bit (Nat.le_of_ble_eq_true rfl) (Nat.le_of_ble_eq_true rfl) rfl (Nat.le_of_ble_eq_true rfl) (Nat.le_of_ble_eq_true rfl) (Nat.le_of_ble_eq_true rfl) dX9_after_103 (c_X9_bit l D aC bs sz ep13) rfl ?_
        exact x_sub [0] rfl (jp_X9_after_106 l D aC bs sz F (a0) (p13) q.2  h)
      have h := (if_pos c10).symm.trans h
      refine x_aload_n dX9_after_92 0 rfl ?_
      obtain ⟨u17, eu17, h⟩ := x_bd h
      obtain ⟨p18, ep18, h⟩ := x_bd h
      refine x_callVI [] [] clX9 me_X9_codeNow w_ml_RX9_127 w_im_yX9_codeNow w_se_yX9_codeNow (Nat.le_of_ble_eq_true rfl) (Nat.le_of_ble_eq_true rfl) rfl (Nat.le_of_ble_eq_true rfl) (Nat.le_of_ble_eq_true rfl) (Nat.le_of_ble_eq_true rfl) dX9_after_93 eu17 (c_X9_codeNow l D aC bs sz F ep18) rfl ?_
      refine x_goto 106 dX9_after_96 (by decide) ?_
      exact x_sub [0] rfl (jp_X9_after_106 l D aC bs sz F (a0) (p18) q.2  h)
    have h := (if_pos c9).symm.trans h
    refine x_aload_n dX9_after_80 0 rfl ?_
    obtain ⟨u19, eu19, h⟩ := x_bd h
    obtain ⟨p20, ep20, h⟩ := x_bd h
    refine x_callVI [] [] clX9 me_X9_points w_ml_RX9_121 w_im_yX9_points w_se_yX9_points (Nat.le_of_ble_eq_true rfl) (Nat.le_of_ble_eq_true rfl) rfl (Nat.le_of_ble_eq_true rfl) (Nat.le_of_ble_eq_true rfl) (Nat.le_of_ble_eq_true rfl) dX9_after_81 eu19 (c_X9_points l D aC bs sz F ep20) rfl ?_
    refine x_goto 106 dX9_after_84 (by decide) ?_
    exact x_sub [0] rfl (jp_X9_after_106 l D aC bs sz F (a0) (p20) q.2  h)
  have h := (if_neg c8).symm.trans h
  refine x_aload_n dX9_after_42 0 rfl ?_
  refine x_aload_n dX9_after_43 0 rfl ?_
  obtain ⟨v21, ev21, h⟩ := x_bd h
  refine x_getR clX9 w_fl_RX9_43 (by decide) dX9_after_44 ev21 ?_
  refine x_bipush (v := (27 : Int32)) dX9_after_47 (by decide) ?_
  refine x_iconst (v := (2 : Int32)) dX9_after_49 (by decide) ?_
  refine x_iload_n dX9_after_50 2 rfl ?_
  refine x_imul dX9_after_51 ?_
  refine x_iadd dX9_after_52 ?_
  obtain ⟨v22, ev22, h⟩ := x_bd h
  refine x_iald dX9_after_53 ev22 ?_
  refine x_aload_n dX9_after_54 0 rfl ?_
  obtain ⟨v23, ev23, h⟩ := x_bd h
  refine x_getR clX9 w_fl_RX9_43 (by decide) dX9_after_55 ev23 ?_
  refine x_bipush (v := (27 : Int32)) dX9_after_58 (by decide) ?_
  refine x_iconst (v := (2 : Int32)) dX9_after_60 (by decide) ?_
  refine x_iload_n dX9_after_61 2 rfl ?_
  refine x_imul dX9_after_62 ?_
  refine x_iadd dX9_after_63 ?_
  refine x_iconst (v := (1 : Int32)) dX9_after_64 (by decide) ?_
  refine x_iadd dX9_after_65 ?_
  obtain ⟨v24, ev24, h⟩ := x_bd h
  refine x_iald dX9_after_66 ev24 ?_
  obtain ⟨u25, eu25, h⟩ := x_bd h
  obtain ⟨p26, ep26, h⟩ := x_bd h
  refine x_callVV [.int v22, .int v24] [] clX9 me_X9_happens w_ml_RX9_230 w_im_yX9_happens w_se_yX9_happens (Nat.le_of_ble_eq_true rfl) (Nat.le_of_ble_eq_true rfl) rfl (Nat.le_of_ble_eq_true rfl) (Nat.le_of_ble_eq_true rfl) (Nat.le_of_ble_eq_true rfl) dX9_after_67 eu25 (c_X9_happens l D aC bs sz F ep26) rfl ?_
  refine x_iinc (1 : Int32) 2 [(2, .int (q.1 + (1 : Int32))), (0, .ref a0), (1, .int a1)] dX9_after_70 rfl (by decide) (by decide) rfl ?_
  refine x_goto 31 dX9_after_73 (by decide) ?_
  exact x_sub [1, 2, 0] rfl (hk31 _ _ _ h)
def f_X9_after (F : Nat) (a0 : Nat) (a1 : Int32) (M : XM) : Option (Int32 × XM) := (f_X9_in a1.toInt64 (0 : Int64) (2 : Int64) M).bind fun p1 => if p1 = 0 then some ((-1 : Int32), M) else (x_gR M a0 9 0).bind fun v3 => (x_gR M a0 9 15).bind fun v4 => (x_cpI M v3 (0 : Int32) v4 (0 : Int32) (60 : Int32)).bind fun m5 => x_it (b_X9_after_31 F (a0) (a1)) F ((0 : Int32), m5)
set_option maxHeartbeats 4000000 in
set_option maxRecDepth 100000 in
theorem c_X9_after (l : Launch) (D : va_G) (aC : FieldType → ClassId) (bs sz : Nat) (F : Nat) {a0 : Nat} {a1 : Int32} {M : XM} {r : Int32 × XM} (h : f_X9_after F a0 a1 M = some r) : x_Cn l D aC bs yX9_after cX9_after 3 (some .int) rm_X9_after [.ref a0, .int a1] sz M (some (.int r.1)) sz r.2 := by
  unfold f_X9_after at h
  refine x_enter2 [(0, .ref a0), (1, .int a1)] me_X9_after (Nat.le_of_ble_eq_true rfl) rfl ?_
  refine x_iload_n dX9_after_0 1 rfl ?_
  refine x_i2l dX9_after_1 ?_
  refine x_lconst (v := (0 : Int64)) dX9_after_2 (by decide) ?_
  refine x_ldc2 (v := (2 : Int64)) dX9_after_3 w_cn_RX9_95 ?_
  obtain ⟨p1, ep1, h⟩ := x_bd h
  refine x_callSI [.long a1.toInt64, .long (0 : Int64), .long (2 : Int64)] [] me_X9_in w_ml_RX9_66 w_st_yX9_in (Nat.le_of_ble_eq_true rfl) (Nat.le_of_ble_eq_true rfl) rfl (Nat.le_of_ble_eq_true rfl) (Nat.le_of_ble_eq_true rfl) (Nat.le_of_ble_eq_true rfl) dX9_after_6 (c_X9_in l D aC bs sz ep1) rfl ?_
  refine x_if_ne 14 dX9_after_9 (by decide) (fun c2 => ?_) (fun c2 => ?_)
  · have h := (if_neg c2).symm.trans h
    refine x_aload_n dX9_after_14 0 rfl ?_
    obtain ⟨v3, ev3, h⟩ := x_bd h
    refine x_getR clX9 w_fl_RX9_11 (by decide) dX9_after_15 ev3 ?_
    refine x_iconst (v := (0 : Int32)) dX9_after_18 (by decide) ?_
    refine x_aload_n dX9_after_19 0 rfl ?_
    obtain ⟨v4, ev4, h⟩ := x_bd h
    refine x_getR clX9 w_fl_RX9_43 (by decide) dX9_after_20 ev4 ?_
    refine x_iconst (v := (0 : Int32)) dX9_after_23 (by decide) ?_
    refine x_bipush (v := (60 : Int32)) dX9_after_24 (by decide) ?_
    obtain ⟨m5, em5, h⟩ := x_bd h
    refine x_acI w_ml_RX9_89 w_na_arraycopyName w_st_arraycopyName w_in_java_lang_System (Nat.le_of_ble_eq_true rfl) (Nat.le_of_ble_eq_true rfl) dX9_after_26 em5 ?_
    refine x_iconst (v := (0 : Int32)) dX9_after_29 (by decide) ?_
    refine x_istore_n 2 [(2, .int (0 : Int32)), (0, .ref a0), (1, .int a1)] dX9_after_30 rfl (by decide) rfl ?_
    exact x_sub [1, 2, 0] rfl (lp_X9_after_31 l D aC bs sz F (a0) (a1)  F _ _ _ h)
  have h := (if_pos c2).symm.trans h
  refine x_iconst (v := (-1 : Int32)) dX9_after_12 (by decide) ?_
  obtain rfl := Option.some.inj h
  exact x_iret dX9_after_13 (Nat.le_of_ble_eq_true rfl) (Nat.le_of_ble_eq_true rfl)

-- SwappedIntervalsModel.book(II)I
abbrev rm_X9_book : Room := { frames := 2, cells := 0, slots := 0, locals := 46 }
theorem me_X9_book : x_Me yX9_book cX9_book 3 (some .int) 2 := ⟨by decide +kernel, w_co_yX9_book, w_in_SwappedIntervalsModel, by decide +kernel, by decide +kernel, by decide +kernel⟩
def f_X9_book (a0 : Nat) (a1 : Int32) (a2 : Int32) (M : XM) : Option (Int32 × XM) := if a1 = (-1 : Int32) then (x_gR M a0 9 0).bind fun v23 => (x_w32 .int M v23 (43 : Int32) (0 : Int32)).bind fun m24 => some ((0 : Int32), m24) else (x_ob M a0 9).bind fun u2 => (f_X9_isLetter a0 a1 M).bind fun p3 => if p3 = 0 then some ((-1 : Int32), M) else (f_X9_in a2.toInt64 (1 : Int64) (99 : Int64) M).bind fun p5 => if p5 = 0 then some ((-2 : Int32), M) else (x_gR M a0 9 0).bind fun v7 => (x_a32 .int M v7 (43 : Int32)).bind fun v8 => if v8 = (8 : Int32) then some ((-4 : Int32), M) else (x_gR M a0 9 0).bind fun v10 => (x_gR M a0 9 0).bind fun v11 => (x_a32 .int M v11 (43 : Int32)).bind fun v12 => (x_w32 .int M v10 ((44 : Int32) + ((2 : Int32) * v12)) a1).bind fun m13 => (x_gR m13 a0 9 0).bind fun v14 => (x_gR m13 a0 9 0).bind fun v15 => (x_a32 .int m13 v15 (43 : Int32)).bind fun v16 => (x_w32 .int m13 v14 (((44 : Int32) + ((2 : Int32) * v16)) + (1 : Int32)) a2).bind fun m17 => (x_gR m17 a0 9 0).bind fun v18 => (x_a32 .int m17 v18 (43 : Int32)).bind fun v19 => (x_w32 .int m17 v18 (43 : Int32) (v19 + (1 : Int32))).bind fun m20 => (x_gR m20 a0 9 0).bind fun v21 => (x_a32 .int m20 v21 (43 : Int32)).bind fun v22 => some (v22, m20)
set_option maxHeartbeats 4000000 in
set_option maxRecDepth 100000 in
theorem c_X9_book (l : Launch) (D : va_G) (aC : FieldType → ClassId) (bs sz : Nat) {a0 : Nat} {a1 : Int32} {a2 : Int32} {M : XM} {r : Int32 × XM} (h : f_X9_book a0 a1 a2 M = some r) : x_Cn l D aC bs yX9_book cX9_book 3 (some .int) rm_X9_book [.ref a0, .int a1, .int a2] sz M (some (.int r.1)) sz r.2 := by
  unfold f_X9_book at h
  refine x_enter2 [(0, .ref a0), (1, .int a1), (2, .int a2)] me_X9_book (Nat.le_of_ble_eq_true rfl) rfl ?_
  refine x_iload_n dX9_book_0 1 rfl ?_
  refine x_iconst (v := (-1 : Int32)) dX9_book_1 (by decide) ?_
  refine x_icmp_ne 15 dX9_book_2 (by decide) (fun c1 => ?_) (fun c1 => ?_)
  · have h := (if_neg c1).symm.trans h
    refine x_aload_n dX9_book_15 0 rfl ?_
    refine x_iload_n dX9_book_16 1 rfl ?_
    obtain ⟨u2, eu2, h⟩ := x_bd h
    obtain ⟨p3, ep3, h⟩ := x_bd h
    refine x_callVI [.int a1] [] clX9 me_X9_isLetter w_ml_RX9_99 w_im_yX9_isLetter w_se_yX9_isLetter (Nat.le_of_ble_eq_true rfl) (Nat.le_of_ble_eq_true rfl) rfl (Nat.le_of_ble_eq_true rfl) (Nat.le_of_ble_eq_true rfl) (Nat.le_of_ble_eq_true rfl) dX9_book_17 eu2 (c_X9_isLetter l D aC bs sz ep3) rfl ?_
    refine x_if_ne 25 dX9_book_20 (by decide) (fun c4 => ?_) (fun c4 => ?_)
    · have h := (if_neg c4).symm.trans h
      refine x_iload_n dX9_book_25 2 rfl ?_
      refine x_i2l dX9_book_26 ?_
      refine x_lconst (v := (1 : Int64)) dX9_book_27 (by decide) ?_
      refine x_ldc2 (v := (99 : Int64)) dX9_book_28 w_cn_RX9_106 ?_
      obtain ⟨p5, ep5, h⟩ := x_bd h
      refine x_callSI [.long a2.toInt64, .long (1 : Int64), .long (99 : Int64)] [] me_X9_in w_ml_RX9_66 w_st_yX9_in (Nat.le_of_ble_eq_true rfl) (Nat.le_of_ble_eq_true rfl) rfl (Nat.le_of_ble_eq_true rfl) (Nat.le_of_ble_eq_true rfl) (Nat.le_of_ble_eq_true rfl) dX9_book_31 (c_X9_in l D aC bs sz ep5) rfl ?_
      refine x_if_ne 40 dX9_book_34 (by decide) (fun c6 => ?_) (fun c6 => ?_)
      · have h := (if_neg c6).symm.trans h
        refine x_aload_n dX9_book_40 0 rfl ?_
        obtain ⟨v7, ev7, h⟩ := x_bd h
        refine x_getR clX9 w_fl_RX9_11 (by decide) dX9_book_41 ev7 ?_
        refine x_bipush (v := (43 : Int32)) dX9_book_44 (by decide) ?_
        obtain ⟨v8, ev8, h⟩ := x_bd h
        refine x_iald dX9_book_46 ev8 ?_
        refine x_bipush (v := (8 : Int32)) dX9_book_47 (by decide) ?_
        refine x_icmp_ne 55 dX9_book_49 (by decide) (fun c9 => ?_) (fun c9 => ?_)
        · have h := (if_neg c9).symm.trans h
          refine x_aload_n dX9_book_55 0 rfl ?_
          obtain ⟨v10, ev10, h⟩ := x_bd h
          refine x_getR clX9 w_fl_RX9_11 (by decide) dX9_book_56 ev10 ?_
          refine x_bipush (v := (44 : Int32)) dX9_book_59 (by decide) ?_
          refine x_iconst (v := (2 : Int32)) dX9_book_61 (by decide) ?_
          refine x_aload_n dX9_book_62 0 rfl ?_
          obtain ⟨v11, ev11, h⟩ := x_bd h
          refine x_getR clX9 w_fl_RX9_11 (by decide) dX9_book_63 ev11 ?_
          refine x_bipush (v := (43 : Int32)) dX9_book_66 (by decide) ?_
          obtain ⟨v12, ev12, h⟩ := x_bd h
          refine x_iald dX9_book_68 ev12 ?_
          refine x_imul dX9_book_69 ?_
          refine x_iadd dX9_book_70 ?_
          refine x_iload_n dX9_book_71 1 rfl ?_
          obtain ⟨m13, em13, h⟩ := x_bd h
          refine x_iast dX9_book_72 em13 ?_
          refine x_aload_n dX9_book_73 0 rfl ?_
          obtain ⟨v14, ev14, h⟩ := x_bd h
          refine x_getR clX9 w_fl_RX9_11 (by decide) dX9_book_74 ev14 ?_
          refine x_bipush (v := (44 : Int32)) dX9_book_77 (by decide) ?_
          refine x_iconst (v := (2 : Int32)) dX9_book_79 (by decide) ?_
          refine x_aload_n dX9_book_80 0 rfl ?_
          obtain ⟨v15, ev15, h⟩ := x_bd h
          refine x_getR clX9 w_fl_RX9_11 (by decide) dX9_book_81 ev15 ?_
          refine x_bipush (v := (43 : Int32)) dX9_book_84 (by decide) ?_
          obtain ⟨v16, ev16, h⟩ := x_bd h
          refine x_iald dX9_book_86 ev16 ?_
          refine x_imul dX9_book_87 ?_
          refine x_iadd dX9_book_88 ?_
          refine x_iconst (v := (1 : Int32)) dX9_book_89 (by decide) ?_
          refine x_iadd dX9_book_90 ?_
          refine x_iload_n dX9_book_91 2 rfl ?_
          obtain ⟨m17, em17, h⟩ := x_bd h
          refine x_iast dX9_book_92 em17 ?_
          refine x_aload_n dX9_book_93 0 rfl ?_
          obtain ⟨v18, ev18, h⟩ := x_bd h
          refine x_getR clX9 w_fl_RX9_11 (by decide) dX9_book_94 ev18 ?_
          refine x_bipush (v := (43 : Int32)) dX9_book_97 (by decide) ?_
          refine x_dup2 dX9_book_99 rfl rfl ?_
          obtain ⟨v19, ev19, h⟩ := x_bd h
          refine x_iald dX9_book_100 ev19 ?_
          refine x_iconst (v := (1 : Int32)) dX9_book_101 (by decide) ?_
          refine x_iadd dX9_book_102 ?_
          obtain ⟨m20, em20, h⟩ := x_bd h
          refine x_iast dX9_book_103 em20 ?_
          refine x_aload_n dX9_book_104 0 rfl ?_
          obtain ⟨v21, ev21, h⟩ := x_bd h
          refine x_getR clX9 w_fl_RX9_11 (by decide) dX9_book_105 ev21 ?_
          refine x_bipush (v := (43 : Int32)) dX9_book_108 (by decide) ?_
          obtain ⟨v22, ev22, h⟩ := x_bd h
          refine x_iald dX9_book_110 ev22 ?_
          obtain rfl := Option.some.inj h
          exact x_iret dX9_book_111 (Nat.le_of_ble_eq_true rfl) (Nat.le_of_ble_eq_true rfl)
        have h := (if_pos c9).symm.trans h
        refine x_bipush (v := (-4 : Int32)) dX9_book_52 (by decide) ?_
        obtain rfl := Option.some.inj h
        exact x_iret dX9_book_54 (Nat.le_of_ble_eq_true rfl) (Nat.le_of_ble_eq_true rfl)
      have h := (if_pos c6).symm.trans h
      refine x_bipush (v := (-2 : Int32)) dX9_book_37 (by decide) ?_
      obtain rfl := Option.some.inj h
      exact x_iret dX9_book_39 (Nat.le_of_ble_eq_true rfl) (Nat.le_of_ble_eq_true rfl)
    have h := (if_pos c4).symm.trans h
    refine x_iconst (v := (-1 : Int32)) dX9_book_23 (by decide) ?_
    obtain rfl := Option.some.inj h
    exact x_iret dX9_book_24 (Nat.le_of_ble_eq_true rfl) (Nat.le_of_ble_eq_true rfl)
  have h := (if_pos c1).symm.trans h
  refine x_aload_n dX9_book_5 0 rfl ?_
  obtain ⟨v23, ev23, h⟩ := x_bd h
  refine x_getR clX9 w_fl_RX9_11 (by decide) dX9_book_6 ev23 ?_
  refine x_bipush (v := (43 : Int32)) dX9_book_9 (by decide) ?_
  refine x_iconst (v := (0 : Int32)) dX9_book_11 (by decide) ?_
  obtain ⟨m24, em24, h⟩ := x_bd h
  refine x_iast dX9_book_12 em24 ?_
  refine x_iconst (v := (0 : Int32)) dX9_book_13 (by decide) ?_
  obtain rfl := Option.some.inj h
  exact x_iret dX9_book_14 (Nat.le_of_ble_eq_true rfl) (Nat.le_of_ble_eq_true rfl)

-- SwappedIntervalsModel.looked()I
abbrev rm_X9_looked : Room := { frames := 2, cells := 0, slots := 0, locals := 46 }
theorem me_X9_looked : x_Me yX9_looked cX9_looked 3 (some .int) 0 := ⟨by decide +kernel, w_co_yX9_looked, w_in_SwappedIntervalsModel, by decide +kernel, by decide +kernel, by decide +kernel⟩
def b_X9_looked_2 (F : Nat) (a0 : Nat) (M : XM)  (k2 : Int32 → Option (Int32)) (q : Int32) : Option (Int32) := (x_gR M a0 9 0).bind fun v1 => (x_a32 .int M v1 (43 : Int32)).bind fun v2 => if v2 ≤ q then some (-5 : Int32) else (x_gR M a0 9 0).bind fun v4 => (x_a32 .int M v4 ((44 : Int32) + ((2 : Int32) * q))).bind fun v5 => (x_ob M a0 9).bind fun u6 => (f_X9_isLetter a0 v5 M).bind fun p7 => if p7 = 0 then some q else (x_gR M a0 9 0).bind fun v9 => (x_a32 .int M v9 ((12 : Int32) + v5)).bind fun v10 => (x_gR M a0 9 0).bind fun v11 => (x_a32 .int M v11 (((44 : Int32) + ((2 : Int32) * q)) + (1 : Int32))).bind fun v12 => if v10 = v12 then k2 (q + (1 : Int32)) else some q
set_option maxHeartbeats 4000000 in
set_option maxRecDepth 100000 in
theorem lp_X9_looked_2 (l : Launch) (D : va_G) (aC : FieldType → ClassId) (bs : Nat) (sz : Nat) (F : Nat) (a0 : Nat) (M : XM)   : ∀ (n : Nat) (b0 : Int32) (r : Int32), x_it (b_X9_looked_2 F a0 M ) n b0 = some r → x_V l D aC bs yX9_looked cX9_looked 3 (some .int) rm_X9_looked (x_Z D aC bs (some (.int r)) sz M rm_X9_looked) 2 [(0, .ref a0), (1, .int b0)] [] sz M 0 0 := by
  suffices H : ∀ (n : Nat) (q : Int32) (r : Int32), x_it (b_X9_looked_2 F a0 M ) n q = some r → x_V l D aC bs yX9_looked cX9_looked 3 (some .int) rm_X9_looked (x_Z D aC bs (some (.int r)) sz M rm_X9_looked) 2 [(0, .ref a0), (1, .int q)] [] sz M 0 0 from fun n b0 r h => H n b0 r h
  refine x_loop (P := fun (q : Int32) (r : Int32) => x_V l D aC bs yX9_looked cX9_looked 3 (some .int) rm_X9_looked (x_Z D aC bs (some (.int r)) sz M rm_X9_looked) 2 [(0, .ref a0), (1, .int q)] [] sz M 0 0) (fun k2 hk0 q r h => ?_)
  have hk2 : ∀ (b0 : Int32) (r : Int32), k2 b0 = some r → x_V l D aC bs yX9_looked cX9_looked 3 (some .int) rm_X9_looked (x_Z D aC bs (some (.int r)) sz M rm_X9_looked) 2 [(0, .ref a0), (1, .int b0)] [] sz M 0 0 := fun b0 r h => hk0 b0 r h
  unfold b_X9_looked_2 at h
  refine x_iload_n dX9_looked_2 1 rfl ?_
  refine x_aload_n dX9_looked_3 0 rfl ?_
  obtain ⟨v1, ev1, h⟩ := x_bd h
  refine x_getR clX9 w_fl_RX9_11 (by decide) dX9_looked_4 ev1 ?_
  refine x_bipush (v := (43 : Int32)) dX9_looked_7 (by decide) ?_
  obtain ⟨v2, ev2, h⟩ := x_bd h
  refine x_iald dX9_looked_9 ev2 ?_
  refine x_icmp_ge 66 dX9_looked_10 (by decide) (fun c3 => ?_) (fun c3 => ?_)
  · have h := (if_pos c3).symm.trans h
    refine x_bipush (v := (-5 : Int32)) dX9_looked_66 (by decide) ?_
    obtain rfl := Option.some.inj h
    exact x_iret dX9_looked_68 (Nat.le_of_ble_eq_true rfl) (Nat.le_of_ble_eq_true rfl)
  have h := (if_neg c3).symm.trans h
  refine x_aload_n dX9_looked_13 0 rfl ?_
  obtain ⟨v4, ev4, h⟩ := x_bd h
  refine x_getR clX9 w_fl_RX9_11 (by decide) dX9_looked_14 ev4 ?_
  refine x_bipush (v := (44 : Int32)) dX9_looked_17 (by decide) ?_
  refine x_iconst (v := (2 : Int32)) dX9_looked_19 (by decide) ?_
  refine x_iload_n dX9_looked_20 1 rfl ?_
  refine x_imul dX9_looked_21 ?_
  refine x_iadd dX9_looked_22 ?_
  obtain ⟨v5, ev5, h⟩ := x_bd h
  refine x_iald dX9_looked_23 ev5 ?_
  refine x_istore_n 2 [(2, .int v5), (0, .ref a0), (1, .int q)] dX9_looked_24 rfl (by decide) rfl ?_
  refine x_aload_n dX9_looked_25 1 rfl ?_
  refine x_iload_n dX9_looked_26 0 rfl ?_
  obtain ⟨u6, eu6, h⟩ := x_bd h
  obtain ⟨p7, ep7, h⟩ := x_bd h
  refine x_callVI [.int v5] [] clX9 me_X9_isLetter w_ml_RX9_99 w_im_yX9_isLetter w_se_yX9_isLetter (Nat.le_of_ble_eq_true rfl) (Nat.le_of_ble_eq_true rfl) rfl (Nat.le_of_ble_eq_true rfl) (Nat.le_of_ble_eq_true rfl) (Nat.le_of_ble_eq_true rfl) dX9_looked_27 eu6 (c_X9_isLetter l D aC bs sz ep7) rfl ?_
  refine x_if_eq 58 dX9_looked_30 (by decide) (fun c8 => ?_) (fun c8 => ?_)
  · have h := (if_pos c8).symm.trans h
    refine x_iload_n dX9_looked_58 2 rfl ?_
    obtain rfl := Option.some.inj h
    exact x_iret dX9_looked_59 (Nat.le_of_ble_eq_true rfl) (Nat.le_of_ble_eq_true rfl)
  have h := (if_neg c8).symm.trans h
  refine x_aload_n dX9_looked_33 1 rfl ?_
  obtain ⟨v9, ev9, h⟩ := x_bd h
  refine x_getR clX9 w_fl_RX9_11 (by decide) dX9_looked_34 ev9 ?_
  refine x_bipush (v := (12 : Int32)) dX9_looked_37 (by decide) ?_
  refine x_iload_n dX9_looked_39 0 rfl ?_
  refine x_iadd dX9_looked_40 ?_
  obtain ⟨v10, ev10, h⟩ := x_bd h
  refine x_iald dX9_looked_41 ev10 ?_
  refine x_aload_n dX9_looked_42 1 rfl ?_
  obtain ⟨v11, ev11, h⟩ := x_bd h
  refine x_getR clX9 w_fl_RX9_11 (by decide) dX9_looked_43 ev11 ?_
  refine x_bipush (v := (44 : Int32)) dX9_looked_46 (by decide) ?_
  refine x_iconst (v := (2 : Int32)) dX9_looked_48 (by decide) ?_
  refine x_iload_n dX9_looked_49 2 rfl ?_
  refine x_imul dX9_looked_50 ?_
  refine x_iadd dX9_looked_51 ?_
  refine x_iconst (v := (1 : Int32)) dX9_looked_52 (by decide) ?_
  refine x_iadd dX9_looked_53 ?_
  obtain ⟨v12, ev12, h⟩ := x_bd h
  refine x_iald dX9_looked_54 ev12 ?_
  refine x_icmp_eq 60 dX9_looked_55 (by decide) (fun c13 => ?_) (fun c13 => ?_)
  · have h := (if_pos c13).symm.trans h
    refine x_iinc (1 : Int32) 2 [(1, .int (q + (1 : Int32))), (2, .int v5), (0, .ref a0)] dX9_looked_60 rfl (by decide) (by decide) rfl ?_
    refine x_goto 2 dX9_looked_63 (by decide) ?_
    exact x_sub [2, 0] rfl (hk2 _ _ h)
  have h := (if_neg c13).symm.trans h
  refine x_iload_n dX9_looked_58 2 rfl ?_
  obtain rfl := Option.some.inj h
  exact x_iret dX9_looked_59 (Nat.le_of_ble_eq_true rfl) (Nat.le_of_ble_eq_true rfl)
def f_X9_looked (F : Nat) (a0 : Nat) (M : XM) : Option (Int32) := x_it (b_X9_looked_2 F (a0) M) F (0 : Int32)
set_option maxHeartbeats 4000000 in
set_option maxRecDepth 100000 in
theorem c_X9_looked (l : Launch) (D : va_G) (aC : FieldType → ClassId) (bs sz : Nat) (F : Nat) {a0 : Nat} {M : XM} {r : Int32} (h : f_X9_looked F a0 M = some r) : x_Cn l D aC bs yX9_looked cX9_looked 3 (some .int) rm_X9_looked [.ref a0] sz M (some (.int r)) sz M := by
  unfold f_X9_looked at h
  refine x_enter2 [(0, .ref a0)] me_X9_looked (Nat.le_of_ble_eq_true rfl) rfl ?_
  refine x_iconst (v := (0 : Int32)) dX9_looked_0 (by decide) ?_
  refine x_istore_n 1 [(1, .int (0 : Int32)), (0, .ref a0)] dX9_looked_1 rfl (by decide) rfl ?_
  exact x_sub [1, 0] rfl (lp_X9_looked_2 l D aC bs sz F (a0) M  F _ _ h)

-- SwappedIntervalsModel.isTape(I)Z
abbrev rm_X9_isTape : Room := { frames := 1, cells := 0, slots := 0, locals := 25 }
theorem me_X9_isTape : x_Me yX9_isTape cX9_isTape 1 (some .boolean) 1 := ⟨by decide +kernel, w_co_yX9_isTape, w_in_SwappedIntervalsModel, by decide +kernel, by decide +kernel, by decide +kernel⟩
def f_X9_isTape (a0 : Int32) (M : XM) : Option (Int32) := (f_X9_in a0.toInt64 (0 : Int64) (5 : Int64) M).bind fun p1 => (x_01 p1).bind fun u2 => some p1
set_option maxHeartbeats 4000000 in
set_option maxRecDepth 100000 in
theorem c_X9_isTape (l : Launch) (D : va_G) (aC : FieldType → ClassId) (bs sz : Nat) {a0 : Int32} {M : XM} {r : Int32} (h : f_X9_isTape a0 M = some r) : x_Cn l D aC bs yX9_isTape cX9_isTape 1 (some .boolean) rm_X9_isTape [.int a0] sz M (some (.int r)) sz M := by
  unfold f_X9_isTape at h
  refine x_enter2 [(0, .int a0)] me_X9_isTape (Nat.le_of_ble_eq_true rfl) rfl ?_
  refine x_iload_n dX9_isTape_0 0 rfl ?_
  refine x_i2l dX9_isTape_1 ?_
  refine x_lconst (v := (0 : Int64)) dX9_isTape_2 (by decide) ?_
  refine x_ldc2 (v := (5 : Int64)) dX9_isTape_3 w_cn_RX9_97 ?_
  obtain ⟨p1, ep1, h⟩ := x_bd h
  refine x_callSI [.long a0.toInt64, .long (0 : Int64), .long (5 : Int64)] [] me_X9_in w_ml_RX9_66 w_st_yX9_in (Nat.le_of_ble_eq_true rfl) (Nat.le_of_ble_eq_true rfl) rfl (Nat.le_of_ble_eq_true rfl) (Nat.le_of_ble_eq_true rfl) (Nat.le_of_ble_eq_true rfl) dX9_isTape_6 (c_X9_in l D aC bs sz ep1) rfl ?_
  obtain ⟨u2, eu2, h⟩ := x_bd h
  obtain rfl := Option.some.inj h
  exact x_zret dX9_isTape_9 (x_01_sp eu2) (Nat.le_of_ble_eq_true rfl) (Nat.le_of_ble_eq_true rfl)

-- SwappedIntervalsModel.isItem(IJ)Z
abbrev rm_X9_isItem : Room := { frames := 1, cells := 0, slots := 0, locals := 25 }
theorem me_X9_isItem : x_Me yX9_isItem cX9_isItem 4 (some .boolean) 2 := ⟨by decide +kernel, w_co_yX9_isItem, w_in_SwappedIntervalsModel, by decide +kernel, by decide +kernel, by decide +kernel⟩
def f_X9_isItem (a0 : Nat) (a1 : Int32) (a2 : Int64) (M : XM) : Option (Int32) := (x_gR M a0 9 19).bind fun v1 => (x_a32 .int M v1 a1).bind fun v2 => if v2 = (-1 : Int32) then some (0 : Int32) else (x_gR M a0 9 20).bind fun v4 => (x_a32 .int M v4 a1).bind fun v5 => (f_X9_in a2 (0 : Int64) (v5.toInt64 - (1 : Int64)) M).bind fun p6 => if p6 = 0 then some (0 : Int32) else some (1 : Int32)
set_option maxHeartbeats 4000000 in
set_option maxRecDepth 100000 in
theorem c_X9_isItem (l : Launch) (D : va_G) (aC : FieldType → ClassId) (bs sz : Nat) {a0 : Nat} {a1 : Int32} {a2 : Int64} {M : XM} {r : Int32} (h : f_X9_isItem a0 a1 a2 M = some r) : x_Cn l D aC bs yX9_isItem cX9_isItem 4 (some .boolean) rm_X9_isItem [.ref a0, .int a1, .long a2] sz M (some (.int r)) sz M := by
  unfold f_X9_isItem at h
  refine x_enter2 [(0, .ref a0), (1, .int a1), (2, .long a2)] me_X9_isItem (Nat.le_of_ble_eq_true rfl) rfl ?_
  refine x_aload_n dX9_isItem_0 0 rfl ?_
  obtain ⟨v1, ev1, h⟩ := x_bd h
  refine x_getR clX9 w_fl_RX9_52 (by decide) dX9_isItem_1 ev1 ?_
  refine x_iload_n dX9_isItem_4 1 rfl ?_
  obtain ⟨v2, ev2, h⟩ := x_bd h
  refine x_iald dX9_isItem_5 ev2 ?_
  refine x_iconst (v := (-1 : Int32)) dX9_isItem_6 (by decide) ?_
  refine x_icmp_eq 31 dX9_isItem_7 (by decide) (fun c3 => ?_) (fun c3 => ?_)
  · have h := (if_pos c3).symm.trans h
    refine x_iconst (v := (0 : Int32)) dX9_isItem_31 (by decide) ?_
    obtain rfl := Option.some.inj h
    exact x_zret dX9_isItem_32 (Or.inl rfl) (Nat.le_of_ble_eq_true rfl) (Nat.le_of_ble_eq_true rfl)
  have h := (if_neg c3).symm.trans h
  refine x_lload_n dX9_isItem_10 2 rfl ?_
  refine x_lconst (v := (0 : Int64)) dX9_isItem_11 (by decide) ?_
  refine x_aload_n dX9_isItem_12 0 rfl ?_
  obtain ⟨v4, ev4, h⟩ := x_bd h
  refine x_getR clX9 w_fl_RX9_55 (by decide) dX9_isItem_13 ev4 ?_
  refine x_iload_n dX9_isItem_16 1 rfl ?_
  obtain ⟨v5, ev5, h⟩ := x_bd h
  refine x_iald dX9_isItem_17 ev5 ?_
  refine x_i2l dX9_isItem_18 ?_
  refine x_lconst (v := (1 : Int64)) dX9_isItem_19 (by decide) ?_
  refine x_lsub dX9_isItem_20 ?_
  obtain ⟨p6, ep6, h⟩ := x_bd h
  refine x_callSI [.long a2, .long (0 : Int64), .long (v5.toInt64 - (1 : Int64))] [] me_X9_in w_ml_RX9_66 w_st_yX9_in (Nat.le_of_ble_eq_true rfl) (Nat.le_of_ble_eq_true rfl) rfl (Nat.le_of_ble_eq_true rfl) (Nat.le_of_ble_eq_true rfl) (Nat.le_of_ble_eq_true rfl) dX9_isItem_21 (c_X9_in l D aC bs sz ep6) rfl ?_
  refine x_if_eq 31 dX9_isItem_24 (by decide) (fun c7 => ?_) (fun c7 => ?_)
  · have h := (if_pos c7).symm.trans h
    refine x_iconst (v := (0 : Int32)) dX9_isItem_31 (by decide) ?_
    obtain rfl := Option.some.inj h
    exact x_zret dX9_isItem_32 (Or.inl rfl) (Nat.le_of_ble_eq_true rfl) (Nat.le_of_ble_eq_true rfl)
  have h := (if_neg c7).symm.trans h
  refine x_iconst (v := (1 : Int32)) dX9_isItem_27 (by decide) ?_
  refine x_goto 32 dX9_isItem_28 (by decide) ?_
  obtain rfl := Option.some.inj h
  exact x_zret dX9_isItem_32 (Or.inr rfl) (Nat.le_of_ble_eq_true rfl) (Nat.le_of_ble_eq_true rfl)

-- SwappedIntervalsModel.judge(II)I
abbrev rm_X9_judge : Room := { frames := 2, cells := 0, slots := 0, locals := 48 }
theorem me_X9_judge : x_Me yX9_judge cX9_judge 4 (some .int) 2 := ⟨by decide +kernel, w_co_yX9_judge, w_in_SwappedIntervalsModel, by decide +kernel, by decide +kernel, by decide +kernel⟩
def b_X9_judge_34 (F : Nat) (a0 : Nat) (a1 : Int32) (a2 : Int32) (M : XM)  (k34 : Int32 → Option (Int32)) (q : Int32) : Option (Int32) := (x_gR M a0 9 0).bind fun v6 => (x_a32 .int M v6 (0 : Int32)).bind fun v7 => if v7 ≤ q then some (-5 : Int32) else (x_ob M a0 9).bind fun u9 => (f_X9_isItem a0 a1 (a2.toInt64 + q.toInt64) M).bind fun p10 => if p10 = 0 then some ((100 : Int32) + q) else (x_gR M a0 9 21).bind fun v12 => (x_a64 M v12 ((((60 : Int32) * a1) + a2) + q)).bind fun v13 => (x_gR M a0 9 0).bind fun v14 => (x_a32 .int M v14 ((12 : Int32) + q)).bind fun v15 => if (lg_cmp v13 v15.toInt64) = 0 then k34 (q + (1 : Int32)) else some q
set_option maxHeartbeats 4000000 in
set_option maxRecDepth 100000 in
theorem lp_X9_judge_34 (l : Launch) (D : va_G) (aC : FieldType → ClassId) (bs : Nat) (sz : Nat) (F : Nat) (a0 : Nat) (a1 : Int32) (a2 : Int32) (M : XM)   : ∀ (n : Nat) (b0 : Int32) (r : Int32), x_it (b_X9_judge_34 F a0 a1 a2 M ) n b0 = some r → x_V l D aC bs yX9_judge cX9_judge 4 (some .int) rm_X9_judge (x_Z D aC bs (some (.int r)) sz M rm_X9_judge) 34 [(0, .ref a0), (1, .int a1), (2, .int a2), (3, .int b0)] [] sz M 0 0 := by
  suffices H : ∀ (n : Nat) (q : Int32) (r : Int32), x_it (b_X9_judge_34 F a0 a1 a2 M ) n q = some r → x_V l D aC bs yX9_judge cX9_judge 4 (some .int) rm_X9_judge (x_Z D aC bs (some (.int r)) sz M rm_X9_judge) 34 [(0, .ref a0), (1, .int a1), (2, .int a2), (3, .int q)] [] sz M 0 0 from fun n b0 r h => H n b0 r h
  refine x_loop (P := fun (q : Int32) (r : Int32) => x_V l D aC bs yX9_judge cX9_judge 4 (some .int) rm_X9_judge (x_Z D aC bs (some (.int r)) sz M rm_X9_judge) 34 [(0, .ref a0), (1, .int a1), (2, .int a2), (3, .int q)] [] sz M 0 0) (fun k34 hk0 q r h => ?_)
  have hk34 : ∀ (b0 : Int32) (r : Int32), k34 b0 = some r → x_V l D aC bs yX9_judge cX9_judge 4 (some .int) rm_X9_judge (x_Z D aC bs (some (.int r)) sz M rm_X9_judge) 34 [(0, .ref a0), (1, .int a1), (2, .int a2), (3, .int b0)] [] sz M 0 0 := fun b0 r h => hk0 b0 r h
  unfold b_X9_judge_34 at h
  refine x_iload_n dX9_judge_34 3 rfl ?_
  refine x_aload_n dX9_judge_35 0 rfl ?_
  obtain ⟨v6, ev6, h⟩ := x_bd h
  refine x_getR clX9 w_fl_RX9_11 (by decide) dX9_judge_36 ev6 ?_
  refine x_iconst (v := (0 : Int32)) dX9_judge_39 (by decide) ?_
  obtain ⟨v7, ev7, h⟩ := x_bd h
  refine x_iald dX9_judge_40 ev7 ?_
  refine x_icmp_ge 97 dX9_judge_41 (by decide) (fun c8 => ?_) (fun c8 => ?_)
  · have h := (if_pos c8).symm.trans h
    refine x_bipush (v := (-5 : Int32)) dX9_judge_97 (by decide) ?_
    obtain rfl := Option.some.inj h
    exact x_iret dX9_judge_99 (Nat.le_of_ble_eq_true rfl) (Nat.le_of_ble_eq_true rfl)
  have h := (if_neg c8).symm.trans h
  refine x_aload_n dX9_judge_44 0 rfl ?_
  refine x_iload_n dX9_judge_45 1 rfl ?_
  refine x_iload_n dX9_judge_46 2 rfl ?_
  refine x_i2l dX9_judge_47 ?_
  refine x_iload_n dX9_judge_48 3 rfl ?_
  refine x_i2l dX9_judge_49 ?_
  refine x_ladd dX9_judge_50 ?_
  obtain ⟨u9, eu9, h⟩ := x_bd h
  obtain ⟨p10, ep10, h⟩ := x_bd h
  refine x_callVI [.int a1, .long (a2.toInt64 + q.toInt64)] [] clX9 me_X9_isItem w_ml_RX9_236 w_im_yX9_isItem w_se_yX9_isItem (Nat.le_of_ble_eq_true rfl) (Nat.le_of_ble_eq_true rfl) rfl (Nat.le_of_ble_eq_true rfl) (Nat.le_of_ble_eq_true rfl) (Nat.le_of_ble_eq_true rfl) dX9_judge_51 eu9 (c_X9_isItem l D aC bs sz ep10) rfl ?_
  refine x_if_ne 62 dX9_judge_54 (by decide) (fun c11 => ?_) (fun c11 => ?_)
  · have h := (if_neg c11).symm.trans h
    refine x_aload_n dX9_judge_62 0 rfl ?_
    obtain ⟨v12, ev12, h⟩ := x_bd h
    refine x_getR clX9 w_fl_RX9_58 (by decide) dX9_judge_63 ev12 ?_
    refine x_bipush (v := (60 : Int32)) dX9_judge_66 (by decide) ?_
    refine x_iload_n dX9_judge_68 1 rfl ?_
    refine x_imul dX9_judge_69 ?_
    refine x_iload_n dX9_judge_70 2 rfl ?_
    refine x_iadd dX9_judge_71 ?_
    refine x_iload_n dX9_judge_72 3 rfl ?_
    refine x_iadd dX9_judge_73 ?_
    obtain ⟨v13, ev13, h⟩ := x_bd h
    refine x_lald dX9_judge_74 ev13 ?_
    refine x_aload_n dX9_judge_75 0 rfl ?_
    obtain ⟨v14, ev14, h⟩ := x_bd h
    refine x_getR clX9 w_fl_RX9_11 (by decide) dX9_judge_76 ev14 ?_
    refine x_bipush (v := (12 : Int32)) dX9_judge_79 (by decide) ?_
    refine x_iload_n dX9_judge_81 3 rfl ?_
    refine x_iadd dX9_judge_82 ?_
    obtain ⟨v15, ev15, h⟩ := x_bd h
    refine x_iald dX9_judge_83 ev15 ?_
    refine x_i2l dX9_judge_84 ?_
    refine x_lcmp dX9_judge_85 ?_
    refine x_if_eq 91 dX9_judge_86 (by decide) (fun c16 => ?_) (fun c16 => ?_)
    · have h := (if_pos c16).symm.trans h
      refine x_iinc (1 : Int32) 3 [(3, .int (q + (1 : Int32))), (0, .ref a0), (1, .int a1), (2, .int a2)] dX9_judge_91 rfl (by decide) (by decide) rfl ?_
      refine x_goto 34 dX9_judge_94 (by decide) ?_
      exact x_sub [1, 2, 3, 0] rfl (hk34 _ _ h)
    have h := (if_neg c16).symm.trans h
    refine x_iload_n dX9_judge_89 3 rfl ?_
    obtain rfl := Option.some.inj h
    exact x_iret dX9_judge_90 (Nat.le_of_ble_eq_true rfl) (Nat.le_of_ble_eq_true rfl)
  have h := (if_pos c11).symm.trans h
  refine x_bipush (v := (100 : Int32)) dX9_judge_57 (by decide) ?_
  refine x_iload_n dX9_judge_59 3 rfl ?_
  refine x_iadd dX9_judge_60 ?_
  obtain rfl := Option.some.inj h
  exact x_iret dX9_judge_61 (Nat.le_of_ble_eq_true rfl) (Nat.le_of_ble_eq_true rfl)
def f_X9_judge (F : Nat) (a0 : Nat) (a1 : Int32) (a2 : Int32) (M : XM) : Option (Int32) := (f_X9_isTape a1 M).bind fun p1 => if p1 = 0 then some (-1 : Int32) else (x_gR M a0 9 19).bind fun v3 => (x_a32 .int M v3 a1).bind fun v4 => if v4 = (-1 : Int32) then x_it (b_X9_judge_34 F (a0) (a1) (a2) M) F (0 : Int32) else (x_gR M a0 9 19).bind fun v17 => (x_a32 .int M v17 a1).bind fun v18 => if v18 = (1 : Int32) then x_it (b_X9_judge_34 F (a0) (a1) (a2) M) F (0 : Int32) else some (-12 : Int32)
set_option maxHeartbeats 4000000 in
set_option maxRecDepth 100000 in
theorem c_X9_judge (l : Launch) (D : va_G) (aC : FieldType → ClassId) (bs sz : Nat) (F : Nat) {a0 : Nat} {a1 : Int32} {a2 : Int32} {M : XM} {r : Int32} (h : f_X9_judge F a0 a1 a2 M = some r) : x_Cn l D aC bs yX9_judge cX9_judge 4 (some .int) rm_X9_judge [.ref a0, .int a1, .int a2] sz M (some (.int r)) sz M := by
  unfold f_X9_judge at h
  refine x_enter2 [(0, .ref a0), (1, .int a1), (2, .int a2)] me_X9_judge (Nat.le_of_ble_eq_true rfl) rfl ?_
  refine x_iload_n dX9_judge_0 1 rfl ?_
  obtain ⟨p1, ep1, h⟩ := x_bd h
  refine x_callSI [.int a1] [] me_X9_isTape w_ml_RX9_233 w_st_yX9_isTape (Nat.le_of_ble_eq_true rfl) (Nat.le_of_ble_eq_true rfl) rfl (Nat.le_of_ble_eq_true rfl) (Nat.le_of_ble_eq_true rfl) (Nat.le_of_ble_eq_true rfl) dX9_judge_1 (c_X9_isTape l D aC bs sz ep1) rfl ?_
  refine x_if_ne 9 dX9_judge_4 (by decide) (fun c2 => ?_) (fun c2 => ?_)
  · have h := (if_neg c2).symm.trans h
    refine x_aload_n dX9_judge_9 0 rfl ?_
    obtain ⟨v3, ev3, h⟩ := x_bd h
    refine x_getR clX9 w_fl_RX9_52 (by decide) dX9_judge_10 ev3 ?_
    refine x_iload_n dX9_judge_13 1 rfl ?_
    obtain ⟨v4, ev4, h⟩ := x_bd h
    refine x_iald dX9_judge_14 ev4 ?_
    refine x_iconst (v := (-1 : Int32)) dX9_judge_15 (by decide) ?_
    refine x_icmp_eq 32 dX9_judge_16 (by decide) (fun c5 => ?_) (fun c5 => ?_)
    · have h := (if_pos c5).symm.trans h
      refine x_iconst (v := (0 : Int32)) dX9_judge_32 (by decide) ?_
      refine x_istore_n 3 [(3, .int (0 : Int32)), (0, .ref a0), (1, .int a1), (2, .int a2)] dX9_judge_33 rfl (by decide) rfl ?_
      exact x_sub [1, 2, 3, 0] rfl (lp_X9_judge_34 l D aC bs sz F (a0) (a1) (a2) M  F _ _ h)
    have h := (if_neg c5).symm.trans h
    refine x_aload_n dX9_judge_19 0 rfl ?_
    obtain ⟨v17, ev17, h⟩ := x_bd h
    refine x_getR clX9 w_fl_RX9_52 (by decide) dX9_judge_20 ev17 ?_
    refine x_iload_n dX9_judge_23 1 rfl ?_
    obtain ⟨v18, ev18, h⟩ := x_bd h
    refine x_iald dX9_judge_24 ev18 ?_
    refine x_iconst (v := (1 : Int32)) dX9_judge_25 (by decide) ?_
    refine x_icmp_eq 32 dX9_judge_26 (by decide) (fun c19 => ?_) (fun c19 => ?_)
    · have h := (if_pos c19).symm.trans h
      refine x_iconst (v := (0 : Int32)) dX9_judge_32 (by decide) ?_
      refine x_istore_n 3 [(3, .int (0 : Int32)), (0, .ref a0), (1, .int a1), (2, .int a2)] dX9_judge_33 rfl (by decide) rfl ?_
      exact x_sub [1, 2, 3, 0] rfl (lp_X9_judge_34 l D aC bs sz F (a0) (a1) (a2) M  F _ _ h)
    have h := (if_neg c19).symm.trans h
    refine x_bipush (v := (-12 : Int32)) dX9_judge_29 (by decide) ?_
    obtain rfl := Option.some.inj h
    exact x_iret dX9_judge_31 (Nat.le_of_ble_eq_true rfl) (Nat.le_of_ble_eq_true rfl)
  have h := (if_pos c2).symm.trans h
  refine x_iconst (v := (-1 : Int32)) dX9_judge_7 (by decide) ?_
  obtain rfl := Option.some.inj h
  exact x_iret dX9_judge_8 (Nat.le_of_ble_eq_true rfl) (Nat.le_of_ble_eq_true rfl)

-- SwappedIntervalsModel.image()I
abbrev rm_X9_image : Room := { frames := 1, cells := 0, slots := 0, locals := 26 }
theorem me_X9_image : x_Me yX9_image cX9_image 1 (some .int) 0 := ⟨by decide +kernel, w_co_yX9_image, w_in_SwappedIntervalsModel, by decide +kernel, by decide +kernel, by decide +kernel⟩
def f_X9_image (F : Nat) (a0 : Nat) (M : XM) : Option (Int32 × XM) := (x_gR M a0 9 0).bind fun v1 => (x_gR M a0 9 1).bind fun v2 => (x_cpI M v1 (0 : Int32) v2 (0 : Int32) (60 : Int32)).bind fun m3 => (x_put m3 a0 9 2 (.int (1 : Int32))).bind fun m4 => (x_ob m4 a0 9).bind fun u5 => (f_X9_points F a0 m4).bind fun p6 => some (p6, m4)
set_option maxHeartbeats 4000000 in
set_option maxRecDepth 100000 in
theorem c_X9_image (l : Launch) (D : va_G) (aC : FieldType → ClassId) (bs sz : Nat) (F : Nat) {a0 : Nat} {M : XM} {r : Int32 × XM} (h : f_X9_image F a0 M = some r) : x_Cn l D aC bs yX9_image cX9_image 1 (some .int) rm_X9_image [.ref a0] sz M (some (.int r.1)) sz r.2 := by
  unfold f_X9_image at h
  refine x_enter2 [(0, .ref a0)] me_X9_image (Nat.le_of_ble_eq_true rfl) rfl ?_
  refine x_aload_n dX9_image_0 0 rfl ?_
  obtain ⟨v1, ev1, h⟩ := x_bd h
  refine x_getR clX9 w_fl_RX9_11 (by decide) dX9_image_1 ev1 ?_
  refine x_iconst (v := (0 : Int32)) dX9_image_4 (by decide) ?_
  refine x_aload_n dX9_image_5 0 rfl ?_
  obtain ⟨v2, ev2, h⟩ := x_bd h
  refine x_getR clX9 w_fl_RX9_15 (by decide) dX9_image_6 ev2 ?_
  refine x_iconst (v := (0 : Int32)) dX9_image_9 (by decide) ?_
  refine x_bipush (v := (60 : Int32)) dX9_image_10 (by decide) ?_
  obtain ⟨m3, em3, h⟩ := x_bd h
  refine x_acI w_ml_RX9_89 w_na_arraycopyName w_st_arraycopyName w_in_java_lang_System (Nat.le_of_ble_eq_true rfl) (Nat.le_of_ble_eq_true rfl) dX9_image_12 em3 ?_
  refine x_aload_n dX9_image_15 0 rfl ?_
  refine x_iconst (v := (1 : Int32)) dX9_image_16 (by decide) ?_
  obtain ⟨m4, em4, h⟩ := x_bd h
  refine x_putV clX9 w_fl_RX9_240 (by decide) rfl rfl rfl dX9_image_17 em4 ?_
  refine x_aload_n dX9_image_20 0 rfl ?_
  obtain ⟨u5, eu5, h⟩ := x_bd h
  obtain ⟨p6, ep6, h⟩ := x_bd h
  refine x_callVI [] [] clX9 me_X9_points w_ml_RX9_121 w_im_yX9_points w_se_yX9_points (Nat.le_of_ble_eq_true rfl) (Nat.le_of_ble_eq_true rfl) rfl (Nat.le_of_ble_eq_true rfl) (Nat.le_of_ble_eq_true rfl) (Nat.le_of_ble_eq_true rfl) dX9_image_21 eu5 (c_X9_points l D aC bs sz F ep6) rfl ?_
  obtain rfl := Option.some.inj h
  exact x_iret dX9_image_24 (Nat.le_of_ble_eq_true rfl) (Nat.le_of_ble_eq_true rfl)

-- SwappedIntervalsModel.undo()I
abbrev rm_X9_undo : Room := { frames := 1, cells := 0, slots := 0, locals := 26 }
theorem me_X9_undo : x_Me yX9_undo cX9_undo 1 (some .int) 0 := ⟨by decide +kernel, w_co_yX9_undo, w_in_SwappedIntervalsModel, by decide +kernel, by decide +kernel, by decide +kernel⟩
def f_X9_undo (F : Nat) (a0 : Nat) (M : XM) : Option (Int32 × XM) := (x_gI M a0 9 2).bind fun v1 => if v1 = 0 then some ((-3 : Int32), M) else (x_gR M a0 9 1).bind fun v3 => (x_gR M a0 9 0).bind fun v4 => (x_cpI M v3 (0 : Int32) v4 (0 : Int32) (60 : Int32)).bind fun m5 => (x_put m5 a0 9 4 (.int (0 : Int32))).bind fun m6 => (x_ob m6 a0 9).bind fun u7 => (f_X9_points F a0 m6).bind fun p8 => some (p8, m6)
set_option maxHeartbeats 4000000 in
set_option maxRecDepth 100000 in
theorem c_X9_undo (l : Launch) (D : va_G) (aC : FieldType → ClassId) (bs sz : Nat) (F : Nat) {a0 : Nat} {M : XM} {r : Int32 × XM} (h : f_X9_undo F a0 M = some r) : x_Cn l D aC bs yX9_undo cX9_undo 1 (some .int) rm_X9_undo [.ref a0] sz M (some (.int r.1)) sz r.2 := by
  unfold f_X9_undo at h
  refine x_enter2 [(0, .ref a0)] me_X9_undo (Nat.le_of_ble_eq_true rfl) rfl ?_
  refine x_aload_n dX9_undo_0 0 rfl ?_
  obtain ⟨v1, ev1, h⟩ := x_bd h
  refine x_getI clX9 w_fl_RX9_240 (by decide) dX9_undo_1 ev1 ?_
  refine x_if_ne 10 dX9_undo_4 (by decide) (fun c2 => ?_) (fun c2 => ?_)
  · have h := (if_neg c2).symm.trans h
    refine x_aload_n dX9_undo_10 0 rfl ?_
    obtain ⟨v3, ev3, h⟩ := x_bd h
    refine x_getR clX9 w_fl_RX9_15 (by decide) dX9_undo_11 ev3 ?_
    refine x_iconst (v := (0 : Int32)) dX9_undo_14 (by decide) ?_
    refine x_aload_n dX9_undo_15 0 rfl ?_
    obtain ⟨v4, ev4, h⟩ := x_bd h
    refine x_getR clX9 w_fl_RX9_11 (by decide) dX9_undo_16 ev4 ?_
    refine x_iconst (v := (0 : Int32)) dX9_undo_19 (by decide) ?_
    refine x_bipush (v := (60 : Int32)) dX9_undo_20 (by decide) ?_
    obtain ⟨m5, em5, h⟩ := x_bd h
    refine x_acI w_ml_RX9_89 w_na_arraycopyName w_st_arraycopyName w_in_java_lang_System (Nat.le_of_ble_eq_true rfl) (Nat.le_of_ble_eq_true rfl) dX9_undo_22 em5 ?_
    refine x_aload_n dX9_undo_25 0 rfl ?_
    refine x_iconst (v := (0 : Int32)) dX9_undo_26 (by decide) ?_
    obtain ⟨m6, em6, h⟩ := x_bd h
    refine x_putV clX9 w_fl_RX9_70 (by decide) rfl rfl rfl dX9_undo_27 em6 ?_
    refine x_aload_n dX9_undo_30 0 rfl ?_
    obtain ⟨u7, eu7, h⟩ := x_bd h
    obtain ⟨p8, ep8, h⟩ := x_bd h
    refine x_callVI [] [] clX9 me_X9_points w_ml_RX9_121 w_im_yX9_points w_se_yX9_points (Nat.le_of_ble_eq_true rfl) (Nat.le_of_ble_eq_true rfl) rfl (Nat.le_of_ble_eq_true rfl) (Nat.le_of_ble_eq_true rfl) (Nat.le_of_ble_eq_true rfl) dX9_undo_31 eu7 (c_X9_points l D aC bs sz F ep8) rfl ?_
    obtain rfl := Option.some.inj h
    exact x_iret dX9_undo_34 (Nat.le_of_ble_eq_true rfl) (Nat.le_of_ble_eq_true rfl)
  have h := (if_pos c2).symm.trans h
  refine x_bipush (v := (-3 : Int32)) dX9_undo_7 (by decide) ?_
  obtain rfl := Option.some.inj h
  exact x_iret dX9_undo_9 (Nat.le_of_ble_eq_true rfl) (Nat.le_of_ble_eq_true rfl)

-- SwappedIntervalsModel.count(I)I
abbrev rm_X9_count : Room := { frames := 0, cells := 0, slots := 0, locals := 0 }
theorem me_X9_count : x_Me yX9_count cX9_count 2 (some .int) 1 := ⟨by decide +kernel, w_co_yX9_count, w_in_SwappedIntervalsModel, by decide +kernel, by decide +kernel, by decide +kernel⟩
def f_X9_count (a0 : Nat) (a1 : Int32) (M : XM) : Option (Int32) := if a1 = (0 : Int32) then (x_gR M a0 9 0).bind fun v2 => (x_a32 .int M v2 (17 : Int32)).bind fun v3 => some v3 else if a1 = (1 : Int32) then (x_gR M a0 9 0).bind fun v5 => (x_a32 .int M v5 (26 : Int32)).bind fun v6 => some v6 else if a1 = (2 : Int32) then (x_gR M a0 9 0).bind fun v8 => (x_a32 .int M v8 (43 : Int32)).bind fun v9 => some v9 else if a1 = (3 : Int32) then (x_gI M a0 9 7).bind fun v11 => some v11 else if a1 = (4 : Int32) then (x_gI M a0 9 4).bind fun v13 => some v13 else some (-2 : Int32)
set_option maxHeartbeats 4000000 in
set_option maxRecDepth 100000 in
theorem c_X9_count (l : Launch) (D : va_G) (aC : FieldType → ClassId) (bs sz : Nat) {a0 : Nat} {a1 : Int32} {M : XM} {r : Int32} (h : f_X9_count a0 a1 M = some r) : x_Cn l D aC bs yX9_count cX9_count 2 (some .int) rm_X9_count [.ref a0, .int a1] sz M (some (.int r)) sz M := by
  unfold f_X9_count at h
  refine x_enter2 [(0, .ref a0), (1, .int a1)] me_X9_count (Nat.le_of_ble_eq_true rfl) rfl ?_
  refine x_iload_n dX9_count_0 1 rfl ?_
  by_cases c1 : a1 = (0 : Int32)
  · have h := (if_pos c1).symm.trans h
    refine x_tabIn 0 36 dX9_count_1 (by rw [c1]; decide) (by decide) (by decide) rfl (by decide) ?_
    refine x_aload_n dX9_count_36 0 rfl ?_
    obtain ⟨v2, ev2, h⟩ := x_bd h
    refine x_getR clX9 w_fl_RX9_11 (by decide) dX9_count_37 ev2 ?_
    refine x_bipush (v := (17 : Int32)) dX9_count_40 (by decide) ?_
    obtain ⟨v3, ev3, h⟩ := x_bd h
    refine x_iald dX9_count_42 ev3 ?_
    obtain rfl := Option.some.inj h
    exact x_iret dX9_count_43 (Nat.le_of_ble_eq_true rfl) (Nat.le_of_ble_eq_true rfl)
  have h := (if_neg c1).symm.trans h
  by_cases c4 : a1 = (1 : Int32)
  · have h := (if_pos c4).symm.trans h
    refine x_tabIn 1 44 dX9_count_1 (by rw [c4]; decide) (by decide) (by decide) rfl (by decide) ?_
    refine x_aload_n dX9_count_44 0 rfl ?_
    obtain ⟨v5, ev5, h⟩ := x_bd h
    refine x_getR clX9 w_fl_RX9_11 (by decide) dX9_count_45 ev5 ?_
    refine x_bipush (v := (26 : Int32)) dX9_count_48 (by decide) ?_
    obtain ⟨v6, ev6, h⟩ := x_bd h
    refine x_iald dX9_count_50 ev6 ?_
    obtain rfl := Option.some.inj h
    exact x_iret dX9_count_51 (Nat.le_of_ble_eq_true rfl) (Nat.le_of_ble_eq_true rfl)
  have h := (if_neg c4).symm.trans h
  by_cases c7 : a1 = (2 : Int32)
  · have h := (if_pos c7).symm.trans h
    refine x_tabIn 2 52 dX9_count_1 (by rw [c7]; decide) (by decide) (by decide) rfl (by decide) ?_
    refine x_aload_n dX9_count_52 0 rfl ?_
    obtain ⟨v8, ev8, h⟩ := x_bd h
    refine x_getR clX9 w_fl_RX9_11 (by decide) dX9_count_53 ev8 ?_
    refine x_bipush (v := (43 : Int32)) dX9_count_56 (by decide) ?_
    obtain ⟨v9, ev9, h⟩ := x_bd h
    refine x_iald dX9_count_58 ev9 ?_
    obtain rfl := Option.some.inj h
    exact x_iret dX9_count_59 (Nat.le_of_ble_eq_true rfl) (Nat.le_of_ble_eq_true rfl)
  have h := (if_neg c7).symm.trans h
  by_cases c10 : a1 = (3 : Int32)
  · have h := (if_pos c10).symm.trans h
    refine x_tabIn 3 60 dX9_count_1 (by rw [c10]; decide) (by decide) (by decide) rfl (by decide) ?_
    refine x_aload_n dX9_count_60 0 rfl ?_
    obtain ⟨v11, ev11, h⟩ := x_bd h
    refine x_getI clX9 w_fl_RX9_132 (by decide) dX9_count_61 ev11 ?_
    obtain rfl := Option.some.inj h
    exact x_iret dX9_count_64 (Nat.le_of_ble_eq_true rfl) (Nat.le_of_ble_eq_true rfl)
  have h := (if_neg c10).symm.trans h
  by_cases c12 : a1 = (4 : Int32)
  · have h := (if_pos c12).symm.trans h
    refine x_tabIn 4 65 dX9_count_1 (by rw [c12]; decide) (by decide) (by decide) rfl (by decide) ?_
    refine x_aload_n dX9_count_65 0 rfl ?_
    obtain ⟨v13, ev13, h⟩ := x_bd h
    refine x_getI clX9 w_fl_RX9_70 (by decide) dX9_count_66 ev13 ?_
    obtain rfl := Option.some.inj h
    exact x_iret dX9_count_69 (Nat.le_of_ble_eq_true rfl) (Nat.le_of_ble_eq_true rfl)
  have h := (if_neg c12).symm.trans h
  have nc1 := lv_neT c1 (a := 0) (by decide)
  have nc4 := lv_neT c4 (a := 1) (by decide)
  have nc7 := lv_neT c7 (a := 2) (by decide)
  have nc10 := lv_neT c10 (a := 3) (by decide)
  have nc12 := lv_neT c12 (a := 4) (by decide)
  refine x_tabD 70 dX9_count_1 ?_ (by decide) ?_
  · by_cases r1 : (a1).toInt < 0
    · exact Or.inl r1
    by_cases r2 : 4 < (a1).toInt
    · exact Or.inr (Or.inl r2)
    exfalso
    omega
  refine x_bipush (v := (-2 : Int32)) dX9_count_70 (by decide) ?_
  obtain rfl := Option.some.inj h
  exact x_iret dX9_count_72 (Nat.le_of_ble_eq_true rfl) (Nat.le_of_ble_eq_true rfl)

-- SwappedIntervalsModel.tape(III)I
abbrev rm_X9_tape : Room := { frames := 2, cells := 0, slots := 0, locals := 45 }
theorem me_X9_tape : x_Me yX9_tape cX9_tape 5 (some .int) 3 := ⟨by decide +kernel, w_co_yX9_tape, w_in_SwappedIntervalsModel, by decide +kernel, by decide +kernel, by decide +kernel⟩
def b_X9_tape_75 (F : Nat) (a0 : Nat) (a1 : Int32)  (k75 : (Int32 × XM) → Option (Int32 × XM)) (q : Int32 × XM) : Option (Int32 × XM) := if (60 : Int32) ≤ q.1 then some ((1 : Int32), q.2) else (x_gR q.2 a0 9 21).bind fun v13 => (x_w64 q.2 v13 (((60 : Int32) * a1) + q.1) (0 : Int64)).bind fun m14 => k75 ((q.1 + (1 : Int32)), m14)
set_option maxHeartbeats 4000000 in
set_option maxRecDepth 100000 in
theorem lp_X9_tape_75 (l : Launch) (D : va_G) (aC : FieldType → ClassId) (bs : Nat) (sz : Nat) (F : Nat) (a0 : Nat) (a1 : Int32)   : ∀ (n : Nat) (b0 : Int32) (b1 : XM) (r : Int32 × XM), x_it (b_X9_tape_75 F a0 a1 ) n (b0, b1) = some r → x_V l D aC bs yX9_tape cX9_tape 5 (some .int) rm_X9_tape (x_Z D aC bs (some (.int r.1)) sz r.2 rm_X9_tape) 75 [(0, .ref a0), (1, .int a1), (4, .int b0)] [] sz b1 0 0 := by
  suffices H : ∀ (n : Nat) (q : Int32 × XM) (r : Int32 × XM), x_it (b_X9_tape_75 F a0 a1 ) n q = some r → x_V l D aC bs yX9_tape cX9_tape 5 (some .int) rm_X9_tape (x_Z D aC bs (some (.int r.1)) sz r.2 rm_X9_tape) 75 [(0, .ref a0), (1, .int a1), (4, .int q.1)] [] sz q.2 0 0 from fun n b0 b1 r h => H n (b0, b1) r h
  refine x_loop (P := fun (q : Int32 × XM) (r : Int32 × XM) => x_V l D aC bs yX9_tape cX9_tape 5 (some .int) rm_X9_tape (x_Z D aC bs (some (.int r.1)) sz r.2 rm_X9_tape) 75 [(0, .ref a0), (1, .int a1), (4, .int q.1)] [] sz q.2 0 0) (fun k75 hk0 q r h => ?_)
  have hk75 : ∀ (b0 : Int32) (b1 : XM) (r : Int32 × XM), k75 (b0, b1) = some r → x_V l D aC bs yX9_tape cX9_tape 5 (some .int) rm_X9_tape (x_Z D aC bs (some (.int r.1)) sz r.2 rm_X9_tape) 75 [(0, .ref a0), (1, .int a1), (4, .int b0)] [] sz b1 0 0 := fun b0 b1 r h => hk0 (b0, b1) r h
  unfold b_X9_tape_75 at h
  refine x_iload dX9_tape_75 2 rfl ?_
  refine x_bipush (v := (60 : Int32)) dX9_tape_77 (by decide) ?_
  refine x_icmp_ge 101 dX9_tape_79 (by decide) (fun c12 => ?_) (fun c12 => ?_)
  · have h := (if_pos c12).symm.trans h
    refine x_iconst (v := (1 : Int32)) dX9_tape_101 (by decide) ?_
    obtain rfl := Option.some.inj h
    exact x_iret dX9_tape_102 (Nat.le_of_ble_eq_true rfl) (Nat.le_of_ble_eq_true rfl)
  have h := (if_neg c12).symm.trans h
  refine x_aload_n dX9_tape_82 0 rfl ?_
  obtain ⟨v13, ev13, h⟩ := x_bd h
  refine x_getR clX9 w_fl_RX9_58 (by decide) dX9_tape_83 ev13 ?_
  refine x_bipush (v := (60 : Int32)) dX9_tape_86 (by decide) ?_
  refine x_iload_n dX9_tape_88 1 rfl ?_
  refine x_imul dX9_tape_89 ?_
  refine x_iload dX9_tape_90 2 rfl ?_
  refine x_iadd dX9_tape_92 ?_
  refine x_lconst (v := (0 : Int64)) dX9_tape_93 (by decide) ?_
  obtain ⟨m14, em14, h⟩ := x_bd h
  refine x_last dX9_tape_94 em14 ?_
  refine x_iinc (1 : Int32) 2 [(4, .int (q.1 + (1 : Int32))), (0, .ref a0), (1, .int a1)] dX9_tape_95 rfl (by decide) (by decide) rfl ?_
  refine x_goto 75 dX9_tape_98 (by decide) ?_
  exact x_sub [1, 2, 0] rfl (hk75 _ _ _ h)
def j_X9_tape_49 (F : Nat) (a0 : Nat) (a1 : Int32) (a2 : Int32) (a3 : Int32) (M : XM)  : Option (Int32 × XM) := (x_gR M a0 9 19).bind fun v7 => (x_w32 .int M v7 a1 a2).bind fun m8 => (x_gR m8 a0 9 20).bind fun v9 => if a2 = (-1 : Int32) then (x_w32 .int m8 v9 a1 (0 : Int32)).bind fun m15 => x_it (b_X9_tape_75 F (a0) (a1)) F ((0 : Int32), m15) else (x_w32 .int m8 v9 a1 a3).bind fun m11 => x_it (b_X9_tape_75 F (a0) (a1)) F ((0 : Int32), m11)
set_option maxHeartbeats 4000000 in
set_option maxRecDepth 100000 in
theorem jp_X9_tape_49 (l : Launch) (D : va_G) (aC : FieldType → ClassId) (bs : Nat) (sz : Nat) (F : Nat) (a0 : Nat) (a1 : Int32) (a2 : Int32) (a3 : Int32) (M : XM)   {r : Int32 × XM} (h : j_X9_tape_49 F a0 a1 a2 a3 M  = some r) : x_V l D aC bs yX9_tape cX9_tape 5 (some .int) rm_X9_tape (x_Z D aC bs (some (.int r.1)) sz r.2 rm_X9_tape) 49 [(0, .ref a0), (1, .int a1), (2, .int a2), (3, .int a3)] [] sz M 0 0 := by
  unfold j_X9_tape_49 at h
  refine x_aload_n dX9_tape_49 0 rfl ?_
  obtain ⟨v7, ev7, h⟩ := x_bd h
  refine x_getR clX9 w_fl_RX9_52 (by decide) dX9_tape_50 ev7 ?_
  refine x_iload_n dX9_tape_53 1 rfl ?_
  refine x_iload_n dX9_tape_54 2 rfl ?_
  obtain ⟨m8, em8, h⟩ := x_bd h
  refine x_iast dX9_tape_55 em8 ?_
  refine x_aload_n dX9_tape_56 0 rfl ?_
  obtain ⟨v9, ev9, h⟩ := x_bd h
  refine x_getR clX9 w_fl_RX9_55 (by decide) dX9_tape_57 ev9 ?_
  refine x_iload_n dX9_tape_60 1 rfl ?_
  refine x_iload_n dX9_tape_61 2 rfl ?_
  refine x_iconst (v := (-1 : Int32)) dX9_tape_62 (by decide) ?_
  refine x_icmp_ne 70 dX9_tape_63 (by decide) (fun c10 => ?_) (fun c10 => ?_)
  · have h := (if_neg c10).symm.trans h
    refine x_iload_n dX9_tape_70 3 rfl ?_
    obtain ⟨m11, em11, h⟩ := x_bd h
    refine x_iast dX9_tape_71 em11 ?_
    refine x_iconst (v := (0 : Int32)) dX9_tape_72 (by decide) ?_
    refine x_istore [(4, .int (0 : Int32)), (0, .ref a0), (1, .int a1), (2, .int a2), (3, .int a3)] dX9_tape_73 (by decide) rfl ?_
    exact x_sub [1, 2, 0] rfl (lp_X9_tape_75 l D aC bs sz F (a0) (a1)  F _ _ _ h)
  have h := (if_pos c10).symm.trans h
  refine x_iconst (v := (0 : Int32)) dX9_tape_66 (by decide) ?_
  refine x_goto 71 dX9_tape_67 (by decide) ?_
  obtain ⟨m15, em15, h⟩ := x_bd h
  refine x_iast dX9_tape_71 em15 ?_
  refine x_iconst (v := (0 : Int32)) dX9_tape_72 (by decide) ?_
  refine x_istore [(4, .int (0 : Int32)), (0, .ref a0), (1, .int a1), (2, .int a2), (3, .int a3)] dX9_tape_73 (by decide) rfl ?_
  exact x_sub [1, 2, 0] rfl (lp_X9_tape_75 l D aC bs sz F (a0) (a1)  F _ _ _ h)
def j_X9_tape_37 (F : Nat) (a0 : Nat) (a1 : Int32) (a2 : Int32) (a3 : Int32) (M : XM)  : Option (Int32 × XM) := if a2 = (-1 : Int32) then j_X9_tape_49 F (a0) (a1) (a2) (a3) M else if 0 ≤ a3 then j_X9_tape_49 F (a0) (a1) (a2) (a3) M else some ((-14 : Int32), M)
set_option maxHeartbeats 4000000 in
set_option maxRecDepth 100000 in
theorem jp_X9_tape_37 (l : Launch) (D : va_G) (aC : FieldType → ClassId) (bs : Nat) (sz : Nat) (F : Nat) (a0 : Nat) (a1 : Int32) (a2 : Int32) (a3 : Int32) (M : XM)   {r : Int32 × XM} (h : j_X9_tape_37 F a0 a1 a2 a3 M  = some r) : x_V l D aC bs yX9_tape cX9_tape 5 (some .int) rm_X9_tape (x_Z D aC bs (some (.int r.1)) sz r.2 rm_X9_tape) 37 [(0, .ref a0), (1, .int a1), (2, .int a2), (3, .int a3)] [] sz M 0 0 := by
  unfold j_X9_tape_37 at h
  refine x_iload_n dX9_tape_37 2 rfl ?_
  refine x_iconst (v := (-1 : Int32)) dX9_tape_38 (by decide) ?_
  refine x_icmp_eq 49 dX9_tape_39 (by decide) (fun c6 => ?_) (fun c6 => ?_)
  · have h := (if_pos c6).symm.trans h
    exact jp_X9_tape_49 l D aC bs sz F (a0) (a1) (a2) (a3) M  h
  have h := (if_neg c6).symm.trans h
  refine x_iload_n dX9_tape_42 3 rfl ?_
  refine x_if_ge 49 dX9_tape_43 (by decide) (fun c16 => ?_) (fun c16 => ?_)
  · have h := (if_pos c16).symm.trans h
    exact jp_X9_tape_49 l D aC bs sz F (a0) (a1) (a2) (a3) M  h
  have h := (if_neg c16).symm.trans h
  refine x_bipush (v := (-14 : Int32)) dX9_tape_46 (by decide) ?_
  obtain rfl := Option.some.inj h
  exact x_iret dX9_tape_48 (Nat.le_of_ble_eq_true rfl) (Nat.le_of_ble_eq_true rfl)
def f_X9_tape (F : Nat) (a0 : Nat) (a1 : Int32) (a2 : Int32) (a3 : Int32) (M : XM) : Option (Int32 × XM) := (f_X9_isTape a1 M).bind fun p1 => if p1 = 0 then some ((-1 : Int32), M) else (f_X9_in a2.toInt64 (-1 : Int64) (4 : Int64) M).bind fun p3 => if p3 = 0 then some ((-2 : Int32), M) else if a2 = (-1 : Int32) then j_X9_tape_37 F (a0) (a1) (a2) (a3) M else if a3 ≤ (60 : Int32) then j_X9_tape_37 F (a0) (a1) (a2) (a3) M else some ((-2 : Int32), M)
set_option maxHeartbeats 4000000 in
set_option maxRecDepth 100000 in
theorem c_X9_tape (l : Launch) (D : va_G) (aC : FieldType → ClassId) (bs sz : Nat) (F : Nat) {a0 : Nat} {a1 : Int32} {a2 : Int32} {a3 : Int32} {M : XM} {r : Int32 × XM} (h : f_X9_tape F a0 a1 a2 a3 M = some r) : x_Cn l D aC bs yX9_tape cX9_tape 5 (some .int) rm_X9_tape [.ref a0, .int a1, .int a2, .int a3] sz M (some (.int r.1)) sz r.2 := by
  unfold f_X9_tape at h
  refine x_enter2 [(0, .ref a0), (1, .int a1), (2, .int a2), (3, .int a3)] me_X9_tape (Nat.le_of_ble_eq_true rfl) rfl ?_
  refine x_iload_n dX9_tape_0 1 rfl ?_
  obtain ⟨p1, ep1, h⟩ := x_bd h
  refine x_callSI [.int a1] [] me_X9_isTape w_ml_RX9_233 w_st_yX9_isTape (Nat.le_of_ble_eq_true rfl) (Nat.le_of_ble_eq_true rfl) rfl (Nat.le_of_ble_eq_true rfl) (Nat.le_of_ble_eq_true rfl) (Nat.le_of_ble_eq_true rfl) dX9_tape_1 (c_X9_isTape l D aC bs sz ep1) rfl ?_
  refine x_if_ne 9 dX9_tape_4 (by decide) (fun c2 => ?_) (fun c2 => ?_)
  · have h := (if_neg c2).symm.trans h
    refine x_iload_n dX9_tape_9 2 rfl ?_
    refine x_i2l dX9_tape_10 ?_
    refine x_ldc2 (v := (-1 : Int64)) dX9_tape_11 w_cn_RX9_244 ?_
    refine x_ldc2 (v := (4 : Int64)) dX9_tape_14 w_cn_RX9_246 ?_
    obtain ⟨p3, ep3, h⟩ := x_bd h
    refine x_callSI [.long a2.toInt64, .long (-1 : Int64), .long (4 : Int64)] [] me_X9_in w_ml_RX9_66 w_st_yX9_in (Nat.le_of_ble_eq_true rfl) (Nat.le_of_ble_eq_true rfl) rfl (Nat.le_of_ble_eq_true rfl) (Nat.le_of_ble_eq_true rfl) (Nat.le_of_ble_eq_true rfl) dX9_tape_17 (c_X9_in l D aC bs sz ep3) rfl ?_
    refine x_if_eq 34 dX9_tape_20 (by decide) (fun c4 => ?_) (fun c4 => ?_)
    · have h := (if_pos c4).symm.trans h
      refine x_bipush (v := (-2 : Int32)) dX9_tape_34 (by decide) ?_
      obtain rfl := Option.some.inj h
      exact x_iret dX9_tape_36 (Nat.le_of_ble_eq_true rfl) (Nat.le_of_ble_eq_true rfl)
    have h := (if_neg c4).symm.trans h
    refine x_iload_n dX9_tape_23 2 rfl ?_
    refine x_iconst (v := (-1 : Int32)) dX9_tape_24 (by decide) ?_
    refine x_icmp_eq 37 dX9_tape_25 (by decide) (fun c5 => ?_) (fun c5 => ?_)
    · have h := (if_pos c5).symm.trans h
      exact jp_X9_tape_37 l D aC bs sz F (a0) (a1) (a2) (a3) M  h
    have h := (if_neg c5).symm.trans h
    refine x_iload_n dX9_tape_28 3 rfl ?_
    refine x_bipush (v := (60 : Int32)) dX9_tape_29 (by decide) ?_
    refine x_icmp_le 37 dX9_tape_31 (by decide) (fun c17 => ?_) (fun c17 => ?_)
    · have h := (if_pos c17).symm.trans h
      exact jp_X9_tape_37 l D aC bs sz F (a0) (a1) (a2) (a3) M  h
    have h := (if_neg c17).symm.trans h
    refine x_bipush (v := (-2 : Int32)) dX9_tape_34 (by decide) ?_
    obtain rfl := Option.some.inj h
    exact x_iret dX9_tape_36 (Nat.le_of_ble_eq_true rfl) (Nat.le_of_ble_eq_true rfl)
  have h := (if_pos c2).symm.trans h
  refine x_iconst (v := (-1 : Int32)) dX9_tape_7 (by decide) ?_
  obtain rfl := Option.some.inj h
  exact x_iret dX9_tape_8 (Nat.le_of_ble_eq_true rfl) (Nat.le_of_ble_eq_true rfl)

-- SwappedIntervalsModel.held(IJ)J
abbrev rm_X9_held : Room := { frames := 0, cells := 0, slots := 0, locals := 0 }
theorem me_X9_held : x_Me yX9_held cX9_held 3 (some .long) 2 := ⟨by decide +kernel, w_co_yX9_held, w_in_SwappedIntervalsModel, by decide +kernel, by decide +kernel, by decide +kernel⟩
def f_X9_held (a0 : Int32) (a1 : Int64) (M : XM) : Option (Int64) := if a0 = (0 : Int32) then some a1.toInt32.toInt8.toInt32.toInt64 else if a0 = (1 : Int32) then some a1.toInt32.toInt16.toInt32.toInt64 else if a0 = (2 : Int32) then some a1.toInt32.toInt64 else if a0 = (3 : Int32) then some a1 else if (lg_cmp a1 (0 : Int64)) = 0 then some (0 : Int64) else some (1 : Int64)
set_option maxHeartbeats 4000000 in
set_option maxRecDepth 100000 in
theorem c_X9_held (l : Launch) (D : va_G) (aC : FieldType → ClassId) (bs sz : Nat) {a0 : Int32} {a1 : Int64} {M : XM} {r : Int64} (h : f_X9_held a0 a1 M = some r) : x_Cn l D aC bs yX9_held cX9_held 3 (some .long) rm_X9_held [.int a0, .long a1] sz M (some (.long r)) sz M := by
  unfold f_X9_held at h
  refine x_enter2 [(0, .int a0), (1, .long a1)] me_X9_held (Nat.le_of_ble_eq_true rfl) rfl ?_
  refine x_iload_n dX9_held_0 0 rfl ?_
  by_cases c1 : a0 = (0 : Int32)
  · have h := (if_pos c1).symm.trans h
    refine x_tabIn 0 32 dX9_held_1 (by rw [c1]; decide) (by decide) (by decide) rfl (by decide) ?_
    refine x_lload_n dX9_held_32 1 rfl ?_
    refine x_l2i dX9_held_33 ?_
    refine x_i2b dX9_held_34 ?_
    refine x_i2l dX9_held_35 ?_
    obtain rfl := Option.some.inj h
    exact x_lret dX9_held_36 (Nat.le_of_ble_eq_true rfl) (Nat.le_of_ble_eq_true rfl)
  have h := (if_neg c1).symm.trans h
  by_cases c2 : a0 = (1 : Int32)
  · have h := (if_pos c2).symm.trans h
    refine x_tabIn 1 37 dX9_held_1 (by rw [c2]; decide) (by decide) (by decide) rfl (by decide) ?_
    refine x_lload_n dX9_held_37 1 rfl ?_
    refine x_l2i dX9_held_38 ?_
    refine x_i2s dX9_held_39 ?_
    refine x_i2l dX9_held_40 ?_
    obtain rfl := Option.some.inj h
    exact x_lret dX9_held_41 (Nat.le_of_ble_eq_true rfl) (Nat.le_of_ble_eq_true rfl)
  have h := (if_neg c2).symm.trans h
  by_cases c3 : a0 = (2 : Int32)
  · have h := (if_pos c3).symm.trans h
    refine x_tabIn 2 42 dX9_held_1 (by rw [c3]; decide) (by decide) (by decide) rfl (by decide) ?_
    refine x_lload_n dX9_held_42 1 rfl ?_
    refine x_l2i dX9_held_43 ?_
    refine x_i2l dX9_held_44 ?_
    obtain rfl := Option.some.inj h
    exact x_lret dX9_held_45 (Nat.le_of_ble_eq_true rfl) (Nat.le_of_ble_eq_true rfl)
  have h := (if_neg c3).symm.trans h
  by_cases c4 : a0 = (3 : Int32)
  · have h := (if_pos c4).symm.trans h
    refine x_tabIn 3 46 dX9_held_1 (by rw [c4]; decide) (by decide) (by decide) rfl (by decide) ?_
    refine x_lload_n dX9_held_46 1 rfl ?_
    obtain rfl := Option.some.inj h
    exact x_lret dX9_held_47 (Nat.le_of_ble_eq_true rfl) (Nat.le_of_ble_eq_true rfl)
  have h := (if_neg c4).symm.trans h
  have nc1 := lv_neT c1 (a := 0) (by decide)
  have nc2 := lv_neT c2 (a := 1) (by decide)
  have nc3 := lv_neT c3 (a := 2) (by decide)
  have nc4 := lv_neT c4 (a := 3) (by decide)
  refine x_tabD 48 dX9_held_1 ?_ (by decide) ?_
  · by_cases r1 : (a0).toInt < 0
    · exact Or.inl r1
    by_cases r2 : 3 < (a0).toInt
    · exact Or.inr (Or.inl r2)
    exfalso
    omega
  refine x_lload_n dX9_held_48 1 rfl ?_
  refine x_lconst (v := (0 : Int64)) dX9_held_49 (by decide) ?_
  refine x_lcmp dX9_held_50 ?_
  refine x_if_eq 58 dX9_held_51 (by decide) (fun c5 => ?_) (fun c5 => ?_)
  · have h := (if_pos c5).symm.trans h
    refine x_lconst (v := (0 : Int64)) dX9_held_58 (by decide) ?_
    obtain rfl := Option.some.inj h
    exact x_lret dX9_held_59 (Nat.le_of_ble_eq_true rfl) (Nat.le_of_ble_eq_true rfl)
  have h := (if_neg c5).symm.trans h
  refine x_lconst (v := (1 : Int64)) dX9_held_54 (by decide) ?_
  refine x_goto 59 dX9_held_55 (by decide) ?_
  obtain rfl := Option.some.inj h
  exact x_lret dX9_held_59 (Nat.le_of_ble_eq_true rfl) (Nat.le_of_ble_eq_true rfl)

-- SwappedIntervalsModel.item(IIJ)I
abbrev rm_X9_item : Room := { frames := 2, cells := 0, slots := 0, locals := 48 }
theorem me_X9_item : x_Me yX9_item cX9_item 5 (some .int) 3 := ⟨by decide +kernel, w_co_yX9_item, w_in_SwappedIntervalsModel, by decide +kernel, by decide +kernel, by decide +kernel⟩
def f_X9_item (a0 : Nat) (a1 : Int32) (a2 : Int32) (a3 : Int64) (M : XM) : Option (Int32 × XM) := (f_X9_isTape a1 M).bind fun p1 => if p1 = 0 then some ((-1 : Int32), M) else (x_gR M a0 9 19).bind fun v3 => (x_a32 .int M v3 a1).bind fun v4 => if v4 = (-1 : Int32) then some ((-11 : Int32), M) else (x_ob M a0 9).bind fun u6 => (f_X9_isItem a0 a1 a2.toInt64 M).bind fun p7 => if p7 = 0 then some ((-13 : Int32), M) else (x_gR M a0 9 21).bind fun v9 => (x_gR M a0 9 19).bind fun v10 => (x_a32 .int M v10 a1).bind fun v11 => (f_X9_held v11 a3 M).bind fun p12 => (x_w64 M v9 (((60 : Int32) * a1) + a2) p12).bind fun m13 => some ((1 : Int32), m13)
set_option maxHeartbeats 4000000 in
set_option maxRecDepth 100000 in
theorem c_X9_item (l : Launch) (D : va_G) (aC : FieldType → ClassId) (bs sz : Nat) {a0 : Nat} {a1 : Int32} {a2 : Int32} {a3 : Int64} {M : XM} {r : Int32 × XM} (h : f_X9_item a0 a1 a2 a3 M = some r) : x_Cn l D aC bs yX9_item cX9_item 5 (some .int) rm_X9_item [.ref a0, .int a1, .int a2, .long a3] sz M (some (.int r.1)) sz r.2 := by
  unfold f_X9_item at h
  refine x_enter2 [(0, .ref a0), (1, .int a1), (2, .int a2), (3, .long a3)] me_X9_item (Nat.le_of_ble_eq_true rfl) rfl ?_
  refine x_iload_n dX9_item_0 1 rfl ?_
  obtain ⟨p1, ep1, h⟩ := x_bd h
  refine x_callSI [.int a1] [] me_X9_isTape w_ml_RX9_233 w_st_yX9_isTape (Nat.le_of_ble_eq_true rfl) (Nat.le_of_ble_eq_true rfl) rfl (Nat.le_of_ble_eq_true rfl) (Nat.le_of_ble_eq_true rfl) (Nat.le_of_ble_eq_true rfl) dX9_item_1 (c_X9_isTape l D aC bs sz ep1) rfl ?_
  refine x_if_ne 9 dX9_item_4 (by decide) (fun c2 => ?_) (fun c2 => ?_)
  · have h := (if_neg c2).symm.trans h
    refine x_aload_n dX9_item_9 0 rfl ?_
    obtain ⟨v3, ev3, h⟩ := x_bd h
    refine x_getR clX9 w_fl_RX9_52 (by decide) dX9_item_10 ev3 ?_
    refine x_iload_n dX9_item_13 1 rfl ?_
    obtain ⟨v4, ev4, h⟩ := x_bd h
    refine x_iald dX9_item_14 ev4 ?_
    refine x_iconst (v := (-1 : Int32)) dX9_item_15 (by decide) ?_
    refine x_icmp_ne 22 dX9_item_16 (by decide) (fun c5 => ?_) (fun c5 => ?_)
    · have h := (if_neg c5).symm.trans h
      refine x_aload_n dX9_item_22 0 rfl ?_
      refine x_iload_n dX9_item_23 1 rfl ?_
      refine x_iload_n dX9_item_24 2 rfl ?_
      refine x_i2l dX9_item_25 ?_
      obtain ⟨u6, eu6, h⟩ := x_bd h
      obtain ⟨p7, ep7, h⟩ := x_bd h
      refine x_callVI [.int a1, .long a2.toInt64] [] clX9 me_X9_isItem w_ml_RX9_236 w_im_yX9_isItem w_se_yX9_isItem (Nat.le_of_ble_eq_true rfl) (Nat.le_of_ble_eq_true rfl) rfl (Nat.le_of_ble_eq_true rfl) (Nat.le_of_ble_eq_true rfl) (Nat.le_of_ble_eq_true rfl) dX9_item_26 eu6 (c_X9_isItem l D aC bs sz ep7) rfl ?_
      refine x_if_ne 35 dX9_item_29 (by decide) (fun c8 => ?_) (fun c8 => ?_)
      · have h := (if_neg c8).symm.trans h
        refine x_aload_n dX9_item_35 0 rfl ?_
        obtain ⟨v9, ev9, h⟩ := x_bd h
        refine x_getR clX9 w_fl_RX9_58 (by decide) dX9_item_36 ev9 ?_
        refine x_bipush (v := (60 : Int32)) dX9_item_39 (by decide) ?_
        refine x_iload_n dX9_item_41 1 rfl ?_
        refine x_imul dX9_item_42 ?_
        refine x_iload_n dX9_item_43 2 rfl ?_
        refine x_iadd dX9_item_44 ?_
        refine x_aload_n dX9_item_45 0 rfl ?_
        obtain ⟨v10, ev10, h⟩ := x_bd h
        refine x_getR clX9 w_fl_RX9_52 (by decide) dX9_item_46 ev10 ?_
        refine x_iload_n dX9_item_49 1 rfl ?_
        obtain ⟨v11, ev11, h⟩ := x_bd h
        refine x_iald dX9_item_50 ev11 ?_
        refine x_lload_n dX9_item_51 3 rfl ?_
        obtain ⟨p12, ep12, h⟩ := x_bd h
        refine x_callSJ [.int v11, .long a3] [.int (((60 : Int32) * a1) + a2), .ref v9] me_X9_held w_ml_RX9_248 w_st_yX9_held (Nat.le_of_ble_eq_true rfl) (Nat.le_of_ble_eq_true rfl) rfl (Nat.le_of_ble_eq_true rfl) (Nat.le_of_ble_eq_true rfl) (Nat.le_of_ble_eq_true rfl) dX9_item_52 (c_X9_held l D aC bs sz ep12) rfl ?_
        obtain ⟨m13, em13, h⟩ := x_bd h
        refine x_last dX9_item_55 em13 ?_
        refine x_iconst (v := (1 : Int32)) dX9_item_56 (by decide) ?_
        obtain rfl := Option.some.inj h
        exact x_iret dX9_item_57 (Nat.le_of_ble_eq_true rfl) (Nat.le_of_ble_eq_true rfl)
      have h := (if_pos c8).symm.trans h
      refine x_bipush (v := (-13 : Int32)) dX9_item_32 (by decide) ?_
      obtain rfl := Option.some.inj h
      exact x_iret dX9_item_34 (Nat.le_of_ble_eq_true rfl) (Nat.le_of_ble_eq_true rfl)
    have h := (if_pos c5).symm.trans h
    refine x_bipush (v := (-11 : Int32)) dX9_item_19 (by decide) ?_
    obtain rfl := Option.some.inj h
    exact x_iret dX9_item_21 (Nat.le_of_ble_eq_true rfl) (Nat.le_of_ble_eq_true rfl)
  have h := (if_pos c2).symm.trans h
  refine x_iconst (v := (-1 : Int32)) dX9_item_7 (by decide) ?_
  obtain rfl := Option.some.inj h
  exact x_iret dX9_item_8 (Nat.le_of_ble_eq_true rfl) (Nat.le_of_ble_eq_true rfl)

-- SwappedIntervalsModel.peek(II)J
abbrev rm_X9_peek : Room := { frames := 2, cells := 0, slots := 0, locals := 48 }
theorem me_X9_peek : x_Me yX9_peek cX9_peek 3 (some .long) 2 := ⟨by decide +kernel, w_co_yX9_peek, w_in_SwappedIntervalsModel, by decide +kernel, by decide +kernel, by decide +kernel⟩
def f_X9_peek (a0 : Nat) (a1 : Int32) (a2 : Int32) (M : XM) : Option (Int64) := (f_X9_isTape a1 M).bind fun p1 => if p1 = 0 then some (-9223372036854775808 : Int64) else (x_ob M a0 9).bind fun u3 => (f_X9_isItem a0 a1 a2.toInt64 M).bind fun p4 => if p4 = 0 then some (-9223372036854775808 : Int64) else (x_gR M a0 9 21).bind fun v6 => (x_a64 M v6 (((60 : Int32) * a1) + a2)).bind fun v7 => some v7
set_option maxHeartbeats 4000000 in
set_option maxRecDepth 100000 in
theorem c_X9_peek (l : Launch) (D : va_G) (aC : FieldType → ClassId) (bs sz : Nat) {a0 : Nat} {a1 : Int32} {a2 : Int32} {M : XM} {r : Int64} (h : f_X9_peek a0 a1 a2 M = some r) : x_Cn l D aC bs yX9_peek cX9_peek 3 (some .long) rm_X9_peek [.ref a0, .int a1, .int a2] sz M (some (.long r)) sz M := by
  unfold f_X9_peek at h
  refine x_enter2 [(0, .ref a0), (1, .int a1), (2, .int a2)] me_X9_peek (Nat.le_of_ble_eq_true rfl) rfl ?_
  refine x_iload_n dX9_peek_0 1 rfl ?_
  obtain ⟨p1, ep1, h⟩ := x_bd h
  refine x_callSI [.int a1] [] me_X9_isTape w_ml_RX9_233 w_st_yX9_isTape (Nat.le_of_ble_eq_true rfl) (Nat.le_of_ble_eq_true rfl) rfl (Nat.le_of_ble_eq_true rfl) (Nat.le_of_ble_eq_true rfl) (Nat.le_of_ble_eq_true rfl) dX9_peek_1 (c_X9_isTape l D aC bs sz ep1) rfl ?_
  refine x_if_eq 31 dX9_peek_4 (by decide) (fun c2 => ?_) (fun c2 => ?_)
  · have h := (if_pos c2).symm.trans h
    refine x_ldc2 (v := (-9223372036854775808 : Int64)) dX9_peek_31 w_cn_RX9_225 ?_
    obtain rfl := Option.some.inj h
    exact x_lret dX9_peek_34 (Nat.le_of_ble_eq_true rfl) (Nat.le_of_ble_eq_true rfl)
  have h := (if_neg c2).symm.trans h
  refine x_aload_n dX9_peek_7 0 rfl ?_
  refine x_iload_n dX9_peek_8 1 rfl ?_
  refine x_iload_n dX9_peek_9 2 rfl ?_
  refine x_i2l dX9_peek_10 ?_
  obtain ⟨u3, eu3, h⟩ := x_bd h
  obtain ⟨p4, ep4, h⟩ := x_bd h
  refine x_callVI [.int a1, .long a2.toInt64] [] clX9 me_X9_isItem w_ml_RX9_236 w_im_yX9_isItem w_se_yX9_isItem (Nat.le_of_ble_eq_true rfl) (Nat.le_of_ble_eq_true rfl) rfl (Nat.le_of_ble_eq_true rfl) (Nat.le_of_ble_eq_true rfl) (Nat.le_of_ble_eq_true rfl) dX9_peek_11 eu3 (c_X9_isItem l D aC bs sz ep4) rfl ?_
  refine x_if_eq 31 dX9_peek_14 (by decide) (fun c5 => ?_) (fun c5 => ?_)
  · have h := (if_pos c5).symm.trans h
    refine x_ldc2 (v := (-9223372036854775808 : Int64)) dX9_peek_31 w_cn_RX9_225 ?_
    obtain rfl := Option.some.inj h
    exact x_lret dX9_peek_34 (Nat.le_of_ble_eq_true rfl) (Nat.le_of_ble_eq_true rfl)
  have h := (if_neg c5).symm.trans h
  refine x_aload_n dX9_peek_17 0 rfl ?_
  obtain ⟨v6, ev6, h⟩ := x_bd h
  refine x_getR clX9 w_fl_RX9_58 (by decide) dX9_peek_18 ev6 ?_
  refine x_bipush (v := (60 : Int32)) dX9_peek_21 (by decide) ?_
  refine x_iload_n dX9_peek_23 1 rfl ?_
  refine x_imul dX9_peek_24 ?_
  refine x_iload_n dX9_peek_25 2 rfl ?_
  refine x_iadd dX9_peek_26 ?_
  obtain ⟨v7, ev7, h⟩ := x_bd h
  refine x_lald dX9_peek_27 ev7 ?_
  refine x_goto 34 dX9_peek_28 (by decide) ?_
  obtain rfl := Option.some.inj h
  exact x_lret dX9_peek_34 (Nat.le_of_ble_eq_true rfl) (Nat.le_of_ble_eq_true rfl)

-- SwappedIntervalsModel.shift(IIIII)I
abbrev rm_X9_shift : Room := { frames := 2, cells := 0, slots := 0, locals := 45 }
theorem me_X9_shift : x_Me yX9_shift cX9_shift 6 (some .int) 5 := ⟨by decide +kernel, w_co_yX9_shift, w_in_SwappedIntervalsModel, by decide +kernel, by decide +kernel, by decide +kernel⟩
def f_X9_shift (a0 : Nat) (a1 : Int32) (a2 : Int32) (a3 : Int32) (a4 : Int32) (a5 : Int32) (M : XM) : Option (Int32 × XM) := (f_X9_isTape a1 M).bind fun p1 => if p1 = 0 then some ((-1 : Int32), M) else (f_X9_isTape a3 M).bind fun p3 => if p3 = 0 then some ((-1 : Int32), M) else (x_gR M a0 9 19).bind fun v5 => (x_a32 .int M v5 a1).bind fun v6 => if v6 = (-1 : Int32) then some ((-11 : Int32), M) else (x_gR M a0 9 19).bind fun v8 => (x_a32 .int M v8 a3).bind fun v9 => if v9 = (-1 : Int32) then some ((-11 : Int32), M) else (x_gR M a0 9 19).bind fun v11 => (x_a32 .int M v11 a1).bind fun v12 => (x_gR M a0 9 19).bind fun v13 => (x_a32 .int M v13 a3).bind fun v14 => if v12 = v14 then if a5 < 0 then some ((-13 : Int32), M) else if a2 < 0 then some ((-13 : Int32), M) else if a4 < 0 then some ((-13 : Int32), M) else (x_gR M a0 9 20).bind fun v19 => (x_a32 .int M v19 a1).bind fun v20 => if (v20 - a5) < a2 then some ((-13 : Int32), M) else (x_gR M a0 9 20).bind fun v22 => (x_a32 .int M v22 a3).bind fun v23 => if a4 ≤ (v23 - a5) then (x_gR M a0 9 21).bind fun v25 => (x_gR M a0 9 21).bind fun v26 => (x_cpL M v25 (((60 : Int32) * a1) + a2) v26 (((60 : Int32) * a3) + a4) a5).bind fun m27 => some (a5, m27) else some ((-13 : Int32), M) else some ((-12 : Int32), M)
set_option maxHeartbeats 4000000 in
set_option maxRecDepth 100000 in
theorem c_X9_shift (l : Launch) (D : va_G) (aC : FieldType → ClassId) (bs sz : Nat) {a0 : Nat} {a1 : Int32} {a2 : Int32} {a3 : Int32} {a4 : Int32} {a5 : Int32} {M : XM} {r : Int32 × XM} (h : f_X9_shift a0 a1 a2 a3 a4 a5 M = some r) : x_Cn l D aC bs yX9_shift cX9_shift 6 (some .int) rm_X9_shift [.ref a0, .int a1, .int a2, .int a3, .int a4, .int a5] sz M (some (.int r.1)) sz r.2 := by
  unfold f_X9_shift at h
  refine x_enter2 [(0, .ref a0), (1, .int a1), (2, .int a2), (3, .int a3), (4, .int a4), (5, .int a5)] me_X9_shift (Nat.le_of_ble_eq_true rfl) rfl ?_
  refine x_iload_n dX9_shift_0 1 rfl ?_
  obtain ⟨p1, ep1, h⟩ := x_bd h
  refine x_callSI [.int a1] [] me_X9_isTape w_ml_RX9_233 w_st_yX9_isTape (Nat.le_of_ble_eq_true rfl) (Nat.le_of_ble_eq_true rfl) rfl (Nat.le_of_ble_eq_true rfl) (Nat.le_of_ble_eq_true rfl) (Nat.le_of_ble_eq_true rfl) dX9_shift_1 (c_X9_isTape l D aC bs sz ep1) rfl ?_
  refine x_if_eq 14 dX9_shift_4 (by decide) (fun c2 => ?_) (fun c2 => ?_)
  · have h := (if_pos c2).symm.trans h
    refine x_iconst (v := (-1 : Int32)) dX9_shift_14 (by decide) ?_
    obtain rfl := Option.some.inj h
    exact x_iret dX9_shift_15 (Nat.le_of_ble_eq_true rfl) (Nat.le_of_ble_eq_true rfl)
  have h := (if_neg c2).symm.trans h
  refine x_iload_n dX9_shift_7 3 rfl ?_
  obtain ⟨p3, ep3, h⟩ := x_bd h
  refine x_callSI [.int a3] [] me_X9_isTape w_ml_RX9_233 w_st_yX9_isTape (Nat.le_of_ble_eq_true rfl) (Nat.le_of_ble_eq_true rfl) rfl (Nat.le_of_ble_eq_true rfl) (Nat.le_of_ble_eq_true rfl) (Nat.le_of_ble_eq_true rfl) dX9_shift_8 (c_X9_isTape l D aC bs sz ep3) rfl ?_
  refine x_if_ne 16 dX9_shift_11 (by decide) (fun c4 => ?_) (fun c4 => ?_)
  · have h := (if_neg c4).symm.trans h
    refine x_aload_n dX9_shift_16 0 rfl ?_
    obtain ⟨v5, ev5, h⟩ := x_bd h
    refine x_getR clX9 w_fl_RX9_52 (by decide) dX9_shift_17 ev5 ?_
    refine x_iload_n dX9_shift_20 1 rfl ?_
    obtain ⟨v6, ev6, h⟩ := x_bd h
    refine x_iald dX9_shift_21 ev6 ?_
    refine x_iconst (v := (-1 : Int32)) dX9_shift_22 (by decide) ?_
    refine x_icmp_eq 36 dX9_shift_23 (by decide) (fun c7 => ?_) (fun c7 => ?_)
    · have h := (if_pos c7).symm.trans h
      refine x_bipush (v := (-11 : Int32)) dX9_shift_36 (by decide) ?_
      obtain rfl := Option.some.inj h
      exact x_iret dX9_shift_38 (Nat.le_of_ble_eq_true rfl) (Nat.le_of_ble_eq_true rfl)
    have h := (if_neg c7).symm.trans h
    refine x_aload_n dX9_shift_26 0 rfl ?_
    obtain ⟨v8, ev8, h⟩ := x_bd h
    refine x_getR clX9 w_fl_RX9_52 (by decide) dX9_shift_27 ev8 ?_
    refine x_iload_n dX9_shift_30 3 rfl ?_
    obtain ⟨v9, ev9, h⟩ := x_bd h
    refine x_iald dX9_shift_31 ev9 ?_
    refine x_iconst (v := (-1 : Int32)) dX9_shift_32 (by decide) ?_
    refine x_icmp_ne 39 dX9_shift_33 (by decide) (fun c10 => ?_) (fun c10 => ?_)
    · have h := (if_neg c10).symm.trans h
      refine x_aload_n dX9_shift_39 0 rfl ?_
      obtain ⟨v11, ev11, h⟩ := x_bd h
      refine x_getR clX9 w_fl_RX9_52 (by decide) dX9_shift_40 ev11 ?_
      refine x_iload_n dX9_shift_43 1 rfl ?_
      obtain ⟨v12, ev12, h⟩ := x_bd h
      refine x_iald dX9_shift_44 ev12 ?_
      refine x_aload_n dX9_shift_45 0 rfl ?_
      obtain ⟨v13, ev13, h⟩ := x_bd h
      refine x_getR clX9 w_fl_RX9_52 (by decide) dX9_shift_46 ev13 ?_
      refine x_iload_n dX9_shift_49 3 rfl ?_
      obtain ⟨v14, ev14, h⟩ := x_bd h
      refine x_iald dX9_shift_50 ev14 ?_
      refine x_icmp_eq 57 dX9_shift_51 (by decide) (fun c15 => ?_) (fun c15 => ?_)
      · have h := (if_pos c15).symm.trans h
        refine x_iload dX9_shift_57 5 rfl ?_
        refine x_if_lt 98 dX9_shift_59 (by decide) (fun c16 => ?_) (fun c16 => ?_)
        · have h := (if_pos c16).symm.trans h
          refine x_bipush (v := (-13 : Int32)) dX9_shift_98 (by decide) ?_
          obtain rfl := Option.some.inj h
          exact x_iret dX9_shift_100 (Nat.le_of_ble_eq_true rfl) (Nat.le_of_ble_eq_true rfl)
        have h := (if_neg c16).symm.trans h
        refine x_iload_n dX9_shift_62 2 rfl ?_
        refine x_if_lt 98 dX9_shift_63 (by decide) (fun c17 => ?_) (fun c17 => ?_)
        · have h := (if_pos c17).symm.trans h
          refine x_bipush (v := (-13 : Int32)) dX9_shift_98 (by decide) ?_
          obtain rfl := Option.some.inj h
          exact x_iret dX9_shift_100 (Nat.le_of_ble_eq_true rfl) (Nat.le_of_ble_eq_true rfl)
        have h := (if_neg c17).symm.trans h
        refine x_iload dX9_shift_66 4 rfl ?_
        refine x_if_lt 98 dX9_shift_68 (by decide) (fun c18 => ?_) (fun c18 => ?_)
        · have h := (if_pos c18).symm.trans h
          refine x_bipush (v := (-13 : Int32)) dX9_shift_98 (by decide) ?_
          obtain rfl := Option.some.inj h
          exact x_iret dX9_shift_100 (Nat.le_of_ble_eq_true rfl) (Nat.le_of_ble_eq_true rfl)
        have h := (if_neg c18).symm.trans h
        refine x_iload_n dX9_shift_71 2 rfl ?_
        refine x_aload_n dX9_shift_72 0 rfl ?_
        obtain ⟨v19, ev19, h⟩ := x_bd h
        refine x_getR clX9 w_fl_RX9_55 (by decide) dX9_shift_73 ev19 ?_
        refine x_iload_n dX9_shift_76 1 rfl ?_
        obtain ⟨v20, ev20, h⟩ := x_bd h
        refine x_iald dX9_shift_77 ev20 ?_
        refine x_iload dX9_shift_78 5 rfl ?_
        refine x_isub dX9_shift_80 ?_
        refine x_icmp_gt 98 dX9_shift_81 (by decide) (fun c21 => ?_) (fun c21 => ?_)
        · have h := (if_pos c21).symm.trans h
          refine x_bipush (v := (-13 : Int32)) dX9_shift_98 (by decide) ?_
          obtain rfl := Option.some.inj h
          exact x_iret dX9_shift_100 (Nat.le_of_ble_eq_true rfl) (Nat.le_of_ble_eq_true rfl)
        have h := (if_neg c21).symm.trans h
        refine x_iload dX9_shift_84 4 rfl ?_
        refine x_aload_n dX9_shift_86 0 rfl ?_
        obtain ⟨v22, ev22, h⟩ := x_bd h
        refine x_getR clX9 w_fl_RX9_55 (by decide) dX9_shift_87 ev22 ?_
        refine x_iload_n dX9_shift_90 3 rfl ?_
        obtain ⟨v23, ev23, h⟩ := x_bd h
        refine x_iald dX9_shift_91 ev23 ?_
        refine x_iload dX9_shift_92 5 rfl ?_
        refine x_isub dX9_shift_94 ?_
        refine x_icmp_le 101 dX9_shift_95 (by decide) (fun c24 => ?_) (fun c24 => ?_)
        · have h := (if_pos c24).symm.trans h
          refine x_aload_n dX9_shift_101 0 rfl ?_
          obtain ⟨v25, ev25, h⟩ := x_bd h
          refine x_getR clX9 w_fl_RX9_58 (by decide) dX9_shift_102 ev25 ?_
          refine x_bipush (v := (60 : Int32)) dX9_shift_105 (by decide) ?_
          refine x_iload_n dX9_shift_107 1 rfl ?_
          refine x_imul dX9_shift_108 ?_
          refine x_iload_n dX9_shift_109 2 rfl ?_
          refine x_iadd dX9_shift_110 ?_
          refine x_aload_n dX9_shift_111 0 rfl ?_
          obtain ⟨v26, ev26, h⟩ := x_bd h
          refine x_getR clX9 w_fl_RX9_58 (by decide) dX9_shift_112 ev26 ?_
          refine x_bipush (v := (60 : Int32)) dX9_shift_115 (by decide) ?_
          refine x_iload_n dX9_shift_117 3 rfl ?_
          refine x_imul dX9_shift_118 ?_
          refine x_iload dX9_shift_119 4 rfl ?_
          refine x_iadd dX9_shift_121 ?_
          refine x_iload dX9_shift_122 5 rfl ?_
          obtain ⟨m27, em27, h⟩ := x_bd h
          refine x_acL w_ml_RX9_89 w_na_arraycopyName w_st_arraycopyName w_in_java_lang_System (Nat.le_of_ble_eq_true rfl) (Nat.le_of_ble_eq_true rfl) dX9_shift_124 em27 ?_
          refine x_iload dX9_shift_127 5 rfl ?_
          obtain rfl := Option.some.inj h
          exact x_iret dX9_shift_129 (Nat.le_of_ble_eq_true rfl) (Nat.le_of_ble_eq_true rfl)
        have h := (if_neg c24).symm.trans h
        refine x_bipush (v := (-13 : Int32)) dX9_shift_98 (by decide) ?_
        obtain rfl := Option.some.inj h
        exact x_iret dX9_shift_100 (Nat.le_of_ble_eq_true rfl) (Nat.le_of_ble_eq_true rfl)
      have h := (if_neg c15).symm.trans h
      refine x_bipush (v := (-12 : Int32)) dX9_shift_54 (by decide) ?_
      obtain rfl := Option.some.inj h
      exact x_iret dX9_shift_56 (Nat.le_of_ble_eq_true rfl) (Nat.le_of_ble_eq_true rfl)
    have h := (if_pos c10).symm.trans h
    refine x_bipush (v := (-11 : Int32)) dX9_shift_36 (by decide) ?_
    obtain rfl := Option.some.inj h
    exact x_iret dX9_shift_38 (Nat.le_of_ble_eq_true rfl) (Nat.le_of_ble_eq_true rfl)
  have h := (if_pos c4).symm.trans h
  refine x_iconst (v := (-1 : Int32)) dX9_shift_14 (by decide) ?_
  obtain rfl := Option.some.inj h
  exact x_iret dX9_shift_15 (Nat.le_of_ble_eq_true rfl) (Nat.le_of_ble_eq_true rfl)
