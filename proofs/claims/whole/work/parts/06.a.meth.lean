-- SwappedIntervals$Rows.begin(I)V
abbrev rm_X3_begin : Room := { frames := 1, cells := 0, slots := 0, locals := 21 }
theorem me_X3_begin : x_Me yX3_begin cX3_begin 3 none 1 := ⟨by decide +kernel, w_co_yX3_begin, w_in_SwappedIntervals_Rows, by decide +kernel, by decide +kernel, by decide +kernel⟩
def b_X3_begin_15 (F : Nat) (a0 : Nat)  (k15 : (Int32 × XM) → Option (XM)) (q : Int32 × XM) : Option (XM) := (x_gI q.2 a0 3 0).bind fun v2 => if v2 ≤ q.1 then some q.2 else (x_gR q.2 a0 3 1).bind fun v4 => (x_w32 .int q.2 v4 q.1 q.1).bind fun m5 => (x_gR m5 a0 3 2).bind fun v6 => (x_gI m5 a0 3 0).bind fun v7 => (x_w32 .int m5 v6 q.1 ((v7 - (1 : Int32)) - q.1)).bind fun m8 => (x_gR m8 a0 3 3).bind fun v9 => (x_w32 .int m8 v9 q.1 (1 : Int32)).bind fun m10 => k15 ((q.1 + (1 : Int32)), m10)
set_option maxHeartbeats 4000000 in
set_option maxRecDepth 100000 in
theorem lp_X3_begin_15 (l : Launch) (D : va_G) (aC : FieldType → ClassId) (bs : Nat) (sz : Nat) (F : Nat) (a0 : Nat)   : ∀ (n : Nat) (b0 : Int32) (b1 : XM) (r : XM), x_it (b_X3_begin_15 F a0 ) n (b0, b1) = some r → x_V l D aC bs yX3_begin cX3_begin 3 none rm_X3_begin (x_Z D aC bs none sz r rm_X3_begin) 15 [(0, .ref a0), (2, .int b0)] [] sz b1 0 0 := by
  suffices H : ∀ (n : Nat) (q : Int32 × XM) (r : XM), x_it (b_X3_begin_15 F a0 ) n q = some r → x_V l D aC bs yX3_begin cX3_begin 3 none rm_X3_begin (x_Z D aC bs none sz r rm_X3_begin) 15 [(0, .ref a0), (2, .int q.1)] [] sz q.2 0 0 from fun n b0 b1 r h => H n (b0, b1) r h
  refine x_loop (P := fun (q : Int32 × XM) (r : XM) => x_V l D aC bs yX3_begin cX3_begin 3 none rm_X3_begin (x_Z D aC bs none sz r rm_X3_begin) 15 [(0, .ref a0), (2, .int q.1)] [] sz q.2 0 0) (fun k15 hk0 q r h => ?_)
  have hk15 : ∀ (b0 : Int32) (b1 : XM) (r : XM), k15 (b0, b1) = some r → x_V l D aC bs yX3_begin cX3_begin 3 none rm_X3_begin (x_Z D aC bs none sz r rm_X3_begin) 15 [(0, .ref a0), (2, .int b0)] [] sz b1 0 0 := fun b0 b1 r h => hk0 (b0, b1) r h
  unfold b_X3_begin_15 at h
  refine x_iload_n dX3_begin_15 1 rfl ?_
  refine x_aload_n dX3_begin_16 0 rfl ?_
  obtain ⟨v2, ev2, h⟩ := x_bd h
  refine x_getI clX3 w_fl_RX3_34 (by decide) dX3_begin_17 ev2 ?_
  refine x_icmp_ge 57 dX3_begin_20 (by decide) (fun c3 => ?_) (fun c3 => ?_)
  · have h := (if_pos c3).symm.trans h
    obtain rfl := Option.some.inj h
    exact x_vret dX3_begin_57 (Nat.le_of_ble_eq_true rfl) (Nat.le_of_ble_eq_true rfl)
  have h := (if_neg c3).symm.trans h
  refine x_aload_n dX3_begin_23 0 rfl ?_
  obtain ⟨v4, ev4, h⟩ := x_bd h
  refine x_getR clX3 w_fl_RX3_9 (by decide) dX3_begin_24 ev4 ?_
  refine x_iload_n dX3_begin_27 1 rfl ?_
  refine x_iload_n dX3_begin_28 1 rfl ?_
  obtain ⟨m5, em5, h⟩ := x_bd h
  refine x_iast dX3_begin_29 em5 ?_
  refine x_aload_n dX3_begin_30 0 rfl ?_
  obtain ⟨v6, ev6, h⟩ := x_bd h
  refine x_getR clX3 w_fl_RX3_15 (by decide) dX3_begin_31 ev6 ?_
  refine x_iload_n dX3_begin_34 1 rfl ?_
  refine x_aload_n dX3_begin_35 0 rfl ?_
  obtain ⟨v7, ev7, h⟩ := x_bd h
  refine x_getI clX3 w_fl_RX3_34 (by decide) dX3_begin_36 ev7 ?_
  refine x_iconst (v := (1 : Int32)) dX3_begin_39 (by decide) ?_
  refine x_isub dX3_begin_40 ?_
  refine x_iload_n dX3_begin_41 1 rfl ?_
  refine x_isub dX3_begin_42 ?_
  obtain ⟨m8, em8, h⟩ := x_bd h
  refine x_iast dX3_begin_43 em8 ?_
  refine x_aload_n dX3_begin_44 0 rfl ?_
  obtain ⟨v9, ev9, h⟩ := x_bd h
  refine x_getR clX3 w_fl_RX3_18 (by decide) dX3_begin_45 ev9 ?_
  refine x_iload_n dX3_begin_48 1 rfl ?_
  refine x_iconst (v := (1 : Int32)) dX3_begin_49 (by decide) ?_
  obtain ⟨m10, em10, h⟩ := x_bd h
  refine x_iast dX3_begin_50 em10 ?_
  refine x_iinc (1 : Int32) 1 [(2, .int (q.1 + (1 : Int32))), (0, .ref a0)] dX3_begin_51 rfl (by decide) (by decide) rfl ?_
  refine x_goto 15 dX3_begin_54 (by decide) ?_
  exact x_sub [1, 0] rfl (hk15 _ _ _ h)
def f_X3_begin (F : Nat) (a0 : Nat) (a1 : Int32) (M : XM) : Option (XM) := (x_put M a0 3 0 (.int (if (2 : Int32) < (if (5 : Int32) < a1 then (5 : Int32) else a1) then (if (5 : Int32) < a1 then (5 : Int32) else a1) else (2 : Int32)))).bind fun m1 => x_it (b_X3_begin_15 F (a0)) F ((0 : Int32), m1)
set_option maxHeartbeats 4000000 in
set_option maxRecDepth 100000 in
theorem c_X3_begin (l : Launch) (D : va_G) (aC : FieldType → ClassId) (bs sz : Nat) (F : Nat) {a0 : Nat} {a1 : Int32} {M : XM} {r : XM} (h : f_X3_begin F a0 a1 M = some r) : x_Cn l D aC bs yX3_begin cX3_begin 3 none rm_X3_begin [.ref a0, .int a1] sz M none sz r := by
  unfold f_X3_begin at h
  refine x_enter2 [(0, .ref a0), (1, .int a1)] me_X3_begin (Nat.le_of_ble_eq_true rfl) rfl ?_
  refine x_aload_n dX3_begin_0 0 rfl ?_
  refine x_iconst (v := (2 : Int32)) dX3_begin_1 (by decide) ?_
  refine x_iload_n dX3_begin_2 1 rfl ?_
  refine x_iconst (v := (5 : Int32)) dX3_begin_3 (by decide) ?_
  refine x_mmin w_ml_RX3_25 w_st_Lib_Math_min_name w_in_java_lang_Math w_co_Lib_Math_min_name (Nat.le_of_ble_eq_true rfl) (Nat.le_of_ble_eq_true rfl) (Nat.le_of_ble_eq_true rfl) (Nat.le_of_ble_eq_true rfl) dX3_begin_4 ?_
  refine x_mmax w_ml_RX3_31 w_st_Lib_Math_max_name w_in_java_lang_Math w_co_Lib_Math_max_name (Nat.le_of_ble_eq_true rfl) (Nat.le_of_ble_eq_true rfl) (Nat.le_of_ble_eq_true rfl) (Nat.le_of_ble_eq_true rfl) dX3_begin_7 ?_
  obtain ⟨m1, em1, h⟩ := x_bd h
  refine x_putV clX3 w_fl_RX3_34 (by decide) rfl rfl rfl dX3_begin_10 em1 ?_
  refine x_iconst (v := (0 : Int32)) dX3_begin_13 (by decide) ?_
  refine x_istore_n 2 [(2, .int (0 : Int32)), (0, .ref a0), (1, .int a1)] dX3_begin_14 rfl (by decide) rfl ?_
  exact x_sub [1, 0] rfl (lp_X3_begin_15 l D aC bs sz F (a0)  F _ _ _ h)

-- SwappedIntervals$Rows.<init>()V
abbrev rm_X3_init : Room := { frames := 2, cells := 3, slots := 15, locals := 43 }
abbrev mc_X3_init : Nat := 3
theorem me_X3_init : x_Me yX3_init cX3_init 1 none 0 := ⟨by decide +kernel, w_co_yX3_init, w_in_SwappedIntervals_Rows, by decide +kernel, by decide +kernel, by decide +kernel⟩
def f_X3_init (F : Nat) (a0 : Nat) (sz : Nat) (M : XM) : Option (XM) := (x_nw M sz (.inl (.int, 5, .inl (fun _ => 0)))).bind fun m1 => (x_put m1 a0 3 1 (.ref sz)).bind fun m2 => (x_nw m2 (sz + 1) (.inl (.int, 5, .inl (fun _ => 0)))).bind fun m3 => (x_put m3 a0 3 2 (.ref (sz + 1))).bind fun m4 => (x_nw m4 (sz + 2) (.inl (.int, 5, .inl (fun _ => 0)))).bind fun m5 => (x_put m5 a0 3 3 (.ref (sz + 2))).bind fun m6 => (x_ob m6 a0 3).bind fun u7 => (f_X3_begin F a0 (3 : Int32) m6).bind fun p8 => some p8
set_option maxHeartbeats 4000000 in
set_option maxRecDepth 100000 in
theorem c_X3_init (l : Launch) (D : va_G) (aC : FieldType → ClassId) (bs sz : Nat) (F : Nat) {a0 : Nat} {M : XM} {r : XM} (h : f_X3_init F a0 sz M = some r) : x_Cn l D aC bs yX3_init cX3_init 1 none rm_X3_init [.ref a0] sz M none (sz + mc_X3_init) r := by
  unfold f_X3_init at h
  refine x_enter2 [(0, .ref a0)] me_X3_init (Nat.le_of_ble_eq_true rfl) rfl ?_
  refine x_aload_n dX3_init_0 0 rfl ?_
  refine x_objInit w_ml_RX3_3 w_im_Lib_objectInit w_co_Lib_objectInit (Nat.le_of_ble_eq_true rfl) (Nat.le_of_ble_eq_true rfl) dX3_init_1 ?_
  refine x_aload_n dX3_init_4 0 rfl ?_
  refine x_iconst (v := (5 : Int32)) dX3_init_5 (by decide) ?_
  obtain ⟨m1, em1, h⟩ := x_bd h
  refine x_newI 5 5 w_ac_int (by decide) (by decide) (Nat.le_refl _) (by decide) (Nat.le_of_ble_eq_true rfl) (Nat.le_of_ble_eq_true rfl) dX3_init_6 ?_
  refine x_castM (Option.some.inj em1) ?_
  obtain ⟨m2, em2, h⟩ := x_bd h
  refine x_putF clX3 w_fl_RX3_9 (by decide) rfl rfl rfl rfl rfl dX3_init_8 em2 ?_
  refine x_aload_n dX3_init_11 0 rfl ?_
  refine x_iconst (v := (5 : Int32)) dX3_init_12 (by decide) ?_
  obtain ⟨m3, em3, h⟩ := x_bd h
  refine x_newI 5 5 w_ac_int (by decide) (by decide) (Nat.le_refl _) (by decide) (Nat.le_of_ble_eq_true rfl) (Nat.le_of_ble_eq_true rfl) dX3_init_13 ?_
  refine x_castM (Option.some.inj em3) ?_
  obtain ⟨m4, em4, h⟩ := x_bd h
  refine x_putF clX3 w_fl_RX3_15 (by decide) rfl rfl rfl rfl rfl dX3_init_15 em4 ?_
  refine x_aload_n dX3_init_18 0 rfl ?_
  refine x_iconst (v := (5 : Int32)) dX3_init_19 (by decide) ?_
  obtain ⟨m5, em5, h⟩ := x_bd h
  refine x_newI 5 5 w_ac_int (by decide) (by decide) (Nat.le_refl _) (by decide) (Nat.le_of_ble_eq_true rfl) (Nat.le_of_ble_eq_true rfl) dX3_init_20 ?_
  refine x_castM (Option.some.inj em5) ?_
  obtain ⟨m6, em6, h⟩ := x_bd h
  refine x_putF clX3 w_fl_RX3_18 (by decide) rfl rfl rfl rfl rfl dX3_init_22 em6 ?_
  refine x_aload_n dX3_init_25 0 rfl ?_
  refine x_iconst (v := (3 : Int32)) dX3_init_26 (by decide) ?_
  obtain ⟨u7, eu7, h⟩ := x_bd h
  obtain ⟨p8, ep8, h⟩ := x_bd h
  refine x_callVV [.int (3 : Int32)] [] clX3 me_X3_begin w_ml_RX3_21 w_im_yX3_begin w_se_yX3_begin (Nat.le_of_ble_eq_true rfl) (Nat.le_of_ble_eq_true rfl) rfl (Nat.le_of_ble_eq_true rfl) (Nat.le_of_ble_eq_true rfl) (Nat.le_of_ble_eq_true rfl) dX3_init_27 eu7 (c_X3_begin l D aC bs (sz + 3) F ep8) rfl ?_
  obtain rfl := Option.some.inj h
  exact x_vret dX3_init_30 (Nat.le_of_ble_eq_true rfl) (Nat.le_of_ble_eq_true rfl)

-- SwappedIntervals$Deeds.<init>()V
abbrev rm_X0_init : Room := { frames := 3, cells := 49, slots := 240, locals := 63 }
abbrev mc_X0_init : Nat := 49
theorem me_X0_init : x_Me yX0_init cX0_init 2 none 0 := ⟨by decide +kernel, w_co_yX0_init, w_in_SwappedIntervals_Deeds, by decide +kernel, by decide +kernel, by decide +kernel⟩
def f_X0_init (F : Nat) (a0 : Nat) (sz : Nat) (M : XM) : Option (XM) := (x_nw M sz (.inl ((.object RX3), 12, .inr (.inr (.inr (.inr (fun _ => none))))))).bind fun m1 => (x_put m1 a0 0 0 (.ref sz)).bind fun m2 => (x_put m2 a0 0 1 (.int (0 : Int32))).bind fun m3 => (x_put m3 a0 0 2 (.int (0 : Int32))).bind fun m4 => (x_gR m4 a0 0 0).bind fun v5 => (x_nw m4 (sz + 1) (.inr (3, [.int 0, .null, .null, .null]))).bind fun m6 => (f_X3_init F (sz + 1) (sz + 2) m6).bind fun p7 => (x_ob p7 (sz + 1) 3).bind fun u8 => (x_wQ (.object RX3) p7 v5 (0 : Int32) (sz + 1)).bind fun m9 => (x_gR m9 a0 0 0).bind fun v10 => (x_nw m9 (sz + 5) (.inr (3, [.int 0, .null, .null, .null]))).bind fun m11 => (f_X3_init F (sz + 5) (sz + 6) m11).bind fun p12 => (x_ob p12 (sz + 5) 3).bind fun u13 => (x_wQ (.object RX3) p12 v10 (1 : Int32) (sz + 5)).bind fun m14 => (x_gR m14 a0 0 0).bind fun v15 => (x_nw m14 (sz + 9) (.inr (3, [.int 0, .null, .null, .null]))).bind fun m16 => (f_X3_init F (sz + 9) (sz + 10) m16).bind fun p17 => (x_ob p17 (sz + 9) 3).bind fun u18 => (x_wQ (.object RX3) p17 v15 (2 : Int32) (sz + 9)).bind fun m19 => (x_gR m19 a0 0 0).bind fun v20 => (x_nw m19 (sz + 13) (.inr (3, [.int 0, .null, .null, .null]))).bind fun m21 => (f_X3_init F (sz + 13) (sz + 14) m21).bind fun p22 => (x_ob p22 (sz + 13) 3).bind fun u23 => (x_wQ (.object RX3) p22 v20 (3 : Int32) (sz + 13)).bind fun m24 => (x_gR m24 a0 0 0).bind fun v25 => (x_nw m24 (sz + 17) (.inr (3, [.int 0, .null, .null, .null]))).bind fun m26 => (f_X3_init F (sz + 17) (sz + 18) m26).bind fun p27 => (x_ob p27 (sz + 17) 3).bind fun u28 => (x_wQ (.object RX3) p27 v25 (4 : Int32) (sz + 17)).bind fun m29 => (x_gR m29 a0 0 0).bind fun v30 => (x_nw m29 (sz + 21) (.inr (3, [.int 0, .null, .null, .null]))).bind fun m31 => (f_X3_init F (sz + 21) (sz + 22) m31).bind fun p32 => (x_ob p32 (sz + 21) 3).bind fun u33 => (x_wQ (.object RX3) p32 v30 (5 : Int32) (sz + 21)).bind fun m34 => (x_gR m34 a0 0 0).bind fun v35 => (x_nw m34 (sz + 25) (.inr (3, [.int 0, .null, .null, .null]))).bind fun m36 => (f_X3_init F (sz + 25) (sz + 26) m36).bind fun p37 => (x_ob p37 (sz + 25) 3).bind fun u38 => (x_wQ (.object RX3) p37 v35 (6 : Int32) (sz + 25)).bind fun m39 => (x_gR m39 a0 0 0).bind fun v40 => (x_nw m39 (sz + 29) (.inr (3, [.int 0, .null, .null, .null]))).bind fun m41 => (f_X3_init F (sz + 29) (sz + 30) m41).bind fun p42 => (x_ob p42 (sz + 29) 3).bind fun u43 => (x_wQ (.object RX3) p42 v40 (7 : Int32) (sz + 29)).bind fun m44 => (x_gR m44 a0 0 0).bind fun v45 => (x_nw m44 (sz + 33) (.inr (3, [.int 0, .null, .null, .null]))).bind fun m46 => (f_X3_init F (sz + 33) (sz + 34) m46).bind fun p47 => (x_ob p47 (sz + 33) 3).bind fun u48 => (x_wQ (.object RX3) p47 v45 (8 : Int32) (sz + 33)).bind fun m49 => (x_gR m49 a0 0 0).bind fun v50 => (x_nw m49 (sz + 37) (.inr (3, [.int 0, .null, .null, .null]))).bind fun m51 => (f_X3_init F (sz + 37) (sz + 38) m51).bind fun p52 => (x_ob p52 (sz + 37) 3).bind fun u53 => (x_wQ (.object RX3) p52 v50 (9 : Int32) (sz + 37)).bind fun m54 => (x_gR m54 a0 0 0).bind fun v55 => (x_nw m54 (sz + 41) (.inr (3, [.int 0, .null, .null, .null]))).bind fun m56 => (f_X3_init F (sz + 41) (sz + 42) m56).bind fun p57 => (x_ob p57 (sz + 41) 3).bind fun u58 => (x_wQ (.object RX3) p57 v55 (10 : Int32) (sz + 41)).bind fun m59 => (x_gR m59 a0 0 0).bind fun v60 => (x_nw m59 (sz + 45) (.inr (3, [.int 0, .null, .null, .null]))).bind fun m61 => (f_X3_init F (sz + 45) (sz + 46) m61).bind fun p62 => (x_ob p62 (sz + 45) 3).bind fun u63 => (x_wQ (.object RX3) p62 v60 (11 : Int32) (sz + 45)).bind fun m64 => some m64
set_option maxHeartbeats 4000000 in
set_option maxRecDepth 100000 in
theorem c_X0_init (l : Launch) (D : va_G) (aC : FieldType → ClassId) (bs sz : Nat) (F : Nat) {a0 : Nat} {M : XM} {r : XM} (h : f_X0_init F a0 sz M = some r) : x_Cn l D aC bs yX0_init cX0_init 2 none rm_X0_init [.ref a0] sz M none (sz + mc_X0_init) r := by
  unfold f_X0_init at h
  refine x_enter2 [(0, .ref a0)] me_X0_init (Nat.le_of_ble_eq_true rfl) rfl ?_
  refine x_aload_n dX0_init_0 0 rfl ?_
  refine x_objInit w_ml_RX0_3 w_im_Lib_objectInit w_co_Lib_objectInit (Nat.le_of_ble_eq_true rfl) (Nat.le_of_ble_eq_true rfl) dX0_init_1 ?_
  refine x_aload_n dX0_init_4 0 rfl ?_
  refine x_bipush (v := (12 : Int32)) dX0_init_5 (by decide) ?_
  obtain ⟨m1, em1, h⟩ := x_bd h
  refine x_newQ (t0 := 4) 12 (fun U h => h.2.1) rfl w_cl_RX0_9 (by decide) (by decide) (by decide) (Nat.le_of_ble_eq_true rfl) (Nat.le_of_ble_eq_true rfl) dX0_init_7 ?_
  refine x_castM (Option.some.inj em1) ?_
  obtain ⟨m2, em2, h⟩ := x_bd h
  refine x_putF clX0 w_fl_RX0_11 (by decide) rfl rfl rfl rfl rfl dX0_init_10 em2 ?_
  refine x_aload_n dX0_init_13 0 rfl ?_
  refine x_iconst (v := (0 : Int32)) dX0_init_14 (by decide) ?_
  obtain ⟨m3, em3, h⟩ := x_bd h
  refine x_putV clX0 w_fl_RX0_17 (by decide) rfl rfl rfl dX0_init_15 em3 ?_
  refine x_aload_n dX0_init_18 0 rfl ?_
  refine x_iconst (v := (0 : Int32)) dX0_init_19 (by decide) ?_
  obtain ⟨m4, em4, h⟩ := x_bd h
  refine x_putV clX0 w_fl_RX0_21 (by decide) rfl rfl rfl dX0_init_20 em4 ?_
  refine x_iconst (v := (0 : Int32)) dX0_init_23 (by decide) ?_
  refine x_istore_n 1 [(1, .int (0 : Int32)), (0, .ref a0)] dX0_init_24 rfl (by decide) rfl ?_
  refine x_iload_n dX0_init_25 0 rfl ?_
  refine x_bipush (v := (12 : Int32)) dX0_init_26 (by decide) ?_
  refine x_icmp_ge 50 dX0_init_28 (by decide) (fun c9 => absurd c9 (by decide)) (fun _ => ?_)
  refine x_aload_n dX0_init_31 1 rfl ?_
  obtain ⟨v5, ev5, h⟩ := x_bd h
  refine x_getR clX0 w_fl_RX0_11 (by decide) dX0_init_32 ev5 ?_
  refine x_iload_n dX0_init_35 0 rfl ?_
  obtain ⟨m6, em6, h⟩ := x_bd h
  refine x_new [.int 0, .null, .null, .null] clX3 w_cl_RX0_9 w_is_SwappedIntervals_Rows w_in_SwappedIntervals_Rows nwX3 (Nat.le_of_ble_eq_true rfl) (Nat.le_of_ble_eq_true rfl) dX0_init_36 ?_
  refine x_castM (Option.some.inj em6) ?_
  refine x_dup dX0_init_39 rfl ?_
  obtain ⟨p7, ep7, h⟩ := x_bd h
  refine x_callIV [] [.ref (sz + 1), .int (0 : Int32), .ref v5] me_X3_init w_ml_RX0_24 w_im_yX3_init rfl (Nat.le_of_ble_eq_true rfl) (Nat.le_of_ble_eq_true rfl) rfl (Nat.le_of_ble_eq_true rfl) (Nat.le_of_ble_eq_true rfl) (Nat.le_of_ble_eq_true rfl) dX0_init_40 (c_X3_init l D aC bs (sz + 2) F ep7) rfl ?_
  obtain ⟨u8, eu8, h⟩ := x_bd h
  obtain ⟨m9, em9, h⟩ := x_bd h
  refine x_aast (t0 := 4) clX3 rfl dX0_init_43 eu8 em9 ?_
  refine x_iinc (1 : Int32) 0 [(1, .int ((0 : Int32) + (1 : Int32))), (0, .ref a0)] dX0_init_44 rfl (by decide) (by decide) rfl ?_
  refine x_goto 25 dX0_init_47 (by decide) ?_
  refine x_iload_n dX0_init_25 0 rfl ?_
  refine x_bipush (v := (12 : Int32)) dX0_init_26 (by decide) ?_
  refine x_icmp_ge 50 dX0_init_28 (by decide) (fun c9 => absurd c9 (by decide)) (fun _ => ?_)
  refine x_aload_n dX0_init_31 1 rfl ?_
  obtain ⟨v10, ev10, h⟩ := x_bd h
  refine x_getR clX0 w_fl_RX0_11 (by decide) dX0_init_32 ev10 ?_
  refine x_iload_n dX0_init_35 0 rfl ?_
  obtain ⟨m11, em11, h⟩ := x_bd h
  refine x_new [.int 0, .null, .null, .null] clX3 w_cl_RX0_9 w_is_SwappedIntervals_Rows w_in_SwappedIntervals_Rows nwX3 (Nat.le_of_ble_eq_true rfl) (Nat.le_of_ble_eq_true rfl) dX0_init_36 ?_
  refine x_castM (Option.some.inj em11) ?_
  refine x_dup dX0_init_39 rfl ?_
  obtain ⟨p12, ep12, h⟩ := x_bd h
  refine x_callIV [] [.ref (sz + 5), .int (1 : Int32), .ref v10] me_X3_init w_ml_RX0_24 w_im_yX3_init rfl (Nat.le_of_ble_eq_true rfl) (Nat.le_of_ble_eq_true rfl) rfl (Nat.le_of_ble_eq_true rfl) (Nat.le_of_ble_eq_true rfl) (Nat.le_of_ble_eq_true rfl) dX0_init_40 (c_X3_init l D aC bs (sz + 6) F ep12) rfl ?_
  obtain ⟨u13, eu13, h⟩ := x_bd h
  obtain ⟨m14, em14, h⟩ := x_bd h
  refine x_aast (t0 := 4) clX3 rfl dX0_init_43 eu13 em14 ?_
  refine x_iinc (1 : Int32) 0 [(1, .int ((1 : Int32) + (1 : Int32))), (0, .ref a0)] dX0_init_44 rfl (by decide) (by decide) rfl ?_
  refine x_goto 25 dX0_init_47 (by decide) ?_
  refine x_iload_n dX0_init_25 0 rfl ?_
  refine x_bipush (v := (12 : Int32)) dX0_init_26 (by decide) ?_
  refine x_icmp_ge 50 dX0_init_28 (by decide) (fun c9 => absurd c9 (by decide)) (fun _ => ?_)
  refine x_aload_n dX0_init_31 1 rfl ?_
  obtain ⟨v15, ev15, h⟩ := x_bd h
  refine x_getR clX0 w_fl_RX0_11 (by decide) dX0_init_32 ev15 ?_
  refine x_iload_n dX0_init_35 0 rfl ?_
  obtain ⟨m16, em16, h⟩ := x_bd h
  refine x_new [.int 0, .null, .null, .null] clX3 w_cl_RX0_9 w_is_SwappedIntervals_Rows w_in_SwappedIntervals_Rows nwX3 (Nat.le_of_ble_eq_true rfl) (Nat.le_of_ble_eq_true rfl) dX0_init_36 ?_
  refine x_castM (Option.some.inj em16) ?_
  refine x_dup dX0_init_39 rfl ?_
  obtain ⟨p17, ep17, h⟩ := x_bd h
  refine x_callIV [] [.ref (sz + 9), .int (2 : Int32), .ref v15] me_X3_init w_ml_RX0_24 w_im_yX3_init rfl (Nat.le_of_ble_eq_true rfl) (Nat.le_of_ble_eq_true rfl) rfl (Nat.le_of_ble_eq_true rfl) (Nat.le_of_ble_eq_true rfl) (Nat.le_of_ble_eq_true rfl) dX0_init_40 (c_X3_init l D aC bs (sz + 10) F ep17) rfl ?_
  obtain ⟨u18, eu18, h⟩ := x_bd h
  obtain ⟨m19, em19, h⟩ := x_bd h
  refine x_aast (t0 := 4) clX3 rfl dX0_init_43 eu18 em19 ?_
  refine x_iinc (1 : Int32) 0 [(1, .int ((2 : Int32) + (1 : Int32))), (0, .ref a0)] dX0_init_44 rfl (by decide) (by decide) rfl ?_
  refine x_goto 25 dX0_init_47 (by decide) ?_
  refine x_iload_n dX0_init_25 0 rfl ?_
  refine x_bipush (v := (12 : Int32)) dX0_init_26 (by decide) ?_
  refine x_icmp_ge 50 dX0_init_28 (by decide) (fun c9 => absurd c9 (by decide)) (fun _ => ?_)
  refine x_aload_n dX0_init_31 1 rfl ?_
  obtain ⟨v20, ev20, h⟩ := x_bd h
  refine x_getR clX0 w_fl_RX0_11 (by decide) dX0_init_32 ev20 ?_
  refine x_iload_n dX0_init_35 0 rfl ?_
  obtain ⟨m21, em21, h⟩ := x_bd h
  refine x_new [.int 0, .null, .null, .null] clX3 w_cl_RX0_9 w_is_SwappedIntervals_Rows w_in_SwappedIntervals_Rows nwX3 (Nat.le_of_ble_eq_true rfl) (Nat.le_of_ble_eq_true rfl) dX0_init_36 ?_
  refine x_castM (Option.some.inj em21) ?_
  refine x_dup dX0_init_39 rfl ?_
  obtain ⟨p22, ep22, h⟩ := x_bd h
  refine x_callIV [] [.ref (sz + 13), .int (3 : Int32), .ref v20] me_X3_init w_ml_RX0_24 w_im_yX3_init rfl (Nat.le_of_ble_eq_true rfl) (Nat.le_of_ble_eq_true rfl) rfl (Nat.le_of_ble_eq_true rfl) (Nat.le_of_ble_eq_true rfl) (Nat.le_of_ble_eq_true rfl) dX0_init_40 (c_X3_init l D aC bs (sz + 14) F ep22) rfl ?_
  obtain ⟨u23, eu23, h⟩ := x_bd h
  obtain ⟨m24, em24, h⟩ := x_bd h
  refine x_aast (t0 := 4) clX3 rfl dX0_init_43 eu23 em24 ?_
  refine x_iinc (1 : Int32) 0 [(1, .int ((3 : Int32) + (1 : Int32))), (0, .ref a0)] dX0_init_44 rfl (by decide) (by decide) rfl ?_
  refine x_goto 25 dX0_init_47 (by decide) ?_
  refine x_iload_n dX0_init_25 0 rfl ?_
  refine x_bipush (v := (12 : Int32)) dX0_init_26 (by decide) ?_
  refine x_icmp_ge 50 dX0_init_28 (by decide) (fun c9 => absurd c9 (by decide)) (fun _ => ?_)
  refine x_aload_n dX0_init_31 1 rfl ?_
  obtain ⟨v25, ev25, h⟩ := x_bd h
  refine x_getR clX0 w_fl_RX0_11 (by decide) dX0_init_32 ev25 ?_
  refine x_iload_n dX0_init_35 0 rfl ?_
  obtain ⟨m26, em26, h⟩ := x_bd h
  refine x_new [.int 0, .null, .null, .null] clX3 w_cl_RX0_9 w_is_SwappedIntervals_Rows w_in_SwappedIntervals_Rows nwX3 (Nat.le_of_ble_eq_true rfl) (Nat.le_of_ble_eq_true rfl) dX0_init_36 ?_
  refine x_castM (Option.some.inj em26) ?_
  refine x_dup dX0_init_39 rfl ?_
  obtain ⟨p27, ep27, h⟩ := x_bd h
  refine x_callIV [] [.ref (sz + 17), .int (4 : Int32), .ref v25] me_X3_init w_ml_RX0_24 w_im_yX3_init rfl (Nat.le_of_ble_eq_true rfl) (Nat.le_of_ble_eq_true rfl) rfl (Nat.le_of_ble_eq_true rfl) (Nat.le_of_ble_eq_true rfl) (Nat.le_of_ble_eq_true rfl) dX0_init_40 (c_X3_init l D aC bs (sz + 18) F ep27) rfl ?_
  obtain ⟨u28, eu28, h⟩ := x_bd h
  obtain ⟨m29, em29, h⟩ := x_bd h
  refine x_aast (t0 := 4) clX3 rfl dX0_init_43 eu28 em29 ?_
  refine x_iinc (1 : Int32) 0 [(1, .int ((4 : Int32) + (1 : Int32))), (0, .ref a0)] dX0_init_44 rfl (by decide) (by decide) rfl ?_
  refine x_goto 25 dX0_init_47 (by decide) ?_
  refine x_iload_n dX0_init_25 0 rfl ?_
  refine x_bipush (v := (12 : Int32)) dX0_init_26 (by decide) ?_
  refine x_icmp_ge 50 dX0_init_28 (by decide) (fun c9 => absurd c9 (by decide)) (fun _ => ?_)
  refine x_aload_n dX0_init_31 1 rfl ?_
  obtain ⟨v30, ev30, h⟩ := x_bd h
  refine x_getR clX0 w_fl_RX0_11 (by decide) dX0_init_32 ev30 ?_
  refine x_iload_n dX0_init_35 0 rfl ?_
  obtain ⟨m31, em31, h⟩ := x_bd h
  refine x_new [.int 0, .null, .null, .null] clX3 w_cl_RX0_9 w_is_SwappedIntervals_Rows w_in_SwappedIntervals_Rows nwX3 (Nat.le_of_ble_eq_true rfl) (Nat.le_of_ble_eq_true rfl) dX0_init_36 ?_
  refine x_castM (Option.some.inj em31) ?_
  refine x_dup dX0_init_39 rfl ?_
  obtain ⟨p32, ep32, h⟩ := x_bd h
  refine x_callIV [] [.ref (sz + 21), .int (5 : Int32), .ref v30] me_X3_init w_ml_RX0_24 w_im_yX3_init rfl (Nat.le_of_ble_eq_true rfl) (Nat.le_of_ble_eq_true rfl) rfl (Nat.le_of_ble_eq_true rfl) (Nat.le_of_ble_eq_true rfl) (Nat.le_of_ble_eq_true rfl) dX0_init_40 (c_X3_init l D aC bs (sz + 22) F ep32) rfl ?_
  obtain ⟨u33, eu33, h⟩ := x_bd h
  obtain ⟨m34, em34, h⟩ := x_bd h
  refine x_aast (t0 := 4) clX3 rfl dX0_init_43 eu33 em34 ?_
  refine x_iinc (1 : Int32) 0 [(1, .int ((5 : Int32) + (1 : Int32))), (0, .ref a0)] dX0_init_44 rfl (by decide) (by decide) rfl ?_
  refine x_goto 25 dX0_init_47 (by decide) ?_
  refine x_iload_n dX0_init_25 0 rfl ?_
  refine x_bipush (v := (12 : Int32)) dX0_init_26 (by decide) ?_
  refine x_icmp_ge 50 dX0_init_28 (by decide) (fun c9 => absurd c9 (by decide)) (fun _ => ?_)
  refine x_aload_n dX0_init_31 1 rfl ?_
  obtain ⟨v35, ev35, h⟩ := x_bd h
  refine x_getR clX0 w_fl_RX0_11 (by decide) dX0_init_32 ev35 ?_
  refine x_iload_n dX0_init_35 0 rfl ?_
  obtain ⟨m36, em36, h⟩ := x_bd h
  refine x_new [.int 0, .null, .null, .null] clX3 w_cl_RX0_9 w_is_SwappedIntervals_Rows w_in_SwappedIntervals_Rows nwX3 (Nat.le_of_ble_eq_true rfl) (Nat.le_of_ble_eq_true rfl) dX0_init_36 ?_
  refine x_castM (Option.some.inj em36) ?_
  refine x_dup dX0_init_39 rfl ?_
  obtain ⟨p37, ep37, h⟩ := x_bd h
  refine x_callIV [] [.ref (sz + 25), .int (6 : Int32), .ref v35] me_X3_init w_ml_RX0_24 w_im_yX3_init rfl (Nat.le_of_ble_eq_true rfl) (Nat.le_of_ble_eq_true rfl) rfl (Nat.le_of_ble_eq_true rfl) (Nat.le_of_ble_eq_true rfl) (Nat.le_of_ble_eq_true rfl) dX0_init_40 (c_X3_init l D aC bs (sz + 26) F ep37) rfl ?_
  obtain ⟨u38, eu38, h⟩ := x_bd h
  obtain ⟨m39, em39, h⟩ := x_bd h
  refine x_aast (t0 := 4) clX3 rfl dX0_init_43 eu38 em39 ?_
  refine x_iinc (1 : Int32) 0 [(1, .int ((6 : Int32) + (1 : Int32))), (0, .ref a0)] dX0_init_44 rfl (by decide) (by decide) rfl ?_
  refine x_goto 25 dX0_init_47 (by decide) ?_
  refine x_iload_n dX0_init_25 0 rfl ?_
  refine x_bipush (v := (12 : Int32)) dX0_init_26 (by decide) ?_
  refine x_icmp_ge 50 dX0_init_28 (by decide) (fun c9 => absurd c9 (by decide)) (fun _ => ?_)
  refine x_aload_n dX0_init_31 1 rfl ?_
  obtain ⟨v40, ev40, h⟩ := x_bd h
  refine x_getR clX0 w_fl_RX0_11 (by decide) dX0_init_32 ev40 ?_
  refine x_iload_n dX0_init_35 0 rfl ?_
  obtain ⟨m41, em41, h⟩ := x_bd h
  refine x_new [.int 0, .null, .null, .null] clX3 w_cl_RX0_9 w_is_SwappedIntervals_Rows w_in_SwappedIntervals_Rows nwX3 (Nat.le_of_ble_eq_true rfl) (Nat.le_of_ble_eq_true rfl) dX0_init_36 ?_
  refine x_castM (Option.some.inj em41) ?_
  refine x_dup dX0_init_39 rfl ?_
  obtain ⟨p42, ep42, h⟩ := x_bd h
  refine x_callIV [] [.ref (sz + 29), .int (7 : Int32), .ref v40] me_X3_init w_ml_RX0_24 w_im_yX3_init rfl (Nat.le_of_ble_eq_true rfl) (Nat.le_of_ble_eq_true rfl) rfl (Nat.le_of_ble_eq_true rfl) (Nat.le_of_ble_eq_true rfl) (Nat.le_of_ble_eq_true rfl) dX0_init_40 (c_X3_init l D aC bs (sz + 30) F ep42) rfl ?_
  obtain ⟨u43, eu43, h⟩ := x_bd h
  obtain ⟨m44, em44, h⟩ := x_bd h
  refine x_aast (t0 := 4) clX3 rfl dX0_init_43 eu43 em44 ?_
  refine x_iinc (1 : Int32) 0 [(1, .int ((7 : Int32) + (1 : Int32))), (0, .ref a0)] dX0_init_44 rfl (by decide) (by decide) rfl ?_
  refine x_goto 25 dX0_init_47 (by decide) ?_
  refine x_iload_n dX0_init_25 0 rfl ?_
  refine x_bipush (v := (12 : Int32)) dX0_init_26 (by decide) ?_
  refine x_icmp_ge 50 dX0_init_28 (by decide) (fun c9 => absurd c9 (by decide)) (fun _ => ?_)
  refine x_aload_n dX0_init_31 1 rfl ?_
  obtain ⟨v45, ev45, h⟩ := x_bd h
  refine x_getR clX0 w_fl_RX0_11 (by decide) dX0_init_32 ev45 ?_
  refine x_iload_n dX0_init_35 0 rfl ?_
  obtain ⟨m46, em46, h⟩ := x_bd h
  refine x_new [.int 0, .null, .null, .null] clX3 w_cl_RX0_9 w_is_SwappedIntervals_Rows w_in_SwappedIntervals_Rows nwX3 (Nat.le_of_ble_eq_true rfl) (Nat.le_of_ble_eq_true rfl) dX0_init_36 ?_
  refine x_castM (Option.some.inj em46) ?_
  refine x_dup dX0_init_39 rfl ?_
  obtain ⟨p47, ep47, h⟩ := x_bd h
  refine x_callIV [] [.ref (sz + 33), .int (8 : Int32), .ref v45] me_X3_init w_ml_RX0_24 w_im_yX3_init rfl (Nat.le_of_ble_eq_true rfl) (Nat.le_of_ble_eq_true rfl) rfl (Nat.le_of_ble_eq_true rfl) (Nat.le_of_ble_eq_true rfl) (Nat.le_of_ble_eq_true rfl) dX0_init_40 (c_X3_init l D aC bs (sz + 34) F ep47) rfl ?_
  obtain ⟨u48, eu48, h⟩ := x_bd h
  obtain ⟨m49, em49, h⟩ := x_bd h
  refine x_aast (t0 := 4) clX3 rfl dX0_init_43 eu48 em49 ?_
  refine x_iinc (1 : Int32) 0 [(1, .int ((8 : Int32) + (1 : Int32))), (0, .ref a0)] dX0_init_44 rfl (by decide) (by decide) rfl ?_
  refine x_goto 25 dX0_init_47 (by decide) ?_
  refine x_iload_n dX0_init_25 0 rfl ?_
  refine x_bipush (v := (12 : Int32)) dX0_init_26 (by decide) ?_
  refine x_icmp_ge 50 dX0_init_28 (by decide) (fun c9 => absurd c9 (by decide)) (fun _ => ?_)
  refine x_aload_n dX0_init_31 1 rfl ?_
  obtain ⟨v50, ev50, h⟩ := x_bd h
  refine x_getR clX0 w_fl_RX0_11 (by decide) dX0_init_32 ev50 ?_
  refine x_iload_n dX0_init_35 0 rfl ?_
  obtain ⟨m51, em51, h⟩ := x_bd h
  refine x_new [.int 0, .null, .null, .null] clX3 w_cl_RX0_9 w_is_SwappedIntervals_Rows w_in_SwappedIntervals_Rows nwX3 (Nat.le_of_ble_eq_true rfl) (Nat.le_of_ble_eq_true rfl) dX0_init_36 ?_
  refine x_castM (Option.some.inj em51) ?_
  refine x_dup dX0_init_39 rfl ?_
  obtain ⟨p52, ep52, h⟩ := x_bd h
  refine x_callIV [] [.ref (sz + 37), .int (9 : Int32), .ref v50] me_X3_init w_ml_RX0_24 w_im_yX3_init rfl (Nat.le_of_ble_eq_true rfl) (Nat.le_of_ble_eq_true rfl) rfl (Nat.le_of_ble_eq_true rfl) (Nat.le_of_ble_eq_true rfl) (Nat.le_of_ble_eq_true rfl) dX0_init_40 (c_X3_init l D aC bs (sz + 38) F ep52) rfl ?_
  obtain ⟨u53, eu53, h⟩ := x_bd h
  obtain ⟨m54, em54, h⟩ := x_bd h
  refine x_aast (t0 := 4) clX3 rfl dX0_init_43 eu53 em54 ?_
  refine x_iinc (1 : Int32) 0 [(1, .int ((9 : Int32) + (1 : Int32))), (0, .ref a0)] dX0_init_44 rfl (by decide) (by decide) rfl ?_
  refine x_goto 25 dX0_init_47 (by decide) ?_
  refine x_iload_n dX0_init_25 0 rfl ?_
  refine x_bipush (v := (12 : Int32)) dX0_init_26 (by decide) ?_
  refine x_icmp_ge 50 dX0_init_28 (by decide) (fun c9 => absurd c9 (by decide)) (fun _ => ?_)
  refine x_aload_n dX0_init_31 1 rfl ?_
  obtain ⟨v55, ev55, h⟩ := x_bd h
  refine x_getR clX0 w_fl_RX0_11 (by decide) dX0_init_32 ev55 ?_
  refine x_iload_n dX0_init_35 0 rfl ?_
  obtain ⟨m56, em56, h⟩ := x_bd h
  refine x_new [.int 0, .null, .null, .null] clX3 w_cl_RX0_9 w_is_SwappedIntervals_Rows w_in_SwappedIntervals_Rows nwX3 (Nat.le_of_ble_eq_true rfl) (Nat.le_of_ble_eq_true rfl) dX0_init_36 ?_
  refine x_castM (Option.some.inj em56) ?_
  refine x_dup dX0_init_39 rfl ?_
  obtain ⟨p57, ep57, h⟩ := x_bd h
  refine x_callIV [] [.ref (sz + 41), .int (10 : Int32), .ref v55] me_X3_init w_ml_RX0_24 w_im_yX3_init rfl (Nat.le_of_ble_eq_true rfl) (Nat.le_of_ble_eq_true rfl) rfl (Nat.le_of_ble_eq_true rfl) (Nat.le_of_ble_eq_true rfl) (Nat.le_of_ble_eq_true rfl) dX0_init_40 (c_X3_init l D aC bs (sz + 42) F ep57) rfl ?_
  obtain ⟨u58, eu58, h⟩ := x_bd h
  obtain ⟨m59, em59, h⟩ := x_bd h
  refine x_aast (t0 := 4) clX3 rfl dX0_init_43 eu58 em59 ?_
  refine x_iinc (1 : Int32) 0 [(1, .int ((10 : Int32) + (1 : Int32))), (0, .ref a0)] dX0_init_44 rfl (by decide) (by decide) rfl ?_
  refine x_goto 25 dX0_init_47 (by decide) ?_
  refine x_iload_n dX0_init_25 0 rfl ?_
  refine x_bipush (v := (12 : Int32)) dX0_init_26 (by decide) ?_
  refine x_icmp_ge 50 dX0_init_28 (by decide) (fun c9 => absurd c9 (by decide)) (fun _ => ?_)
  refine x_aload_n dX0_init_31 1 rfl ?_
  obtain ⟨v60, ev60, h⟩ := x_bd h
  refine x_getR clX0 w_fl_RX0_11 (by decide) dX0_init_32 ev60 ?_
  refine x_iload_n dX0_init_35 0 rfl ?_
  obtain ⟨m61, em61, h⟩ := x_bd h
  refine x_new [.int 0, .null, .null, .null] clX3 w_cl_RX0_9 w_is_SwappedIntervals_Rows w_in_SwappedIntervals_Rows nwX3 (Nat.le_of_ble_eq_true rfl) (Nat.le_of_ble_eq_true rfl) dX0_init_36 ?_
  refine x_castM (Option.some.inj em61) ?_
  refine x_dup dX0_init_39 rfl ?_
  obtain ⟨p62, ep62, h⟩ := x_bd h
  refine x_callIV [] [.ref (sz + 45), .int (11 : Int32), .ref v60] me_X3_init w_ml_RX0_24 w_im_yX3_init rfl (Nat.le_of_ble_eq_true rfl) (Nat.le_of_ble_eq_true rfl) rfl (Nat.le_of_ble_eq_true rfl) (Nat.le_of_ble_eq_true rfl) (Nat.le_of_ble_eq_true rfl) dX0_init_40 (c_X3_init l D aC bs (sz + 46) F ep62) rfl ?_
  obtain ⟨u63, eu63, h⟩ := x_bd h
  obtain ⟨m64, em64, h⟩ := x_bd h
  refine x_aast (t0 := 4) clX3 rfl dX0_init_43 eu63 em64 ?_
  refine x_iinc (1 : Int32) 0 [(1, .int ((11 : Int32) + (1 : Int32))), (0, .ref a0)] dX0_init_44 rfl (by decide) (by decide) rfl ?_
  refine x_goto 25 dX0_init_47 (by decide) ?_
  refine x_iload_n dX0_init_25 0 rfl ?_
  refine x_bipush (v := (12 : Int32)) dX0_init_26 (by decide) ?_
  refine x_icmp_ge 50 dX0_init_28 (by decide) (fun _ => ?_) (fun c9 => absurd c9 (by decide))
  obtain rfl := Option.some.inj h
  exact x_vret dX0_init_50 (Nat.le_of_ble_eq_true rfl) (Nat.le_of_ble_eq_true rfl)

-- SwappedIntervals$Deeds.forget()V
abbrev rm_X0_forget : Room := { frames := 0, cells := 0, slots := 0, locals := 0 }
theorem me_X0_forget : x_Me yX0_forget cX0_forget 1 none 0 := ⟨by decide +kernel, w_co_yX0_forget, w_in_SwappedIntervals_Deeds, by decide +kernel, by decide +kernel, by decide +kernel⟩
def f_X0_forget (a0 : Nat) (M : XM) : Option (XM) := (x_put M a0 0 2 (.int (0 : Int32))).bind fun m1 => some m1
set_option maxHeartbeats 4000000 in
set_option maxRecDepth 100000 in
theorem c_X0_forget (l : Launch) (D : va_G) (aC : FieldType → ClassId) (bs sz : Nat) {a0 : Nat} {M : XM} {r : XM} (h : f_X0_forget a0 M = some r) : x_Cn l D aC bs yX0_forget cX0_forget 1 none rm_X0_forget [.ref a0] sz M none sz r := by
  unfold f_X0_forget at h
  refine x_enter2 [(0, .ref a0)] me_X0_forget (Nat.le_of_ble_eq_true rfl) rfl ?_
  refine x_aload_n dX0_forget_0 0 rfl ?_
  refine x_iconst (v := (0 : Int32)) dX0_forget_1 (by decide) ?_
  obtain ⟨m1, em1, h⟩ := x_bd h
  refine x_putV clX0 w_fl_RX0_21 (by decide) rfl rfl rfl dX0_forget_2 em1 ?_
  obtain rfl := Option.some.inj h
  exact x_vret dX0_forget_5 (Nat.le_of_ble_eq_true rfl) (Nat.le_of_ble_eq_true rfl)

-- SwappedIntervals$Rows.copyFrom(LSwappedIntervals$Rows;)V
abbrev rm_X3_copyFrom : Room := { frames := 0, cells := 0, slots := 0, locals := 0 }
theorem me_X3_copyFrom : x_Me yX3_copyFrom cX3_copyFrom 3 none 1 := ⟨by decide +kernel, w_co_yX3_copyFrom, w_in_SwappedIntervals_Rows, by decide +kernel, by decide +kernel, by decide +kernel⟩
def b_X3_copyFrom_10 (F : Nat) (a0 : Nat) (a1 : Nat)  (k10 : (Int32 × XM) → Option (XM)) (q : Int32 × XM) : Option (XM) := if (5 : Int32) ≤ q.1 then some q.2 else (x_gR q.2 a0 3 1).bind fun v4 => (x_gR q.2 a1 3 1).bind fun v5 => (x_a32 .int q.2 v5 q.1).bind fun v6 => (x_w32 .int q.2 v4 q.1 v6).bind fun m7 => (x_gR m7 a0 3 2).bind fun v8 => (x_gR m7 a1 3 2).bind fun v9 => (x_a32 .int m7 v9 q.1).bind fun v10 => (x_w32 .int m7 v8 q.1 v10).bind fun m11 => (x_gR m11 a0 3 3).bind fun v12 => (x_gR m11 a1 3 3).bind fun v13 => (x_a32 .int m11 v13 q.1).bind fun v14 => (x_w32 .int m11 v12 q.1 v14).bind fun m15 => k10 ((q.1 + (1 : Int32)), m15)
set_option maxHeartbeats 4000000 in
set_option maxRecDepth 100000 in
theorem lp_X3_copyFrom_10 (l : Launch) (D : va_G) (aC : FieldType → ClassId) (bs : Nat) (sz : Nat) (F : Nat) (a0 : Nat) (a1 : Nat)   : ∀ (n : Nat) (b0 : Int32) (b1 : XM) (r : XM), x_it (b_X3_copyFrom_10 F a0 a1 ) n (b0, b1) = some r → x_V l D aC bs yX3_copyFrom cX3_copyFrom 3 none rm_X3_copyFrom (x_Z D aC bs none sz r rm_X3_copyFrom) 10 [(0, .ref a0), (1, .ref a1), (2, .int b0)] [] sz b1 0 0 := by
  suffices H : ∀ (n : Nat) (q : Int32 × XM) (r : XM), x_it (b_X3_copyFrom_10 F a0 a1 ) n q = some r → x_V l D aC bs yX3_copyFrom cX3_copyFrom 3 none rm_X3_copyFrom (x_Z D aC bs none sz r rm_X3_copyFrom) 10 [(0, .ref a0), (1, .ref a1), (2, .int q.1)] [] sz q.2 0 0 from fun n b0 b1 r h => H n (b0, b1) r h
  refine x_loop (P := fun (q : Int32 × XM) (r : XM) => x_V l D aC bs yX3_copyFrom cX3_copyFrom 3 none rm_X3_copyFrom (x_Z D aC bs none sz r rm_X3_copyFrom) 10 [(0, .ref a0), (1, .ref a1), (2, .int q.1)] [] sz q.2 0 0) (fun k10 hk0 q r h => ?_)
  have hk10 : ∀ (b0 : Int32) (b1 : XM) (r : XM), k10 (b0, b1) = some r → x_V l D aC bs yX3_copyFrom cX3_copyFrom 3 none rm_X3_copyFrom (x_Z D aC bs none sz r rm_X3_copyFrom) 10 [(0, .ref a0), (1, .ref a1), (2, .int b0)] [] sz b1 0 0 := fun b0 b1 r h => hk0 (b0, b1) r h
  unfold b_X3_copyFrom_10 at h
  refine x_iload_n dX3_copyFrom_10 2 rfl ?_
  refine x_iconst (v := (5 : Int32)) dX3_copyFrom_11 (by decide) ?_
  refine x_icmp_ge 57 dX3_copyFrom_12 (by decide) (fun c3 => ?_) (fun c3 => ?_)
  · have h := (if_pos c3).symm.trans h
    obtain rfl := Option.some.inj h
    exact x_vret dX3_copyFrom_57 (Nat.le_of_ble_eq_true rfl) (Nat.le_of_ble_eq_true rfl)
  have h := (if_neg c3).symm.trans h
  refine x_aload_n dX3_copyFrom_15 0 rfl ?_
  obtain ⟨v4, ev4, h⟩ := x_bd h
  refine x_getR clX3 w_fl_RX3_9 (by decide) dX3_copyFrom_16 ev4 ?_
  refine x_iload_n dX3_copyFrom_19 2 rfl ?_
  refine x_aload_n dX3_copyFrom_20 1 rfl ?_
  obtain ⟨v5, ev5, h⟩ := x_bd h
  refine x_getR clX3 w_fl_RX3_9 (by decide) dX3_copyFrom_21 ev5 ?_
  refine x_iload_n dX3_copyFrom_24 2 rfl ?_
  obtain ⟨v6, ev6, h⟩ := x_bd h
  refine x_iald dX3_copyFrom_25 ev6 ?_
  obtain ⟨m7, em7, h⟩ := x_bd h
  refine x_iast dX3_copyFrom_26 em7 ?_
  refine x_aload_n dX3_copyFrom_27 0 rfl ?_
  obtain ⟨v8, ev8, h⟩ := x_bd h
  refine x_getR clX3 w_fl_RX3_15 (by decide) dX3_copyFrom_28 ev8 ?_
  refine x_iload_n dX3_copyFrom_31 2 rfl ?_
  refine x_aload_n dX3_copyFrom_32 1 rfl ?_
  obtain ⟨v9, ev9, h⟩ := x_bd h
  refine x_getR clX3 w_fl_RX3_15 (by decide) dX3_copyFrom_33 ev9 ?_
  refine x_iload_n dX3_copyFrom_36 2 rfl ?_
  obtain ⟨v10, ev10, h⟩ := x_bd h
  refine x_iald dX3_copyFrom_37 ev10 ?_
  obtain ⟨m11, em11, h⟩ := x_bd h
  refine x_iast dX3_copyFrom_38 em11 ?_
  refine x_aload_n dX3_copyFrom_39 0 rfl ?_
  obtain ⟨v12, ev12, h⟩ := x_bd h
  refine x_getR clX3 w_fl_RX3_18 (by decide) dX3_copyFrom_40 ev12 ?_
  refine x_iload_n dX3_copyFrom_43 2 rfl ?_
  refine x_aload_n dX3_copyFrom_44 1 rfl ?_
  obtain ⟨v13, ev13, h⟩ := x_bd h
  refine x_getR clX3 w_fl_RX3_18 (by decide) dX3_copyFrom_45 ev13 ?_
  refine x_iload_n dX3_copyFrom_48 2 rfl ?_
  obtain ⟨v14, ev14, h⟩ := x_bd h
  refine x_iald dX3_copyFrom_49 ev14 ?_
  obtain ⟨m15, em15, h⟩ := x_bd h
  refine x_iast dX3_copyFrom_50 em15 ?_
  refine x_iinc (1 : Int32) 2 [(2, .int (q.1 + (1 : Int32))), (0, .ref a0), (1, .ref a1)] dX3_copyFrom_51 rfl (by decide) (by decide) rfl ?_
  refine x_goto 10 dX3_copyFrom_54 (by decide) ?_
  exact x_sub [1, 2, 0] rfl (hk10 _ _ _ h)
def f_X3_copyFrom (F : Nat) (a0 : Nat) (a1 : Nat) (M : XM) : Option (XM) := (x_gI M a1 3 0).bind fun v1 => (x_put M a0 3 0 (.int v1)).bind fun m2 => x_it (b_X3_copyFrom_10 F (a0) (a1)) F ((0 : Int32), m2)
set_option maxHeartbeats 4000000 in
set_option maxRecDepth 100000 in
theorem c_X3_copyFrom (l : Launch) (D : va_G) (aC : FieldType → ClassId) (bs sz : Nat) (F : Nat) {a0 : Nat} {a1 : Nat} {M : XM} {r : XM} (h : f_X3_copyFrom F a0 a1 M = some r) : x_Cn l D aC bs yX3_copyFrom cX3_copyFrom 3 none rm_X3_copyFrom [.ref a0, .ref a1] sz M none sz r := by
  unfold f_X3_copyFrom at h
  refine x_enter2 [(0, .ref a0), (1, .ref a1)] me_X3_copyFrom (Nat.le_of_ble_eq_true rfl) rfl ?_
  refine x_aload_n dX3_copyFrom_0 0 rfl ?_
  refine x_aload_n dX3_copyFrom_1 1 rfl ?_
  obtain ⟨v1, ev1, h⟩ := x_bd h
  refine x_getI clX3 w_fl_RX3_34 (by decide) dX3_copyFrom_2 ev1 ?_
  obtain ⟨m2, em2, h⟩ := x_bd h
  refine x_putV clX3 w_fl_RX3_34 (by decide) rfl rfl rfl dX3_copyFrom_5 em2 ?_
  refine x_iconst (v := (0 : Int32)) dX3_copyFrom_8 (by decide) ?_
  refine x_istore_n 2 [(2, .int (0 : Int32)), (0, .ref a0), (1, .ref a1)] dX3_copyFrom_9 rfl (by decide) rfl ?_
  exact x_sub [1, 2, 0] rfl (lp_X3_copyFrom_10 l D aC bs sz F (a0) (a1)  F _ _ _ h)

-- SwappedIntervals$Deeds.remember(LSwappedIntervals$Rows;)V
abbrev rm_X0_remember : Room := { frames := 1, cells := 0, slots := 0, locals := 22 }
theorem me_X0_remember : x_Me yX0_remember cX0_remember 2 none 1 := ⟨by decide +kernel, w_co_yX0_remember, w_in_SwappedIntervals_Deeds, by decide +kernel, by decide +kernel, by decide +kernel⟩
def j_X0_remember_33 (F : Nat) (a0 : Nat) (s0 : Int32) (s1 : Nat) (M : XM)  : Option (XM) := (x_put M s1 0 1 (.int s0)).bind fun m9 => (x_gI m9 a0 0 2).bind fun v10 => (x_put m9 a0 0 2 (.int (if (12 : Int32) < (v10 + (1 : Int32)) then (12 : Int32) else (v10 + (1 : Int32))))).bind fun m11 => some m11
set_option maxHeartbeats 4000000 in
set_option maxRecDepth 100000 in
theorem jp_X0_remember_33 (l : Launch) (D : va_G) (aC : FieldType → ClassId) (bs : Nat) (sz : Nat) (F : Nat) (a0 : Nat) (s0 : Int32) (s1 : Nat) (M : XM)   {r : XM} (h : j_X0_remember_33 F a0 s0 s1 M  = some r) : x_V l D aC bs yX0_remember cX0_remember 2 none rm_X0_remember (x_Z D aC bs none sz r rm_X0_remember) 33 [(0, .ref a0)] [.int s0, .ref s1] sz M 0 0 := by
  unfold j_X0_remember_33 at h
  obtain ⟨m9, em9, h⟩ := x_bd h
  refine x_putV clX0 w_fl_RX0_17 (by decide) rfl rfl rfl dX0_remember_33 em9 ?_
  refine x_aload_n dX0_remember_36 0 rfl ?_
  refine x_aload_n dX0_remember_37 0 rfl ?_
  obtain ⟨v10, ev10, h⟩ := x_bd h
  refine x_getI clX0 w_fl_RX0_21 (by decide) dX0_remember_38 ev10 ?_
  refine x_iconst (v := (1 : Int32)) dX0_remember_41 (by decide) ?_
  refine x_iadd dX0_remember_42 ?_
  refine x_bipush (v := (12 : Int32)) dX0_remember_43 (by decide) ?_
  refine x_mmin w_ml_RX0_29 w_st_Lib_Math_min_name w_in_java_lang_Math w_co_Lib_Math_min_name (Nat.le_of_ble_eq_true rfl) (Nat.le_of_ble_eq_true rfl) (Nat.le_of_ble_eq_true rfl) (Nat.le_of_ble_eq_true rfl) dX0_remember_45 ?_
  obtain ⟨m11, em11, h⟩ := x_bd h
  refine x_putV clX0 w_fl_RX0_21 (by decide) rfl rfl rfl dX0_remember_48 em11 ?_
  obtain rfl := Option.some.inj h
  exact x_vret dX0_remember_51 (Nat.le_of_ble_eq_true rfl) (Nat.le_of_ble_eq_true rfl)
def f_X0_remember (F : Nat) (a0 : Nat) (a1 : Nat) (M : XM) : Option (XM) := (x_gR M a0 0 0).bind fun v1 => (x_gI M a0 0 1).bind fun v2 => (x_aQ (.object RX3) M v1 v2).bind fun v3 => (x_ob M v3 3).bind fun u4 => (f_X3_copyFrom F v3 a1 M).bind fun p5 => (x_gI p5 a0 0 1).bind fun v6 => if v6 = (11 : Int32) then j_X0_remember_33 F (a0) (0 : Int32) (a0) p5 else (x_gI p5 a0 0 1).bind fun v8 => j_X0_remember_33 F (a0) (v8 + (1 : Int32)) (a0) p5
set_option maxHeartbeats 4000000 in
set_option maxRecDepth 100000 in
theorem c_X0_remember (l : Launch) (D : va_G) (aC : FieldType → ClassId) (bs sz : Nat) (F : Nat) {a0 : Nat} {a1 : Nat} {M : XM} {r : XM} (h : f_X0_remember F a0 a1 M = some r) : x_Cn l D aC bs yX0_remember cX0_remember 2 none rm_X0_remember [.ref a0, .ref a1] sz M none sz r := by
  unfold f_X0_remember at h
  refine x_enter2 [(0, .ref a0), (1, .ref a1)] me_X0_remember (Nat.le_of_ble_eq_true rfl) rfl ?_
  refine x_aload_n dX0_remember_0 0 rfl ?_
  obtain ⟨v1, ev1, h⟩ := x_bd h
  refine x_getR clX0 w_fl_RX0_11 (by decide) dX0_remember_1 ev1 ?_
  refine x_aload_n dX0_remember_4 0 rfl ?_
  obtain ⟨v2, ev2, h⟩ := x_bd h
  refine x_getI clX0 w_fl_RX0_17 (by decide) dX0_remember_5 ev2 ?_
  obtain ⟨v3, ev3, h⟩ := x_bd h
  refine x_aald (t0 := 4) rfl dX0_remember_8 ev3 ?_
  refine x_aload_n dX0_remember_9 1 rfl ?_
  obtain ⟨u4, eu4, h⟩ := x_bd h
  obtain ⟨p5, ep5, h⟩ := x_bd h
  refine x_callVV [.ref a1] [] clX3 me_X3_copyFrom w_ml_RX0_25 w_im_yX3_copyFrom w_se_yX3_copyFrom (Nat.le_of_ble_eq_true rfl) (Nat.le_of_ble_eq_true rfl) rfl (Nat.le_of_ble_eq_true rfl) (Nat.le_of_ble_eq_true rfl) (Nat.le_of_ble_eq_true rfl) dX0_remember_10 eu4 (c_X3_copyFrom l D aC bs sz F ep5) rfl ?_
  refine x_aload_n dX0_remember_13 0 rfl ?_
  refine x_aload_n dX0_remember_14 0 rfl ?_
  obtain ⟨v6, ev6, h⟩ := x_bd h
  refine x_getI clX0 w_fl_RX0_17 (by decide) dX0_remember_15 ev6 ?_
  refine x_bipush (v := (11 : Int32)) dX0_remember_18 (by decide) ?_
  refine x_icmp_ne 27 dX0_remember_20 (by decide) (fun c7 => ?_) (fun c7 => ?_)
  · have h := (if_neg c7).symm.trans h
    refine x_aload_n dX0_remember_27 0 rfl ?_
    obtain ⟨v8, ev8, h⟩ := x_bd h
    refine x_getI clX0 w_fl_RX0_17 (by decide) dX0_remember_28 ev8 ?_
    refine x_iconst (v := (1 : Int32)) dX0_remember_31 (by decide) ?_
    refine x_iadd dX0_remember_32 ?_
    exact x_sub [0] rfl (jp_X0_remember_33 l D aC bs sz F (a0) (v8 + (1 : Int32)) (a0) p5  h)
  have h := (if_pos c7).symm.trans h
  refine x_iconst (v := (0 : Int32)) dX0_remember_23 (by decide) ?_
  refine x_goto 33 dX0_remember_24 (by decide) ?_
  exact x_sub [0] rfl (jp_X0_remember_33 l D aC bs sz F (a0) (0 : Int32) (a0) p5  h)

-- SwappedIntervals$Deeds.restoreLatest(LSwappedIntervals$Rows;)V
abbrev rm_X0_restoreLatest : Room := { frames := 1, cells := 0, slots := 0, locals := 22 }
theorem me_X0_restoreLatest : x_Me yX0_restoreLatest cX0_restoreLatest 2 none 1 := ⟨by decide +kernel, w_co_yX0_restoreLatest, w_in_SwappedIntervals_Deeds, by decide +kernel, by decide +kernel, by decide +kernel⟩
def j_X0_restoreLatest_27 (F : Nat) (a0 : Nat) (a1 : Nat) (s0 : Int32) (s1 : Nat) (M : XM)  : Option (XM) := (x_put M s1 0 1 (.int s0)).bind fun m6 => (x_gI m6 a0 0 2).bind fun v7 => (x_put m6 a0 0 2 (.int (v7 - (1 : Int32)))).bind fun m8 => (x_gR m8 a0 0 0).bind fun v9 => (x_gI m8 a0 0 1).bind fun v10 => (x_aQ (.object RX3) m8 v9 v10).bind fun v11 => (x_ob m8 a1 3).bind fun u12 => (f_X3_copyFrom F a1 v11 m8).bind fun p13 => some p13
set_option maxHeartbeats 4000000 in
set_option maxRecDepth 100000 in
theorem jp_X0_restoreLatest_27 (l : Launch) (D : va_G) (aC : FieldType → ClassId) (bs : Nat) (sz : Nat) (F : Nat) (a0 : Nat) (a1 : Nat) (s0 : Int32) (s1 : Nat) (M : XM)   {r : XM} (h : j_X0_restoreLatest_27 F a0 a1 s0 s1 M  = some r) : x_V l D aC bs yX0_restoreLatest cX0_restoreLatest 2 none rm_X0_restoreLatest (x_Z D aC bs none sz r rm_X0_restoreLatest) 27 [(0, .ref a0), (1, .ref a1)] [.int s0, .ref s1] sz M 0 0 := by
  unfold j_X0_restoreLatest_27 at h
  obtain ⟨m6, em6, h⟩ := x_bd h
  refine x_putV clX0 w_fl_RX0_17 (by decide) rfl rfl rfl dX0_restoreLatest_27 em6 ?_
  refine x_aload_n dX0_restoreLatest_30 0 rfl ?_
  refine x_dup dX0_restoreLatest_31 rfl ?_
  obtain ⟨v7, ev7, h⟩ := x_bd h
  refine x_getI clX0 w_fl_RX0_21 (by decide) dX0_restoreLatest_32 ev7 ?_
  refine x_iconst (v := (1 : Int32)) dX0_restoreLatest_35 (by decide) ?_
  refine x_isub dX0_restoreLatest_36 ?_
  obtain ⟨m8, em8, h⟩ := x_bd h
  refine x_putV clX0 w_fl_RX0_21 (by decide) rfl rfl rfl dX0_restoreLatest_37 em8 ?_
  refine x_aload_n dX0_restoreLatest_40 1 rfl ?_
  refine x_aload_n dX0_restoreLatest_41 0 rfl ?_
  obtain ⟨v9, ev9, h⟩ := x_bd h
  refine x_getR clX0 w_fl_RX0_11 (by decide) dX0_restoreLatest_42 ev9 ?_
  refine x_aload_n dX0_restoreLatest_45 0 rfl ?_
  obtain ⟨v10, ev10, h⟩ := x_bd h
  refine x_getI clX0 w_fl_RX0_17 (by decide) dX0_restoreLatest_46 ev10 ?_
  obtain ⟨v11, ev11, h⟩ := x_bd h
  refine x_aald (t0 := 4) rfl dX0_restoreLatest_49 ev11 ?_
  obtain ⟨u12, eu12, h⟩ := x_bd h
  obtain ⟨p13, ep13, h⟩ := x_bd h
  refine x_callVV [.ref v11] [] clX3 me_X3_copyFrom w_ml_RX0_25 w_im_yX3_copyFrom w_se_yX3_copyFrom (Nat.le_of_ble_eq_true rfl) (Nat.le_of_ble_eq_true rfl) rfl (Nat.le_of_ble_eq_true rfl) (Nat.le_of_ble_eq_true rfl) (Nat.le_of_ble_eq_true rfl) dX0_restoreLatest_50 eu12 (c_X3_copyFrom l D aC bs sz F ep13) rfl ?_
  obtain rfl := Option.some.inj h
  exact x_vret dX0_restoreLatest_53 (Nat.le_of_ble_eq_true rfl) (Nat.le_of_ble_eq_true rfl)
def f_X0_restoreLatest (F : Nat) (a0 : Nat) (a1 : Nat) (M : XM) : Option (XM) := (x_gI M a0 0 2).bind fun v1 => if v1 = 0 then some M else (x_gI M a0 0 1).bind fun v3 => if v3 = 0 then j_X0_restoreLatest_27 F (a0) (a1) (11 : Int32) (a0) M else (x_gI M a0 0 1).bind fun v5 => j_X0_restoreLatest_27 F (a0) (a1) (v5 - (1 : Int32)) (a0) M
set_option maxHeartbeats 4000000 in
set_option maxRecDepth 100000 in
theorem c_X0_restoreLatest (l : Launch) (D : va_G) (aC : FieldType → ClassId) (bs sz : Nat) (F : Nat) {a0 : Nat} {a1 : Nat} {M : XM} {r : XM} (h : f_X0_restoreLatest F a0 a1 M = some r) : x_Cn l D aC bs yX0_restoreLatest cX0_restoreLatest 2 none rm_X0_restoreLatest [.ref a0, .ref a1] sz M none sz r := by
  unfold f_X0_restoreLatest at h
  refine x_enter2 [(0, .ref a0), (1, .ref a1)] me_X0_restoreLatest (Nat.le_of_ble_eq_true rfl) rfl ?_
  refine x_aload_n dX0_restoreLatest_0 0 rfl ?_
  obtain ⟨v1, ev1, h⟩ := x_bd h
  refine x_getI clX0 w_fl_RX0_21 (by decide) dX0_restoreLatest_1 ev1 ?_
  refine x_if_ne 8 dX0_restoreLatest_4 (by decide) (fun c2 => ?_) (fun c2 => ?_)
  · have h := (if_neg c2).symm.trans h
    refine x_aload_n dX0_restoreLatest_8 0 rfl ?_
    refine x_aload_n dX0_restoreLatest_9 0 rfl ?_
    obtain ⟨v3, ev3, h⟩ := x_bd h
    refine x_getI clX0 w_fl_RX0_17 (by decide) dX0_restoreLatest_10 ev3 ?_
    refine x_if_ne 21 dX0_restoreLatest_13 (by decide) (fun c4 => ?_) (fun c4 => ?_)
    · have h := (if_neg c4).symm.trans h
      refine x_aload_n dX0_restoreLatest_21 0 rfl ?_
      obtain ⟨v5, ev5, h⟩ := x_bd h
      refine x_getI clX0 w_fl_RX0_17 (by decide) dX0_restoreLatest_22 ev5 ?_
      refine x_iconst (v := (1 : Int32)) dX0_restoreLatest_25 (by decide) ?_
      refine x_isub dX0_restoreLatest_26 ?_
      exact jp_X0_restoreLatest_27 l D aC bs sz F (a0) (a1) (v5 - (1 : Int32)) (a0) M  h
    have h := (if_pos c4).symm.trans h
    refine x_bipush (v := (11 : Int32)) dX0_restoreLatest_16 (by decide) ?_
    refine x_goto 27 dX0_restoreLatest_18 (by decide) ?_
    exact jp_X0_restoreLatest_27 l D aC bs sz F (a0) (a1) (11 : Int32) (a0) M  h
  have h := (if_pos c2).symm.trans h
  obtain rfl := Option.some.inj h
  exact x_vret dX0_restoreLatest_7 (Nat.le_of_ble_eq_true rfl) (Nat.le_of_ble_eq_true rfl)

-- SwappedIntervals$Line.<init>()V
abbrev rm_X1_init : Room := { frames := 1, cells := 2, slots := 990, locals := 20 }
abbrev mc_X1_init : Nat := 2
theorem me_X1_init : x_Me yX1_init cX1_init 1 none 0 := ⟨by decide +kernel, w_co_yX1_init, w_in_SwappedIntervals_Line, by decide +kernel, by decide +kernel, by decide +kernel⟩
def f_X1_init (a0 : Nat) (sz : Nat) (M : XM) : Option (XM) := (x_nw M sz (.inl (.int, 495, .inl (fun _ => 0)))).bind fun m1 => (x_put m1 a0 1 0 (.ref sz)).bind fun m2 => (x_nw m2 (sz + 1) (.inl (.boolean, 495, .inl (fun _ => 0)))).bind fun m3 => (x_put m3 a0 1 1 (.ref (sz + 1))).bind fun m4 => (x_put m4 a0 1 2 (.int (0 : Int32))).bind fun m5 => some m5
set_option maxHeartbeats 4000000 in
set_option maxRecDepth 100000 in
theorem c_X1_init (l : Launch) (D : va_G) (aC : FieldType → ClassId) (bs sz : Nat) {a0 : Nat} {M : XM} {r : XM} (h : f_X1_init a0 sz M = some r) : x_Cn l D aC bs yX1_init cX1_init 1 none rm_X1_init [.ref a0] sz M none (sz + mc_X1_init) r := by
  unfold f_X1_init at h
  refine x_enter2 [(0, .ref a0)] me_X1_init (Nat.le_of_ble_eq_true rfl) rfl ?_
  refine x_aload_n dX1_init_0 0 rfl ?_
  refine x_objInit w_ml_RX1_3 w_im_Lib_objectInit w_co_Lib_objectInit (Nat.le_of_ble_eq_true rfl) (Nat.le_of_ble_eq_true rfl) dX1_init_1 ?_
  refine x_aload_n dX1_init_4 0 rfl ?_
  refine x_sipush (v := (495 : Int32)) dX1_init_5 (by decide) ?_
  obtain ⟨m1, em1, h⟩ := x_bd h
  refine x_newI 495 495 w_ac_int (by decide) (by decide) (Nat.le_refl _) (by decide) (Nat.le_of_ble_eq_true rfl) (Nat.le_of_ble_eq_true rfl) dX1_init_8 ?_
  refine x_castM (Option.some.inj em1) ?_
  obtain ⟨m2, em2, h⟩ := x_bd h
  refine x_putF clX1 w_fl_RX1_9 (by decide) rfl rfl rfl rfl rfl dX1_init_10 em2 ?_
  refine x_aload_n dX1_init_13 0 rfl ?_
  refine x_sipush (v := (495 : Int32)) dX1_init_14 (by decide) ?_
  obtain ⟨m3, em3, h⟩ := x_bd h
  refine x_newZ 495 495 w_ac_boolean (by decide) (by decide) (Nat.le_refl _) (by decide) (Nat.le_of_ble_eq_true rfl) (Nat.le_of_ble_eq_true rfl) dX1_init_17 ?_
  refine x_castM (Option.some.inj em3) ?_
  obtain ⟨m4, em4, h⟩ := x_bd h
  refine x_putF clX1 w_fl_RX1_15 (by decide) rfl rfl rfl rfl rfl dX1_init_19 em4 ?_
  refine x_aload_n dX1_init_22 0 rfl ?_
  refine x_iconst (v := (0 : Int32)) dX1_init_23 (by decide) ?_
  obtain ⟨m5, em5, h⟩ := x_bd h
  refine x_putV clX1 w_fl_RX1_19 (by decide) rfl rfl rfl dX1_init_24 em5 ?_
  obtain rfl := Option.some.inj h
  exact x_vret dX1_init_27 (Nat.le_of_ble_eq_true rfl) (Nat.le_of_ble_eq_true rfl)

-- SwappedIntervals$Rows.startIn([II)I
abbrev rm_X3_startIn : Room := { frames := 0, cells := 0, slots := 0, locals := 0 }
theorem me_X3_startIn : x_Me yX3_startIn cX3_startIn 5 (some .int) 2 := ⟨by decide +kernel, w_co_yX3_startIn, w_in_SwappedIntervals_Rows, by decide +kernel, by decide +kernel, by decide +kernel⟩
def b_X3_startIn_5 (F : Nat) (a0 : Nat) (a1 : Nat) (a2 : Int32) (M : XM)  (k5 : (Int32 × Int32) → Option (Int32)) (q : Int32 × Int32) : Option (Int32) := (x_gI M a0 3 0).bind fun v1 => if v1 ≤ q.2 then some q.1 else (x_a32 .int M a1 q.2).bind fun v3 => if v3 = a2 then some q.1 else (x_gR M a0 3 3).bind fun v5 => (x_a32 .int M a1 q.2).bind fun v6 => (x_a32 .int M v5 v6).bind fun v7 => k5 ((q.1 + v7), (q.2 + (1 : Int32)))
set_option maxHeartbeats 4000000 in
set_option maxRecDepth 100000 in
theorem lp_X3_startIn_5 (l : Launch) (D : va_G) (aC : FieldType → ClassId) (bs : Nat) (sz : Nat) (F : Nat) (a0 : Nat) (a1 : Nat) (a2 : Int32) (M : XM)   : ∀ (n : Nat) (b0 : Int32) (b1 : Int32) (r : Int32), x_it (b_X3_startIn_5 F a0 a1 a2 M ) n (b0, b1) = some r → x_V l D aC bs yX3_startIn cX3_startIn 5 (some .int) rm_X3_startIn (x_Z D aC bs (some (.int r)) sz M rm_X3_startIn) 5 [(0, .ref a0), (1, .ref a1), (2, .int a2), (3, .int b0), (4, .int b1)] [] sz M 0 0 := by
  suffices H : ∀ (n : Nat) (q : Int32 × Int32) (r : Int32), x_it (b_X3_startIn_5 F a0 a1 a2 M ) n q = some r → x_V l D aC bs yX3_startIn cX3_startIn 5 (some .int) rm_X3_startIn (x_Z D aC bs (some (.int r)) sz M rm_X3_startIn) 5 [(0, .ref a0), (1, .ref a1), (2, .int a2), (3, .int q.1), (4, .int q.2)] [] sz M 0 0 from fun n b0 b1 r h => H n (b0, b1) r h
  refine x_loop (P := fun (q : Int32 × Int32) (r : Int32) => x_V l D aC bs yX3_startIn cX3_startIn 5 (some .int) rm_X3_startIn (x_Z D aC bs (some (.int r)) sz M rm_X3_startIn) 5 [(0, .ref a0), (1, .ref a1), (2, .int a2), (3, .int q.1), (4, .int q.2)] [] sz M 0 0) (fun k5 hk0 q r h => ?_)
  have hk5 : ∀ (b0 : Int32) (b1 : Int32) (r : Int32), k5 (b0, b1) = some r → x_V l D aC bs yX3_startIn cX3_startIn 5 (some .int) rm_X3_startIn (x_Z D aC bs (some (.int r)) sz M rm_X3_startIn) 5 [(0, .ref a0), (1, .ref a1), (2, .int a2), (3, .int b0), (4, .int b1)] [] sz M 0 0 := fun b0 b1 r h => hk0 (b0, b1) r h
  unfold b_X3_startIn_5 at h
  refine x_iload dX3_startIn_5 4 rfl ?_
  refine x_aload_n dX3_startIn_7 0 rfl ?_
  obtain ⟨v1, ev1, h⟩ := x_bd h
  refine x_getI clX3 w_fl_RX3_34 (by decide) dX3_startIn_8 ev1 ?_
  refine x_icmp_ge 40 dX3_startIn_11 (by decide) (fun c2 => ?_) (fun c2 => ?_)
  · have h := (if_pos c2).symm.trans h
    refine x_iload_n dX3_startIn_40 3 rfl ?_
    obtain rfl := Option.some.inj h
    exact x_iret dX3_startIn_41 (Nat.le_of_ble_eq_true rfl) (Nat.le_of_ble_eq_true rfl)
  have h := (if_neg c2).symm.trans h
  refine x_aload_n dX3_startIn_14 1 rfl ?_
  refine x_iload dX3_startIn_15 4 rfl ?_
  obtain ⟨v3, ev3, h⟩ := x_bd h
  refine x_iald dX3_startIn_17 ev3 ?_
  refine x_iload_n dX3_startIn_18 2 rfl ?_
  refine x_icmp_eq 40 dX3_startIn_19 (by decide) (fun c4 => ?_) (fun c4 => ?_)
  · have h := (if_pos c4).symm.trans h
    refine x_iload_n dX3_startIn_40 3 rfl ?_
    obtain rfl := Option.some.inj h
    exact x_iret dX3_startIn_41 (Nat.le_of_ble_eq_true rfl) (Nat.le_of_ble_eq_true rfl)
  have h := (if_neg c4).symm.trans h
  refine x_iload_n dX3_startIn_22 3 rfl ?_
  refine x_aload_n dX3_startIn_23 0 rfl ?_
  obtain ⟨v5, ev5, h⟩ := x_bd h
  refine x_getR clX3 w_fl_RX3_18 (by decide) dX3_startIn_24 ev5 ?_
  refine x_aload_n dX3_startIn_27 1 rfl ?_
  refine x_iload dX3_startIn_28 4 rfl ?_
  obtain ⟨v6, ev6, h⟩ := x_bd h
  refine x_iald dX3_startIn_30 ev6 ?_
  obtain ⟨v7, ev7, h⟩ := x_bd h
  refine x_iald dX3_startIn_31 ev7 ?_
  refine x_iadd dX3_startIn_32 ?_
  refine x_istore_n 3 [(3, .int (q.1 + v7)), (0, .ref a0), (1, .ref a1), (2, .int a2), (4, .int q.2)] dX3_startIn_33 rfl (by decide) rfl ?_
  refine x_iinc (1 : Int32) 4 [(4, .int (q.2 + (1 : Int32))), (3, .int (q.1 + v7)), (0, .ref a0), (1, .ref a1), (2, .int a2)] dX3_startIn_34 rfl (by decide) (by decide) rfl ?_
  refine x_goto 5 dX3_startIn_37 (by decide) ?_
  exact x_sub [2, 3, 4, 1, 0] rfl (hk5 _ _ _ h)
def f_X3_startIn (F : Nat) (a0 : Nat) (a1 : Nat) (a2 : Int32) (M : XM) : Option (Int32) := x_it (b_X3_startIn_5 F (a0) (a1) (a2) M) F ((0 : Int32), (0 : Int32))
set_option maxHeartbeats 4000000 in
set_option maxRecDepth 100000 in
theorem c_X3_startIn (l : Launch) (D : va_G) (aC : FieldType → ClassId) (bs sz : Nat) (F : Nat) {a0 : Nat} {a1 : Nat} {a2 : Int32} {M : XM} {r : Int32} (h : f_X3_startIn F a0 a1 a2 M = some r) : x_Cn l D aC bs yX3_startIn cX3_startIn 5 (some .int) rm_X3_startIn [.ref a0, .ref a1, .int a2] sz M (some (.int r)) sz M := by
  unfold f_X3_startIn at h
  refine x_enter2 [(0, .ref a0), (1, .ref a1), (2, .int a2)] me_X3_startIn (Nat.le_of_ble_eq_true rfl) rfl ?_
  refine x_iconst (v := (0 : Int32)) dX3_startIn_0 (by decide) ?_
  refine x_istore_n 3 [(3, .int (0 : Int32)), (0, .ref a0), (1, .ref a1), (2, .int a2)] dX3_startIn_1 rfl (by decide) rfl ?_
  refine x_iconst (v := (0 : Int32)) dX3_startIn_2 (by decide) ?_
  refine x_istore [(4, .int (0 : Int32)), (3, .int (0 : Int32)), (0, .ref a0), (1, .ref a1), (2, .int a2)] dX3_startIn_3 (by decide) rfl ?_
  exact x_sub [2, 3, 4, 1, 0] rfl (lp_X3_startIn_5 l D aC bs sz F (a0) (a1) (a2) M  F _ _ _ h)

-- SwappedIntervals$Line.lay(LSwappedIntervals$Rows;)V
abbrev rm_X1_lay : Room := { frames := 1, cells := 0, slots := 0, locals := 24 }
theorem me_X1_lay : x_Me yX1_lay cX1_lay 6 none 1 := ⟨by decide +kernel, w_co_yX1_lay, w_in_SwappedIntervals_Line, by decide +kernel, by decide +kernel, by decide +kernel⟩
def b_X1_lay_36 (F : Nat) (a0 : Nat) (a1 : Nat) (a2 : Int32) (a3 : Int32) (a4 : Int32) (k7 : (Int32 × XM) → Option (XM)) (k36 : (Int32 × XM) → Option (XM)) (q : Int32 × XM) : Option (XM) := (x_gR q.2 a1 3 3).bind fun v9 => (x_a32 .int q.2 v9 a3).bind fun v10 => if v10 ≤ q.1 then k7 ((a2 + (1 : Int32)), q.2) else (x_gI q.2 a0 1 2).bind fun v12 => if (495 : Int32) ≤ v12 then k7 ((a2 + (1 : Int32)), q.2) else (x_gR q.2 a0 1 0).bind fun v14 => (x_gI q.2 a0 1 2).bind fun v15 => (x_w32 .int q.2 v14 v15 (a4 + q.1)).bind fun m16 => (x_gI m16 a0 1 2).bind fun v17 => (x_put m16 a0 1 2 (.int (v17 + (1 : Int32)))).bind fun m18 => k36 ((q.1 + (1 : Int32)), m18)
set_option maxHeartbeats 4000000 in
set_option maxRecDepth 100000 in
theorem lp_X1_lay_36 (l : Launch) (D : va_G) (aC : FieldType → ClassId) (bs : Nat) (sz : Nat) (F : Nat) (a0 : Nat) (a1 : Nat) (a2 : Int32) (a3 : Int32) (a4 : Int32) (k7 : (Int32 × XM) → Option (XM)) (hk7 : ∀ (b0 : Int32) (b1 : XM) (r : XM), k7 (b0, b1) = some r → x_V l D aC bs yX1_lay cX1_lay 6 none rm_X1_lay (x_Z D aC bs none sz r rm_X1_lay) 7 [(0, .ref a0), (1, .ref a1), (2, .int b0)] [] sz b1 0 0) : ∀ (n : Nat) (b0 : Int32) (b1 : XM) (r : XM), x_it (b_X1_lay_36 F a0 a1 a2 a3 a4 k7) n (b0, b1) = some r → x_V l D aC bs yX1_lay cX1_lay 6 none rm_X1_lay (x_Z D aC bs none sz r rm_X1_lay) 36 [(0, .ref a0), (1, .ref a1), (2, .int a2), (3, .int a3), (4, .int a4), (5, .int b0)] [] sz b1 0 0 := by
  suffices H : ∀ (n : Nat) (q : Int32 × XM) (r : XM), x_it (b_X1_lay_36 F a0 a1 a2 a3 a4 k7) n q = some r → x_V l D aC bs yX1_lay cX1_lay 6 none rm_X1_lay (x_Z D aC bs none sz r rm_X1_lay) 36 [(0, .ref a0), (1, .ref a1), (2, .int a2), (3, .int a3), (4, .int a4), (5, .int q.1)] [] sz q.2 0 0 from fun n b0 b1 r h => H n (b0, b1) r h
  refine x_loop (P := fun (q : Int32 × XM) (r : XM) => x_V l D aC bs yX1_lay cX1_lay 6 none rm_X1_lay (x_Z D aC bs none sz r rm_X1_lay) 36 [(0, .ref a0), (1, .ref a1), (2, .int a2), (3, .int a3), (4, .int a4), (5, .int q.1)] [] sz q.2 0 0) (fun k36 hk0 q r h => ?_)
  have hk36 : ∀ (b0 : Int32) (b1 : XM) (r : XM), k36 (b0, b1) = some r → x_V l D aC bs yX1_lay cX1_lay 6 none rm_X1_lay (x_Z D aC bs none sz r rm_X1_lay) 36 [(0, .ref a0), (1, .ref a1), (2, .int a2), (3, .int a3), (4, .int a4), (5, .int b0)] [] sz b1 0 0 := fun b0 b1 r h => hk0 (b0, b1) r h
  unfold b_X1_lay_36 at h
  refine x_iload dX1_lay_36 5 rfl ?_
  refine x_aload_n dX1_lay_38 1 rfl ?_
  obtain ⟨v9, ev9, h⟩ := x_bd h
  refine x_getR clX3 w_fl_RX1_38 (by decide) dX1_lay_39 ev9 ?_
  refine x_iload_n dX1_lay_42 3 rfl ?_
  obtain ⟨v10, ev10, h⟩ := x_bd h
  refine x_iald dX1_lay_43 ev10 ?_
  refine x_icmp_ge 87 dX1_lay_44 (by decide) (fun c11 => ?_) (fun c11 => ?_)
  · have h := (if_pos c11).symm.trans h
    refine x_iinc (1 : Int32) 2 [(2, .int (a2 + (1 : Int32))), (0, .ref a0), (1, .ref a1), (3, .int a3), (4, .int a4), (5, .int q.1)] dX1_lay_87 rfl (by decide) (by decide) rfl ?_
    refine x_goto 7 dX1_lay_90 (by decide) ?_
    exact x_sub [1, 2, 0] rfl (hk7 _ _ _ h)
  have h := (if_neg c11).symm.trans h
  refine x_aload_n dX1_lay_47 0 rfl ?_
  obtain ⟨v12, ev12, h⟩ := x_bd h
  refine x_getI clX1 w_fl_RX1_19 (by decide) dX1_lay_48 ev12 ?_
  refine x_sipush (v := (495 : Int32)) dX1_lay_51 (by decide) ?_
  refine x_icmp_ge 87 dX1_lay_54 (by decide) (fun c13 => ?_) (fun c13 => ?_)
  · have h := (if_pos c13).symm.trans h
    refine x_iinc (1 : Int32) 2 [(2, .int (a2 + (1 : Int32))), (0, .ref a0), (1, .ref a1), (3, .int a3), (4, .int a4), (5, .int q.1)] dX1_lay_87 rfl (by decide) (by decide) rfl ?_
    refine x_goto 7 dX1_lay_90 (by decide) ?_
    exact x_sub [1, 2, 0] rfl (hk7 _ _ _ h)
  have h := (if_neg c13).symm.trans h
  refine x_aload_n dX1_lay_57 0 rfl ?_
  obtain ⟨v14, ev14, h⟩ := x_bd h
  refine x_getR clX1 w_fl_RX1_9 (by decide) dX1_lay_58 ev14 ?_
  refine x_aload_n dX1_lay_61 0 rfl ?_
  obtain ⟨v15, ev15, h⟩ := x_bd h
  refine x_getI clX1 w_fl_RX1_19 (by decide) dX1_lay_62 ev15 ?_
  refine x_iload dX1_lay_65 4 rfl ?_
  refine x_iload dX1_lay_67 5 rfl ?_
  refine x_iadd dX1_lay_69 ?_
  obtain ⟨m16, em16, h⟩ := x_bd h
  refine x_iast dX1_lay_70 em16 ?_
  refine x_aload_n dX1_lay_71 0 rfl ?_
  refine x_dup dX1_lay_72 rfl ?_
  obtain ⟨v17, ev17, h⟩ := x_bd h
  refine x_getI clX1 w_fl_RX1_19 (by decide) dX1_lay_73 ev17 ?_
  refine x_iconst (v := (1 : Int32)) dX1_lay_76 (by decide) ?_
  refine x_iadd dX1_lay_77 ?_
  obtain ⟨m18, em18, h⟩ := x_bd h
  refine x_putV clX1 w_fl_RX1_19 (by decide) rfl rfl rfl dX1_lay_78 em18 ?_
  refine x_iinc (1 : Int32) 5 [(5, .int (q.1 + (1 : Int32))), (0, .ref a0), (1, .ref a1), (2, .int a2), (3, .int a3), (4, .int a4)] dX1_lay_81 rfl (by decide) (by decide) rfl ?_
  refine x_goto 36 dX1_lay_84 (by decide) ?_
  exact x_sub [1, 2, 3, 4, 5, 0] rfl (hk36 _ _ _ h)
def b_X1_lay_7 (F : Nat) (a0 : Nat) (a1 : Nat)  (k7 : (Int32 × XM) → Option (XM)) (q : Int32 × XM) : Option (XM) := (x_gI q.2 a1 3 0).bind fun v2 => if v2 ≤ q.1 then some q.2 else (x_gR q.2 a1 3 1).bind fun v4 => (x_a32 .int q.2 v4 q.1).bind fun v5 => (x_gR q.2 a1 3 2).bind fun v6 => (x_ob q.2 a1 3).bind fun u7 => (f_X3_startIn F a1 v6 v5 q.2).bind fun p8 => x_it (b_X1_lay_36 F (a0) (a1) (q.1) (v5) (p8) k7) F ((0 : Int32), q.2)
set_option maxHeartbeats 4000000 in
set_option maxRecDepth 100000 in
theorem lp_X1_lay_7 (l : Launch) (D : va_G) (aC : FieldType → ClassId) (bs : Nat) (sz : Nat) (F : Nat) (a0 : Nat) (a1 : Nat)   : ∀ (n : Nat) (b0 : Int32) (b1 : XM) (r : XM), x_it (b_X1_lay_7 F a0 a1 ) n (b0, b1) = some r → x_V l D aC bs yX1_lay cX1_lay 6 none rm_X1_lay (x_Z D aC bs none sz r rm_X1_lay) 7 [(0, .ref a0), (1, .ref a1), (2, .int b0)] [] sz b1 0 0 := by
  suffices H : ∀ (n : Nat) (q : Int32 × XM) (r : XM), x_it (b_X1_lay_7 F a0 a1 ) n q = some r → x_V l D aC bs yX1_lay cX1_lay 6 none rm_X1_lay (x_Z D aC bs none sz r rm_X1_lay) 7 [(0, .ref a0), (1, .ref a1), (2, .int q.1)] [] sz q.2 0 0 from fun n b0 b1 r h => H n (b0, b1) r h
  refine x_loop (P := fun (q : Int32 × XM) (r : XM) => x_V l D aC bs yX1_lay cX1_lay 6 none rm_X1_lay (x_Z D aC bs none sz r rm_X1_lay) 7 [(0, .ref a0), (1, .ref a1), (2, .int q.1)] [] sz q.2 0 0) (fun k7 hk0 q r h => ?_)
  have hk7 : ∀ (b0 : Int32) (b1 : XM) (r : XM), k7 (b0, b1) = some r → x_V l D aC bs yX1_lay cX1_lay 6 none rm_X1_lay (x_Z D aC bs none sz r rm_X1_lay) 7 [(0, .ref a0), (1, .ref a1), (2, .int b0)] [] sz b1 0 0 := fun b0 b1 r h => hk0 (b0, b1) r h
  unfold b_X1_lay_7 at h
  refine x_iload_n dX1_lay_7 2 rfl ?_
  refine x_aload_n dX1_lay_8 1 rfl ?_
  obtain ⟨v2, ev2, h⟩ := x_bd h
  refine x_getI clX3 w_fl_RX1_23 (by decide) dX1_lay_9 ev2 ?_
  refine x_icmp_ge 93 dX1_lay_12 (by decide) (fun c3 => ?_) (fun c3 => ?_)
  · have h := (if_pos c3).symm.trans h
    obtain rfl := Option.some.inj h
    exact x_vret dX1_lay_93 (Nat.le_of_ble_eq_true rfl) (Nat.le_of_ble_eq_true rfl)
  have h := (if_neg c3).symm.trans h
  refine x_aload_n dX1_lay_15 1 rfl ?_
  obtain ⟨v4, ev4, h⟩ := x_bd h
  refine x_getR clX3 w_fl_RX1_28 (by decide) dX1_lay_16 ev4 ?_
  refine x_iload_n dX1_lay_19 2 rfl ?_
  obtain ⟨v5, ev5, h⟩ := x_bd h
  refine x_iald dX1_lay_20 ev5 ?_
  refine x_istore_n 3 [(3, .int v5), (0, .ref a0), (1, .ref a1), (2, .int q.1)] dX1_lay_21 rfl (by decide) rfl ?_
  refine x_aload_n dX1_lay_22 2 rfl ?_
  refine x_aload_n dX1_lay_23 2 rfl ?_
  obtain ⟨v6, ev6, h⟩ := x_bd h
  refine x_getR clX3 w_fl_RX1_31 (by decide) dX1_lay_24 ev6 ?_
  refine x_iload_n dX1_lay_27 0 rfl ?_
  obtain ⟨u7, eu7, h⟩ := x_bd h
  obtain ⟨p8, ep8, h⟩ := x_bd h
  refine x_callVI [.ref v6, .int v5] [] clX3 me_X3_startIn w_ml_RX1_34 w_im_yX3_startIn w_se_yX3_startIn (Nat.le_of_ble_eq_true rfl) (Nat.le_of_ble_eq_true rfl) rfl (Nat.le_of_ble_eq_true rfl) (Nat.le_of_ble_eq_true rfl) (Nat.le_of_ble_eq_true rfl) dX1_lay_28 eu7 (c_X3_startIn l D aC bs sz F ep8) rfl ?_
  refine x_istore [(4, .int p8), (3, .int v5), (0, .ref a0), (1, .ref a1), (2, .int q.1)] dX1_lay_31 (by decide) rfl ?_
  refine x_iconst (v := (0 : Int32)) dX1_lay_33 (by decide) ?_
  refine x_istore [(5, .int (0 : Int32)), (4, .int p8), (3, .int v5), (0, .ref a0), (1, .ref a1), (2, .int q.1)] dX1_lay_34 (by decide) rfl ?_
  exact x_sub [3, 4, 5, 2, 1, 0] rfl (lp_X1_lay_36 l D aC bs sz F (a0) (a1) (q.1) (v5) (p8) k7 hk7 F _ _ _ h)
def f_X1_lay (F : Nat) (a0 : Nat) (a1 : Nat) (M : XM) : Option (XM) := (x_put M a0 1 2 (.int (0 : Int32))).bind fun m1 => x_it (b_X1_lay_7 F (a0) (a1)) F ((0 : Int32), m1)
set_option maxHeartbeats 4000000 in
set_option maxRecDepth 100000 in
theorem c_X1_lay (l : Launch) (D : va_G) (aC : FieldType → ClassId) (bs sz : Nat) (F : Nat) {a0 : Nat} {a1 : Nat} {M : XM} {r : XM} (h : f_X1_lay F a0 a1 M = some r) : x_Cn l D aC bs yX1_lay cX1_lay 6 none rm_X1_lay [.ref a0, .ref a1] sz M none sz r := by
  unfold f_X1_lay at h
  refine x_enter2 [(0, .ref a0), (1, .ref a1)] me_X1_lay (Nat.le_of_ble_eq_true rfl) rfl ?_
  refine x_aload_n dX1_lay_0 0 rfl ?_
  refine x_iconst (v := (0 : Int32)) dX1_lay_1 (by decide) ?_
  obtain ⟨m1, em1, h⟩ := x_bd h
  refine x_putV clX1 w_fl_RX1_19 (by decide) rfl rfl rfl dX1_lay_2 em1 ?_
  refine x_iconst (v := (0 : Int32)) dX1_lay_5 (by decide) ?_
  refine x_istore_n 2 [(2, .int (0 : Int32)), (0, .ref a0), (1, .ref a1)] dX1_lay_6 rfl (by decide) rfl ?_
  exact x_sub [1, 2, 0] rfl (lp_X1_lay_7 l D aC bs sz F (a0) (a1)  F _ _ _ h)

-- SwappedIntervals$Line.periodOf(I)I
abbrev rm_X1_periodOf : Room := { frames := 0, cells := 0, slots := 0, locals := 0 }
theorem me_X1_periodOf : x_Me yX1_periodOf cX1_periodOf 4 (some .int) 1 := ⟨by decide +kernel, w_co_yX1_periodOf, w_in_SwappedIntervals_Line, by decide +kernel, by decide +kernel, by decide +kernel⟩
def b_X1_periodOf_9 (F : Nat) (a0 : Nat) (a1 : Int32) (M : XM)  (k9 : (Int32 × Int32) → Option (Int32)) (q : Int32 × Int32) : Option (Int32) := (x_gI M a0 1 2).bind fun v3 => if v3 ≤ q.2 then some q.2 else if q.1 = a1 then some q.2 else (x_gR M a0 1 0).bind fun v6 => (x_a32 .int M v6 q.1).bind fun v7 => k9 (v7, (q.2 + (1 : Int32)))
set_option maxHeartbeats 4000000 in
set_option maxRecDepth 100000 in
theorem lp_X1_periodOf_9 (l : Launch) (D : va_G) (aC : FieldType → ClassId) (bs : Nat) (sz : Nat) (F : Nat) (a0 : Nat) (a1 : Int32) (M : XM)   : ∀ (n : Nat) (b0 : Int32) (b1 : Int32) (r : Int32), x_it (b_X1_periodOf_9 F a0 a1 M ) n (b0, b1) = some r → x_V l D aC bs yX1_periodOf cX1_periodOf 4 (some .int) rm_X1_periodOf (x_Z D aC bs (some (.int r)) sz M rm_X1_periodOf) 9 [(0, .ref a0), (1, .int a1), (2, .int b0), (3, .int b1)] [] sz M 0 0 := by
  suffices H : ∀ (n : Nat) (q : Int32 × Int32) (r : Int32), x_it (b_X1_periodOf_9 F a0 a1 M ) n q = some r → x_V l D aC bs yX1_periodOf cX1_periodOf 4 (some .int) rm_X1_periodOf (x_Z D aC bs (some (.int r)) sz M rm_X1_periodOf) 9 [(0, .ref a0), (1, .int a1), (2, .int q.1), (3, .int q.2)] [] sz M 0 0 from fun n b0 b1 r h => H n (b0, b1) r h
  refine x_loop (P := fun (q : Int32 × Int32) (r : Int32) => x_V l D aC bs yX1_periodOf cX1_periodOf 4 (some .int) rm_X1_periodOf (x_Z D aC bs (some (.int r)) sz M rm_X1_periodOf) 9 [(0, .ref a0), (1, .int a1), (2, .int q.1), (3, .int q.2)] [] sz M 0 0) (fun k9 hk0 q r h => ?_)
  have hk9 : ∀ (b0 : Int32) (b1 : Int32) (r : Int32), k9 (b0, b1) = some r → x_V l D aC bs yX1_periodOf cX1_periodOf 4 (some .int) rm_X1_periodOf (x_Z D aC bs (some (.int r)) sz M rm_X1_periodOf) 9 [(0, .ref a0), (1, .int a1), (2, .int b0), (3, .int b1)] [] sz M 0 0 := fun b0 b1 r h => hk0 (b0, b1) r h
  unfold b_X1_periodOf_9 at h
  refine x_iload_n dX1_periodOf_9 3 rfl ?_
  refine x_aload_n dX1_periodOf_10 0 rfl ?_
  obtain ⟨v3, ev3, h⟩ := x_bd h
  refine x_getI clX1 w_fl_RX1_19 (by decide) dX1_periodOf_11 ev3 ?_
  refine x_icmp_ge 35 dX1_periodOf_14 (by decide) (fun c4 => ?_) (fun c4 => ?_)
  · have h := (if_pos c4).symm.trans h
    refine x_iload_n dX1_periodOf_35 3 rfl ?_
    obtain rfl := Option.some.inj h
    exact x_iret dX1_periodOf_36 (Nat.le_of_ble_eq_true rfl) (Nat.le_of_ble_eq_true rfl)
  have h := (if_neg c4).symm.trans h
  refine x_iload_n dX1_periodOf_17 2 rfl ?_
  refine x_iload_n dX1_periodOf_18 1 rfl ?_
  refine x_icmp_eq 35 dX1_periodOf_19 (by decide) (fun c5 => ?_) (fun c5 => ?_)
  · have h := (if_pos c5).symm.trans h
    refine x_iload_n dX1_periodOf_35 3 rfl ?_
    obtain rfl := Option.some.inj h
    exact x_iret dX1_periodOf_36 (Nat.le_of_ble_eq_true rfl) (Nat.le_of_ble_eq_true rfl)
  have h := (if_neg c5).symm.trans h
  refine x_aload_n dX1_periodOf_22 0 rfl ?_
  obtain ⟨v6, ev6, h⟩ := x_bd h
  refine x_getR clX1 w_fl_RX1_9 (by decide) dX1_periodOf_23 ev6 ?_
  refine x_iload_n dX1_periodOf_26 2 rfl ?_
  obtain ⟨v7, ev7, h⟩ := x_bd h
  refine x_iald dX1_periodOf_27 ev7 ?_
  refine x_istore_n 2 [(2, .int v7), (0, .ref a0), (1, .int a1), (3, .int q.2)] dX1_periodOf_28 rfl (by decide) rfl ?_
  refine x_iinc (1 : Int32) 3 [(3, .int (q.2 + (1 : Int32))), (2, .int v7), (0, .ref a0), (1, .int a1)] dX1_periodOf_29 rfl (by decide) (by decide) rfl ?_
  refine x_goto 9 dX1_periodOf_32 (by decide) ?_
  exact x_sub [2, 3, 1, 0] rfl (hk9 _ _ _ h)
def f_X1_periodOf (F : Nat) (a0 : Nat) (a1 : Int32) (M : XM) : Option (Int32) := (x_gR M a0 1 0).bind fun v1 => (x_a32 .int M v1 a1).bind fun v2 => x_it (b_X1_periodOf_9 F (a0) (a1) M) F (v2, (1 : Int32))
set_option maxHeartbeats 4000000 in
set_option maxRecDepth 100000 in
theorem c_X1_periodOf (l : Launch) (D : va_G) (aC : FieldType → ClassId) (bs sz : Nat) (F : Nat) {a0 : Nat} {a1 : Int32} {M : XM} {r : Int32} (h : f_X1_periodOf F a0 a1 M = some r) : x_Cn l D aC bs yX1_periodOf cX1_periodOf 4 (some .int) rm_X1_periodOf [.ref a0, .int a1] sz M (some (.int r)) sz M := by
  unfold f_X1_periodOf at h
  refine x_enter2 [(0, .ref a0), (1, .int a1)] me_X1_periodOf (Nat.le_of_ble_eq_true rfl) rfl ?_
  refine x_aload_n dX1_periodOf_0 0 rfl ?_
  obtain ⟨v1, ev1, h⟩ := x_bd h
  refine x_getR clX1 w_fl_RX1_9 (by decide) dX1_periodOf_1 ev1 ?_
  refine x_iload_n dX1_periodOf_4 1 rfl ?_
  obtain ⟨v2, ev2, h⟩ := x_bd h
  refine x_iald dX1_periodOf_5 ev2 ?_
  refine x_istore_n 2 [(2, .int v2), (0, .ref a0), (1, .int a1)] dX1_periodOf_6 rfl (by decide) rfl ?_
  refine x_iconst (v := (1 : Int32)) dX1_periodOf_7 (by decide) ?_
  refine x_istore_n 3 [(3, .int (1 : Int32)), (2, .int v2), (0, .ref a0), (1, .int a1)] dX1_periodOf_8 rfl (by decide) rfl ?_
  exact x_sub [2, 3, 1, 0] rfl (lp_X1_periodOf_9 l D aC bs sz F (a0) (a1) M  F _ _ _ h)

-- SwappedIntervals$Line.behind(II)I
abbrev rm_X1_behind : Room := { frames := 1, cells := 0, slots := 0, locals := 23 }
theorem me_X1_behind : x_Me yX1_behind cX1_behind 7 (some .int) 2 := ⟨by decide +kernel, w_co_yX1_behind, w_in_SwappedIntervals_Line, by decide +kernel, by decide +kernel, by decide +kernel⟩
def b_X1_behind_26 (F : Nat) (a0 : Nat) (a4 : Int32) (M : XM)  (k26 : (Int32 × Int32) → Option (Int32)) (q : Int32 × Int32) : Option (Int32) := if a4 ≤ q.2 then some q.1 else (x_gR M a0 1 0).bind fun v6 => (x_a32 .int M v6 q.1).bind fun v7 => k26 (v7, (q.2 + (1 : Int32)))
set_option maxHeartbeats 4000000 in
set_option maxRecDepth 100000 in
theorem lp_X1_behind_26 (l : Launch) (D : va_G) (aC : FieldType → ClassId) (bs : Nat) (sz : Nat) (F : Nat) (a0 : Nat) (a4 : Int32) (M : XM)   : ∀ (n : Nat) (b0 : Int32) (b1 : Int32) (r : Int32), x_it (b_X1_behind_26 F a0 a4 M ) n (b0, b1) = some r → x_V l D aC bs yX1_behind cX1_behind 7 (some .int) rm_X1_behind (x_Z D aC bs (some (.int r)) sz M rm_X1_behind) 26 [(0, .ref a0), (4, .int a4), (5, .int b0), (6, .int b1)] [] sz M 0 0 := by
  suffices H : ∀ (n : Nat) (q : Int32 × Int32) (r : Int32), x_it (b_X1_behind_26 F a0 a4 M ) n q = some r → x_V l D aC bs yX1_behind cX1_behind 7 (some .int) rm_X1_behind (x_Z D aC bs (some (.int r)) sz M rm_X1_behind) 26 [(0, .ref a0), (4, .int a4), (5, .int q.1), (6, .int q.2)] [] sz M 0 0 from fun n b0 b1 r h => H n (b0, b1) r h
  refine x_loop (P := fun (q : Int32 × Int32) (r : Int32) => x_V l D aC bs yX1_behind cX1_behind 7 (some .int) rm_X1_behind (x_Z D aC bs (some (.int r)) sz M rm_X1_behind) 26 [(0, .ref a0), (4, .int a4), (5, .int q.1), (6, .int q.2)] [] sz M 0 0) (fun k26 hk0 q r h => ?_)
  have hk26 : ∀ (b0 : Int32) (b1 : Int32) (r : Int32), k26 (b0, b1) = some r → x_V l D aC bs yX1_behind cX1_behind 7 (some .int) rm_X1_behind (x_Z D aC bs (some (.int r)) sz M rm_X1_behind) 26 [(0, .ref a0), (4, .int a4), (5, .int b0), (6, .int b1)] [] sz M 0 0 := fun b0 b1 r h => hk0 (b0, b1) r h
  unfold b_X1_behind_26 at h
  refine x_iload dX1_behind_26 3 rfl ?_
  refine x_iload dX1_behind_28 1 rfl ?_
  refine x_icmp_ge 48 dX1_behind_30 (by decide) (fun c5 => ?_) (fun c5 => ?_)
  · have h := (if_pos c5).symm.trans h
    refine x_iload dX1_behind_48 2 rfl ?_
    obtain rfl := Option.some.inj h
    exact x_iret dX1_behind_50 (Nat.le_of_ble_eq_true rfl) (Nat.le_of_ble_eq_true rfl)
  have h := (if_neg c5).symm.trans h
  refine x_aload_n dX1_behind_33 0 rfl ?_
  obtain ⟨v6, ev6, h⟩ := x_bd h
  refine x_getR clX1 w_fl_RX1_9 (by decide) dX1_behind_34 ev6 ?_
  refine x_iload dX1_behind_37 2 rfl ?_
  obtain ⟨v7, ev7, h⟩ := x_bd h
  refine x_iald dX1_behind_39 ev7 ?_
  refine x_istore [(5, .int v7), (0, .ref a0), (4, .int a4), (6, .int q.2)] dX1_behind_40 (by decide) rfl ?_
  refine x_iinc (1 : Int32) 3 [(6, .int (q.2 + (1 : Int32))), (5, .int v7), (0, .ref a0), (4, .int a4)] dX1_behind_42 rfl (by decide) (by decide) rfl ?_
  refine x_goto 26 dX1_behind_45 (by decide) ?_
  exact x_sub [2, 3, 1, 0] rfl (hk26 _ _ _ h)
def f_X1_behind (F : Nat) (a0 : Nat) (a1 : Int32) (a2 : Int32) (M : XM) : Option (Int32) := (x_ob M a0 1).bind fun u1 => (f_X1_periodOf F a0 a1 M).bind fun p2 => if (1 : Int32) ≤ p2 then (x_n0 p2).bind fun u4 => x_it (b_X1_behind_26 F (a0) (a2 - a2 / p2 * p2) M) F (a1, (0 : Int32)) else x_it (b_X1_behind_26 F (a0) (0 : Int32) M) F (a1, (0 : Int32))
set_option maxHeartbeats 4000000 in
set_option maxRecDepth 100000 in
theorem c_X1_behind (l : Launch) (D : va_G) (aC : FieldType → ClassId) (bs sz : Nat) (F : Nat) {a0 : Nat} {a1 : Int32} {a2 : Int32} {M : XM} {r : Int32} (h : f_X1_behind F a0 a1 a2 M = some r) : x_Cn l D aC bs yX1_behind cX1_behind 7 (some .int) rm_X1_behind [.ref a0, .int a1, .int a2] sz M (some (.int r)) sz M := by
  unfold f_X1_behind at h
  refine x_enter2 [(0, .ref a0), (1, .int a1), (2, .int a2)] me_X1_behind (Nat.le_of_ble_eq_true rfl) rfl ?_
  refine x_aload_n dX1_behind_0 0 rfl ?_
  refine x_iload_n dX1_behind_1 1 rfl ?_
  obtain ⟨u1, eu1, h⟩ := x_bd h
  obtain ⟨p2, ep2, h⟩ := x_bd h
  refine x_callVI [.int a1] [] clX1 me_X1_periodOf w_ml_RX1_41 w_im_yX1_periodOf w_se_yX1_periodOf (Nat.le_of_ble_eq_true rfl) (Nat.le_of_ble_eq_true rfl) rfl (Nat.le_of_ble_eq_true rfl) (Nat.le_of_ble_eq_true rfl) (Nat.le_of_ble_eq_true rfl) dX1_behind_2 eu1 (c_X1_periodOf l D aC bs sz F ep2) rfl ?_
  refine x_istore_n 3 [(3, .int p2), (0, .ref a0), (1, .int a1), (2, .int a2)] dX1_behind_5 rfl (by decide) rfl ?_
  refine x_iload_n dX1_behind_6 0 rfl ?_
  refine x_iconst (v := (1 : Int32)) dX1_behind_7 (by decide) ?_
  refine x_icmp_ge 15 dX1_behind_8 (by decide) (fun c3 => ?_) (fun c3 => ?_)
  · have h := (if_pos c3).symm.trans h
    refine x_iload_n dX1_behind_15 3 rfl ?_
    refine x_iload_n dX1_behind_16 0 rfl ?_
    obtain ⟨u4, eu4, h⟩ := x_bd h
    refine x_irem dX1_behind_17 (x_n0_sp eu4) ?_
    refine x_istore [(4, .int (a2 - a2 / p2 * p2)), (3, .int p2), (0, .ref a0), (1, .int a1), (2, .int a2)] dX1_behind_18 (by decide) rfl ?_
    refine x_iload_n dX1_behind_20 3 rfl ?_
    refine x_istore [(5, .int a1), (4, .int (a2 - a2 / p2 * p2)), (3, .int p2), (0, .ref a0), (1, .int a1), (2, .int a2)] dX1_behind_21 (by decide) rfl ?_
    refine x_iconst (v := (0 : Int32)) dX1_behind_23 (by decide) ?_
    refine x_istore [(6, .int (0 : Int32)), (5, .int a1), (4, .int (a2 - a2 / p2 * p2)), (3, .int p2), (0, .ref a0), (1, .int a1), (2, .int a2)] dX1_behind_24 (by decide) rfl ?_
    exact x_sub [4, 2, 1, 0] rfl (lp_X1_behind_26 l D aC bs sz F (a0) (a2 - a2 / p2 * p2) M  F _ _ _ h)
  have h := (if_neg c3).symm.trans h
  refine x_iconst (v := (0 : Int32)) dX1_behind_11 (by decide) ?_
  refine x_goto 18 dX1_behind_12 (by decide) ?_
  refine x_istore [(4, .int (0 : Int32)), (3, .int p2), (0, .ref a0), (1, .int a1), (2, .int a2)] dX1_behind_18 (by decide) rfl ?_
  refine x_iload_n dX1_behind_20 3 rfl ?_
  refine x_istore [(5, .int a1), (4, .int (0 : Int32)), (3, .int p2), (0, .ref a0), (1, .int a1), (2, .int a2)] dX1_behind_21 (by decide) rfl ?_
  refine x_iconst (v := (0 : Int32)) dX1_behind_23 (by decide) ?_
  refine x_istore [(6, .int (0 : Int32)), (5, .int a1), (4, .int (0 : Int32)), (3, .int p2), (0, .ref a0), (1, .int a1), (2, .int a2)] dX1_behind_24 (by decide) rfl ?_
  exact x_sub [4, 2, 1, 0] rfl (lp_X1_behind_26 l D aC bs sz F (a0) (0 : Int32) M  F _ _ _ h)

-- SwappedIntervals$Line.markRound(I)V
abbrev rm_X1_markRound : Room := { frames := 0, cells := 0, slots := 0, locals := 0 }
theorem me_X1_markRound : x_Me yX1_markRound cX1_markRound 4 none 1 := ⟨by decide +kernel, w_co_yX1_markRound, w_in_SwappedIntervals_Line, by decide +kernel, by decide +kernel, by decide +kernel⟩
def b_X1_markRound_4 (F : Nat) (a0 : Nat)  (k4 : (Int32 × Int32 × XM) → Option (XM)) (q : Int32 × Int32 × XM) : Option (XM) := (x_gI q.2.2 a0 1 2).bind fun v1 => if v1 ≤ q.2.1 then some q.2.2 else (x_gR q.2.2 a0 1 1).bind fun v3 => (x_a32 .boolean q.2.2 v3 q.1).bind fun v4 => if v4 = 0 then (x_gR q.2.2 a0 1 1).bind fun v6 => (x_w32 .boolean q.2.2 v6 q.1 (vp_nar .boolean (1 : Int32))).bind fun m7 => (x_gR m7 a0 1 0).bind fun v8 => (x_a32 .int m7 v8 q.1).bind fun v9 => k4 (v9, (q.2.1 + (1 : Int32)), m7) else some q.2.2
set_option maxHeartbeats 4000000 in
set_option maxRecDepth 100000 in
theorem lp_X1_markRound_4 (l : Launch) (D : va_G) (aC : FieldType → ClassId) (bs : Nat) (sz : Nat) (F : Nat) (a0 : Nat)   : ∀ (n : Nat) (b0 : Int32) (b1 : Int32) (b2 : XM) (r : XM), x_it (b_X1_markRound_4 F a0 ) n (b0, b1, b2) = some r → x_V l D aC bs yX1_markRound cX1_markRound 4 none rm_X1_markRound (x_Z D aC bs none sz r rm_X1_markRound) 4 [(0, .ref a0), (2, .int b0), (3, .int b1)] [] sz b2 0 0 := by
  suffices H : ∀ (n : Nat) (q : Int32 × Int32 × XM) (r : XM), x_it (b_X1_markRound_4 F a0 ) n q = some r → x_V l D aC bs yX1_markRound cX1_markRound 4 none rm_X1_markRound (x_Z D aC bs none sz r rm_X1_markRound) 4 [(0, .ref a0), (2, .int q.1), (3, .int q.2.1)] [] sz q.2.2 0 0 from fun n b0 b1 b2 r h => H n (b0, b1, b2) r h
  refine x_loop (P := fun (q : Int32 × Int32 × XM) (r : XM) => x_V l D aC bs yX1_markRound cX1_markRound 4 none rm_X1_markRound (x_Z D aC bs none sz r rm_X1_markRound) 4 [(0, .ref a0), (2, .int q.1), (3, .int q.2.1)] [] sz q.2.2 0 0) (fun k4 hk0 q r h => ?_)
  have hk4 : ∀ (b0 : Int32) (b1 : Int32) (b2 : XM) (r : XM), k4 (b0, b1, b2) = some r → x_V l D aC bs yX1_markRound cX1_markRound 4 none rm_X1_markRound (x_Z D aC bs none sz r rm_X1_markRound) 4 [(0, .ref a0), (2, .int b0), (3, .int b1)] [] sz b2 0 0 := fun b0 b1 b2 r h => hk0 (b0, b1, b2) r h
  unfold b_X1_markRound_4 at h
  refine x_iload_n dX1_markRound_4 2 rfl ?_
  refine x_aload_n dX1_markRound_5 0 rfl ?_
  obtain ⟨v1, ev1, h⟩ := x_bd h
  refine x_getI clX1 w_fl_RX1_19 (by decide) dX1_markRound_6 ev1 ?_
  refine x_icmp_ge 41 dX1_markRound_9 (by decide) (fun c2 => ?_) (fun c2 => ?_)
  · have h := (if_pos c2).symm.trans h
    obtain rfl := Option.some.inj h
    exact x_vret dX1_markRound_41 (Nat.le_of_ble_eq_true rfl) (Nat.le_of_ble_eq_true rfl)
  have h := (if_neg c2).symm.trans h
  refine x_aload_n dX1_markRound_12 0 rfl ?_
  obtain ⟨v3, ev3, h⟩ := x_bd h
  refine x_getR clX1 w_fl_RX1_15 (by decide) dX1_markRound_13 ev3 ?_
  refine x_iload_n dX1_markRound_16 1 rfl ?_
  obtain ⟨v4, ev4, h⟩ := x_bd h
  refine x_zald dX1_markRound_17 ev4 ?_
  refine x_if_ne 41 dX1_markRound_18 (by decide) (fun c5 => ?_) (fun c5 => ?_)
  · have h := (if_neg c5).symm.trans h
    obtain rfl := Option.some.inj h
    exact x_vret dX1_markRound_41 (Nat.le_of_ble_eq_true rfl) (Nat.le_of_ble_eq_true rfl)
  have h := (if_pos c5).symm.trans h
  refine x_aload_n dX1_markRound_21 0 rfl ?_
  obtain ⟨v6, ev6, h⟩ := x_bd h
  refine x_getR clX1 w_fl_RX1_15 (by decide) dX1_markRound_22 ev6 ?_
  refine x_iload_n dX1_markRound_25 1 rfl ?_
  refine x_iconst (v := (1 : Int32)) dX1_markRound_26 (by decide) ?_
  obtain ⟨m7, em7, h⟩ := x_bd h
  refine x_zast dX1_markRound_27 em7 ?_
  refine x_aload_n dX1_markRound_28 0 rfl ?_
  obtain ⟨v8, ev8, h⟩ := x_bd h
  refine x_getR clX1 w_fl_RX1_9 (by decide) dX1_markRound_29 ev8 ?_
  refine x_iload_n dX1_markRound_32 1 rfl ?_
  obtain ⟨v9, ev9, h⟩ := x_bd h
  refine x_iald dX1_markRound_33 ev9 ?_
  refine x_istore_n 2 [(2, .int v9), (0, .ref a0), (3, .int q.2.1)] dX1_markRound_34 rfl (by decide) rfl ?_
  refine x_iinc (1 : Int32) 2 [(3, .int (q.2.1 + (1 : Int32))), (2, .int v9), (0, .ref a0)] dX1_markRound_35 rfl (by decide) (by decide) rfl ?_
  refine x_goto 4 dX1_markRound_38 (by decide) ?_
  exact x_sub [2, 1, 0] rfl (hk4 _ _ _ _ h)
def f_X1_markRound (F : Nat) (a0 : Nat) (a1 : Int32) (M : XM) : Option (XM) := x_it (b_X1_markRound_4 F (a0)) F (a1, (0 : Int32), M)
set_option maxHeartbeats 4000000 in
set_option maxRecDepth 100000 in
theorem c_X1_markRound (l : Launch) (D : va_G) (aC : FieldType → ClassId) (bs sz : Nat) (F : Nat) {a0 : Nat} {a1 : Int32} {M : XM} {r : XM} (h : f_X1_markRound F a0 a1 M = some r) : x_Cn l D aC bs yX1_markRound cX1_markRound 4 none rm_X1_markRound [.ref a0, .int a1] sz M none sz r := by
  unfold f_X1_markRound at h
  refine x_enter2 [(0, .ref a0), (1, .int a1)] me_X1_markRound (Nat.le_of_ble_eq_true rfl) rfl ?_
  refine x_iload_n dX1_markRound_0 1 rfl ?_
  refine x_istore_n 2 [(2, .int a1), (0, .ref a0), (1, .int a1)] dX1_markRound_1 rfl (by decide) rfl ?_
  refine x_iconst (v := (0 : Int32)) dX1_markRound_2 (by decide) ?_
  refine x_istore_n 3 [(3, .int (0 : Int32)), (2, .int a1), (0, .ref a0), (1, .int a1)] dX1_markRound_3 rfl (by decide) rfl ?_
  exact x_sub [2, 1, 0] rfl (lp_X1_markRound_4 l D aC bs sz F (a0)  F _ _ _ _ h)

-- SwappedIntervals$Line.rounds()I
abbrev rm_X1_rounds : Room := { frames := 1, cells := 0, slots := 0, locals := 23 }
theorem me_X1_rounds : x_Me yX1_rounds cX1_rounds 3 (some .int) 0 := ⟨by decide +kernel, w_co_yX1_rounds, w_in_SwappedIntervals_Line, by decide +kernel, by decide +kernel, by decide +kernel⟩
def b_X1_rounds_27 (F : Nat) (a0 : Nat)  (k27 : (Int32 × Int32 × XM) → Option (Int32 × XM)) (q : Int32 × Int32 × XM) : Option (Int32 × XM) := (x_gI q.2.2 a0 1 2).bind fun v3 => if v3 ≤ q.2.1 then some (q.1, q.2.2) else (x_gR q.2.2 a0 1 1).bind fun v5 => (x_a32 .boolean q.2.2 v5 q.2.1).bind fun v6 => if v6 = 0 then (x_ob q.2.2 a0 1).bind fun u8 => (f_X1_markRound F a0 q.2.1 q.2.2).bind fun p9 => k27 ((q.1 + (1 : Int32)), (q.2.1 + (1 : Int32)), p9) else k27 (q.1, (q.2.1 + (1 : Int32)), q.2.2)
set_option maxHeartbeats 4000000 in
set_option maxRecDepth 100000 in
theorem lp_X1_rounds_27 (l : Launch) (D : va_G) (aC : FieldType → ClassId) (bs : Nat) (sz : Nat) (F : Nat) (a0 : Nat)   : ∀ (n : Nat) (b0 : Int32) (b1 : Int32) (b2 : XM) (r : Int32 × XM), x_it (b_X1_rounds_27 F a0 ) n (b0, b1, b2) = some r → x_V l D aC bs yX1_rounds cX1_rounds 3 (some .int) rm_X1_rounds (x_Z D aC bs (some (.int r.1)) sz r.2 rm_X1_rounds) 27 [(0, .ref a0), (1, .int b0), (2, .int b1)] [] sz b2 0 0 := by
  suffices H : ∀ (n : Nat) (q : Int32 × Int32 × XM) (r : Int32 × XM), x_it (b_X1_rounds_27 F a0 ) n q = some r → x_V l D aC bs yX1_rounds cX1_rounds 3 (some .int) rm_X1_rounds (x_Z D aC bs (some (.int r.1)) sz r.2 rm_X1_rounds) 27 [(0, .ref a0), (1, .int q.1), (2, .int q.2.1)] [] sz q.2.2 0 0 from fun n b0 b1 b2 r h => H n (b0, b1, b2) r h
  refine x_loop (P := fun (q : Int32 × Int32 × XM) (r : Int32 × XM) => x_V l D aC bs yX1_rounds cX1_rounds 3 (some .int) rm_X1_rounds (x_Z D aC bs (some (.int r.1)) sz r.2 rm_X1_rounds) 27 [(0, .ref a0), (1, .int q.1), (2, .int q.2.1)] [] sz q.2.2 0 0) (fun k27 hk0 q r h => ?_)
  have hk27 : ∀ (b0 : Int32) (b1 : Int32) (b2 : XM) (r : Int32 × XM), k27 (b0, b1, b2) = some r → x_V l D aC bs yX1_rounds cX1_rounds 3 (some .int) rm_X1_rounds (x_Z D aC bs (some (.int r.1)) sz r.2 rm_X1_rounds) 27 [(0, .ref a0), (1, .int b0), (2, .int b1)] [] sz b2 0 0 := fun b0 b1 b2 r h => hk0 (b0, b1, b2) r h
  unfold b_X1_rounds_27 at h
  refine x_iload_n dX1_rounds_27 2 rfl ?_
  refine x_aload_n dX1_rounds_28 0 rfl ?_
  obtain ⟨v3, ev3, h⟩ := x_bd h
  refine x_getI clX1 w_fl_RX1_19 (by decide) dX1_rounds_29 ev3 ?_
  refine x_icmp_ge 58 dX1_rounds_32 (by decide) (fun c4 => ?_) (fun c4 => ?_)
  · have h := (if_pos c4).symm.trans h
    refine x_iload_n dX1_rounds_58 1 rfl ?_
    obtain rfl := Option.some.inj h
    exact x_iret dX1_rounds_59 (Nat.le_of_ble_eq_true rfl) (Nat.le_of_ble_eq_true rfl)
  have h := (if_neg c4).symm.trans h
  refine x_aload_n dX1_rounds_35 0 rfl ?_
  obtain ⟨v5, ev5, h⟩ := x_bd h
  refine x_getR clX1 w_fl_RX1_15 (by decide) dX1_rounds_36 ev5 ?_
  refine x_iload_n dX1_rounds_39 2 rfl ?_
  obtain ⟨v6, ev6, h⟩ := x_bd h
  refine x_zald dX1_rounds_40 ev6 ?_
  refine x_if_ne 52 dX1_rounds_41 (by decide) (fun c7 => ?_) (fun c7 => ?_)
  · have h := (if_neg c7).symm.trans h
    refine x_iinc (1 : Int32) 2 [(2, .int (q.2.1 + (1 : Int32))), (0, .ref a0), (1, .int q.1)] dX1_rounds_52 rfl (by decide) (by decide) rfl ?_
    refine x_goto 27 dX1_rounds_55 (by decide) ?_
    exact x_sub [1, 2, 0] rfl (hk27 _ _ _ _ h)
  have h := (if_pos c7).symm.trans h
  refine x_iinc (1 : Int32) 1 [(1, .int (q.1 + (1 : Int32))), (0, .ref a0), (2, .int q.2.1)] dX1_rounds_44 rfl (by decide) (by decide) rfl ?_
  refine x_aload_n dX1_rounds_47 1 rfl ?_
  refine x_iload_n dX1_rounds_48 2 rfl ?_
  obtain ⟨u8, eu8, h⟩ := x_bd h
  obtain ⟨p9, ep9, h⟩ := x_bd h
  refine x_callVV [.int q.2.1] [] clX1 me_X1_markRound w_ml_RX1_45 w_im_yX1_markRound w_se_yX1_markRound (Nat.le_of_ble_eq_true rfl) (Nat.le_of_ble_eq_true rfl) rfl (Nat.le_of_ble_eq_true rfl) (Nat.le_of_ble_eq_true rfl) (Nat.le_of_ble_eq_true rfl) dX1_rounds_49 eu8 (c_X1_markRound l D aC bs sz F ep9) rfl ?_
  refine x_iinc (1 : Int32) 2 [(2, .int (q.2.1 + (1 : Int32))), (1, .int (q.1 + (1 : Int32))), (0, .ref a0)] dX1_rounds_52 rfl (by decide) (by decide) rfl ?_
  refine x_goto 27 dX1_rounds_55 (by decide) ?_
  exact x_sub [2, 1, 0] rfl (hk27 _ _ _ _ h)
def b_X1_rounds_2 (F : Nat) (a0 : Nat)  (k2 : (Int32 × XM) → Option (Int32 × XM)) (q : Int32 × XM) : Option (Int32 × XM) := (x_gI q.2 a0 1 2).bind fun v1 => if v1 ≤ q.1 then x_it (b_X1_rounds_27 F (a0)) F ((0 : Int32), (0 : Int32), q.2) else (x_gR q.2 a0 1 1).bind fun v10 => (x_w32 .boolean q.2 v10 q.1 (vp_nar .boolean (0 : Int32))).bind fun m11 => k2 ((q.1 + (1 : Int32)), m11)
set_option maxHeartbeats 4000000 in
set_option maxRecDepth 100000 in
theorem lp_X1_rounds_2 (l : Launch) (D : va_G) (aC : FieldType → ClassId) (bs : Nat) (sz : Nat) (F : Nat) (a0 : Nat)   : ∀ (n : Nat) (b0 : Int32) (b1 : XM) (r : Int32 × XM), x_it (b_X1_rounds_2 F a0 ) n (b0, b1) = some r → x_V l D aC bs yX1_rounds cX1_rounds 3 (some .int) rm_X1_rounds (x_Z D aC bs (some (.int r.1)) sz r.2 rm_X1_rounds) 2 [(0, .ref a0), (1, .int b0)] [] sz b1 0 0 := by
  suffices H : ∀ (n : Nat) (q : Int32 × XM) (r : Int32 × XM), x_it (b_X1_rounds_2 F a0 ) n q = some r → x_V l D aC bs yX1_rounds cX1_rounds 3 (some .int) rm_X1_rounds (x_Z D aC bs (some (.int r.1)) sz r.2 rm_X1_rounds) 2 [(0, .ref a0), (1, .int q.1)] [] sz q.2 0 0 from fun n b0 b1 r h => H n (b0, b1) r h
  refine x_loop (P := fun (q : Int32 × XM) (r : Int32 × XM) => x_V l D aC bs yX1_rounds cX1_rounds 3 (some .int) rm_X1_rounds (x_Z D aC bs (some (.int r.1)) sz r.2 rm_X1_rounds) 2 [(0, .ref a0), (1, .int q.1)] [] sz q.2 0 0) (fun k2 hk0 q r h => ?_)
  have hk2 : ∀ (b0 : Int32) (b1 : XM) (r : Int32 × XM), k2 (b0, b1) = some r → x_V l D aC bs yX1_rounds cX1_rounds 3 (some .int) rm_X1_rounds (x_Z D aC bs (some (.int r.1)) sz r.2 rm_X1_rounds) 2 [(0, .ref a0), (1, .int b0)] [] sz b1 0 0 := fun b0 b1 r h => hk0 (b0, b1) r h
  unfold b_X1_rounds_2 at h
  refine x_iload_n dX1_rounds_2 1 rfl ?_
  refine x_aload_n dX1_rounds_3 0 rfl ?_
  obtain ⟨v1, ev1, h⟩ := x_bd h
  refine x_getI clX1 w_fl_RX1_19 (by decide) dX1_rounds_4 ev1 ?_
  refine x_icmp_ge 23 dX1_rounds_7 (by decide) (fun c2 => ?_) (fun c2 => ?_)
  · have h := (if_pos c2).symm.trans h
    refine x_iconst (v := (0 : Int32)) dX1_rounds_23 (by decide) ?_
    refine x_istore_n 1 [(1, .int (0 : Int32)), (0, .ref a0)] dX1_rounds_24 rfl (by decide) rfl ?_
    refine x_iconst (v := (0 : Int32)) dX1_rounds_25 (by decide) ?_
    refine x_istore_n 2 [(2, .int (0 : Int32)), (1, .int (0 : Int32)), (0, .ref a0)] dX1_rounds_26 rfl (by decide) rfl ?_
    exact x_sub [2, 1, 0] rfl (lp_X1_rounds_27 l D aC bs sz F (a0)  F _ _ _ _ h)
  have h := (if_neg c2).symm.trans h
  refine x_aload_n dX1_rounds_10 0 rfl ?_
  obtain ⟨v10, ev10, h⟩ := x_bd h
  refine x_getR clX1 w_fl_RX1_15 (by decide) dX1_rounds_11 ev10 ?_
  refine x_iload_n dX1_rounds_14 1 rfl ?_
  refine x_iconst (v := (0 : Int32)) dX1_rounds_15 (by decide) ?_
  obtain ⟨m11, em11, h⟩ := x_bd h
  refine x_zast dX1_rounds_16 em11 ?_
  refine x_iinc (1 : Int32) 1 [(1, .int (q.1 + (1 : Int32))), (0, .ref a0)] dX1_rounds_17 rfl (by decide) (by decide) rfl ?_
  refine x_goto 2 dX1_rounds_20 (by decide) ?_
  exact x_sub [1, 0] rfl (hk2 _ _ _ h)
def f_X1_rounds (F : Nat) (a0 : Nat) (M : XM) : Option (Int32 × XM) := x_it (b_X1_rounds_2 F (a0)) F ((0 : Int32), M)
set_option maxHeartbeats 4000000 in
set_option maxRecDepth 100000 in
theorem c_X1_rounds (l : Launch) (D : va_G) (aC : FieldType → ClassId) (bs sz : Nat) (F : Nat) {a0 : Nat} {M : XM} {r : Int32 × XM} (h : f_X1_rounds F a0 M = some r) : x_Cn l D aC bs yX1_rounds cX1_rounds 3 (some .int) rm_X1_rounds [.ref a0] sz M (some (.int r.1)) sz r.2 := by
  unfold f_X1_rounds at h
  refine x_enter2 [(0, .ref a0)] me_X1_rounds (Nat.le_of_ble_eq_true rfl) rfl ?_
  refine x_iconst (v := (0 : Int32)) dX1_rounds_0 (by decide) ?_
  refine x_istore_n 1 [(1, .int (0 : Int32)), (0, .ref a0)] dX1_rounds_1 rfl (by decide) rfl ?_
  exact x_sub [1, 0] rfl (lp_X1_rounds_2 l D aC bs sz F (a0)  F _ _ _ h)

-- SwappedIntervals$Line.goingDown()I
abbrev rm_X1_goingDown : Room := { frames := 0, cells := 0, slots := 0, locals := 0 }
theorem me_X1_goingDown : x_Me yX1_goingDown cX1_goingDown 3 (some .int) 0 := ⟨by decide +kernel, w_co_yX1_goingDown, w_in_SwappedIntervals_Line, by decide +kernel, by decide +kernel, by decide +kernel⟩
def b_X1_goingDown_4 (F : Nat) (a0 : Nat) (M : XM)  (k4 : (Int32 × Int32) → Option (Int32)) (q : Int32 × Int32) : Option (Int32) := (x_gI M a0 1 2).bind fun v1 => if v1 ≤ q.2 then some q.1 else (x_gR M a0 1 0).bind fun v3 => (x_a32 .int M v3 q.2).bind fun v4 => if q.2 ≤ v4 then k4 (q.1, (q.2 + (1 : Int32))) else k4 ((q.1 + (1 : Int32)), (q.2 + (1 : Int32)))
set_option maxHeartbeats 4000000 in
set_option maxRecDepth 100000 in
theorem lp_X1_goingDown_4 (l : Launch) (D : va_G) (aC : FieldType → ClassId) (bs : Nat) (sz : Nat) (F : Nat) (a0 : Nat) (M : XM)   : ∀ (n : Nat) (b0 : Int32) (b1 : Int32) (r : Int32), x_it (b_X1_goingDown_4 F a0 M ) n (b0, b1) = some r → x_V l D aC bs yX1_goingDown cX1_goingDown 3 (some .int) rm_X1_goingDown (x_Z D aC bs (some (.int r)) sz M rm_X1_goingDown) 4 [(0, .ref a0), (1, .int b0), (2, .int b1)] [] sz M 0 0 := by
  suffices H : ∀ (n : Nat) (q : Int32 × Int32) (r : Int32), x_it (b_X1_goingDown_4 F a0 M ) n q = some r → x_V l D aC bs yX1_goingDown cX1_goingDown 3 (some .int) rm_X1_goingDown (x_Z D aC bs (some (.int r)) sz M rm_X1_goingDown) 4 [(0, .ref a0), (1, .int q.1), (2, .int q.2)] [] sz M 0 0 from fun n b0 b1 r h => H n (b0, b1) r h
  refine x_loop (P := fun (q : Int32 × Int32) (r : Int32) => x_V l D aC bs yX1_goingDown cX1_goingDown 3 (some .int) rm_X1_goingDown (x_Z D aC bs (some (.int r)) sz M rm_X1_goingDown) 4 [(0, .ref a0), (1, .int q.1), (2, .int q.2)] [] sz M 0 0) (fun k4 hk0 q r h => ?_)
  have hk4 : ∀ (b0 : Int32) (b1 : Int32) (r : Int32), k4 (b0, b1) = some r → x_V l D aC bs yX1_goingDown cX1_goingDown 3 (some .int) rm_X1_goingDown (x_Z D aC bs (some (.int r)) sz M rm_X1_goingDown) 4 [(0, .ref a0), (1, .int b0), (2, .int b1)] [] sz M 0 0 := fun b0 b1 r h => hk0 (b0, b1) r h
  unfold b_X1_goingDown_4 at h
  refine x_iload_n dX1_goingDown_4 2 rfl ?_
  refine x_aload_n dX1_goingDown_5 0 rfl ?_
  obtain ⟨v1, ev1, h⟩ := x_bd h
  refine x_getI clX1 w_fl_RX1_19 (by decide) dX1_goingDown_6 ev1 ?_
  refine x_icmp_ge 31 dX1_goingDown_9 (by decide) (fun c2 => ?_) (fun c2 => ?_)
  · have h := (if_pos c2).symm.trans h
    refine x_iload_n dX1_goingDown_31 1 rfl ?_
    obtain rfl := Option.some.inj h
    exact x_iret dX1_goingDown_32 (Nat.le_of_ble_eq_true rfl) (Nat.le_of_ble_eq_true rfl)
  have h := (if_neg c2).symm.trans h
  refine x_aload_n dX1_goingDown_12 0 rfl ?_
  obtain ⟨v3, ev3, h⟩ := x_bd h
  refine x_getR clX1 w_fl_RX1_9 (by decide) dX1_goingDown_13 ev3 ?_
  refine x_iload_n dX1_goingDown_16 2 rfl ?_
  obtain ⟨v4, ev4, h⟩ := x_bd h
  refine x_iald dX1_goingDown_17 ev4 ?_
  refine x_iload_n dX1_goingDown_18 2 rfl ?_
  refine x_icmp_ge 25 dX1_goingDown_19 (by decide) (fun c5 => ?_) (fun c5 => ?_)
  · have h := (if_pos c5).symm.trans h
    refine x_iinc (1 : Int32) 2 [(2, .int (q.2 + (1 : Int32))), (0, .ref a0), (1, .int q.1)] dX1_goingDown_25 rfl (by decide) (by decide) rfl ?_
    refine x_goto 4 dX1_goingDown_28 (by decide) ?_
    exact x_sub [1, 2, 0] rfl (hk4 _ _ _ h)
  have h := (if_neg c5).symm.trans h
  refine x_iinc (1 : Int32) 1 [(1, .int (q.1 + (1 : Int32))), (0, .ref a0), (2, .int q.2)] dX1_goingDown_22 rfl (by decide) (by decide) rfl ?_
  refine x_iinc (1 : Int32) 2 [(2, .int (q.2 + (1 : Int32))), (1, .int (q.1 + (1 : Int32))), (0, .ref a0)] dX1_goingDown_25 rfl (by decide) (by decide) rfl ?_
  refine x_goto 4 dX1_goingDown_28 (by decide) ?_
  exact x_sub [2, 1, 0] rfl (hk4 _ _ _ h)
def f_X1_goingDown (F : Nat) (a0 : Nat) (M : XM) : Option (Int32) := x_it (b_X1_goingDown_4 F (a0) M) F ((0 : Int32), (0 : Int32))
set_option maxHeartbeats 4000000 in
set_option maxRecDepth 100000 in
theorem c_X1_goingDown (l : Launch) (D : va_G) (aC : FieldType → ClassId) (bs sz : Nat) (F : Nat) {a0 : Nat} {M : XM} {r : Int32} (h : f_X1_goingDown F a0 M = some r) : x_Cn l D aC bs yX1_goingDown cX1_goingDown 3 (some .int) rm_X1_goingDown [.ref a0] sz M (some (.int r)) sz M := by
  unfold f_X1_goingDown at h
  refine x_enter2 [(0, .ref a0)] me_X1_goingDown (Nat.le_of_ble_eq_true rfl) rfl ?_
  refine x_iconst (v := (0 : Int32)) dX1_goingDown_0 (by decide) ?_
  refine x_istore_n 1 [(1, .int (0 : Int32)), (0, .ref a0)] dX1_goingDown_1 rfl (by decide) rfl ?_
  refine x_iconst (v := (0 : Int32)) dX1_goingDown_2 (by decide) ?_
  refine x_istore_n 2 [(2, .int (0 : Int32)), (1, .int (0 : Int32)), (0, .ref a0)] dX1_goingDown_3 rfl (by decide) rfl ?_
  exact x_sub [2, 1, 0] rfl (lp_X1_goingDown_4 l D aC bs sz F (a0) M  F _ _ _ h)

-- SwappedIntervals$Line.wayTogether()I
abbrev rm_X1_wayTogether : Room := { frames := 1, cells := 0, slots := 0, locals := 21 }
theorem me_X1_wayTogether : x_Me yX1_wayTogether cX1_wayTogether 3 (some .int) 0 := ⟨by decide +kernel, w_co_yX1_wayTogether, w_in_SwappedIntervals_Line, by decide +kernel, by decide +kernel, by decide +kernel⟩
def b_X1_wayTogether_4 (F : Nat) (a0 : Nat) (M : XM)  (k4 : (Int32 × Int32) → Option (Int32)) (q : Int32 × Int32) : Option (Int32) := (x_gI M a0 1 2).bind fun v1 => if v1 ≤ q.2 then some q.1 else (x_gR M a0 1 0).bind fun v3 => (x_a32 .int M v3 q.2).bind fun v4 => k4 ((q.1 + (if 0 ≤ (v4 - q.2) then (v4 - q.2) else 0 - (v4 - q.2))), (q.2 + (1 : Int32)))
set_option maxHeartbeats 4000000 in
set_option maxRecDepth 100000 in
theorem lp_X1_wayTogether_4 (l : Launch) (D : va_G) (aC : FieldType → ClassId) (bs : Nat) (sz : Nat) (F : Nat) (a0 : Nat) (M : XM)   : ∀ (n : Nat) (b0 : Int32) (b1 : Int32) (r : Int32), x_it (b_X1_wayTogether_4 F a0 M ) n (b0, b1) = some r → x_V l D aC bs yX1_wayTogether cX1_wayTogether 3 (some .int) rm_X1_wayTogether (x_Z D aC bs (some (.int r)) sz M rm_X1_wayTogether) 4 [(0, .ref a0), (1, .int b0), (2, .int b1)] [] sz M 0 0 := by
  suffices H : ∀ (n : Nat) (q : Int32 × Int32) (r : Int32), x_it (b_X1_wayTogether_4 F a0 M ) n q = some r → x_V l D aC bs yX1_wayTogether cX1_wayTogether 3 (some .int) rm_X1_wayTogether (x_Z D aC bs (some (.int r)) sz M rm_X1_wayTogether) 4 [(0, .ref a0), (1, .int q.1), (2, .int q.2)] [] sz M 0 0 from fun n b0 b1 r h => H n (b0, b1) r h
  refine x_loop (P := fun (q : Int32 × Int32) (r : Int32) => x_V l D aC bs yX1_wayTogether cX1_wayTogether 3 (some .int) rm_X1_wayTogether (x_Z D aC bs (some (.int r)) sz M rm_X1_wayTogether) 4 [(0, .ref a0), (1, .int q.1), (2, .int q.2)] [] sz M 0 0) (fun k4 hk0 q r h => ?_)
  have hk4 : ∀ (b0 : Int32) (b1 : Int32) (r : Int32), k4 (b0, b1) = some r → x_V l D aC bs yX1_wayTogether cX1_wayTogether 3 (some .int) rm_X1_wayTogether (x_Z D aC bs (some (.int r)) sz M rm_X1_wayTogether) 4 [(0, .ref a0), (1, .int b0), (2, .int b1)] [] sz M 0 0 := fun b0 b1 r h => hk0 (b0, b1) r h
  unfold b_X1_wayTogether_4 at h
  refine x_iload_n dX1_wayTogether_4 2 rfl ?_
  refine x_aload_n dX1_wayTogether_5 0 rfl ?_
  obtain ⟨v1, ev1, h⟩ := x_bd h
  refine x_getI clX1 w_fl_RX1_19 (by decide) dX1_wayTogether_6 ev1 ?_
  refine x_icmp_ge 32 dX1_wayTogether_9 (by decide) (fun c2 => ?_) (fun c2 => ?_)
  · have h := (if_pos c2).symm.trans h
    refine x_iload_n dX1_wayTogether_32 1 rfl ?_
    obtain rfl := Option.some.inj h
    exact x_iret dX1_wayTogether_33 (Nat.le_of_ble_eq_true rfl) (Nat.le_of_ble_eq_true rfl)
  have h := (if_neg c2).symm.trans h
  refine x_iload_n dX1_wayTogether_12 1 rfl ?_
  refine x_aload_n dX1_wayTogether_13 0 rfl ?_
  obtain ⟨v3, ev3, h⟩ := x_bd h
  refine x_getR clX1 w_fl_RX1_9 (by decide) dX1_wayTogether_14 ev3 ?_
  refine x_iload_n dX1_wayTogether_17 2 rfl ?_
  obtain ⟨v4, ev4, h⟩ := x_bd h
  refine x_iald dX1_wayTogether_18 ev4 ?_
  refine x_iload_n dX1_wayTogether_19 2 rfl ?_
  refine x_isub dX1_wayTogether_20 ?_
  refine x_mabs w_ml_RX1_49 w_st_Lib_Math_abs_name w_in_java_lang_Math w_co_Lib_Math_abs_name (Nat.le_of_ble_eq_true rfl) (Nat.le_of_ble_eq_true rfl) (Nat.le_of_ble_eq_true rfl) (Nat.le_of_ble_eq_true rfl) dX1_wayTogether_21 ?_
  refine x_iadd dX1_wayTogether_24 ?_
  refine x_istore_n 1 [(1, .int (q.1 + (if 0 ≤ (v4 - q.2) then (v4 - q.2) else 0 - (v4 - q.2)))), (0, .ref a0), (2, .int q.2)] dX1_wayTogether_25 rfl (by decide) rfl ?_
  refine x_iinc (1 : Int32) 2 [(2, .int (q.2 + (1 : Int32))), (1, .int (q.1 + (if 0 ≤ (v4 - q.2) then (v4 - q.2) else 0 - (v4 - q.2)))), (0, .ref a0)] dX1_wayTogether_26 rfl (by decide) (by decide) rfl ?_
  refine x_goto 4 dX1_wayTogether_29 (by decide) ?_
  exact x_sub [2, 1, 0] rfl (hk4 _ _ _ h)
def f_X1_wayTogether (F : Nat) (a0 : Nat) (M : XM) : Option (Int32) := x_it (b_X1_wayTogether_4 F (a0) M) F ((0 : Int32), (0 : Int32))
set_option maxHeartbeats 4000000 in
set_option maxRecDepth 100000 in
theorem c_X1_wayTogether (l : Launch) (D : va_G) (aC : FieldType → ClassId) (bs sz : Nat) (F : Nat) {a0 : Nat} {M : XM} {r : Int32} (h : f_X1_wayTogether F a0 M = some r) : x_Cn l D aC bs yX1_wayTogether cX1_wayTogether 3 (some .int) rm_X1_wayTogether [.ref a0] sz M (some (.int r)) sz M := by
  unfold f_X1_wayTogether at h
  refine x_enter2 [(0, .ref a0)] me_X1_wayTogether (Nat.le_of_ble_eq_true rfl) rfl ?_
  refine x_iconst (v := (0 : Int32)) dX1_wayTogether_0 (by decide) ?_
  refine x_istore_n 1 [(1, .int (0 : Int32)), (0, .ref a0)] dX1_wayTogether_1 rfl (by decide) rfl ?_
  refine x_iconst (v := (0 : Int32)) dX1_wayTogether_2 (by decide) ?_
  refine x_istore_n 2 [(2, .int (0 : Int32)), (1, .int (0 : Int32)), (0, .ref a0)] dX1_wayTogether_3 rfl (by decide) rfl ?_
  exact x_sub [2, 1, 0] rfl (lp_X1_wayTogether_4 l D aC bs sz F (a0) M  F _ _ _ h)

-- SwappedIntervals$Notes.<init>(I)V
abbrev rm_X2_init : Room := { frames := 1, cells := 2, slots := 16, locals := 21 }
abbrev mc_X2_init : Nat := 2
theorem me_X2_init : x_Me yX2_init cX2_init 2 none 1 := ⟨by decide +kernel, w_co_yX2_init, w_in_SwappedIntervals_Notes, by decide +kernel, by decide +kernel, by decide +kernel⟩
def f_X2_init (a0 : Nat) (a1 : Int32) (sz : Nat) (M : XM) : Option (XM) := (x_put M a0 2 2 (.int (0 : Int32))).bind fun m1 => (x_nl (if a1 < (0 : Int32) then (0 : Int32) else a1) 8).bind fun u2 => (x_nw m1 sz (.inl (.int, ((if a1 < (0 : Int32) then (0 : Int32) else a1)).toNatClampNeg, .inl (fun _ => 0)))).bind fun m3 => (x_put m3 a0 2 0 (.ref sz)).bind fun m4 => (x_nl (if a1 < (0 : Int32) then (0 : Int32) else a1) 8).bind fun u5 => (x_nw m4 (sz + 1) (.inl (.int, ((if a1 < (0 : Int32) then (0 : Int32) else a1)).toNatClampNeg, .inl (fun _ => 0)))).bind fun m6 => (x_put m6 a0 2 1 (.ref (sz + 1))).bind fun m7 => some m7
set_option maxHeartbeats 4000000 in
set_option maxRecDepth 100000 in
theorem c_X2_init (l : Launch) (D : va_G) (aC : FieldType → ClassId) (bs sz : Nat) {a0 : Nat} {a1 : Int32} {M : XM} {r : XM} (h : f_X2_init a0 a1 sz M = some r) : x_Cn l D aC bs yX2_init cX2_init 2 none rm_X2_init [.ref a0, .int a1] sz M none (sz + mc_X2_init) r := by
  unfold f_X2_init at h
  refine x_enter2 [(0, .ref a0), (1, .int a1)] me_X2_init (Nat.le_of_ble_eq_true rfl) rfl ?_
  refine x_aload_n dX2_init_0 0 rfl ?_
  refine x_objInit w_ml_RX2_3 w_im_Lib_objectInit w_co_Lib_objectInit (Nat.le_of_ble_eq_true rfl) (Nat.le_of_ble_eq_true rfl) dX2_init_1 ?_
  refine x_aload_n dX2_init_4 0 rfl ?_
  refine x_iconst (v := (0 : Int32)) dX2_init_5 (by decide) ?_
  obtain ⟨m1, em1, h⟩ := x_bd h
  refine x_putV clX2 w_fl_RX2_9 (by decide) rfl rfl rfl dX2_init_6 em1 ?_
  refine x_aload_n dX2_init_9 0 rfl ?_
  refine x_iload_n dX2_init_10 1 rfl ?_
  refine x_iconst (v := (0 : Int32)) dX2_init_11 (by decide) ?_
  refine x_mmax w_ml_RX2_15 w_st_Lib_Math_max_name w_in_java_lang_Math w_co_Lib_Math_max_name (Nat.le_of_ble_eq_true rfl) (Nat.le_of_ble_eq_true rfl) (Nat.le_of_ble_eq_true rfl) (Nat.le_of_ble_eq_true rfl) dX2_init_12 ?_
  obtain ⟨u2, eu2, h⟩ := x_bd h
  obtain ⟨m3, em3, h⟩ := x_bd h
  refine x_newI ((if a1 < (0 : Int32) then (0 : Int32) else a1)).toNatClampNeg 8 w_ac_int (x_nl_sp eu2).1 rfl (x_nl_sp eu2).2 (by decide) (Nat.le_of_ble_eq_true rfl) (Nat.le_of_ble_eq_true rfl) dX2_init_15 ?_
  refine x_castM (Option.some.inj em3) ?_
  obtain ⟨m4, em4, h⟩ := x_bd h
  refine x_putF clX2 w_fl_RX2_21 (by decide) rfl rfl rfl rfl rfl dX2_init_17 em4 ?_
  refine x_aload_n dX2_init_20 0 rfl ?_
  refine x_iload_n dX2_init_21 1 rfl ?_
  refine x_iconst (v := (0 : Int32)) dX2_init_22 (by decide) ?_
  refine x_mmax w_ml_RX2_15 w_st_Lib_Math_max_name w_in_java_lang_Math w_co_Lib_Math_max_name (Nat.le_of_ble_eq_true rfl) (Nat.le_of_ble_eq_true rfl) (Nat.le_of_ble_eq_true rfl) (Nat.le_of_ble_eq_true rfl) dX2_init_23 ?_
  obtain ⟨u5, eu5, h⟩ := x_bd h
  obtain ⟨m6, em6, h⟩ := x_bd h
  refine x_newI ((if a1 < (0 : Int32) then (0 : Int32) else a1)).toNatClampNeg 8 w_ac_int (x_nl_sp eu5).1 rfl (x_nl_sp eu5).2 (by decide) (Nat.le_of_ble_eq_true rfl) (Nat.le_of_ble_eq_true rfl) dX2_init_26 ?_
  refine x_castM (Option.some.inj em6) ?_
  obtain ⟨m7, em7, h⟩ := x_bd h
  refine x_putF clX2 w_fl_RX2_25 (by decide) rfl rfl rfl rfl rfl dX2_init_28 em7 ?_
  obtain rfl := Option.some.inj h
  exact x_vret dX2_init_31 (Nat.le_of_ble_eq_true rfl) (Nat.le_of_ble_eq_true rfl)

-- SwappedIntervals$Notes.clear()I
abbrev rm_X2_clear : Room := { frames := 0, cells := 0, slots := 0, locals := 0 }
theorem me_X2_clear : x_Me yX2_clear cX2_clear 1 (some .int) 0 := ⟨by decide +kernel, w_co_yX2_clear, w_in_SwappedIntervals_Notes, by decide +kernel, by decide +kernel, by decide +kernel⟩
def f_X2_clear (a0 : Nat) (M : XM) : Option (Int32 × XM) := (x_put M a0 2 2 (.int (0 : Int32))).bind fun m1 => (x_gI m1 a0 2 2).bind fun v2 => some (v2, m1)
set_option maxHeartbeats 4000000 in
set_option maxRecDepth 100000 in
theorem c_X2_clear (l : Launch) (D : va_G) (aC : FieldType → ClassId) (bs sz : Nat) {a0 : Nat} {M : XM} {r : Int32 × XM} (h : f_X2_clear a0 M = some r) : x_Cn l D aC bs yX2_clear cX2_clear 1 (some .int) rm_X2_clear [.ref a0] sz M (some (.int r.1)) sz r.2 := by
  unfold f_X2_clear at h
  refine x_enter2 [(0, .ref a0)] me_X2_clear (Nat.le_of_ble_eq_true rfl) rfl ?_
  refine x_aload_n dX2_clear_0 0 rfl ?_
  refine x_iconst (v := (0 : Int32)) dX2_clear_1 (by decide) ?_
  obtain ⟨m1, em1, h⟩ := x_bd h
  refine x_putV clX2 w_fl_RX2_9 (by decide) rfl rfl rfl dX2_clear_2 em1 ?_
  refine x_aload_n dX2_clear_5 0 rfl ?_
  obtain ⟨v2, ev2, h⟩ := x_bd h
  refine x_getI clX2 w_fl_RX2_9 (by decide) dX2_clear_6 ev2 ?_
  obtain rfl := Option.some.inj h
  exact x_iret dX2_clear_9 (Nat.le_of_ble_eq_true rfl) (Nat.le_of_ble_eq_true rfl)

-- SwappedIntervals$Notes.add(II)I
abbrev rm_X2_add : Room := { frames := 0, cells := 0, slots := 0, locals := 0 }
theorem me_X2_add : x_Me yX2_add cX2_add 3 (some .int) 2 := ⟨by decide +kernel, w_co_yX2_add, w_in_SwappedIntervals_Notes, by decide +kernel, by decide +kernel, by decide +kernel⟩
def f_X2_add (a0 : Nat) (a1 : Int32) (a2 : Int32) (M : XM) : Option (Int32 × XM) := (x_gI M a0 2 2).bind fun v1 => (x_gR M a0 2 0).bind fun v2 => (x_len .int M v2).bind fun v3 => if v1 < v3 then (x_gR M a0 2 0).bind fun v5 => (x_gI M a0 2 2).bind fun v6 => (x_w32 .int M v5 v6 a1).bind fun m7 => (x_gR m7 a0 2 1).bind fun v8 => (x_gI m7 a0 2 2).bind fun v9 => (x_w32 .int m7 v8 v9 a2).bind fun m10 => (x_gI m10 a0 2 2).bind fun v11 => (x_put m10 a0 2 2 (.int (v11 + (1 : Int32)))).bind fun m12 => (x_gI m12 a0 2 2).bind fun v13 => some (v13, m12) else some ((-4 : Int32), M)
set_option maxHeartbeats 4000000 in
set_option maxRecDepth 100000 in
theorem c_X2_add (l : Launch) (D : va_G) (aC : FieldType → ClassId) (bs sz : Nat) {a0 : Nat} {a1 : Int32} {a2 : Int32} {M : XM} {r : Int32 × XM} (h : f_X2_add a0 a1 a2 M = some r) : x_Cn l D aC bs yX2_add cX2_add 3 (some .int) rm_X2_add [.ref a0, .int a1, .int a2] sz M (some (.int r.1)) sz r.2 := by
  unfold f_X2_add at h
  refine x_enter2 [(0, .ref a0), (1, .int a1), (2, .int a2)] me_X2_add (Nat.le_of_ble_eq_true rfl) rfl ?_
  refine x_aload_n dX2_add_0 0 rfl ?_
  obtain ⟨v1, ev1, h⟩ := x_bd h
  refine x_getI clX2 w_fl_RX2_9 (by decide) dX2_add_1 ev1 ?_
  refine x_aload_n dX2_add_4 0 rfl ?_
  obtain ⟨v2, ev2, h⟩ := x_bd h
  refine x_getR clX2 w_fl_RX2_21 (by decide) dX2_add_5 ev2 ?_
  obtain ⟨v3, ev3, h⟩ := x_bd h
  refine x_alen (t0 := 0) rfl dX2_add_8 ev3 ?_
  refine x_icmp_lt 15 dX2_add_9 (by decide) (fun c4 => ?_) (fun c4 => ?_)
  · have h := (if_pos c4).symm.trans h
    refine x_aload_n dX2_add_15 0 rfl ?_
    obtain ⟨v5, ev5, h⟩ := x_bd h
    refine x_getR clX2 w_fl_RX2_21 (by decide) dX2_add_16 ev5 ?_
    refine x_aload_n dX2_add_19 0 rfl ?_
    obtain ⟨v6, ev6, h⟩ := x_bd h
    refine x_getI clX2 w_fl_RX2_9 (by decide) dX2_add_20 ev6 ?_
    refine x_iload_n dX2_add_23 1 rfl ?_
    obtain ⟨m7, em7, h⟩ := x_bd h
    refine x_iast dX2_add_24 em7 ?_
    refine x_aload_n dX2_add_25 0 rfl ?_
    obtain ⟨v8, ev8, h⟩ := x_bd h
    refine x_getR clX2 w_fl_RX2_25 (by decide) dX2_add_26 ev8 ?_
    refine x_aload_n dX2_add_29 0 rfl ?_
    obtain ⟨v9, ev9, h⟩ := x_bd h
    refine x_getI clX2 w_fl_RX2_9 (by decide) dX2_add_30 ev9 ?_
    refine x_iload_n dX2_add_33 2 rfl ?_
    obtain ⟨m10, em10, h⟩ := x_bd h
    refine x_iast dX2_add_34 em10 ?_
    refine x_aload_n dX2_add_35 0 rfl ?_
    refine x_dup dX2_add_36 rfl ?_
    obtain ⟨v11, ev11, h⟩ := x_bd h
    refine x_getI clX2 w_fl_RX2_9 (by decide) dX2_add_37 ev11 ?_
    refine x_iconst (v := (1 : Int32)) dX2_add_40 (by decide) ?_
    refine x_iadd dX2_add_41 ?_
    obtain ⟨m12, em12, h⟩ := x_bd h
    refine x_putV clX2 w_fl_RX2_9 (by decide) rfl rfl rfl dX2_add_42 em12 ?_
    refine x_aload_n dX2_add_45 0 rfl ?_
    obtain ⟨v13, ev13, h⟩ := x_bd h
    refine x_getI clX2 w_fl_RX2_9 (by decide) dX2_add_46 ev13 ?_
    obtain rfl := Option.some.inj h
    exact x_iret dX2_add_49 (Nat.le_of_ble_eq_true rfl) (Nat.le_of_ble_eq_true rfl)
  have h := (if_neg c4).symm.trans h
  refine x_bipush (v := (-4 : Int32)) dX2_add_12 (by decide) ?_
  obtain rfl := Option.some.inj h
  exact x_iret dX2_add_14 (Nat.le_of_ble_eq_true rfl) (Nat.le_of_ble_eq_true rfl)

-- SwappedIntervals$Notes.copyFrom(LSwappedIntervals$Notes;)V
abbrev rm_X2_copyFrom : Room := { frames := 1, cells := 0, slots := 0, locals := 22 }
theorem me_X2_copyFrom : x_Me yX2_copyFrom cX2_copyFrom 3 none 1 := ⟨by decide +kernel, w_co_yX2_copyFrom, w_in_SwappedIntervals_Notes, by decide +kernel, by decide +kernel, by decide +kernel⟩
def b_X2_copyFrom_7 (F : Nat) (a0 : Nat) (a1 : Nat)  (k7 : (Int32 × XM) → Option (XM)) (q : Int32 × XM) : Option (XM) := (x_gI q.2 a1 2 2).bind fun v3 => if v3 ≤ q.1 then some q.2 else (x_gR q.2 a1 2 0).bind fun v5 => (x_a32 .int q.2 v5 q.1).bind fun v6 => (x_gR q.2 a1 2 1).bind fun v7 => (x_a32 .int q.2 v7 q.1).bind fun v8 => (x_ob q.2 a0 2).bind fun u9 => (f_X2_add a0 v6 v8 q.2).bind fun p10 => k7 ((q.1 + (1 : Int32)), p10.2)
set_option maxHeartbeats 4000000 in
set_option maxRecDepth 100000 in
theorem lp_X2_copyFrom_7 (l : Launch) (D : va_G) (aC : FieldType → ClassId) (bs : Nat) (sz : Nat) (F : Nat) (a0 : Nat) (a1 : Nat)   : ∀ (n : Nat) (b0 : Int32) (b1 : XM) (r : XM), x_it (b_X2_copyFrom_7 F a0 a1 ) n (b0, b1) = some r → x_V l D aC bs yX2_copyFrom cX2_copyFrom 3 none rm_X2_copyFrom (x_Z D aC bs none sz r rm_X2_copyFrom) 7 [(0, .ref a0), (1, .ref a1), (2, .int b0)] [] sz b1 0 0 := by
  suffices H : ∀ (n : Nat) (q : Int32 × XM) (r : XM), x_it (b_X2_copyFrom_7 F a0 a1 ) n q = some r → x_V l D aC bs yX2_copyFrom cX2_copyFrom 3 none rm_X2_copyFrom (x_Z D aC bs none sz r rm_X2_copyFrom) 7 [(0, .ref a0), (1, .ref a1), (2, .int q.1)] [] sz q.2 0 0 from fun n b0 b1 r h => H n (b0, b1) r h
  refine x_loop (P := fun (q : Int32 × XM) (r : XM) => x_V l D aC bs yX2_copyFrom cX2_copyFrom 3 none rm_X2_copyFrom (x_Z D aC bs none sz r rm_X2_copyFrom) 7 [(0, .ref a0), (1, .ref a1), (2, .int q.1)] [] sz q.2 0 0) (fun k7 hk0 q r h => ?_)
  have hk7 : ∀ (b0 : Int32) (b1 : XM) (r : XM), k7 (b0, b1) = some r → x_V l D aC bs yX2_copyFrom cX2_copyFrom 3 none rm_X2_copyFrom (x_Z D aC bs none sz r rm_X2_copyFrom) 7 [(0, .ref a0), (1, .ref a1), (2, .int b0)] [] sz b1 0 0 := fun b0 b1 r h => hk0 (b0, b1) r h
  unfold b_X2_copyFrom_7 at h
  refine x_iload_n dX2_copyFrom_7 2 rfl ?_
  refine x_aload_n dX2_copyFrom_8 1 rfl ?_
  obtain ⟨v3, ev3, h⟩ := x_bd h
  refine x_getI clX2 w_fl_RX2_9 (by decide) dX2_copyFrom_9 ev3 ?_
  refine x_icmp_ge 38 dX2_copyFrom_12 (by decide) (fun c4 => ?_) (fun c4 => ?_)
  · have h := (if_pos c4).symm.trans h
    obtain rfl := Option.some.inj h
    exact x_vret dX2_copyFrom_38 (Nat.le_of_ble_eq_true rfl) (Nat.le_of_ble_eq_true rfl)
  have h := (if_neg c4).symm.trans h
  refine x_aload_n dX2_copyFrom_15 0 rfl ?_
  refine x_aload_n dX2_copyFrom_16 1 rfl ?_
  obtain ⟨v5, ev5, h⟩ := x_bd h
  refine x_getR clX2 w_fl_RX2_21 (by decide) dX2_copyFrom_17 ev5 ?_
  refine x_iload_n dX2_copyFrom_20 2 rfl ?_
  obtain ⟨v6, ev6, h⟩ := x_bd h
  refine x_iald dX2_copyFrom_21 ev6 ?_
  refine x_aload_n dX2_copyFrom_22 1 rfl ?_
  obtain ⟨v7, ev7, h⟩ := x_bd h
  refine x_getR clX2 w_fl_RX2_25 (by decide) dX2_copyFrom_23 ev7 ?_
  refine x_iload_n dX2_copyFrom_26 2 rfl ?_
  obtain ⟨v8, ev8, h⟩ := x_bd h
  refine x_iald dX2_copyFrom_27 ev8 ?_
  obtain ⟨u9, eu9, h⟩ := x_bd h
  obtain ⟨p10, ep10, h⟩ := x_bd h
  refine x_callVI [.int v6, .int v8] [] clX2 me_X2_add w_ml_RX2_32 w_im_yX2_add w_se_yX2_add (Nat.le_of_ble_eq_true rfl) (Nat.le_of_ble_eq_true rfl) rfl (Nat.le_of_ble_eq_true rfl) (Nat.le_of_ble_eq_true rfl) (Nat.le_of_ble_eq_true rfl) dX2_copyFrom_28 eu9 (c_X2_add l D aC bs sz ep10) rfl ?_
  refine x_pop dX2_copyFrom_31 rfl ?_
  refine x_iinc (1 : Int32) 2 [(2, .int (q.1 + (1 : Int32))), (0, .ref a0), (1, .ref a1)] dX2_copyFrom_32 rfl (by decide) (by decide) rfl ?_
  refine x_goto 7 dX2_copyFrom_35 (by decide) ?_
  exact x_sub [1, 2, 0] rfl (hk7 _ _ _ h)
def f_X2_copyFrom (F : Nat) (a0 : Nat) (a1 : Nat) (M : XM) : Option (XM) := (x_ob M a0 2).bind fun u1 => (f_X2_clear a0 M).bind fun p2 => x_it (b_X2_copyFrom_7 F (a0) (a1)) F ((0 : Int32), p2.2)
set_option maxHeartbeats 4000000 in
set_option maxRecDepth 100000 in
theorem c_X2_copyFrom (l : Launch) (D : va_G) (aC : FieldType → ClassId) (bs sz : Nat) (F : Nat) {a0 : Nat} {a1 : Nat} {M : XM} {r : XM} (h : f_X2_copyFrom F a0 a1 M = some r) : x_Cn l D aC bs yX2_copyFrom cX2_copyFrom 3 none rm_X2_copyFrom [.ref a0, .ref a1] sz M none sz r := by
  unfold f_X2_copyFrom at h
  refine x_enter2 [(0, .ref a0), (1, .ref a1)] me_X2_copyFrom (Nat.le_of_ble_eq_true rfl) rfl ?_
  refine x_aload_n dX2_copyFrom_0 0 rfl ?_
  obtain ⟨u1, eu1, h⟩ := x_bd h
  obtain ⟨p2, ep2, h⟩ := x_bd h
  refine x_callVI [] [] clX2 me_X2_clear w_ml_RX2_28 w_im_yX2_clear w_se_yX2_clear (Nat.le_of_ble_eq_true rfl) (Nat.le_of_ble_eq_true rfl) rfl (Nat.le_of_ble_eq_true rfl) (Nat.le_of_ble_eq_true rfl) (Nat.le_of_ble_eq_true rfl) dX2_copyFrom_1 eu1 (c_X2_clear l D aC bs sz ep2) rfl ?_
  refine x_pop dX2_copyFrom_4 rfl ?_
  refine x_iconst (v := (0 : Int32)) dX2_copyFrom_5 (by decide) ?_
  refine x_istore_n 2 [(2, .int (0 : Int32)), (0, .ref a0), (1, .ref a1)] dX2_copyFrom_6 rfl (by decide) rfl ?_
  exact x_sub [1, 2, 0] rfl (lp_X2_copyFrom_7 l D aC bs sz F (a0) (a1)  F _ _ _ h)

-- SwappedIntervals$Rows.hasLetter(I)Z
abbrev rm_X3_hasLetter : Room := { frames := 0, cells := 0, slots := 0, locals := 0 }
theorem me_X3_hasLetter : x_Me yX3_hasLetter cX3_hasLetter 2 (some .boolean) 1 := ⟨by decide +kernel, w_co_yX3_hasLetter, w_in_SwappedIntervals_Rows, by decide +kernel, by decide +kernel, by decide +kernel⟩
def f_X3_hasLetter (a0 : Nat) (a1 : Int32) (M : XM) : Option (Int32) := if a1 < 0 then some (0 : Int32) else (x_gI M a0 3 0).bind fun v2 => if v2 ≤ a1 then some (0 : Int32) else some (1 : Int32)
set_option maxHeartbeats 4000000 in
set_option maxRecDepth 100000 in
theorem c_X3_hasLetter (l : Launch) (D : va_G) (aC : FieldType → ClassId) (bs sz : Nat) {a0 : Nat} {a1 : Int32} {M : XM} {r : Int32} (h : f_X3_hasLetter a0 a1 M = some r) : x_Cn l D aC bs yX3_hasLetter cX3_hasLetter 2 (some .boolean) rm_X3_hasLetter [.ref a0, .int a1] sz M (some (.int r)) sz M := by
  unfold f_X3_hasLetter at h
  refine x_enter2 [(0, .ref a0), (1, .int a1)] me_X3_hasLetter (Nat.le_of_ble_eq_true rfl) rfl ?_
  refine x_iload_n dX3_hasLetter_0 1 rfl ?_
  refine x_if_lt 16 dX3_hasLetter_1 (by decide) (fun c1 => ?_) (fun c1 => ?_)
  · have h := (if_pos c1).symm.trans h
    refine x_iconst (v := (0 : Int32)) dX3_hasLetter_16 (by decide) ?_
    obtain rfl := Option.some.inj h
    exact x_zret dX3_hasLetter_17 (Or.inl rfl) (Nat.le_of_ble_eq_true rfl) (Nat.le_of_ble_eq_true rfl)
  have h := (if_neg c1).symm.trans h
  refine x_iload_n dX3_hasLetter_4 1 rfl ?_
  refine x_aload_n dX3_hasLetter_5 0 rfl ?_
  obtain ⟨v2, ev2, h⟩ := x_bd h
  refine x_getI clX3 w_fl_RX3_34 (by decide) dX3_hasLetter_6 ev2 ?_
  refine x_icmp_ge 16 dX3_hasLetter_9 (by decide) (fun c3 => ?_) (fun c3 => ?_)
  · have h := (if_pos c3).symm.trans h
    refine x_iconst (v := (0 : Int32)) dX3_hasLetter_16 (by decide) ?_
    obtain rfl := Option.some.inj h
    exact x_zret dX3_hasLetter_17 (Or.inl rfl) (Nat.le_of_ble_eq_true rfl) (Nat.le_of_ble_eq_true rfl)
  have h := (if_neg c3).symm.trans h
  refine x_iconst (v := (1 : Int32)) dX3_hasLetter_12 (by decide) ?_
  refine x_goto 17 dX3_hasLetter_13 (by decide) ?_
  obtain rfl := Option.some.inj h
  exact x_zret dX3_hasLetter_17 (Or.inr rfl) (Nat.le_of_ble_eq_true rfl) (Nat.le_of_ble_eq_true rfl)

-- SwappedIntervals$Rows.points()I
abbrev rm_X3_points : Room := { frames := 0, cells := 0, slots := 0, locals := 0 }
theorem me_X3_points : x_Me yX3_points cX3_points 3 (some .int) 0 := ⟨by decide +kernel, w_co_yX3_points, w_in_SwappedIntervals_Rows, by decide +kernel, by decide +kernel, by decide +kernel⟩
def b_X3_points_4 (F : Nat) (a0 : Nat) (M : XM)  (k4 : (Int32 × Int32) → Option (Int32)) (q : Int32 × Int32) : Option (Int32) := (x_gI M a0 3 0).bind fun v1 => if v1 ≤ q.2 then some q.1 else (x_gR M a0 3 3).bind fun v3 => (x_a32 .int M v3 q.2).bind fun v4 => k4 ((q.1 + v4), (q.2 + (1 : Int32)))
set_option maxHeartbeats 4000000 in
set_option maxRecDepth 100000 in
theorem lp_X3_points_4 (l : Launch) (D : va_G) (aC : FieldType → ClassId) (bs : Nat) (sz : Nat) (F : Nat) (a0 : Nat) (M : XM)   : ∀ (n : Nat) (b0 : Int32) (b1 : Int32) (r : Int32), x_it (b_X3_points_4 F a0 M ) n (b0, b1) = some r → x_V l D aC bs yX3_points cX3_points 3 (some .int) rm_X3_points (x_Z D aC bs (some (.int r)) sz M rm_X3_points) 4 [(0, .ref a0), (1, .int b0), (2, .int b1)] [] sz M 0 0 := by
  suffices H : ∀ (n : Nat) (q : Int32 × Int32) (r : Int32), x_it (b_X3_points_4 F a0 M ) n q = some r → x_V l D aC bs yX3_points cX3_points 3 (some .int) rm_X3_points (x_Z D aC bs (some (.int r)) sz M rm_X3_points) 4 [(0, .ref a0), (1, .int q.1), (2, .int q.2)] [] sz M 0 0 from fun n b0 b1 r h => H n (b0, b1) r h
  refine x_loop (P := fun (q : Int32 × Int32) (r : Int32) => x_V l D aC bs yX3_points cX3_points 3 (some .int) rm_X3_points (x_Z D aC bs (some (.int r)) sz M rm_X3_points) 4 [(0, .ref a0), (1, .int q.1), (2, .int q.2)] [] sz M 0 0) (fun k4 hk0 q r h => ?_)
  have hk4 : ∀ (b0 : Int32) (b1 : Int32) (r : Int32), k4 (b0, b1) = some r → x_V l D aC bs yX3_points cX3_points 3 (some .int) rm_X3_points (x_Z D aC bs (some (.int r)) sz M rm_X3_points) 4 [(0, .ref a0), (1, .int b0), (2, .int b1)] [] sz M 0 0 := fun b0 b1 r h => hk0 (b0, b1) r h
  unfold b_X3_points_4 at h
  refine x_iload_n dX3_points_4 2 rfl ?_
  refine x_aload_n dX3_points_5 0 rfl ?_
  obtain ⟨v1, ev1, h⟩ := x_bd h
  refine x_getI clX3 w_fl_RX3_34 (by decide) dX3_points_6 ev1 ?_
  refine x_icmp_ge 27 dX3_points_9 (by decide) (fun c2 => ?_) (fun c2 => ?_)
  · have h := (if_pos c2).symm.trans h
    refine x_iload_n dX3_points_27 1 rfl ?_
    obtain rfl := Option.some.inj h
    exact x_iret dX3_points_28 (Nat.le_of_ble_eq_true rfl) (Nat.le_of_ble_eq_true rfl)
  have h := (if_neg c2).symm.trans h
  refine x_iload_n dX3_points_12 1 rfl ?_
  refine x_aload_n dX3_points_13 0 rfl ?_
  obtain ⟨v3, ev3, h⟩ := x_bd h
  refine x_getR clX3 w_fl_RX3_18 (by decide) dX3_points_14 ev3 ?_
  refine x_iload_n dX3_points_17 2 rfl ?_
  obtain ⟨v4, ev4, h⟩ := x_bd h
  refine x_iald dX3_points_18 ev4 ?_
  refine x_iadd dX3_points_19 ?_
  refine x_istore_n 1 [(1, .int (q.1 + v4)), (0, .ref a0), (2, .int q.2)] dX3_points_20 rfl (by decide) rfl ?_
  refine x_iinc (1 : Int32) 2 [(2, .int (q.2 + (1 : Int32))), (1, .int (q.1 + v4)), (0, .ref a0)] dX3_points_21 rfl (by decide) (by decide) rfl ?_
  refine x_goto 4 dX3_points_24 (by decide) ?_
  exact x_sub [2, 1, 0] rfl (hk4 _ _ _ h)
def f_X3_points (F : Nat) (a0 : Nat) (M : XM) : Option (Int32) := x_it (b_X3_points_4 F (a0) M) F ((0 : Int32), (0 : Int32))
set_option maxHeartbeats 4000000 in
set_option maxRecDepth 100000 in
theorem c_X3_points (l : Launch) (D : va_G) (aC : FieldType → ClassId) (bs sz : Nat) (F : Nat) {a0 : Nat} {M : XM} {r : Int32} (h : f_X3_points F a0 M = some r) : x_Cn l D aC bs yX3_points cX3_points 3 (some .int) rm_X3_points [.ref a0] sz M (some (.int r)) sz M := by
  unfold f_X3_points at h
  refine x_enter2 [(0, .ref a0)] me_X3_points (Nat.le_of_ble_eq_true rfl) rfl ?_
  refine x_iconst (v := (0 : Int32)) dX3_points_0 (by decide) ?_
  refine x_istore_n 1 [(1, .int (0 : Int32)), (0, .ref a0)] dX3_points_1 rfl (by decide) rfl ?_
  refine x_iconst (v := (0 : Int32)) dX3_points_2 (by decide) ?_
  refine x_istore_n 2 [(2, .int (0 : Int32)), (1, .int (0 : Int32)), (0, .ref a0)] dX3_points_3 rfl (by decide) rfl ?_
  exact x_sub [2, 1, 0] rfl (lp_X3_points_4 l D aC bs sz F (a0) M  F _ _ _ h)

-- SwappedIntervals$Rows.hasPoint(I)Z
abbrev rm_X3_hasPoint : Room := { frames := 1, cells := 0, slots := 0, locals := 22 }
theorem me_X3_hasPoint : x_Me yX3_hasPoint cX3_hasPoint 2 (some .boolean) 1 := ⟨by decide +kernel, w_co_yX3_hasPoint, w_in_SwappedIntervals_Rows, by decide +kernel, by decide +kernel, by decide +kernel⟩
def f_X3_hasPoint (F : Nat) (a0 : Nat) (a1 : Int32) (M : XM) : Option (Int32) := if a1 < 0 then some (0 : Int32) else (x_ob M a0 3).bind fun u2 => (f_X3_points F a0 M).bind fun p3 => if p3 ≤ a1 then some (0 : Int32) else some (1 : Int32)
set_option maxHeartbeats 4000000 in
set_option maxRecDepth 100000 in
theorem c_X3_hasPoint (l : Launch) (D : va_G) (aC : FieldType → ClassId) (bs sz : Nat) (F : Nat) {a0 : Nat} {a1 : Int32} {M : XM} {r : Int32} (h : f_X3_hasPoint F a0 a1 M = some r) : x_Cn l D aC bs yX3_hasPoint cX3_hasPoint 2 (some .boolean) rm_X3_hasPoint [.ref a0, .int a1] sz M (some (.int r)) sz M := by
  unfold f_X3_hasPoint at h
  refine x_enter2 [(0, .ref a0), (1, .int a1)] me_X3_hasPoint (Nat.le_of_ble_eq_true rfl) rfl ?_
  refine x_iload_n dX3_hasPoint_0 1 rfl ?_
  refine x_if_lt 16 dX3_hasPoint_1 (by decide) (fun c1 => ?_) (fun c1 => ?_)
  · have h := (if_pos c1).symm.trans h
    refine x_iconst (v := (0 : Int32)) dX3_hasPoint_16 (by decide) ?_
    obtain rfl := Option.some.inj h
    exact x_zret dX3_hasPoint_17 (Or.inl rfl) (Nat.le_of_ble_eq_true rfl) (Nat.le_of_ble_eq_true rfl)
  have h := (if_neg c1).symm.trans h
  refine x_iload_n dX3_hasPoint_4 1 rfl ?_
  refine x_aload_n dX3_hasPoint_5 0 rfl ?_
  obtain ⟨u2, eu2, h⟩ := x_bd h
  obtain ⟨p3, ep3, h⟩ := x_bd h
  refine x_callVI [] [.int a1] clX3 me_X3_points w_ml_RX3_38 w_im_yX3_points w_se_yX3_points (Nat.le_of_ble_eq_true rfl) (Nat.le_of_ble_eq_true rfl) rfl (Nat.le_of_ble_eq_true rfl) (Nat.le_of_ble_eq_true rfl) (Nat.le_of_ble_eq_true rfl) dX3_hasPoint_6 eu2 (c_X3_points l D aC bs sz F ep3) rfl ?_
  refine x_icmp_ge 16 dX3_hasPoint_9 (by decide) (fun c4 => ?_) (fun c4 => ?_)
  · have h := (if_pos c4).symm.trans h
    refine x_iconst (v := (0 : Int32)) dX3_hasPoint_16 (by decide) ?_
    obtain rfl := Option.some.inj h
    exact x_zret dX3_hasPoint_17 (Or.inl rfl) (Nat.le_of_ble_eq_true rfl) (Nat.le_of_ble_eq_true rfl)
  have h := (if_neg c4).symm.trans h
  refine x_iconst (v := (1 : Int32)) dX3_hasPoint_12 (by decide) ?_
  refine x_goto 17 dX3_hasPoint_13 (by decide) ?_
  obtain rfl := Option.some.inj h
  exact x_zret dX3_hasPoint_17 (Or.inr rfl) (Nat.le_of_ble_eq_true rfl) (Nat.le_of_ble_eq_true rfl)

-- SwappedIntervals$Rows.isCode(II)Z
abbrev rm_X3_isCode : Room := { frames := 0, cells := 0, slots := 0, locals := 0 }
theorem me_X3_isCode : x_Me yX3_isCode cX3_isCode 6 (some .boolean) 2 := ⟨by decide +kernel, w_co_yX3_isCode, w_in_SwappedIntervals_Rows, by decide +kernel, by decide +kernel, by decide +kernel⟩
def b_X3_isCode_7 (F : Nat) (a1 : Int32) (M : XM)  (k7 : (Int32 × Int32 × Int32) → Option (Int32)) (q : Int32 × Int32 × Int32) : Option (Int32) := if a1 ≤ q.2.2 then if q.1 = 0 then if q.2.1 = (((1 : Int32) <<< ((a1 + (1 : Int32)) &&& 31)) - (2 : Int32)) then some (1 : Int32) else some (0 : Int32) else some (0 : Int32) else if (q.1 - q.1 / (10 : Int32) * (10 : Int32)) < (1 : Int32) then some (0 : Int32) else if (q.1 - q.1 / (10 : Int32) * (10 : Int32)) ≤ a1 then k7 ((q.1 / (10 : Int32)), (q.2.1 ||| ((1 : Int32) <<< ((q.1 - q.1 / (10 : Int32) * (10 : Int32)) &&& 31))), (q.2.2 + (1 : Int32))) else some (0 : Int32)
set_option maxHeartbeats 4000000 in
set_option maxRecDepth 100000 in
theorem lp_X3_isCode_7 (l : Launch) (D : va_G) (aC : FieldType → ClassId) (bs : Nat) (sz : Nat) (F : Nat) (a1 : Int32) (M : XM)   : ∀ (n : Nat) (b0 : Int32) (b1 : Int32) (b2 : Int32) (r : Int32), x_it (b_X3_isCode_7 F a1 M ) n (b0, b1, b2) = some r → x_V l D aC bs yX3_isCode cX3_isCode 6 (some .boolean) rm_X3_isCode (x_Z D aC bs (some (.int r)) sz M rm_X3_isCode) 7 [(1, .int a1), (2, .int b0), (3, .int b1), (4, .int b2)] [] sz M 0 0 := by
  suffices H : ∀ (n : Nat) (q : Int32 × Int32 × Int32) (r : Int32), x_it (b_X3_isCode_7 F a1 M ) n q = some r → x_V l D aC bs yX3_isCode cX3_isCode 6 (some .boolean) rm_X3_isCode (x_Z D aC bs (some (.int r)) sz M rm_X3_isCode) 7 [(1, .int a1), (2, .int q.1), (3, .int q.2.1), (4, .int q.2.2)] [] sz M 0 0 from fun n b0 b1 b2 r h => H n (b0, b1, b2) r h
  refine x_loop (P := fun (q : Int32 × Int32 × Int32) (r : Int32) => x_V l D aC bs yX3_isCode cX3_isCode 6 (some .boolean) rm_X3_isCode (x_Z D aC bs (some (.int r)) sz M rm_X3_isCode) 7 [(1, .int a1), (2, .int q.1), (3, .int q.2.1), (4, .int q.2.2)] [] sz M 0 0) (fun k7 hk0 q r h => ?_)
  have hk7 : ∀ (b0 : Int32) (b1 : Int32) (b2 : Int32) (r : Int32), k7 (b0, b1, b2) = some r → x_V l D aC bs yX3_isCode cX3_isCode 6 (some .boolean) rm_X3_isCode (x_Z D aC bs (some (.int r)) sz M rm_X3_isCode) 7 [(1, .int a1), (2, .int b0), (3, .int b1), (4, .int b2)] [] sz M 0 0 := fun b0 b1 b2 r h => hk0 (b0, b1, b2) r h
  unfold b_X3_isCode_7 at h
  refine x_iload dX3_isCode_7 3 rfl ?_
  refine x_iload_n dX3_isCode_9 0 rfl ?_
  refine x_icmp_ge 51 dX3_isCode_10 (by decide) (fun c1 => ?_) (fun c1 => ?_)
  · have h := (if_pos c1).symm.trans h
    refine x_iload_n dX3_isCode_51 1 rfl ?_
    refine x_if_ne 70 dX3_isCode_52 (by decide) (fun c2 => ?_) (fun c2 => ?_)
    · have h := (if_neg c2).symm.trans h
      refine x_iconst (v := (0 : Int32)) dX3_isCode_70 (by decide) ?_
      obtain rfl := Option.some.inj h
      exact x_zret dX3_isCode_71 (Or.inl rfl) (Nat.le_of_ble_eq_true rfl) (Nat.le_of_ble_eq_true rfl)
    have h := (if_pos c2).symm.trans h
    refine x_iload_n dX3_isCode_55 2 rfl ?_
    refine x_iconst (v := (1 : Int32)) dX3_isCode_56 (by decide) ?_
    refine x_iload_n dX3_isCode_57 0 rfl ?_
    refine x_iconst (v := (1 : Int32)) dX3_isCode_58 (by decide) ?_
    refine x_iadd dX3_isCode_59 ?_
    refine x_ishl dX3_isCode_60 ?_
    refine x_iconst (v := (2 : Int32)) dX3_isCode_61 (by decide) ?_
    refine x_isub dX3_isCode_62 ?_
    refine x_icmp_ne 70 dX3_isCode_63 (by decide) (fun c3 => ?_) (fun c3 => ?_)
    · have h := (if_neg c3).symm.trans h
      refine x_iconst (v := (0 : Int32)) dX3_isCode_70 (by decide) ?_
      obtain rfl := Option.some.inj h
      exact x_zret dX3_isCode_71 (Or.inl rfl) (Nat.le_of_ble_eq_true rfl) (Nat.le_of_ble_eq_true rfl)
    have h := (if_pos c3).symm.trans h
    refine x_iconst (v := (1 : Int32)) dX3_isCode_66 (by decide) ?_
    refine x_goto 71 dX3_isCode_67 (by decide) ?_
    obtain rfl := Option.some.inj h
    exact x_zret dX3_isCode_71 (Or.inr rfl) (Nat.le_of_ble_eq_true rfl) (Nat.le_of_ble_eq_true rfl)
  have h := (if_neg c1).symm.trans h
  refine x_iload_n dX3_isCode_13 1 rfl ?_
  refine x_bipush (v := (10 : Int32)) dX3_isCode_14 (by decide) ?_
  refine x_irem dX3_isCode_16 (by decide) ?_
  refine x_istore [(5, .int (q.1 - q.1 / (10 : Int32) * (10 : Int32))), (1, .int a1), (2, .int q.1), (3, .int q.2.1), (4, .int q.2.2)] dX3_isCode_17 (by decide) rfl ?_
  refine x_iload dX3_isCode_19 0 rfl ?_
  refine x_iconst (v := (1 : Int32)) dX3_isCode_21 (by decide) ?_
  refine x_icmp_lt 31 dX3_isCode_22 (by decide) (fun c4 => ?_) (fun c4 => ?_)
  · have h := (if_pos c4).symm.trans h
    refine x_iconst (v := (0 : Int32)) dX3_isCode_31 (by decide) ?_
    obtain rfl := Option.some.inj h
    exact x_zret dX3_isCode_32 (Or.inl rfl) (Nat.le_of_ble_eq_true rfl) (Nat.le_of_ble_eq_true rfl)
  have h := (if_neg c4).symm.trans h
  refine x_iload dX3_isCode_25 0 rfl ?_
  refine x_iload_n dX3_isCode_27 1 rfl ?_
  refine x_icmp_le 33 dX3_isCode_28 (by decide) (fun c5 => ?_) (fun c5 => ?_)
  · have h := (if_pos c5).symm.trans h
    refine x_iload_n dX3_isCode_33 3 rfl ?_
    refine x_iconst (v := (1 : Int32)) dX3_isCode_34 (by decide) ?_
    refine x_iload dX3_isCode_35 0 rfl ?_
    refine x_ishl dX3_isCode_37 ?_
    refine x_ior dX3_isCode_38 ?_
    refine x_istore_n 3 [(3, .int (q.2.1 ||| ((1 : Int32) <<< ((q.1 - q.1 / (10 : Int32) * (10 : Int32)) &&& 31)))), (5, .int (q.1 - q.1 / (10 : Int32) * (10 : Int32))), (1, .int a1), (2, .int q.1), (4, .int q.2.2)] dX3_isCode_39 rfl (by decide) rfl ?_
    refine x_iload_n dX3_isCode_40 3 rfl ?_
    refine x_bipush (v := (10 : Int32)) dX3_isCode_41 (by decide) ?_
    refine x_idiv dX3_isCode_43 (by decide) ?_
    refine x_istore_n 2 [(2, .int (q.1 / (10 : Int32))), (3, .int (q.2.1 ||| ((1 : Int32) <<< ((q.1 - q.1 / (10 : Int32) * (10 : Int32)) &&& 31)))), (5, .int (q.1 - q.1 / (10 : Int32) * (10 : Int32))), (1, .int a1), (4, .int q.2.2)] dX3_isCode_44 rfl (by decide) rfl ?_
    refine x_iinc (1 : Int32) 4 [(4, .int (q.2.2 + (1 : Int32))), (2, .int (q.1 / (10 : Int32))), (3, .int (q.2.1 ||| ((1 : Int32) <<< ((q.1 - q.1 / (10 : Int32) * (10 : Int32)) &&& 31)))), (5, .int (q.1 - q.1 / (10 : Int32) * (10 : Int32))), (1, .int a1)] dX3_isCode_45 rfl (by decide) (by decide) rfl ?_
    refine x_goto 7 dX3_isCode_48 (by decide) ?_
    exact x_sub [4, 1, 2, 0] rfl (hk7 _ _ _ _ h)
  have h := (if_neg c5).symm.trans h
  refine x_iconst (v := (0 : Int32)) dX3_isCode_31 (by decide) ?_
  obtain rfl := Option.some.inj h
  exact x_zret dX3_isCode_32 (Or.inl rfl) (Nat.le_of_ble_eq_true rfl) (Nat.le_of_ble_eq_true rfl)
def f_X3_isCode (F : Nat) (a0 : Int32) (a1 : Int32) (M : XM) : Option (Int32) := x_it (b_X3_isCode_7 F (a1) M) F (a0, (0 : Int32), (0 : Int32))
set_option maxHeartbeats 4000000 in
set_option maxRecDepth 100000 in
theorem c_X3_isCode (l : Launch) (D : va_G) (aC : FieldType → ClassId) (bs sz : Nat) (F : Nat) {a0 : Int32} {a1 : Int32} {M : XM} {r : Int32} (h : f_X3_isCode F a0 a1 M = some r) : x_Cn l D aC bs yX3_isCode cX3_isCode 6 (some .boolean) rm_X3_isCode [.int a0, .int a1] sz M (some (.int r)) sz M := by
  unfold f_X3_isCode at h
  refine x_enter2 [(0, .int a0), (1, .int a1)] me_X3_isCode (Nat.le_of_ble_eq_true rfl) rfl ?_
  refine x_iload_n dX3_isCode_0 0 rfl ?_
  refine x_istore_n 2 [(2, .int a0), (0, .int a0), (1, .int a1)] dX3_isCode_1 rfl (by decide) rfl ?_
  refine x_iconst (v := (0 : Int32)) dX3_isCode_2 (by decide) ?_
  refine x_istore_n 3 [(3, .int (0 : Int32)), (2, .int a0), (0, .int a0), (1, .int a1)] dX3_isCode_3 rfl (by decide) rfl ?_
  refine x_iconst (v := (0 : Int32)) dX3_isCode_4 (by decide) ?_
  refine x_istore [(4, .int (0 : Int32)), (3, .int (0 : Int32)), (2, .int a0), (0, .int a0), (1, .int a1)] dX3_isCode_5 (by decide) rfl ?_
  exact x_sub [4, 2, 1, 0] rfl (lp_X3_isCode_7 l D aC bs sz F (a1) M  F _ _ _ _ h)

-- SwappedIntervals$Rows.layCode(I)V
abbrev rm_X3_layCode : Room := { frames := 0, cells := 0, slots := 0, locals := 0 }
theorem me_X3_layCode : x_Me yX3_layCode cX3_layCode 4 none 1 := ⟨by decide +kernel, w_co_yX3_layCode, w_in_SwappedIntervals_Rows, by decide +kernel, by decide +kernel, by decide +kernel⟩
def b_X3_layCode_9 (F : Nat) (a0 : Nat)  (k9 : (Int32 × Int32 × XM) → Option (XM)) (q : Int32 × Int32 × XM) : Option (XM) := if q.2.1 < 0 then some q.2.2 else (x_gR q.2.2 a0 3 1).bind fun v3 => (x_w32 .int q.2.2 v3 q.2.1 q.2.1).bind fun m4 => (x_gR m4 a0 3 2).bind fun v5 => (x_w32 .int m4 v5 q.2.1 ((q.1 - q.1 / (10 : Int32) * (10 : Int32)) - (1 : Int32))).bind fun m6 => k9 ((q.1 / (10 : Int32)), (q.2.1 + (-1 : Int32)), m6)
set_option maxHeartbeats 4000000 in
set_option maxRecDepth 100000 in
theorem lp_X3_layCode_9 (l : Launch) (D : va_G) (aC : FieldType → ClassId) (bs : Nat) (sz : Nat) (F : Nat) (a0 : Nat)   : ∀ (n : Nat) (b0 : Int32) (b1 : Int32) (b2 : XM) (r : XM), x_it (b_X3_layCode_9 F a0 ) n (b0, b1, b2) = some r → x_V l D aC bs yX3_layCode cX3_layCode 4 none rm_X3_layCode (x_Z D aC bs none sz r rm_X3_layCode) 9 [(0, .ref a0), (2, .int b0), (3, .int b1)] [] sz b2 0 0 := by
  suffices H : ∀ (n : Nat) (q : Int32 × Int32 × XM) (r : XM), x_it (b_X3_layCode_9 F a0 ) n q = some r → x_V l D aC bs yX3_layCode cX3_layCode 4 none rm_X3_layCode (x_Z D aC bs none sz r rm_X3_layCode) 9 [(0, .ref a0), (2, .int q.1), (3, .int q.2.1)] [] sz q.2.2 0 0 from fun n b0 b1 b2 r h => H n (b0, b1, b2) r h
  refine x_loop (P := fun (q : Int32 × Int32 × XM) (r : XM) => x_V l D aC bs yX3_layCode cX3_layCode 4 none rm_X3_layCode (x_Z D aC bs none sz r rm_X3_layCode) 9 [(0, .ref a0), (2, .int q.1), (3, .int q.2.1)] [] sz q.2.2 0 0) (fun k9 hk0 q r h => ?_)
  have hk9 : ∀ (b0 : Int32) (b1 : Int32) (b2 : XM) (r : XM), k9 (b0, b1, b2) = some r → x_V l D aC bs yX3_layCode cX3_layCode 4 none rm_X3_layCode (x_Z D aC bs none sz r rm_X3_layCode) 9 [(0, .ref a0), (2, .int b0), (3, .int b1)] [] sz b2 0 0 := fun b0 b1 b2 r h => hk0 (b0, b1, b2) r h
  unfold b_X3_layCode_9 at h
  refine x_iload_n dX3_layCode_9 2 rfl ?_
  refine x_if_lt 43 dX3_layCode_10 (by decide) (fun c2 => ?_) (fun c2 => ?_)
  · have h := (if_pos c2).symm.trans h
    obtain rfl := Option.some.inj h
    exact x_vret dX3_layCode_43 (Nat.le_of_ble_eq_true rfl) (Nat.le_of_ble_eq_true rfl)
  have h := (if_neg c2).symm.trans h
  refine x_aload_n dX3_layCode_13 0 rfl ?_
  obtain ⟨v3, ev3, h⟩ := x_bd h
  refine x_getR clX3 w_fl_RX3_9 (by decide) dX3_layCode_14 ev3 ?_
  refine x_iload_n dX3_layCode_17 2 rfl ?_
  refine x_iload_n dX3_layCode_18 2 rfl ?_
  obtain ⟨m4, em4, h⟩ := x_bd h
  refine x_iast dX3_layCode_19 em4 ?_
  refine x_aload_n dX3_layCode_20 0 rfl ?_
  obtain ⟨v5, ev5, h⟩ := x_bd h
  refine x_getR clX3 w_fl_RX3_15 (by decide) dX3_layCode_21 ev5 ?_
  refine x_iload_n dX3_layCode_24 2 rfl ?_
  refine x_iload_n dX3_layCode_25 1 rfl ?_
  refine x_bipush (v := (10 : Int32)) dX3_layCode_26 (by decide) ?_
  refine x_irem dX3_layCode_28 (by decide) ?_
  refine x_iconst (v := (1 : Int32)) dX3_layCode_29 (by decide) ?_
  refine x_isub dX3_layCode_30 ?_
  obtain ⟨m6, em6, h⟩ := x_bd h
  refine x_iast dX3_layCode_31 em6 ?_
  refine x_iload_n dX3_layCode_32 1 rfl ?_
  refine x_bipush (v := (10 : Int32)) dX3_layCode_33 (by decide) ?_
  refine x_idiv dX3_layCode_35 (by decide) ?_
  refine x_istore_n 2 [(2, .int (q.1 / (10 : Int32))), (0, .ref a0), (3, .int q.2.1)] dX3_layCode_36 rfl (by decide) rfl ?_
  refine x_iinc (-1 : Int32) 2 [(3, .int (q.2.1 + (-1 : Int32))), (2, .int (q.1 / (10 : Int32))), (0, .ref a0)] dX3_layCode_37 rfl (by decide) (by decide) rfl ?_
  refine x_goto 9 dX3_layCode_40 (by decide) ?_
  exact x_sub [2, 1, 0] rfl (hk9 _ _ _ _ h)
def f_X3_layCode (F : Nat) (a0 : Nat) (a1 : Int32) (M : XM) : Option (XM) := (x_gI M a0 3 0).bind fun v1 => x_it (b_X3_layCode_9 F (a0)) F (a1, (v1 - (1 : Int32)), M)
set_option maxHeartbeats 4000000 in
set_option maxRecDepth 100000 in
theorem c_X3_layCode (l : Launch) (D : va_G) (aC : FieldType → ClassId) (bs sz : Nat) (F : Nat) {a0 : Nat} {a1 : Int32} {M : XM} {r : XM} (h : f_X3_layCode F a0 a1 M = some r) : x_Cn l D aC bs yX3_layCode cX3_layCode 4 none rm_X3_layCode [.ref a0, .int a1] sz M none sz r := by
  unfold f_X3_layCode at h
  refine x_enter2 [(0, .ref a0), (1, .int a1)] me_X3_layCode (Nat.le_of_ble_eq_true rfl) rfl ?_
  refine x_iload_n dX3_layCode_0 1 rfl ?_
  refine x_istore_n 2 [(2, .int a1), (0, .ref a0), (1, .int a1)] dX3_layCode_1 rfl (by decide) rfl ?_
  refine x_aload_n dX3_layCode_2 1 rfl ?_
  obtain ⟨v1, ev1, h⟩ := x_bd h
  refine x_getI clX3 w_fl_RX3_34 (by decide) dX3_layCode_3 ev1 ?_
  refine x_iconst (v := (1 : Int32)) dX3_layCode_6 (by decide) ?_
  refine x_isub dX3_layCode_7 ?_
  refine x_istore_n 3 [(3, .int (v1 - (1 : Int32))), (2, .int a1), (0, .ref a0), (1, .int a1)] dX3_layCode_8 rfl (by decide) rfl ?_
  exact x_sub [2, 1, 0] rfl (lp_X3_layCode_9 l D aC bs sz F (a0)  F _ _ _ _ h)

-- SwappedIntervals$Rows.placeIn([II)I
abbrev rm_X3_placeIn : Room := { frames := 0, cells := 0, slots := 0, locals := 0 }
theorem me_X3_placeIn : x_Me yX3_placeIn cX3_placeIn 4 (some .int) 2 := ⟨by decide +kernel, w_co_yX3_placeIn, w_in_SwappedIntervals_Rows, by decide +kernel, by decide +kernel, by decide +kernel⟩
def b_X3_placeIn_2 (F : Nat) (a0 : Nat) (a1 : Nat) (a2 : Int32) (M : XM)  (k2 : Int32 → Option (Int32)) (q : Int32) : Option (Int32) := (x_gI M a0 3 0).bind fun v1 => if v1 ≤ q then some (-1 : Int32) else (x_a32 .int M a1 q).bind fun v3 => if v3 = a2 then some q else k2 (q + (1 : Int32))
set_option maxHeartbeats 4000000 in
set_option maxRecDepth 100000 in
theorem lp_X3_placeIn_2 (l : Launch) (D : va_G) (aC : FieldType → ClassId) (bs : Nat) (sz : Nat) (F : Nat) (a0 : Nat) (a1 : Nat) (a2 : Int32) (M : XM)   : ∀ (n : Nat) (b0 : Int32) (r : Int32), x_it (b_X3_placeIn_2 F a0 a1 a2 M ) n b0 = some r → x_V l D aC bs yX3_placeIn cX3_placeIn 4 (some .int) rm_X3_placeIn (x_Z D aC bs (some (.int r)) sz M rm_X3_placeIn) 2 [(0, .ref a0), (1, .ref a1), (2, .int a2), (3, .int b0)] [] sz M 0 0 := by
  suffices H : ∀ (n : Nat) (q : Int32) (r : Int32), x_it (b_X3_placeIn_2 F a0 a1 a2 M ) n q = some r → x_V l D aC bs yX3_placeIn cX3_placeIn 4 (some .int) rm_X3_placeIn (x_Z D aC bs (some (.int r)) sz M rm_X3_placeIn) 2 [(0, .ref a0), (1, .ref a1), (2, .int a2), (3, .int q)] [] sz M 0 0 from fun n b0 r h => H n b0 r h
  refine x_loop (P := fun (q : Int32) (r : Int32) => x_V l D aC bs yX3_placeIn cX3_placeIn 4 (some .int) rm_X3_placeIn (x_Z D aC bs (some (.int r)) sz M rm_X3_placeIn) 2 [(0, .ref a0), (1, .ref a1), (2, .int a2), (3, .int q)] [] sz M 0 0) (fun k2 hk0 q r h => ?_)
  have hk2 : ∀ (b0 : Int32) (r : Int32), k2 b0 = some r → x_V l D aC bs yX3_placeIn cX3_placeIn 4 (some .int) rm_X3_placeIn (x_Z D aC bs (some (.int r)) sz M rm_X3_placeIn) 2 [(0, .ref a0), (1, .ref a1), (2, .int a2), (3, .int b0)] [] sz M 0 0 := fun b0 r h => hk0 b0 r h
  unfold b_X3_placeIn_2 at h
  refine x_iload_n dX3_placeIn_2 3 rfl ?_
  refine x_aload_n dX3_placeIn_3 0 rfl ?_
  obtain ⟨v1, ev1, h⟩ := x_bd h
  refine x_getI clX3 w_fl_RX3_34 (by decide) dX3_placeIn_4 ev1 ?_
  refine x_icmp_ge 25 dX3_placeIn_7 (by decide) (fun c2 => ?_) (fun c2 => ?_)
  · have h := (if_pos c2).symm.trans h
    refine x_iconst (v := (-1 : Int32)) dX3_placeIn_25 (by decide) ?_
    obtain rfl := Option.some.inj h
    exact x_iret dX3_placeIn_26 (Nat.le_of_ble_eq_true rfl) (Nat.le_of_ble_eq_true rfl)
  have h := (if_neg c2).symm.trans h
  refine x_aload_n dX3_placeIn_10 1 rfl ?_
  refine x_iload_n dX3_placeIn_11 3 rfl ?_
  obtain ⟨v3, ev3, h⟩ := x_bd h
  refine x_iald dX3_placeIn_12 ev3 ?_
  refine x_iload_n dX3_placeIn_13 2 rfl ?_
  refine x_icmp_ne 19 dX3_placeIn_14 (by decide) (fun c4 => ?_) (fun c4 => ?_)
  · have h := (if_neg c4).symm.trans h
    refine x_iinc (1 : Int32) 3 [(3, .int (q + (1 : Int32))), (0, .ref a0), (1, .ref a1), (2, .int a2)] dX3_placeIn_19 rfl (by decide) (by decide) rfl ?_
    refine x_goto 2 dX3_placeIn_22 (by decide) ?_
    exact x_sub [1, 2, 3, 0] rfl (hk2 _ _ h)
  have h := (if_pos c4).symm.trans h
  refine x_iload_n dX3_placeIn_17 3 rfl ?_
  obtain rfl := Option.some.inj h
  exact x_iret dX3_placeIn_18 (Nat.le_of_ble_eq_true rfl) (Nat.le_of_ble_eq_true rfl)
def f_X3_placeIn (F : Nat) (a0 : Nat) (a1 : Nat) (a2 : Int32) (M : XM) : Option (Int32) := x_it (b_X3_placeIn_2 F (a0) (a1) (a2) M) F (0 : Int32)
set_option maxHeartbeats 4000000 in
set_option maxRecDepth 100000 in
theorem c_X3_placeIn (l : Launch) (D : va_G) (aC : FieldType → ClassId) (bs sz : Nat) (F : Nat) {a0 : Nat} {a1 : Nat} {a2 : Int32} {M : XM} {r : Int32} (h : f_X3_placeIn F a0 a1 a2 M = some r) : x_Cn l D aC bs yX3_placeIn cX3_placeIn 4 (some .int) rm_X3_placeIn [.ref a0, .ref a1, .int a2] sz M (some (.int r)) sz M := by
  unfold f_X3_placeIn at h
  refine x_enter2 [(0, .ref a0), (1, .ref a1), (2, .int a2)] me_X3_placeIn (Nat.le_of_ble_eq_true rfl) rfl ?_
  refine x_iconst (v := (0 : Int32)) dX3_placeIn_0 (by decide) ?_
  refine x_istore_n 3 [(3, .int (0 : Int32)), (0, .ref a0), (1, .ref a1), (2, .int a2)] dX3_placeIn_1 rfl (by decide) rfl ?_
  exact x_sub [1, 2, 3, 0] rfl (lp_X3_placeIn_2 l D aC bs sz F (a0) (a1) (a2) M  F _ _ h)

-- SwappedIntervals$Rows.codeNow()I
abbrev rm_X3_codeNow : Room := { frames := 1, cells := 0, slots := 0, locals := 23 }
theorem me_X3_codeNow : x_Me yX3_codeNow cX3_codeNow 3 (some .int) 0 := ⟨by decide +kernel, w_co_yX3_codeNow, w_in_SwappedIntervals_Rows, by decide +kernel, by decide +kernel, by decide +kernel⟩
def b_X3_codeNow_4 (F : Nat) (a0 : Nat) (M : XM)  (k4 : (Int32 × Int32) → Option (Int32)) (q : Int32 × Int32) : Option (Int32) := (x_gI M a0 3 0).bind fun v1 => if v1 ≤ q.2 then some q.1 else (x_gR M a0 3 1).bind fun v3 => (x_gR M a0 3 2).bind fun v4 => (x_a32 .int M v4 q.2).bind fun v5 => (x_ob M a0 3).bind fun u6 => (f_X3_placeIn F a0 v3 v5 M).bind fun p7 => k4 ((((q.1 * (10 : Int32)) + p7) + (1 : Int32)), (q.2 + (1 : Int32)))
set_option maxHeartbeats 4000000 in
set_option maxRecDepth 100000 in
theorem lp_X3_codeNow_4 (l : Launch) (D : va_G) (aC : FieldType → ClassId) (bs : Nat) (sz : Nat) (F : Nat) (a0 : Nat) (M : XM)   : ∀ (n : Nat) (b0 : Int32) (b1 : Int32) (r : Int32), x_it (b_X3_codeNow_4 F a0 M ) n (b0, b1) = some r → x_V l D aC bs yX3_codeNow cX3_codeNow 3 (some .int) rm_X3_codeNow (x_Z D aC bs (some (.int r)) sz M rm_X3_codeNow) 4 [(0, .ref a0), (1, .int b0), (2, .int b1)] [] sz M 0 0 := by
  suffices H : ∀ (n : Nat) (q : Int32 × Int32) (r : Int32), x_it (b_X3_codeNow_4 F a0 M ) n q = some r → x_V l D aC bs yX3_codeNow cX3_codeNow 3 (some .int) rm_X3_codeNow (x_Z D aC bs (some (.int r)) sz M rm_X3_codeNow) 4 [(0, .ref a0), (1, .int q.1), (2, .int q.2)] [] sz M 0 0 from fun n b0 b1 r h => H n (b0, b1) r h
  refine x_loop (P := fun (q : Int32 × Int32) (r : Int32) => x_V l D aC bs yX3_codeNow cX3_codeNow 3 (some .int) rm_X3_codeNow (x_Z D aC bs (some (.int r)) sz M rm_X3_codeNow) 4 [(0, .ref a0), (1, .int q.1), (2, .int q.2)] [] sz M 0 0) (fun k4 hk0 q r h => ?_)
  have hk4 : ∀ (b0 : Int32) (b1 : Int32) (r : Int32), k4 (b0, b1) = some r → x_V l D aC bs yX3_codeNow cX3_codeNow 3 (some .int) rm_X3_codeNow (x_Z D aC bs (some (.int r)) sz M rm_X3_codeNow) 4 [(0, .ref a0), (1, .int b0), (2, .int b1)] [] sz M 0 0 := fun b0 b1 r h => hk0 (b0, b1) r h
  unfold b_X3_codeNow_4 at h
  refine x_iload_n dX3_codeNow_4 2 rfl ?_
  refine x_aload_n dX3_codeNow_5 0 rfl ?_
  obtain ⟨v1, ev1, h⟩ := x_bd h
  refine x_getI clX3 w_fl_RX3_34 (by decide) dX3_codeNow_6 ev1 ?_
  refine x_icmp_ge 40 dX3_codeNow_9 (by decide) (fun c2 => ?_) (fun c2 => ?_)
  · have h := (if_pos c2).symm.trans h
    refine x_iload_n dX3_codeNow_40 1 rfl ?_
    obtain rfl := Option.some.inj h
    exact x_iret dX3_codeNow_41 (Nat.le_of_ble_eq_true rfl) (Nat.le_of_ble_eq_true rfl)
  have h := (if_neg c2).symm.trans h
  refine x_iload_n dX3_codeNow_12 1 rfl ?_
  refine x_bipush (v := (10 : Int32)) dX3_codeNow_13 (by decide) ?_
  refine x_imul dX3_codeNow_15 ?_
  refine x_aload_n dX3_codeNow_16 0 rfl ?_
  refine x_aload_n dX3_codeNow_17 0 rfl ?_
  obtain ⟨v3, ev3, h⟩ := x_bd h
  refine x_getR clX3 w_fl_RX3_9 (by decide) dX3_codeNow_18 ev3 ?_
  refine x_aload_n dX3_codeNow_21 0 rfl ?_
  obtain ⟨v4, ev4, h⟩ := x_bd h
  refine x_getR clX3 w_fl_RX3_15 (by decide) dX3_codeNow_22 ev4 ?_
  refine x_iload_n dX3_codeNow_25 2 rfl ?_
  obtain ⟨v5, ev5, h⟩ := x_bd h
  refine x_iald dX3_codeNow_26 ev5 ?_
  obtain ⟨u6, eu6, h⟩ := x_bd h
  obtain ⟨p7, ep7, h⟩ := x_bd h
  refine x_callVI [.ref v3, .int v5] [.int (q.1 * (10 : Int32))] clX3 me_X3_placeIn w_ml_RX3_42 w_im_yX3_placeIn w_se_yX3_placeIn (Nat.le_of_ble_eq_true rfl) (Nat.le_of_ble_eq_true rfl) rfl (Nat.le_of_ble_eq_true rfl) (Nat.le_of_ble_eq_true rfl) (Nat.le_of_ble_eq_true rfl) dX3_codeNow_27 eu6 (c_X3_placeIn l D aC bs sz F ep7) rfl ?_
  refine x_iadd dX3_codeNow_30 ?_
  refine x_iconst (v := (1 : Int32)) dX3_codeNow_31 (by decide) ?_
  refine x_iadd dX3_codeNow_32 ?_
  refine x_istore_n 1 [(1, .int (((q.1 * (10 : Int32)) + p7) + (1 : Int32))), (0, .ref a0), (2, .int q.2)] dX3_codeNow_33 rfl (by decide) rfl ?_
  refine x_iinc (1 : Int32) 2 [(2, .int (q.2 + (1 : Int32))), (1, .int (((q.1 * (10 : Int32)) + p7) + (1 : Int32))), (0, .ref a0)] dX3_codeNow_34 rfl (by decide) (by decide) rfl ?_
  refine x_goto 4 dX3_codeNow_37 (by decide) ?_
  exact x_sub [2, 1, 0] rfl (hk4 _ _ _ h)
def f_X3_codeNow (F : Nat) (a0 : Nat) (M : XM) : Option (Int32) := x_it (b_X3_codeNow_4 F (a0) M) F ((0 : Int32), (0 : Int32))
set_option maxHeartbeats 4000000 in
set_option maxRecDepth 100000 in
theorem c_X3_codeNow (l : Launch) (D : va_G) (aC : FieldType → ClassId) (bs sz : Nat) (F : Nat) {a0 : Nat} {M : XM} {r : Int32} (h : f_X3_codeNow F a0 M = some r) : x_Cn l D aC bs yX3_codeNow cX3_codeNow 3 (some .int) rm_X3_codeNow [.ref a0] sz M (some (.int r)) sz M := by
  unfold f_X3_codeNow at h
  refine x_enter2 [(0, .ref a0)] me_X3_codeNow (Nat.le_of_ble_eq_true rfl) rfl ?_
  refine x_iconst (v := (0 : Int32)) dX3_codeNow_0 (by decide) ?_
  refine x_istore_n 1 [(1, .int (0 : Int32)), (0, .ref a0)] dX3_codeNow_1 rfl (by decide) rfl ?_
  refine x_iconst (v := (0 : Int32)) dX3_codeNow_2 (by decide) ?_
  refine x_istore_n 2 [(2, .int (0 : Int32)), (1, .int (0 : Int32)), (0, .ref a0)] dX3_codeNow_3 rfl (by decide) rfl ?_
  exact x_sub [2, 1, 0] rfl (lp_X3_codeNow_4 l D aC bs sz F (a0) M  F _ _ _ h)

-- SwappedIntervals$Rows.letterBehind([II)I
abbrev rm_X3_letterBehind : Room := { frames := 1, cells := 0, slots := 0, locals := 23 }
theorem me_X3_letterBehind : x_Me yX3_letterBehind cX3_letterBehind 4 (some .int) 2 := ⟨by decide +kernel, w_co_yX3_letterBehind, w_in_SwappedIntervals_Rows, by decide +kernel, by decide +kernel, by decide +kernel⟩
def f_X3_letterBehind (F : Nat) (a0 : Nat) (a1 : Nat) (a2 : Int32) (M : XM) : Option (Int32) := (x_ob M a0 3).bind fun u1 => (f_X3_placeIn F a0 a1 a2 M).bind fun p2 => if p2 < 0 then some (-1 : Int32) else (x_gI M a0 3 0).bind fun v4 => if (v4 - (1 : Int32)) ≤ p2 then some (-1 : Int32) else (x_a32 .int M a1 (p2 + (1 : Int32))).bind fun v6 => some v6
set_option maxHeartbeats 4000000 in
set_option maxRecDepth 100000 in
theorem c_X3_letterBehind (l : Launch) (D : va_G) (aC : FieldType → ClassId) (bs sz : Nat) (F : Nat) {a0 : Nat} {a1 : Nat} {a2 : Int32} {M : XM} {r : Int32} (h : f_X3_letterBehind F a0 a1 a2 M = some r) : x_Cn l D aC bs yX3_letterBehind cX3_letterBehind 4 (some .int) rm_X3_letterBehind [.ref a0, .ref a1, .int a2] sz M (some (.int r)) sz M := by
  unfold f_X3_letterBehind at h
  refine x_enter2 [(0, .ref a0), (1, .ref a1), (2, .int a2)] me_X3_letterBehind (Nat.le_of_ble_eq_true rfl) rfl ?_
  refine x_aload_n dX3_letterBehind_0 0 rfl ?_
  refine x_aload_n dX3_letterBehind_1 1 rfl ?_
  refine x_iload_n dX3_letterBehind_2 2 rfl ?_
  obtain ⟨u1, eu1, h⟩ := x_bd h
  obtain ⟨p2, ep2, h⟩ := x_bd h
  refine x_callVI [.ref a1, .int a2] [] clX3 me_X3_placeIn w_ml_RX3_42 w_im_yX3_placeIn w_se_yX3_placeIn (Nat.le_of_ble_eq_true rfl) (Nat.le_of_ble_eq_true rfl) rfl (Nat.le_of_ble_eq_true rfl) (Nat.le_of_ble_eq_true rfl) (Nat.le_of_ble_eq_true rfl) dX3_letterBehind_3 eu1 (c_X3_placeIn l D aC bs sz F ep2) rfl ?_
  refine x_istore_n 3 [(3, .int p2), (0, .ref a0), (1, .ref a1), (2, .int a2)] dX3_letterBehind_6 rfl (by decide) rfl ?_
  refine x_iload_n dX3_letterBehind_7 0 rfl ?_
  refine x_if_lt 29 dX3_letterBehind_8 (by decide) (fun c3 => ?_) (fun c3 => ?_)
  · have h := (if_pos c3).symm.trans h
    refine x_iconst (v := (-1 : Int32)) dX3_letterBehind_29 (by decide) ?_
    obtain rfl := Option.some.inj h
    exact x_iret dX3_letterBehind_30 (Nat.le_of_ble_eq_true rfl) (Nat.le_of_ble_eq_true rfl)
  have h := (if_neg c3).symm.trans h
  refine x_iload_n dX3_letterBehind_11 0 rfl ?_
  refine x_aload_n dX3_letterBehind_12 1 rfl ?_
  obtain ⟨v4, ev4, h⟩ := x_bd h
  refine x_getI clX3 w_fl_RX3_34 (by decide) dX3_letterBehind_13 ev4 ?_
  refine x_iconst (v := (1 : Int32)) dX3_letterBehind_16 (by decide) ?_
  refine x_isub dX3_letterBehind_17 ?_
  refine x_icmp_ge 29 dX3_letterBehind_18 (by decide) (fun c5 => ?_) (fun c5 => ?_)
  · have h := (if_pos c5).symm.trans h
    refine x_iconst (v := (-1 : Int32)) dX3_letterBehind_29 (by decide) ?_
    obtain rfl := Option.some.inj h
    exact x_iret dX3_letterBehind_30 (Nat.le_of_ble_eq_true rfl) (Nat.le_of_ble_eq_true rfl)
  have h := (if_neg c5).symm.trans h
  refine x_aload_n dX3_letterBehind_21 2 rfl ?_
  refine x_iload_n dX3_letterBehind_22 0 rfl ?_
  refine x_iconst (v := (1 : Int32)) dX3_letterBehind_23 (by decide) ?_
  refine x_iadd dX3_letterBehind_24 ?_
  obtain ⟨v6, ev6, h⟩ := x_bd h
  refine x_iald dX3_letterBehind_25 ev6 ?_
  refine x_goto 30 dX3_letterBehind_26 (by decide) ?_
  obtain rfl := Option.some.inj h
  exact x_iret dX3_letterBehind_30 (Nat.le_of_ble_eq_true rfl) (Nat.le_of_ble_eq_true rfl)

-- SwappedIntervals$Rows.swapInBottom(II)V
abbrev rm_X3_swapInBottom : Room := { frames := 0, cells := 0, slots := 0, locals := 0 }
theorem me_X3_swapInBottom : x_Me yX3_swapInBottom cX3_swapInBottom 4 none 2 := ⟨by decide +kernel, w_co_yX3_swapInBottom, w_in_SwappedIntervals_Rows, by decide +kernel, by decide +kernel, by decide +kernel⟩
def b_X3_swapInBottom_2 (F : Nat) (a0 : Nat) (a1 : Int32) (a2 : Int32)  (k2 : (Int32 × XM) → Option (XM)) (q : Int32 × XM) : Option (XM) := (x_gI q.2 a0 3 0).bind fun v1 => if v1 ≤ q.1 then some q.2 else (x_gR q.2 a0 3 2).bind fun v3 => (x_a32 .int q.2 v3 q.1).bind fun v4 => if v4 = a1 then (x_gR q.2 a0 3 2).bind fun v11 => (x_w32 .int q.2 v11 q.1 a2).bind fun m12 => k2 ((q.1 + (1 : Int32)), m12) else (x_gR q.2 a0 3 2).bind fun v6 => (x_a32 .int q.2 v6 q.1).bind fun v7 => if v7 = a2 then (x_gR q.2 a0 3 2).bind fun v9 => (x_w32 .int q.2 v9 q.1 a1).bind fun m10 => k2 ((q.1 + (1 : Int32)), m10) else k2 ((q.1 + (1 : Int32)), q.2)
set_option maxHeartbeats 4000000 in
set_option maxRecDepth 100000 in
theorem lp_X3_swapInBottom_2 (l : Launch) (D : va_G) (aC : FieldType → ClassId) (bs : Nat) (sz : Nat) (F : Nat) (a0 : Nat) (a1 : Int32) (a2 : Int32)   : ∀ (n : Nat) (b0 : Int32) (b1 : XM) (r : XM), x_it (b_X3_swapInBottom_2 F a0 a1 a2 ) n (b0, b1) = some r → x_V l D aC bs yX3_swapInBottom cX3_swapInBottom 4 none rm_X3_swapInBottom (x_Z D aC bs none sz r rm_X3_swapInBottom) 2 [(0, .ref a0), (1, .int a1), (2, .int a2), (3, .int b0)] [] sz b1 0 0 := by
  suffices H : ∀ (n : Nat) (q : Int32 × XM) (r : XM), x_it (b_X3_swapInBottom_2 F a0 a1 a2 ) n q = some r → x_V l D aC bs yX3_swapInBottom cX3_swapInBottom 4 none rm_X3_swapInBottom (x_Z D aC bs none sz r rm_X3_swapInBottom) 2 [(0, .ref a0), (1, .int a1), (2, .int a2), (3, .int q.1)] [] sz q.2 0 0 from fun n b0 b1 r h => H n (b0, b1) r h
  refine x_loop (P := fun (q : Int32 × XM) (r : XM) => x_V l D aC bs yX3_swapInBottom cX3_swapInBottom 4 none rm_X3_swapInBottom (x_Z D aC bs none sz r rm_X3_swapInBottom) 2 [(0, .ref a0), (1, .int a1), (2, .int a2), (3, .int q.1)] [] sz q.2 0 0) (fun k2 hk0 q r h => ?_)
  have hk2 : ∀ (b0 : Int32) (b1 : XM) (r : XM), k2 (b0, b1) = some r → x_V l D aC bs yX3_swapInBottom cX3_swapInBottom 4 none rm_X3_swapInBottom (x_Z D aC bs none sz r rm_X3_swapInBottom) 2 [(0, .ref a0), (1, .int a1), (2, .int a2), (3, .int b0)] [] sz b1 0 0 := fun b0 b1 r h => hk0 (b0, b1) r h
  unfold b_X3_swapInBottom_2 at h
  refine x_iload_n dX3_swapInBottom_2 3 rfl ?_
  refine x_aload_n dX3_swapInBottom_3 0 rfl ?_
  obtain ⟨v1, ev1, h⟩ := x_bd h
  refine x_getI clX3 w_fl_RX3_34 (by decide) dX3_swapInBottom_4 ev1 ?_
  refine x_icmp_ge 53 dX3_swapInBottom_7 (by decide) (fun c2 => ?_) (fun c2 => ?_)
  · have h := (if_pos c2).symm.trans h
    obtain rfl := Option.some.inj h
    exact x_vret dX3_swapInBottom_53 (Nat.le_of_ble_eq_true rfl) (Nat.le_of_ble_eq_true rfl)
  have h := (if_neg c2).symm.trans h
  refine x_aload_n dX3_swapInBottom_10 0 rfl ?_
  obtain ⟨v3, ev3, h⟩ := x_bd h
  refine x_getR clX3 w_fl_RX3_15 (by decide) dX3_swapInBottom_11 ev3 ?_
  refine x_iload_n dX3_swapInBottom_14 3 rfl ?_
  obtain ⟨v4, ev4, h⟩ := x_bd h
  refine x_iald dX3_swapInBottom_15 ev4 ?_
  refine x_iload_n dX3_swapInBottom_16 1 rfl ?_
  refine x_icmp_ne 30 dX3_swapInBottom_17 (by decide) (fun c5 => ?_) (fun c5 => ?_)
  · have h := (if_neg c5).symm.trans h
    refine x_aload_n dX3_swapInBottom_30 0 rfl ?_
    obtain ⟨v6, ev6, h⟩ := x_bd h
    refine x_getR clX3 w_fl_RX3_15 (by decide) dX3_swapInBottom_31 ev6 ?_
    refine x_iload_n dX3_swapInBottom_34 3 rfl ?_
    obtain ⟨v7, ev7, h⟩ := x_bd h
    refine x_iald dX3_swapInBottom_35 ev7 ?_
    refine x_iload_n dX3_swapInBottom_36 2 rfl ?_
    refine x_icmp_ne 47 dX3_swapInBottom_37 (by decide) (fun c8 => ?_) (fun c8 => ?_)
    · have h := (if_neg c8).symm.trans h
      refine x_iinc (1 : Int32) 3 [(3, .int (q.1 + (1 : Int32))), (0, .ref a0), (1, .int a1), (2, .int a2)] dX3_swapInBottom_47 rfl (by decide) (by decide) rfl ?_
      refine x_goto 2 dX3_swapInBottom_50 (by decide) ?_
      exact x_sub [1, 2, 3, 0] rfl (hk2 _ _ _ h)
    have h := (if_pos c8).symm.trans h
    refine x_aload_n dX3_swapInBottom_40 0 rfl ?_
    obtain ⟨v9, ev9, h⟩ := x_bd h
    refine x_getR clX3 w_fl_RX3_15 (by decide) dX3_swapInBottom_41 ev9 ?_
    refine x_iload_n dX3_swapInBottom_44 3 rfl ?_
    refine x_iload_n dX3_swapInBottom_45 1 rfl ?_
    obtain ⟨m10, em10, h⟩ := x_bd h
    refine x_iast dX3_swapInBottom_46 em10 ?_
    refine x_iinc (1 : Int32) 3 [(3, .int (q.1 + (1 : Int32))), (0, .ref a0), (1, .int a1), (2, .int a2)] dX3_swapInBottom_47 rfl (by decide) (by decide) rfl ?_
    refine x_goto 2 dX3_swapInBottom_50 (by decide) ?_
    exact x_sub [1, 2, 3, 0] rfl (hk2 _ _ _ h)
  have h := (if_pos c5).symm.trans h
  refine x_aload_n dX3_swapInBottom_20 0 rfl ?_
  obtain ⟨v11, ev11, h⟩ := x_bd h
  refine x_getR clX3 w_fl_RX3_15 (by decide) dX3_swapInBottom_21 ev11 ?_
  refine x_iload_n dX3_swapInBottom_24 3 rfl ?_
  refine x_iload_n dX3_swapInBottom_25 2 rfl ?_
  obtain ⟨m12, em12, h⟩ := x_bd h
  refine x_iast dX3_swapInBottom_26 em12 ?_
  refine x_goto 47 dX3_swapInBottom_27 (by decide) ?_
  refine x_iinc (1 : Int32) 3 [(3, .int (q.1 + (1 : Int32))), (0, .ref a0), (1, .int a1), (2, .int a2)] dX3_swapInBottom_47 rfl (by decide) (by decide) rfl ?_
  refine x_goto 2 dX3_swapInBottom_50 (by decide) ?_
  exact x_sub [1, 2, 3, 0] rfl (hk2 _ _ _ h)
def f_X3_swapInBottom (F : Nat) (a0 : Nat) (a1 : Int32) (a2 : Int32) (M : XM) : Option (XM) := x_it (b_X3_swapInBottom_2 F (a0) (a1) (a2)) F ((0 : Int32), M)
set_option maxHeartbeats 4000000 in
set_option maxRecDepth 100000 in
theorem c_X3_swapInBottom (l : Launch) (D : va_G) (aC : FieldType → ClassId) (bs sz : Nat) (F : Nat) {a0 : Nat} {a1 : Int32} {a2 : Int32} {M : XM} {r : XM} (h : f_X3_swapInBottom F a0 a1 a2 M = some r) : x_Cn l D aC bs yX3_swapInBottom cX3_swapInBottom 4 none rm_X3_swapInBottom [.ref a0, .int a1, .int a2] sz M none sz r := by
  unfold f_X3_swapInBottom at h
  refine x_enter2 [(0, .ref a0), (1, .int a1), (2, .int a2)] me_X3_swapInBottom (Nat.le_of_ble_eq_true rfl) rfl ?_
  refine x_iconst (v := (0 : Int32)) dX3_swapInBottom_0 (by decide) ?_
  refine x_istore_n 3 [(3, .int (0 : Int32)), (0, .ref a0), (1, .int a1), (2, .int a2)] dX3_swapInBottom_1 rfl (by decide) rfl ?_
  exact x_sub [1, 2, 3, 0] rfl (lp_X3_swapInBottom_2 l D aC bs sz F (a0) (a1) (a2)  F _ _ _ h)

-- SwappedIntervals$Rows.isWhole()Z
abbrev rm_X3_isWhole : Room := { frames := 0, cells := 0, slots := 0, locals := 0 }
theorem me_X3_isWhole : x_Me yX3_isWhole cX3_isWhole 4 (some .boolean) 0 := ⟨by decide +kernel, w_co_yX3_isWhole, w_in_SwappedIntervals_Rows, by decide +kernel, by decide +kernel, by decide +kernel⟩
def b_X3_isWhole_6 (F : Nat) (a0 : Nat) (M : XM)  (k6 : (Int32 × Int32 × Int32) → Option (Int32)) (q : Int32 × Int32 × Int32) : Option (Int32) := (x_gI M a0 3 0).bind fun v1 => if (v1 - (1 : Int32)) ≤ q.2.2 then some (1 : Int32) else (x_gR M a0 3 1).bind fun v3 => (x_a32 .int M v3 q.2.2).bind fun v4 => (x_gR M a0 3 2).bind fun v5 => (x_a32 .int M v5 q.2.2).bind fun v6 => if (q.1 ||| ((1 : Int32) <<< (v4 &&& 31))) = (q.2.1 ||| ((1 : Int32) <<< (v6 &&& 31))) then some (0 : Int32) else k6 ((q.1 ||| ((1 : Int32) <<< (v4 &&& 31))), (q.2.1 ||| ((1 : Int32) <<< (v6 &&& 31))), (q.2.2 + (1 : Int32)))
set_option maxHeartbeats 4000000 in
set_option maxRecDepth 100000 in
theorem lp_X3_isWhole_6 (l : Launch) (D : va_G) (aC : FieldType → ClassId) (bs : Nat) (sz : Nat) (F : Nat) (a0 : Nat) (M : XM)   : ∀ (n : Nat) (b0 : Int32) (b1 : Int32) (b2 : Int32) (r : Int32), x_it (b_X3_isWhole_6 F a0 M ) n (b0, b1, b2) = some r → x_V l D aC bs yX3_isWhole cX3_isWhole 4 (some .boolean) rm_X3_isWhole (x_Z D aC bs (some (.int r)) sz M rm_X3_isWhole) 6 [(0, .ref a0), (1, .int b0), (2, .int b1), (3, .int b2)] [] sz M 0 0 := by
  suffices H : ∀ (n : Nat) (q : Int32 × Int32 × Int32) (r : Int32), x_it (b_X3_isWhole_6 F a0 M ) n q = some r → x_V l D aC bs yX3_isWhole cX3_isWhole 4 (some .boolean) rm_X3_isWhole (x_Z D aC bs (some (.int r)) sz M rm_X3_isWhole) 6 [(0, .ref a0), (1, .int q.1), (2, .int q.2.1), (3, .int q.2.2)] [] sz M 0 0 from fun n b0 b1 b2 r h => H n (b0, b1, b2) r h
  refine x_loop (P := fun (q : Int32 × Int32 × Int32) (r : Int32) => x_V l D aC bs yX3_isWhole cX3_isWhole 4 (some .boolean) rm_X3_isWhole (x_Z D aC bs (some (.int r)) sz M rm_X3_isWhole) 6 [(0, .ref a0), (1, .int q.1), (2, .int q.2.1), (3, .int q.2.2)] [] sz M 0 0) (fun k6 hk0 q r h => ?_)
  have hk6 : ∀ (b0 : Int32) (b1 : Int32) (b2 : Int32) (r : Int32), k6 (b0, b1, b2) = some r → x_V l D aC bs yX3_isWhole cX3_isWhole 4 (some .boolean) rm_X3_isWhole (x_Z D aC bs (some (.int r)) sz M rm_X3_isWhole) 6 [(0, .ref a0), (1, .int b0), (2, .int b1), (3, .int b2)] [] sz M 0 0 := fun b0 b1 b2 r h => hk0 (b0, b1, b2) r h
  unfold b_X3_isWhole_6 at h
  refine x_iload_n dX3_isWhole_6 3 rfl ?_
  refine x_aload_n dX3_isWhole_7 0 rfl ?_
  obtain ⟨v1, ev1, h⟩ := x_bd h
  refine x_getI clX3 w_fl_RX3_34 (by decide) dX3_isWhole_8 ev1 ?_
  refine x_iconst (v := (1 : Int32)) dX3_isWhole_11 (by decide) ?_
  refine x_isub dX3_isWhole_12 ?_
  refine x_icmp_ge 51 dX3_isWhole_13 (by decide) (fun c2 => ?_) (fun c2 => ?_)
  · have h := (if_pos c2).symm.trans h
    refine x_iconst (v := (1 : Int32)) dX3_isWhole_51 (by decide) ?_
    obtain rfl := Option.some.inj h
    exact x_zret dX3_isWhole_52 (Or.inr rfl) (Nat.le_of_ble_eq_true rfl) (Nat.le_of_ble_eq_true rfl)
  have h := (if_neg c2).symm.trans h
  refine x_iload_n dX3_isWhole_16 1 rfl ?_
  refine x_iconst (v := (1 : Int32)) dX3_isWhole_17 (by decide) ?_
  refine x_aload_n dX3_isWhole_18 0 rfl ?_
  obtain ⟨v3, ev3, h⟩ := x_bd h
  refine x_getR clX3 w_fl_RX3_9 (by decide) dX3_isWhole_19 ev3 ?_
  refine x_iload_n dX3_isWhole_22 3 rfl ?_
  obtain ⟨v4, ev4, h⟩ := x_bd h
  refine x_iald dX3_isWhole_23 ev4 ?_
  refine x_ishl dX3_isWhole_24 ?_
  refine x_ior dX3_isWhole_25 ?_
  refine x_istore_n 1 [(1, .int (q.1 ||| ((1 : Int32) <<< (v4 &&& 31)))), (0, .ref a0), (2, .int q.2.1), (3, .int q.2.2)] dX3_isWhole_26 rfl (by decide) rfl ?_
  refine x_iload_n dX3_isWhole_27 2 rfl ?_
  refine x_iconst (v := (1 : Int32)) dX3_isWhole_28 (by decide) ?_
  refine x_aload_n dX3_isWhole_29 1 rfl ?_
  obtain ⟨v5, ev5, h⟩ := x_bd h
  refine x_getR clX3 w_fl_RX3_15 (by decide) dX3_isWhole_30 ev5 ?_
  refine x_iload_n dX3_isWhole_33 3 rfl ?_
  obtain ⟨v6, ev6, h⟩ := x_bd h
  refine x_iald dX3_isWhole_34 ev6 ?_
  refine x_ishl dX3_isWhole_35 ?_
  refine x_ior dX3_isWhole_36 ?_
  refine x_istore_n 2 [(2, .int (q.2.1 ||| ((1 : Int32) <<< (v6 &&& 31)))), (1, .int (q.1 ||| ((1 : Int32) <<< (v4 &&& 31)))), (0, .ref a0), (3, .int q.2.2)] dX3_isWhole_37 rfl (by decide) rfl ?_
  refine x_iload_n dX3_isWhole_38 1 rfl ?_
  refine x_iload_n dX3_isWhole_39 0 rfl ?_
  refine x_icmp_ne 45 dX3_isWhole_40 (by decide) (fun c7 => ?_) (fun c7 => ?_)
  · have h := (if_neg c7).symm.trans h
    refine x_iinc (1 : Int32) 3 [(3, .int (q.2.2 + (1 : Int32))), (2, .int (q.2.1 ||| ((1 : Int32) <<< (v6 &&& 31)))), (1, .int (q.1 ||| ((1 : Int32) <<< (v4 &&& 31)))), (0, .ref a0)] dX3_isWhole_45 rfl (by decide) (by decide) rfl ?_
    refine x_goto 6 dX3_isWhole_48 (by decide) ?_
    exact x_sub [3, 2, 1, 0] rfl (hk6 _ _ _ _ h)
  have h := (if_pos c7).symm.trans h
  refine x_iconst (v := (0 : Int32)) dX3_isWhole_43 (by decide) ?_
  obtain rfl := Option.some.inj h
  exact x_zret dX3_isWhole_44 (Or.inl rfl) (Nat.le_of_ble_eq_true rfl) (Nat.le_of_ble_eq_true rfl)
def f_X3_isWhole (F : Nat) (a0 : Nat) (M : XM) : Option (Int32) := x_it (b_X3_isWhole_6 F (a0) M) F ((0 : Int32), (0 : Int32), (0 : Int32))
set_option maxHeartbeats 4000000 in
set_option maxRecDepth 100000 in
theorem c_X3_isWhole (l : Launch) (D : va_G) (aC : FieldType → ClassId) (bs sz : Nat) (F : Nat) {a0 : Nat} {M : XM} {r : Int32} (h : f_X3_isWhole F a0 M = some r) : x_Cn l D aC bs yX3_isWhole cX3_isWhole 4 (some .boolean) rm_X3_isWhole [.ref a0] sz M (some (.int r)) sz M := by
  unfold f_X3_isWhole at h
  refine x_enter2 [(0, .ref a0)] me_X3_isWhole (Nat.le_of_ble_eq_true rfl) rfl ?_
  refine x_iconst (v := (0 : Int32)) dX3_isWhole_0 (by decide) ?_
  refine x_istore_n 1 [(1, .int (0 : Int32)), (0, .ref a0)] dX3_isWhole_1 rfl (by decide) rfl ?_
  refine x_iconst (v := (0 : Int32)) dX3_isWhole_2 (by decide) ?_
  refine x_istore_n 2 [(2, .int (0 : Int32)), (1, .int (0 : Int32)), (0, .ref a0)] dX3_isWhole_3 rfl (by decide) rfl ?_
  refine x_iconst (v := (0 : Int32)) dX3_isWhole_4 (by decide) ?_
  refine x_istore_n 3 [(3, .int (0 : Int32)), (2, .int (0 : Int32)), (1, .int (0 : Int32)), (0, .ref a0)] dX3_isWhole_5 rfl (by decide) rfl ?_
  exact x_sub [3, 2, 1, 0] rfl (lp_X3_isWhole_6 l D aC bs sz F (a0) M  F _ _ _ _ h)

-- SwappedIntervals$Rows.stayingRow(I)[I
abbrev rm_X3_stayingRow : Room := { frames := 0, cells := 0, slots := 0, locals := 0 }
theorem me_X3_stayingRow : x_Me yX3_stayingRow cX3_stayingRow 2 (some (.array .int)) 1 := ⟨by decide +kernel, w_co_yX3_stayingRow, w_in_SwappedIntervals_Rows, by decide +kernel, by decide +kernel, by decide +kernel⟩
def f_X3_stayingRow (a0 : Nat) (a1 : Int32) (M : XM) : Option (Nat) := if a1 = 0 then (x_gR M a0 3 1).bind fun v3 => some v3 else (x_gR M a0 3 2).bind fun v2 => some v2
set_option maxHeartbeats 4000000 in
set_option maxRecDepth 100000 in
theorem c_X3_stayingRow (l : Launch) (D : va_G) (aC : FieldType → ClassId) (bs sz : Nat) {a0 : Nat} {a1 : Int32} {M : XM} {r : Nat} (h : f_X3_stayingRow a0 a1 M = some r) : x_Cn l D aC bs yX3_stayingRow cX3_stayingRow 2 (some (.array .int)) rm_X3_stayingRow [.ref a0, .int a1] sz M (some (.ref r)) sz M := by
  unfold f_X3_stayingRow at h
  refine x_enter2 [(0, .ref a0), (1, .int a1)] me_X3_stayingRow (Nat.le_of_ble_eq_true rfl) rfl ?_
  refine x_iload_n dX3_stayingRow_0 1 rfl ?_
  refine x_if_ne 11 dX3_stayingRow_1 (by decide) (fun c1 => ?_) (fun c1 => ?_)
  · have h := (if_neg c1).symm.trans h
    refine x_aload_n dX3_stayingRow_11 0 rfl ?_
    obtain ⟨v2, ev2, h⟩ := x_bd h
    refine x_getR clX3 w_fl_RX3_15 (by decide) dX3_stayingRow_12 ev2 ?_
    obtain rfl := Option.some.inj h
    exact x_aret dX3_stayingRow_15 (Nat.le_of_ble_eq_true rfl) (Nat.le_of_ble_eq_true rfl)
  have h := (if_pos c1).symm.trans h
  refine x_aload_n dX3_stayingRow_4 0 rfl ?_
  obtain ⟨v3, ev3, h⟩ := x_bd h
  refine x_getR clX3 w_fl_RX3_9 (by decide) dX3_stayingRow_5 ev3 ?_
  refine x_goto 15 dX3_stayingRow_8 (by decide) ?_
  obtain rfl := Option.some.inj h
  exact x_aret dX3_stayingRow_15 (Nat.le_of_ble_eq_true rfl) (Nat.le_of_ble_eq_true rfl)
