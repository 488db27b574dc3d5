set_option maxHeartbeats 4000000 in
set_option maxRecDepth 100000 in
theorem L_X6_setCell (E : Ev) (l : Launch) {K : MK} {R : MR} {n : Nat} (a0 : Nat) (x1 : Int32) (x2 : Int32) (x3 : Int32) (I : MI) (Q : Int32 → MI → Prop) (h : w_X6_setCell K R a0 x1 x2 x3 I Q) : MM E l yX6_setCell cX6_setCell 6 (some Jvm.ClassFile.FieldType.int) 5 112 0 0 [.ref a0, .int x1, .int x2, .int x3] K R I n (Qi K R n Q) := by
  refine MM.of1 (by decide) RX6 rfl (cR (cI (cI (cI cN)))) (Nat.le_of_ble_eq_true rfl) ?_
  intro p e s m args below meth c ls C hin hR hS hl
  have hx := C.1
  have hb := C.2.1
  have hml := C.2.2.1
  have hown := C.2.2.2.1
  have hts := C.2.2.2.2.1
  have hl : hv ls 6 [(0, .ref a0), (1, .int x1), (2, .int x2), (3, .int x3)] := hl
  clear hin
  have hJ36 : ∀ (I : MI) (H : Heap) (locs : List Loc) (ls : Array Slot), w_X6_setCell_b36 K R a0 x1 x2 x3 Q  I → Rep E K R I n H → va_S (AA E) s.heap H locs → hv ls 6 [] → W p l e (rmM 5 112 0 0) s m args below meth c H locs 0 0 (MQ below (QcM E (Qi K R n Q)) args s 0 0 (AA E)) (F0 m 36 ls []) := by
    intro  I H locs ls h hR hS hl
    unfold w_X6_setCell_b36 at h
    refine lv_bipush (v := (-2:Int32)) hx hb dX6_setCell_36 (by decide) ?_
    exact w_ireti C rfl rfl hR hS h dX6_setCell_38
  unfold w_X6_setCell at h
  refine lv_aload_n hx hb dX6_setCell_0 rfl (hv_at hl 0 rfl) ?_
  obtain ⟨hf1, h⟩ := h
  refine v_get (T := TX6) (v := .ref (a0 + 1)) C hR 0 kfl_X6_10 rfl inG6 (by decide) rfl (IsTag.k hf1) (rf_of (IsTag.r0 hf1 (I a0 0))) dX6_setCell_1 ?_
  refine lv_iload_n hx hb dX6_setCell_4 rfl (hv_at hl 1 rfl) ?_
  refine v_cVo (As := [.int x1]) C hR hS hl.1.1 ca_X0_targetAt kml_X6_68 (L_X0_targetAt E l (a0 + 1) x1 I _ h) (IsBus.k (IsTag.o0 hf1)) rfl rfl rfl rfl (Nat.le_of_ble_eq_true rfl) ⟨Nat.le_of_ble_eq_true rfl, Nat.le_of_ble_eq_true rfl⟩ ⟨Nat.zero_le _, Nat.zero_le _⟩ dX6_setCell_5 (fun o3 I2 H locs h hR hS => ?_)
  refine v_astore (o := o3) (lv' := [(4, va_rf o3), (0, .ref a0), (1, .int x1), (2, .int x2), (3, .int x3)]) hx hb dX6_setCell_8 hl (by decide) rfl (fun ls hl => ?_)
  refine v_aload hx hb dX6_setCell_10 (hv_at hl 0 rfl) ?_
  refine v_ifnonnull (tgt := 17) hx hb dX6_setCell_12 (by decide) (fun e_o3 => ?_) (fun r4 e_o3 => ?_)
  · replace h := h.1 e_o3
    have hl : hv ls 6 [(4, .null), (0, .ref a0), (1, .int x1), (2, .int x2), (3, .int x3)] := by (try rw [e_o3] at hl); exact hl
    try rw [e_o3]
    refine lv_iconst (v := (-1:Int32)) hx hb dX6_setCell_15 rfl ?_
    exact w_ireti C rfl rfl hR hS h dX6_setCell_16
  · replace h := h.2 r4 e_o3
    have hl : hv ls 6 [(4, .ref r4), (0, .ref a0), (1, .int x1), (2, .int x2), (3, .int x3)] := by (try rw [e_o3] at hl); exact hl
    try rw [e_o3]
    refine lv_iload_n hx hb dX6_setCell_17 rfl (hv_at hl 3 rfl) ?_
    refine lv_bipush (v := (16:Int32)) hx hb dX6_setCell_18 (by decide) ?_
    refine v_cSi (As := [.int x2, .int (16:Int32)]) C hR hS hl.1.1 ca_X6_isIndex kml_X6_37 (L_X6_isIndex E l x2 (16:Int32) I2 _ h) rfl rfl (Nat.le_of_ble_eq_true rfl) ⟨Nat.le_of_ble_eq_true rfl, Nat.le_of_ble_eq_true rfl⟩ ⟨Nat.zero_le _, Nat.zero_le _⟩ dX6_setCell_20 (fun v6 I5 H locs h hR hS => ?_)
    refine lv_if_eq (tgt := 36) hx hb dX6_setCell_23 (by decide) (fun c16 => ?_) (fun c16 => ?_)
    · replace h := h.1 c16
      exact hJ36 I5 _ _ _ h hR hS (hv_sub hl [] rfl)
    · replace h := h.2 c16
      refine lv_iload_n hx hb dX6_setCell_26 rfl (hv_at hl 4 rfl) ?_
      refine lv_iconst (v := (0:Int32)) hx hb dX6_setCell_27 rfl ?_
      refine lv_bipush (v := (99:Int32)) hx hb dX6_setCell_28 (by decide) ?_
      refine v_cSi (As := [.int x3, .int (0:Int32), .int (99:Int32)]) C hR hS hl.1.1 ca_X6_isBetween kml_X6_44 (L_X6_isBetween E l x3 (0:Int32) (99:Int32) I5 _ h) rfl rfl (Nat.le_of_ble_eq_true rfl) ⟨Nat.le_of_ble_eq_true rfl, Nat.le_of_ble_eq_true rfl⟩ ⟨Nat.zero_le _, Nat.zero_le _⟩ dX6_setCell_30 (fun v8 I7 H locs h hR hS => ?_)
      refine lv_if_ne (tgt := 39) hx hb dX6_setCell_33 (by decide) (fun c15 => ?_) (fun c15 => ?_)
      · replace h := h.1 c15
        refine lv_aload hx hb dX6_setCell_39 (hv_at hl 0 rfl) ?_
        obtain ⟨hf9, h⟩ := h
        refine v_get (T := TX5) (v := .ref (r4 + 1)) C hR 0 kfl_X6_83 rfl inG5 (by decide) rfl (IsTarget.k hf9) (rf_of (IsTarget.r0 hf9 (I7 r4 0))) dX6_setCell_41 ?_
        refine lv_iload_n hx hb dX6_setCell_44 rfl (hv_at hl 3 rfl) ?_
        obtain ⟨hi10, h⟩ := h
        refine w_iald C hR (IsTarget.a0 hf9) hi10 (j := (ix x2)) rfl dX6_setCell_45 ?_
        refine v_istore (lv' := [(5, .int (I7 (r4 + 1) (ix x2))), (4, .ref r4), (0, .ref a0), (1, .int x1), (2, .int x2), (3, .int x3)]) hx hb dX6_setCell_46 hl (by decide) rfl (fun ls hl => ?_)
        refine lv_iload hx hb dX6_setCell_48 (hv_at hl 0 rfl) ?_
        refine lv_iload_n hx hb dX6_setCell_50 rfl (hv_at hl 5 rfl) ?_
        refine lv_icmp_ne (tgt := 57) hx hb dX6_setCell_51 (by decide) (fun c14 => ?_) (fun c14 => ?_)
        · replace h := h.1 c14
          refine lv_aload_n hx hb dX6_setCell_57 rfl (hv_at hl 2 rfl) ?_
          refine v_cVv (As := []) C hR hS hl.1.1 ca_X6_record kml_X6_55 (L_X6_record E l a0 I7 _ h) (IsTag.k hf1) rfl rfl rfl rfl (Nat.le_of_ble_eq_true rfl) ⟨Nat.le_of_ble_eq_true rfl, Nat.le_of_ble_eq_true rfl⟩ ⟨Nat.zero_le _, Nat.zero_le _⟩ dX6_setCell_58 (fun I11 H locs h hR hS => ?_)
          refine lv_aload hx hb dX6_setCell_61 (hv_at hl 1 rfl) ?_
          refine v_get (T := TX5) (v := .ref (r4 + 1)) C hR 0 kfl_X6_83 rfl inG5 (by decide) rfl (IsTarget.k hf9) (rf_of (IsTarget.r0 hf9 (I11 r4 0))) dX6_setCell_63 ?_
          refine lv_iload_n hx hb dX6_setCell_66 rfl (hv_at hl 4 rfl) ?_
          refine lv_iload_n hx hb dX6_setCell_67 rfl (hv_at hl 5 rfl) ?_
          obtain ⟨hi12, h⟩ := h
          obtain ⟨I13, hI13⟩ := ex_eq (upI I11 (r4 + 1) (ix x2) x3)
          replace h := h I13 hI13
          refine w_iast C hR hS (IsTarget.a0 hf9) hi12 (j := (ix x2)) rfl hI13 dX6_setCell_68 (fun H locs hR hS => ?_)
          refine lv_iload hx hb dX6_setCell_69 (hv_at hl 0 rfl) ?_
          exact w_ireti C rfl rfl hR hS h dX6_setCell_71
        · replace h := h.2 c14
          refine lv_bipush (v := (-5:Int32)) hx hb dX6_setCell_54 (by decide) ?_
          exact w_ireti C rfl rfl hR hS h dX6_setCell_56
      · replace h := h.2 c15
        exact hJ36 I7 _ _ _ h hR hS (hv_sub hl [] rfl)
set_option maxHeartbeats 4000000 in
set_option maxRecDepth 100000 in
theorem L_X3_begin (E : Ev) (l : Launch) {K : MK} {R : MR} {n : Nat} (a0 : Nat) (x1 : Int32) (x2 : Int32) (x3 : Int32) (x4 : Int32) (x5 : Int32) (I : MI) (Q : MI → Prop) (h : w_X3_begin K R a0 x1 x2 x3 x4 x5 I Q) : MM E l yX3_begin cX3_begin 6 none 0 0 0 0 [.ref a0, .int x1, .int x2, .int x3, .int x4, .int x5] K R I n (Qv K R n Q) := by
  refine MM.of1 (by decide) RX3 rfl (cR (cI (cI (cI (cI (cI cN)))))) (Nat.le_of_ble_eq_true rfl) ?_
  intro p e s m args below meth c ls C hin hR hS hl
  have hx := C.1
  have hb := C.2.1
  have hml := C.2.2.1
  have hown := C.2.2.2.1
  have hts := C.2.2.2.2.1
  have hl : hv ls 6 [(0, .ref a0), (1, .int x1), (2, .int x2), (3, .int x3), (4, .int x4), (5, .int x5)] := hl
  clear hin
  unfold w_X3_begin at h
  refine lv_aload_n hx hb dX3_begin_0 rfl (hv_at hl 0 rfl) ?_
  refine lv_iload_n hx hb dX3_begin_1 rfl (hv_at hl 1 rfl) ?_
  obtain ⟨hf1, h⟩ := h
  obtain ⟨I2, hI2⟩ := ex_eq (upI I a0 0 x1)
  replace h := h I2 hI2
  refine v_put (T := TX3) (ty := .int) C hR hS 0 kfl_X3_9 rfl inG3 tyX3 tyX3_ok nmX3 (by decide) rfl hf1 rfl (tyX3_ok 0 (by decide)) rfl rfl (fl_i_3_0 _ _ _) (Nat.le_of_ble_eq_true rfl) hI2 dX3_begin_2 (fun H locs hR hS => ?_)
  refine lv_aload_n hx hb dX3_begin_5 rfl (hv_at hl 0 rfl) ?_
  refine lv_iload_n hx hb dX3_begin_6 rfl (hv_at hl 2 rfl) ?_
  obtain ⟨I3, hI3⟩ := ex_eq (upI I2 a0 1 x2)
  replace h := h I3 hI3
  refine v_put (T := TX3) (ty := .int) C hR hS 1 kfl_X3_15 rfl inG3 tyX3 tyX3_ok nmX3 (by decide) rfl hf1 rfl (tyX3_ok 1 (by decide)) rfl rfl (fl_i_3_1 _ _ _) (Nat.le_of_ble_eq_true rfl) hI3 dX3_begin_7 (fun H locs hR hS => ?_)
  refine lv_aload_n hx hb dX3_begin_10 rfl (hv_at hl 0 rfl) ?_
  refine lv_iload_n hx hb dX3_begin_11 rfl (hv_at hl 3 rfl) ?_
  obtain ⟨I4, hI4⟩ := ex_eq (upI I3 a0 2 x3)
  replace h := h I4 hI4
  refine v_put (T := TX3) (ty := .int) C hR hS 2 kfl_X3_18 rfl inG3 tyX3 tyX3_ok nmX3 (by decide) rfl hf1 rfl (tyX3_ok 2 (by decide)) rfl rfl (fl_i_3_2 _ _ _) (Nat.le_of_ble_eq_true rfl) hI4 dX3_begin_12 (fun H locs hR hS => ?_)
  refine lv_aload_n hx hb dX3_begin_15 rfl (hv_at hl 0 rfl) ?_
  refine lv_iload hx hb dX3_begin_16 (hv_at hl 4 rfl) ?_
  obtain ⟨I5, hI5⟩ := ex_eq (upI I4 a0 3 x4)
  replace h := h I5 hI5
  refine v_put (T := TX3) (ty := .int) C hR hS 3 kfl_X3_21 rfl inG3 tyX3 tyX3_ok nmX3 (by decide) rfl hf1 rfl (tyX3_ok 3 (by decide)) rfl rfl (fl_i_3_3 _ _ _) (Nat.le_of_ble_eq_true rfl) hI5 dX3_begin_18 (fun H locs hR hS => ?_)
  refine lv_aload_n hx hb dX3_begin_21 rfl (hv_at hl 0 rfl) ?_
  refine lv_iconst (v := (0:Int32)) hx hb dX3_begin_22 rfl ?_
  obtain ⟨I6, hI6⟩ := ex_eq (upI I5 a0 4 (0:Int32))
  replace h := h I6 hI6
  refine v_put (T := TX3) (ty := .int) C hR hS 4 kfl_X3_24 rfl inG3 tyX3 tyX3_ok nmX3 (by decide) rfl hf1 rfl (tyX3_ok 4 (by decide)) rfl rfl (fl_i_3_4 _ _ _) (Nat.le_of_ble_eq_true rfl) hI6 dX3_begin_23 (fun H locs hR hS => ?_)
  refine lv_aload_n hx hb dX3_begin_26 rfl (hv_at hl 0 rfl) ?_
  refine lv_bipush (v := (-5:Int32)) hx hb dX3_begin_27 (by decide) ?_
  obtain ⟨I7, hI7⟩ := ex_eq (upI I6 a0 5 (-5:Int32))
  replace h := h I7 hI7
  refine v_put (T := TX3) (ty := .int) C hR hS 5 kfl_X3_27 rfl inG3 tyX3 tyX3_ok nmX3 (by decide) rfl hf1 rfl (tyX3_ok 5 (by decide)) rfl rfl (fl_i_3_5 _ _ _) (Nat.le_of_ble_eq_true rfl) hI7 dX3_begin_29 (fun H locs hR hS => ?_)
  refine lv_aload_n hx hb dX3_begin_32 rfl (hv_at hl 0 rfl) ?_
  refine lv_bipush (v := (-5:Int32)) hx hb dX3_begin_33 (by decide) ?_
  obtain ⟨I8, hI8⟩ := ex_eq (upI I7 a0 6 (-5:Int32))
  replace h := h I8 hI8
  refine v_put (T := TX3) (ty := .int) C hR hS 6 kfl_X3_30 rfl inG3 tyX3 tyX3_ok nmX3 (by decide) rfl hf1 rfl (tyX3_ok 6 (by decide)) rfl rfl (fl_i_3_6 _ _ _) (Nat.le_of_ble_eq_true rfl) hI8 dX3_begin_35 (fun H locs hR hS => ?_)
  refine lv_aload_n hx hb dX3_begin_38 rfl (hv_at hl 0 rfl) ?_
  refine lv_iload hx hb dX3_begin_39 (hv_at hl 5 rfl) ?_
  obtain ⟨I9, hI9⟩ := ex_eq (upI I8 a0 7 x5)
  replace h := h I9 hI9
  refine v_put (T := TX3) (ty := .int) C hR hS 7 kfl_X3_33 rfl inG3 tyX3 tyX3_ok nmX3 (by decide) rfl hf1 rfl (tyX3_ok 7 (by decide)) rfl rfl (fl_i_3_7 _ _ _) (Nat.le_of_ble_eq_true rfl) hI9 dX3_begin_41 (fun H locs hR hS => ?_)
  refine lv_aload_n hx hb dX3_begin_44 rfl (hv_at hl 0 rfl) ?_
  refine lv_bipush (v := (-5:Int32)) hx hb dX3_begin_45 (by decide) ?_
  obtain ⟨I10, hI10⟩ := ex_eq (upI I9 a0 8 (-5:Int32))
  replace h := h I10 hI10
  refine v_put (T := TX3) (ty := .int) C hR hS 8 kfl_X3_36 rfl inG3 tyX3 tyX3_ok nmX3 (by decide) rfl hf1 rfl (tyX3_ok 8 (by decide)) rfl rfl (fl_i_3_8 _ _ _) (Nat.le_of_ble_eq_true rfl) hI10 dX3_begin_47 (fun H locs hR hS => ?_)
  refine lv_aload_n hx hb dX3_begin_50 rfl (hv_at hl 0 rfl) ?_
  refine lv_bipush (v := (-5:Int32)) hx hb dX3_begin_51 (by decide) ?_
  obtain ⟨I11, hI11⟩ := ex_eq (upI I10 a0 9 (-5:Int32))
  replace h := h I11 hI11
  refine v_put (T := TX3) (ty := .int) C hR hS 9 kfl_X3_39 rfl inG3 tyX3 tyX3_ok nmX3 (by decide) rfl hf1 rfl (tyX3_ok 9 (by decide)) rfl rfl (fl_i_3_9 _ _ _) (Nat.le_of_ble_eq_true rfl) hI11 dX3_begin_53 (fun H locs hR hS => ?_)
  refine lv_aload_n hx hb dX3_begin_56 rfl (hv_at hl 0 rfl) ?_
  refine lv_iconst (v := (0:Int32)) hx hb dX3_begin_57 rfl ?_
  obtain ⟨I12, hI12⟩ := ex_eq (upI I11 a0 10 (0:Int32))
  replace h := h I12 hI12
  refine v_put (T := TX3) (ty := .int) C hR hS 10 kfl_X3_42 rfl inG3 tyX3 tyX3_ok nmX3 (by decide) rfl hf1 rfl (tyX3_ok 10 (by decide)) rfl rfl (fl_i_3_10 _ _ _) (Nat.le_of_ble_eq_true rfl) hI12 dX3_begin_58 (fun H locs hR hS => ?_)
  exact w_vret C rfl hR hS h dX3_begin_61
set_option maxHeartbeats 4000000 in
set_option maxRecDepth 100000 in
theorem L_X1_append (E : Ev) (l : Launch) {K : MK} {R : MR} {n : Nat} (a0 : Nat) (x1 : Int32) (I : MI) (Q : MI → Prop) (h : w_X1_append K R a0 x1 I Q) : MM E l yX1_append cX1_append 2 none 1 21 0 0 [.ref a0, .int x1] K R I n (Qv K R n Q) := by
  refine MM.of1 (by decide) RX1 rfl (cR (cI cN)) (Nat.le_of_ble_eq_true rfl) ?_
  intro p e s m args below meth c ls C hin hR hS hl
  have hx := C.1
  have hb := C.2.1
  have hml := C.2.2.1
  have hown := C.2.2.2.1
  have hts := C.2.2.2.2.1
  have hl : hv ls 2 [(0, .ref a0), (1, .int x1)] := hl
  clear hin
  have hJ32 : ∀ (I : MI) (H : Heap) (locs : List Loc) (ls : Array Slot), w_X1_append_b32 K R a0 x1 Q  I → Rep E K R I n H → va_S (AA E) s.heap H locs → hv ls 2 [] → W p l e (rmM 1 21 0 0) s m args below meth c H locs 0 0 (MQ below (QcM E (Qv K R n Q)) args s 0 0 (AA E)) (F0 m 32 ls []) := by
    intro  I H locs ls h hR hS hl
    unfold w_X1_append_b32 at h
    exact w_vret C rfl hR hS h dX1_append_32
  unfold w_X1_append at h
  refine lv_aload_n hx hb dX1_append_0 rfl (hv_at hl 0 rfl) ?_
  obtain ⟨hf1, h⟩ := h
  refine v_get (T := TX1) (v := .int (I a0 1)) C hR 1 kfl_X1_15 rfl inG1 (by decide) rfl (IsLine.k hf1) rfl dX1_append_1 ?_
  refine lv_bipush (v := (6:Int32)) hx hb dX1_append_4 (by decide) ?_
  refine v_cNi (As := [.int (I a0 1), .int (6:Int32)]) C hR hS hl.1.1 ca_X6_isIndex knm_X1_19 (L_X6_isIndex E l (I a0 1) (6:Int32) I _ h) rfl rfl (Nat.le_of_ble_eq_true rfl) ⟨Nat.le_of_ble_eq_true rfl, Nat.le_of_ble_eq_true rfl⟩ ⟨Nat.zero_le _, Nat.zero_le _⟩ dX1_append_6 (fun v3 I2 H locs h hR hS => ?_)
  refine lv_if_eq (tgt := 32) hx hb dX1_append_9 (by decide) (fun c7 => ?_) (fun c7 => ?_)
  · replace h := h.1 c7
    exact hJ32 I2 _ _ _ h hR hS (hv_sub hl [] rfl)
  · replace h := h.2 c7
    refine lv_aload_n hx hb dX1_append_12 rfl (hv_at hl 0 rfl) ?_
    refine v_get (T := TX1) (v := .ref (a0 + 1)) C hR 0 kfl_X1_9 rfl inG1 (by decide) rfl (IsLine.k hf1) (rf_of (IsLine.r0 hf1 (I2 a0 0))) dX1_append_13 ?_
    refine lv_aload_n hx hb dX1_append_16 rfl (hv_at hl 0 rfl) ?_
    refine v_get (T := TX1) (v := .int (I2 a0 1)) C hR 1 kfl_X1_15 rfl inG1 (by decide) rfl (IsLine.k hf1) rfl dX1_append_17 ?_
    refine lv_iload_n hx hb dX1_append_20 rfl (hv_at hl 1 rfl) ?_
    obtain ⟨hi4, h⟩ := h
    obtain ⟨I5, hI5⟩ := ex_eq (upI I2 (a0 + 1) (ix (I2 a0 1)) x1)
    replace h := h I5 hI5
    refine w_iast C hR hS (IsLine.a0 hf1) hi4 (j := (ix (I2 a0 1))) rfl hI5 dX1_append_21 (fun H locs hR hS => ?_)
    refine lv_aload_n hx hb dX1_append_22 rfl (hv_at hl 0 rfl) ?_
    refine lv_dup hx hb dX1_append_23 rfl ?_
    refine v_get (T := TX1) (v := .int (I5 a0 1)) C hR 1 kfl_X1_15 rfl inG1 (by decide) rfl (IsLine.k hf1) rfl dX1_append_24 ?_
    refine lv_iconst (v := (1:Int32)) hx hb dX1_append_27 rfl ?_
    refine lv_iadd hx hb dX1_append_28 ?_
    obtain ⟨I6, hI6⟩ := ex_eq (upI I5 a0 1 ((I5 a0 1) + (1:Int32)))
    replace h := h I6 hI6
    refine v_put (T := TX1) (ty := .int) C hR hS 1 kfl_X1_15 rfl inG1 tyX1 tyX1_ok nmX1 (by decide) rfl (IsLine.k hf1) rfl (tyX1_ok 1 (by decide)) rfl rfl (fl_i_1_1 _ _ _) (Nat.le_of_ble_eq_true rfl) hI6 dX1_append_29 (fun H locs hR hS => ?_)
    exact hJ32 I6 _ _ _ h hR hS (hv_sub hl [] rfl)
set_option maxHeartbeats 4000000 in
set_option maxRecDepth 100000 in
theorem L_X0_put (E : Ev) (l : Launch) {K : MK} {R : MR} {n : Nat} (a0 : Nat) (x1 : Int32) (x2 : Int32) (x3 : Int32) (x4 : Int32) (I : MI) (Q : Int32 → MI → Prop) (h : w_X0_put K R a0 x1 x2 x3 x4 I Q) : MM E l yX0_put cX0_put 7 (some Jvm.ClassFile.FieldType.int) 2 42 0 0 [.ref a0, .int x1, .int x2, .int x3, .int x4] K R I n (Qi K R n Q) := by
  refine MM.of1 (by decide) RX0 rfl (cR (cI (cI (cI (cI cN))))) (Nat.le_of_ble_eq_true rfl) ?_
  intro p e s m args below meth c ls C hin hR hS hl
  have hx := C.1
  have hb := C.2.1
  have hml := C.2.2.1
  have hown := C.2.2.2.1
  have hts := C.2.2.2.2.1
  have hl : hv ls 7 [(0, .ref a0), (1, .int x1), (2, .int x2), (3, .int x3), (4, .int x4)] := hl
  clear hin
  have hJ25 : ∀ (I : MI) (H : Heap) (locs : List Loc) (ls : Array Slot), w_X0_put_b25 K R a0 x1 x2 x3 x4 Q  I → Rep E K R I n H → va_S (AA E) s.heap H locs → hv ls 7 [] → W p l e (rmM 2 42 0 0) s m args below meth c H locs 0 0 (MQ below (QcM E (Qi K R n Q)) args s 0 0 (AA E)) (F0 m 25 ls []) := by
    intro  I H locs ls h hR hS hl
    unfold w_X0_put_b25 at h
    refine lv_bipush (v := (-5:Int32)) hx hb dX0_put_25 (by decide) ?_
    exact w_ireti C rfl rfl hR hS h dX0_put_27
  unfold w_X0_put at h
  refine lv_aload_n hx hb dX0_put_0 rfl (hv_at hl 0 rfl) ?_
  refine lv_iload_n hx hb dX0_put_1 rfl (hv_at hl 1 rfl) ?_
  obtain ⟨hf1, h⟩ := h
  refine v_cVo (As := [.int x1]) C hR hS hl.1.1 ca_X0_masterAt kml_X0_90 (L_X0_masterAt E l a0 x1 I _ h) (IsBus.k hf1) rfl rfl rfl rfl (Nat.le_of_ble_eq_true rfl) ⟨Nat.le_of_ble_eq_true rfl, Nat.le_of_ble_eq_true rfl⟩ ⟨Nat.zero_le _, Nat.zero_le _⟩ dX0_put_2 (fun o3 I2 H locs h hR hS => ?_)
  refine v_astore (o := o3) (lv' := [(5, va_rf o3), (0, .ref a0), (1, .int x1), (2, .int x2), (3, .int x3), (4, .int x4)]) hx hb dX0_put_5 hl (by decide) rfl (fun ls hl => ?_)
  refine v_aload hx hb dX0_put_7 (hv_at hl 0 rfl) ?_
  refine v_ifnull (tgt := 25) hx hb dX0_put_9 (by decide) (fun e_o3 => ?_) (fun r4 e_o3 => ?_)
  · replace h := h.1 e_o3
    have hl : hv ls 7 [(5, .null), (0, .ref a0), (1, .int x1), (2, .int x2), (3, .int x3), (4, .int x4)] := by (try rw [e_o3] at hl); exact hl
    try rw [e_o3]
    exact hJ25 I2 _ _ _ h hR hS (hv_sub hl [] rfl)
  · replace h := h.2 r4 e_o3
    have hl : hv ls 7 [(5, .ref r4), (0, .ref a0), (1, .int x1), (2, .int x2), (3, .int x3), (4, .int x4)] := by (try rw [e_o3] at hl); exact hl
    try rw [e_o3]
    refine lv_aload_n hx hb dX0_put_12 rfl (hv_at hl 1 rfl) ?_
    refine v_get (T := TX0) (v := .int (I2 a0 5)) C hR 5 kfl_X0_56 rfl inG0 (by decide) rfl (IsBus.k hf1) rfl dX0_put_13 ?_
    refine lv_sipush (v := (200:Int32)) hx hb dX0_put_16 (by decide) ?_
    refine v_cNi (As := [.int (I2 a0 5), .int (200:Int32)]) C hR hS hl.1.1 ca_X6_isIndex knm_X0_86 (L_X6_isIndex E l (I2 a0 5) (200:Int32) I2 _ h) rfl rfl (Nat.le_of_ble_eq_true rfl) ⟨Nat.le_of_ble_eq_true rfl, Nat.le_of_ble_eq_true rfl⟩ ⟨Nat.zero_le _, Nat.zero_le _⟩ dX0_put_19 (fun v6 I5 H locs h hR hS => ?_)
    refine lv_if_ne (tgt := 28) hx hb dX0_put_22 (by decide) (fun c12 => ?_) (fun c12 => ?_)
    · replace h := h.1 c12
      refine lv_aload_n hx hb dX0_put_28 rfl (hv_at hl 1 rfl) ?_
      refine v_get (T := TX0) (v := .int (I5 a0 5)) C hR 5 kfl_X0_56 rfl inG0 (by decide) rfl (IsBus.k hf1) rfl dX0_put_29 ?_
      refine v_istore (lv' := [(6, .int (I5 a0 5)), (5, .ref r4), (0, .ref a0), (1, .int x1), (2, .int x2), (3, .int x3), (4, .int x4)]) hx hb dX0_put_32 hl (by decide) rfl (fun ls hl => ?_)
      refine lv_aload_n hx hb dX0_put_34 rfl (hv_at hl 2 rfl) ?_
      refine v_get (T := TX0) (v := .ref (a0 + 5)) C hR 4 kfl_X0_32 rfl inG0 (by decide) rfl (IsBus.k hf1) (rf_of (IsBus.r4 hf1 (I5 a0 4))) dX0_put_35 ?_
      refine lv_iload hx hb dX0_put_38 (hv_at hl 0 rfl) ?_
      obtain ⟨hi7, h⟩ := h
      refine w_aald C hR (w := a0 + 38 + (ix (I5 a0 5))) (IsBus.a4 hf1) (by decide) rfl rfl hi7 (j := (ix (I5 a0 5))) rfl (IsBus.e4 hf1 (vp_lt hi7) _) dX0_put_40 ?_
      refine lv_iload_n hx hb dX0_put_41 rfl (hv_at hl 3 rfl) ?_
      refine lv_iload_n hx hb dX0_put_42 rfl (hv_at hl 4 rfl) ?_
      refine lv_iload_n hx hb dX0_put_43 rfl (hv_at hl 5 rfl) ?_
      refine lv_iload hx hb dX0_put_44 (hv_at hl 6 rfl) ?_
      refine lv_aload_n hx hb dX0_put_46 rfl (hv_at hl 2 rfl) ?_
      refine v_get (T := TX0) (v := .int (I5 a0 6)) C hR 6 kfl_X0_62 rfl inG0 (by decide) rfl (IsBus.k hf1) rfl dX0_put_47 ?_
      refine v_cVv (As := [.int x1, .int x2, .int x3, .int x4, .int (I5 a0 6)]) C hR hS hl.1.1 ca_X3_begin kml_X0_94 (L_X3_begin E l (a0 + 38 + (ix (I5 a0 5))) x1 x2 x3 x4 (I5 a0 6) I5 _ h) (IsBus.p4 hf1 (vp_lt hi7)) rfl rfl rfl rfl (Nat.le_of_ble_eq_true rfl) ⟨Nat.le_of_ble_eq_true rfl, Nat.le_of_ble_eq_true rfl⟩ ⟨Nat.zero_le _, Nat.zero_le _⟩ dX0_put_50 (fun I8 H locs h hR hS => ?_)
      refine lv_aload_n hx hb dX0_put_53 rfl (hv_at hl 2 rfl) ?_
      refine lv_dup hx hb dX0_put_54 rfl ?_
      refine v_get (T := TX0) (v := .int (I8 a0 5)) C hR 5 kfl_X0_56 rfl inG0 (by decide) rfl (IsBus.k hf1) rfl dX0_put_55 ?_
      refine lv_iconst (v := (1:Int32)) hx hb dX0_put_58 rfl ?_
      refine lv_iadd hx hb dX0_put_59 ?_
      obtain ⟨I9, hI9⟩ := ex_eq (upI I8 a0 5 ((I8 a0 5) + (1:Int32)))
      replace h := h I9 hI9
      refine v_put (T := TX0) (ty := .int) C hR hS 5 kfl_X0_56 rfl inG0 tyX0 tyX0_ok nmX0 (by decide) rfl (IsBus.k hf1) rfl (tyX0_ok 5 (by decide)) rfl rfl (fl_i_0_5 _ _ _) (Nat.le_of_ble_eq_true rfl) hI9 dX0_put_60 (fun H locs hR hS => ?_)
      refine lv_aload hx hb dX0_put_63 (hv_at hl 1 rfl) ?_
      obtain ⟨hf10, h⟩ := h
      refine v_get (T := TX2) (v := .ref (r4 + 1)) C hR 0 kfl_X0_98 rfl inG2 (by decide) rfl (IsMaster.k hf10) (rf_of (IsMaster.r0 hf10 (I9 r4 0))) dX0_put_65 ?_
      refine lv_iload hx hb dX0_put_68 (hv_at hl 0 rfl) ?_
      refine v_cVv (As := [.int (I5 a0 5)]) C hR hS hl.1.1 ca_X1_append kml_X0_102 (L_X1_append E l (r4 + 1) (I5 a0 5) I9 _ h) (IsLine.k (IsMaster.o0 hf10)) rfl rfl rfl rfl (Nat.le_of_ble_eq_true rfl) ⟨Nat.le_of_ble_eq_true rfl, Nat.le_of_ble_eq_true rfl⟩ ⟨Nat.zero_le _, Nat.zero_le _⟩ dX0_put_70 (fun I11 H locs h hR hS => ?_)
      refine lv_iload hx hb dX0_put_73 (hv_at hl 0 rfl) ?_
      exact w_ireti C rfl rfl hR hS h dX0_put_75
    · replace h := h.2 c12
      exact hJ25 I5 _ _ _ h hR hS (hv_sub hl [] rfl)
set_option maxHeartbeats 4000000 in
set_option maxRecDepth 100000 in
theorem L_X6_putOne (E : Ev) (l : Launch) {K : MK} {R : MR} {n : Nat} (a0 : Nat) (x1 : Int32) (x2 : Int32) (x3 : Int32) (x4 : Int32) (I : MI) (Q : Int32 → MI → Prop) (h : w_X6_putOne K R a0 x1 x2 x3 x4 I Q) : MM E l yX6_putOne cX6_putOne 6 (some Jvm.ClassFile.FieldType.int) 5 112 0 0 [.ref a0, .int x1, .int x2, .int x3, .int x4] K R I n (Qi K R n Q) := by
  refine MM.of1 (by decide) RX6 rfl (cR (cI (cI (cI (cI cN))))) (Nat.le_of_ble_eq_true rfl) ?_
  intro p e s m args below meth c ls C hin hR hS hl
  have hx := C.1
  have hb := C.2.1
  have hml := C.2.2.1
  have hown := C.2.2.2.1
  have hts := C.2.2.2.2.1
  have hl : hv ls 6 [(0, .ref a0), (1, .int x1), (2, .int x2), (3, .int x3), (4, .int x4)] := hl
  clear hin
  have hJ26 : ∀ (I : MI) (H : Heap) (locs : List Loc) (ls : Array Slot), w_X6_putOne_b26 K R a0 x1 x2 x3 x4 Q  I → Rep E K R I n H → va_S (AA E) s.heap H locs → hv ls 6 [] → W p l e (rmM 5 112 0 0) s m args below meth c H locs 0 0 (MQ below (QcM E (Qi K R n Q)) args s 0 0 (AA E)) (F0 m 26 ls []) := by
    intro  I H locs ls h hR hS hl
    unfold w_X6_putOne_b26 at h
    refine lv_iconst (v := (-1:Int32)) hx hb dX6_putOne_26 rfl ?_
    exact w_ireti C rfl rfl hR hS h dX6_putOne_27
  have hJ66 : ∀ (I : MI) (H : Heap) (locs : List Loc) (ls : Array Slot), w_X6_putOne_b66 K R a0 x1 x2 x3 x4 Q  I → Rep E K R I n H → va_S (AA E) s.heap H locs → hv ls 6 [] → W p l e (rmM 5 112 0 0) s m args below meth c H locs 0 0 (MQ below (QcM E (Qi K R n Q)) args s 0 0 (AA E)) (F0 m 66 ls []) := by
    intro  I H locs ls h hR hS hl
    unfold w_X6_putOne_b66 at h
    refine lv_bipush (v := (-3:Int32)) hx hb dX6_putOne_66 (by decide) ?_
    exact w_ireti C rfl rfl hR hS h dX6_putOne_68
  unfold w_X6_putOne at h
  refine lv_aload_n hx hb dX6_putOne_0 rfl (hv_at hl 0 rfl) ?_
  obtain ⟨hf1, h⟩ := h
  refine v_get (T := TX6) (v := .ref (a0 + 1)) C hR 0 kfl_X6_10 rfl inG6 (by decide) rfl (IsTag.k hf1) (rf_of (IsTag.r0 hf1 (I a0 0))) dX6_putOne_1 ?_
  refine lv_iload_n hx hb dX6_putOne_4 rfl (hv_at hl 1 rfl) ?_
  refine v_cVo (As := [.int x1]) C hR hS hl.1.1 ca_X0_masterAt kml_X6_58 (L_X0_masterAt E l (a0 + 1) x1 I _ h) (IsBus.k (IsTag.o0 hf1)) rfl rfl rfl rfl (Nat.le_of_ble_eq_true rfl) ⟨Nat.le_of_ble_eq_true rfl, Nat.le_of_ble_eq_true rfl⟩ ⟨Nat.zero_le _, Nat.zero_le _⟩ dX6_putOne_5 (fun o3 I2 H locs h hR hS => ?_)
  refine v_astore (o := o3) (lv' := [(5, va_rf o3), (0, .ref a0), (1, .int x1), (2, .int x2), (3, .int x3), (4, .int x4)]) hx hb dX6_putOne_8 hl (by decide) rfl (fun ls hl => ?_)
  refine v_aload hx hb dX6_putOne_10 (hv_at hl 0 rfl) ?_
  refine v_ifnull (tgt := 26) hx hb dX6_putOne_12 (by decide) (fun e_o3 => ?_) (fun r4 e_o3 => ?_)
  · replace h := h.1 e_o3
    have hl : hv ls 6 [(5, .null), (0, .ref a0), (1, .int x1), (2, .int x2), (3, .int x3), (4, .int x4)] := by (try rw [e_o3] at hl); exact hl
    try rw [e_o3]
    exact hJ26 I2 _ _ _ h hR hS (hv_sub hl [] rfl)
  · replace h := h.2 r4 e_o3
    have hl : hv ls 6 [(5, .ref r4), (0, .ref a0), (1, .int x1), (2, .int x2), (3, .int x3), (4, .int x4)] := by (try rw [e_o3] at hl); exact hl
    try rw [e_o3]
    refine lv_aload_n hx hb dX6_putOne_15 rfl (hv_at hl 1 rfl) ?_
    refine v_get (T := TX6) (v := .ref (a0 + 1)) C hR 0 kfl_X6_10 rfl inG6 (by decide) rfl (IsTag.k hf1) (rf_of (IsTag.r0 hf1 (I2 a0 0))) dX6_putOne_16 ?_
    refine lv_iload_n hx hb dX6_putOne_19 rfl (hv_at hl 3 rfl) ?_
    refine v_cVo (As := [.int x2]) C hR hS hl.1.1 ca_X0_targetAt kml_X6_68 (L_X0_targetAt E l (a0 + 1) x2 I2 _ h) (IsBus.k (IsTag.o0 hf1)) rfl rfl rfl rfl (Nat.le_of_ble_eq_true rfl) ⟨Nat.le_of_ble_eq_true rfl, Nat.le_of_ble_eq_true rfl⟩ ⟨Nat.zero_le _, Nat.zero_le _⟩ dX6_putOne_20 (fun o6 I5 H locs h hR hS => ?_)
    refine v_ifnonnull (tgt := 28) hx hb dX6_putOne_23 (by decide) (fun e_o6 => ?_) (fun r7 e_o6 => ?_)
    · replace h := h.1 e_o6
      have hl : hv ls 6 [(5, .ref r4), (0, .ref a0), (1, .int x1), (2, .int x2), (3, .int x3), (4, .int x4)] := by (try rw [e_o6] at hl); exact hl
      try rw [e_o6]
      exact hJ26 I5 _ _ _ h hR hS (hv_sub hl [] rfl)
    · replace h := h.2 r7 e_o6
      have hl : hv ls 6 [(5, .ref r4), (0, .ref a0), (1, .int x1), (2, .int x2), (3, .int x3), (4, .int x4)] := by (try rw [e_o6] at hl); exact hl
      try rw [e_o6]
      refine lv_iload_n hx hb dX6_putOne_28 rfl (hv_at hl 4 rfl) ?_
      refine lv_bipush (v := (16:Int32)) hx hb dX6_putOne_29 (by decide) ?_
      refine v_cSi (As := [.int x3, .int (16:Int32)]) C hR hS hl.1.1 ca_X6_isIndex kml_X6_37 (L_X6_isIndex E l x3 (16:Int32) I5 _ h) rfl rfl (Nat.le_of_ble_eq_true rfl) ⟨Nat.le_of_ble_eq_true rfl, Nat.le_of_ble_eq_true rfl⟩ ⟨Nat.zero_le _, Nat.zero_le _⟩ dX6_putOne_31 (fun v9 I8 H locs h hR hS => ?_)
      refine lv_if_ne (tgt := 40) hx hb dX6_putOne_34 (by decide) (fun c16 => ?_) (fun c16 => ?_)
      · replace h := h.1 c16
        refine lv_aload hx hb dX6_putOne_40 (hv_at hl 0 rfl) ?_
        obtain ⟨hf10, h⟩ := h
        refine v_get (T := TX2) (v := .ref (r4 + 1)) C hR 0 kfl_X6_121 rfl inG2 (by decide) rfl (IsMaster.k hf10) (rf_of (IsMaster.r0 hf10 (I8 r4 0))) dX6_putOne_42 ?_
        refine v_get (T := TX1) (v := .int (I8 (r4 + 1) 1)) C hR 1 kfl_X6_125 rfl inG1 (by decide) rfl (IsLine.k (IsMaster.o0 hf10)) rfl dX6_putOne_45 ?_
        refine lv_bipush (v := (6:Int32)) hx hb dX6_putOne_48 (by decide) ?_
        refine lv_icmp_ge (tgt := 66) hx hb dX6_putOne_50 (by decide) (fun c15 => ?_) (fun c15 => ?_)
        · replace h := h.1 c15
          exact hJ66 I8 _ _ _ h hR hS (hv_sub hl [] rfl)
        · replace h := h.2 c15
          refine lv_aload_n hx hb dX6_putOne_53 rfl (hv_at hl 1 rfl) ?_
          refine v_get (T := TX6) (v := .ref (a0 + 1)) C hR 0 kfl_X6_10 rfl inG6 (by decide) rfl (IsTag.k hf1) (rf_of (IsTag.r0 hf1 (I8 a0 0))) dX6_putOne_54 ?_
          refine v_get (T := TX0) (v := .int (I8 (a0 + 1) 5)) C hR 5 kfl_X6_218 rfl inG0 (by decide) rfl (IsBus.k (IsTag.o0 hf1)) rfl dX6_putOne_57 ?_
          refine lv_sipush (v := (200:Int32)) hx hb dX6_putOne_60 (by decide) ?_
          refine lv_icmp_lt (tgt := 69) hx hb dX6_putOne_63 (by decide) (fun c14 => ?_) (fun c14 => ?_)
          · replace h := h.1 c14
            refine lv_aload_n hx hb dX6_putOne_69 rfl (hv_at hl 1 rfl) ?_
            refine v_cVv (As := []) C hR hS hl.1.1 ca_X6_record kml_X6_55 (L_X6_record E l a0 I8 _ h) (IsTag.k hf1) rfl rfl rfl rfl (Nat.le_of_ble_eq_true rfl) ⟨Nat.le_of_ble_eq_true rfl, Nat.le_of_ble_eq_true rfl⟩ ⟨Nat.zero_le _, Nat.zero_le _⟩ dX6_putOne_70 (fun I11 H locs h hR hS => ?_)
            refine lv_aload_n hx hb dX6_putOne_73 rfl (hv_at hl 1 rfl) ?_
            refine v_get (T := TX6) (v := .ref (a0 + 1)) C hR 0 kfl_X6_10 rfl inG6 (by decide) rfl (IsTag.k hf1) (rf_of (IsTag.r0 hf1 (I11 a0 0))) dX6_putOne_74 ?_
            refine lv_iload_n hx hb dX6_putOne_77 rfl (hv_at hl 2 rfl) ?_
            refine lv_iload_n hx hb dX6_putOne_78 rfl (hv_at hl 3 rfl) ?_
            refine lv_iload_n hx hb dX6_putOne_79 rfl (hv_at hl 4 rfl) ?_
            refine lv_iload hx hb dX6_putOne_80 (hv_at hl 5 rfl) ?_
            refine v_cVi (As := [.int x1, .int x2, .int x3, .int x4]) C hR hS hl.1.1 ca_X0_put kml_X6_118 (L_X0_put E l (a0 + 1) x1 x2 x3 x4 I11 _ h) (IsBus.k (IsTag.o0 hf1)) rfl rfl rfl rfl (Nat.le_of_ble_eq_true rfl) ⟨Nat.le_of_ble_eq_true rfl, Nat.le_of_ble_eq_true rfl⟩ ⟨Nat.zero_le _, Nat.zero_le _⟩ dX6_putOne_82 (fun v13 I12 H locs h hR hS => ?_)
            exact w_ireti C rfl rfl hR hS h dX6_putOne_85
          · replace h := h.2 c14
            exact hJ66 I8 _ _ _ h hR hS (hv_sub hl [] rfl)
      · replace h := h.2 c16
        refine lv_bipush (v := (-2:Int32)) hx hb dX6_putOne_37 (by decide) ?_
        exact w_ireti C rfl rfl hR hS h dX6_putOne_39
set_option maxHeartbeats 4000000 in
set_option maxRecDepth 100000 in
theorem L_X6_read (E : Ev) (l : Launch) {K : MK} {R : MR} {n : Nat} (a0 : Nat) (x1 : Int32) (x2 : Int32) (x3 : Int32) (I : MI) (Q : Int32 → MI → Prop) (h : w_X6_read K R a0 x1 x2 x3 I Q) : MM E l yX6_read cX6_read 4 (some Jvm.ClassFile.FieldType.int) 6 137 0 0 [.ref a0, .int x1, .int x2, .int x3] K R I n (Qi K R n Q) := by
  refine MM.of1 (by decide) RX6 rfl (cR (cI (cI (cI cN)))) (Nat.le_of_ble_eq_true rfl) ?_
  intro p e s m args below meth c ls C hin hR hS hl
  have hx := C.1
  have hb := C.2.1
  have hml := C.2.2.1
  have hown := C.2.2.2.1
  have hts := C.2.2.2.2.1
  have hl : hv ls 4 [(0, .ref a0), (1, .int x1), (2, .int x2), (3, .int x3)] := hl
  clear hin
  unfold w_X6_read at h
  refine lv_aload_n hx hb dX6_read_0 rfl (hv_at hl 0 rfl) ?_
  refine lv_iload_n hx hb dX6_read_1 rfl (hv_at hl 1 rfl) ?_
  refine lv_iload_n hx hb dX6_read_2 rfl (hv_at hl 2 rfl) ?_
  refine lv_iload_n hx hb dX6_read_3 rfl (hv_at hl 3 rfl) ?_
  refine lv_bipush (v := (-5:Int32)) hx hb dX6_read_4 (by decide) ?_
  obtain ⟨hf1, h⟩ := h
  refine v_cVi (As := [.int x1, .int x2, .int x3, .int (-5:Int32)]) C hR hS hl.1.1 ca_X6_putOne kml_X6_86 (L_X6_putOne E l a0 x1 x2 x3 (-5:Int32) I _ h) (IsTag.k hf1) rfl rfl rfl rfl (Nat.le_of_ble_eq_true rfl) ⟨Nat.le_of_ble_eq_true rfl, Nat.le_of_ble_eq_true rfl⟩ ⟨Nat.zero_le _, Nat.zero_le _⟩ dX6_read_6 (fun v3 I2 H locs h hR hS => ?_)
  exact w_ireti C rfl rfl hR hS h dX6_read_9
set_option maxHeartbeats 4000000 in
set_option maxRecDepth 100000 in
theorem L_X6_write (E : Ev) (l : Launch) {K : MK} {R : MR} {n : Nat} (a0 : Nat) (x1 : Int32) (x2 : Int32) (x3 : Int32) (x4 : Int32) (I : MI) (Q : Int32 → MI → Prop) (h : w_X6_write K R a0 x1 x2 x3 x4 I Q) : MM E l yX6_write cX6_write 5 (some Jvm.ClassFile.FieldType.int) 6 137 0 0 [.ref a0, .int x1, .int x2, .int x3, .int x4] K R I n (Qi K R n Q) := by
  refine MM.of1 (by decide) RX6 rfl (cR (cI (cI (cI (cI cN))))) (Nat.le_of_ble_eq_true rfl) ?_
  intro p e s m args below meth c ls C hin hR hS hl
  have hx := C.1
  have hb := C.2.1
  have hml := C.2.2.1
  have hown := C.2.2.2.1
  have hts := C.2.2.2.2.1
  have hl : hv ls 5 [(0, .ref a0), (1, .int x1), (2, .int x2), (3, .int x3), (4, .int x4)] := hl
  clear hin
  have hJ22 : ∀ (I : MI) (H : Heap) (locs : List Loc) (ls : Array Slot), w_X6_write_b22 K R a0 x1 x2 x3 x4 Q  I → Rep E K R I n H → va_S (AA E) s.heap H locs → hv ls 5 [] → W p l e (rmM 6 137 0 0) s m args below meth c H locs 0 0 (MQ below (QcM E (Qi K R n Q)) args s 0 0 (AA E)) (F0 m 22 ls []) := by
    intro  I H locs ls h hR hS hl
    unfold w_X6_write_b22 at h
    refine lv_iconst (v := (-1:Int32)) hx hb dX6_write_22 rfl ?_
    exact w_ireti C rfl rfl hR hS h dX6_write_23
  unfold w_X6_write at h
  refine lv_aload_n hx hb dX6_write_0 rfl (hv_at hl 0 rfl) ?_
  obtain ⟨hf1, h⟩ := h
  refine v_get (T := TX6) (v := .ref (a0 + 1)) C hR 0 kfl_X6_10 rfl inG6 (by decide) rfl (IsTag.k hf1) (rf_of (IsTag.r0 hf1 (I a0 0))) dX6_write_1 ?_
  refine lv_iload_n hx hb dX6_write_4 rfl (hv_at hl 1 rfl) ?_
  refine v_cVo (As := [.int x1]) C hR hS hl.1.1 ca_X0_masterAt kml_X6_58 (L_X0_masterAt E l (a0 + 1) x1 I _ h) (IsBus.k (IsTag.o0 hf1)) rfl rfl rfl rfl (Nat.le_of_ble_eq_true rfl) ⟨Nat.le_of_ble_eq_true rfl, Nat.le_of_ble_eq_true rfl⟩ ⟨Nat.zero_le _, Nat.zero_le _⟩ dX6_write_5 (fun o3 I2 H locs h hR hS => ?_)
  refine v_ifnull (tgt := 22) hx hb dX6_write_8 (by decide) (fun e_o3 => ?_) (fun r4 e_o3 => ?_)
  · replace h := h.1 e_o3
    have hl : hv ls 5 [(0, .ref a0), (1, .int x1), (2, .int x2), (3, .int x3), (4, .int x4)] := by (try rw [e_o3] at hl); exact hl
    try rw [e_o3]
    exact hJ22 I2 _ _ _ h hR hS (hv_sub hl [] rfl)
  · replace h := h.2 r4 e_o3
    have hl : hv ls 5 [(0, .ref a0), (1, .int x1), (2, .int x2), (3, .int x3), (4, .int x4)] := by (try rw [e_o3] at hl); exact hl
    try rw [e_o3]
    refine lv_aload_n hx hb dX6_write_11 rfl (hv_at hl 0 rfl) ?_
    refine v_get (T := TX6) (v := .ref (a0 + 1)) C hR 0 kfl_X6_10 rfl inG6 (by decide) rfl (IsTag.k hf1) (rf_of (IsTag.r0 hf1 (I2 a0 0))) dX6_write_12 ?_
    refine lv_iload_n hx hb dX6_write_15 rfl (hv_at hl 2 rfl) ?_
    refine v_cVo (As := [.int x2]) C hR hS hl.1.1 ca_X0_targetAt kml_X6_68 (L_X0_targetAt E l (a0 + 1) x2 I2 _ h) (IsBus.k (IsTag.o0 hf1)) rfl rfl rfl rfl (Nat.le_of_ble_eq_true rfl) ⟨Nat.le_of_ble_eq_true rfl, Nat.le_of_ble_eq_true rfl⟩ ⟨Nat.zero_le _, Nat.zero_le _⟩ dX6_write_16 (fun o6 I5 H locs h hR hS => ?_)
    refine v_ifnonnull (tgt := 24) hx hb dX6_write_19 (by decide) (fun e_o6 => ?_) (fun r7 e_o6 => ?_)
    · replace h := h.1 e_o6
      have hl : hv ls 5 [(0, .ref a0), (1, .int x1), (2, .int x2), (3, .int x3), (4, .int x4)] := by (try rw [e_o6] at hl); exact hl
      try rw [e_o6]
      exact hJ22 I5 _ _ _ h hR hS (hv_sub hl [] rfl)
    · replace h := h.2 r7 e_o6
      have hl : hv ls 5 [(0, .ref a0), (1, .int x1), (2, .int x2), (3, .int x3), (4, .int x4)] := by (try rw [e_o6] at hl); exact hl
      try rw [e_o6]
      refine lv_iload hx hb dX6_write_24 (hv_at hl 4 rfl) ?_
      refine lv_iconst (v := (0:Int32)) hx hb dX6_write_26 rfl ?_
      refine lv_bipush (v := (99:Int32)) hx hb dX6_write_27 (by decide) ?_
      refine v_cSi (As := [.int x4, .int (0:Int32), .int (99:Int32)]) C hR hS hl.1.1 ca_X6_isBetween kml_X6_44 (L_X6_isBetween E l x4 (0:Int32) (99:Int32) I5 _ h) rfl rfl (Nat.le_of_ble_eq_true rfl) ⟨Nat.le_of_ble_eq_true rfl, Nat.le_of_ble_eq_true rfl⟩ ⟨Nat.zero_le _, Nat.zero_le _⟩ dX6_write_29 (fun v9 I8 H locs h hR hS => ?_)
      refine lv_if_ne (tgt := 38) hx hb dX6_write_32 (by decide) (fun c12 => ?_) (fun c12 => ?_)
      · replace h := h.1 c12
        refine lv_aload_n hx hb dX6_write_38 rfl (hv_at hl 0 rfl) ?_
        refine lv_iload_n hx hb dX6_write_39 rfl (hv_at hl 1 rfl) ?_
        refine lv_iload_n hx hb dX6_write_40 rfl (hv_at hl 2 rfl) ?_
        refine lv_iload_n hx hb dX6_write_41 rfl (hv_at hl 3 rfl) ?_
        refine lv_iload hx hb dX6_write_42 (hv_at hl 4 rfl) ?_
        refine v_cVi (As := [.int x1, .int x2, .int x3, .int x4]) C hR hS hl.1.1 ca_X6_putOne kml_X6_86 (L_X6_putOne E l a0 x1 x2 x3 x4 I8 _ h) (IsTag.k hf1) rfl rfl rfl rfl (Nat.le_of_ble_eq_true rfl) ⟨Nat.le_of_ble_eq_true rfl, Nat.le_of_ble_eq_true rfl⟩ ⟨Nat.zero_le _, Nat.zero_le _⟩ dX6_write_44 (fun v11 I10 H locs h hR hS => ?_)
        exact w_ireti C rfl rfl hR hS h dX6_write_47
      · replace h := h.2 c12
        refine lv_bipush (v := (-2:Int32)) hx hb dX6_write_35 (by decide) ?_
        exact w_ireti C rfl rfl hR hS h dX6_write_37
set_option maxHeartbeats 4000000 in
set_option maxRecDepth 100000 in
theorem L_X1_at (E : Ev) (l : Launch) {K : MK} {R : MR} {n : Nat} (a0 : Nat) (x1 : Int32) (I : MI) (Q : Int32 → MI → Prop) (h : w_X1_at K R a0 x1 I Q) : MM E l yX1_at cX1_at 2 (some Jvm.ClassFile.FieldType.int) 1 21 0 0 [.ref a0, .int x1] K R I n (Qi K R n Q) := by
  refine MM.of1 (by decide) RX1 rfl (cR (cI cN)) (Nat.le_of_ble_eq_true rfl) ?_
  intro p e s m args below meth c ls C hin hR hS hl
  have hx := C.1
  have hb := C.2.1
  have hml := C.2.2.1
  have hown := C.2.2.2.1
  have hts := C.2.2.2.2.1
  have hl : hv ls 2 [(0, .ref a0), (1, .int x1)] := hl
  clear hin
  have hJ31 : ∀ (z0_31 : Int32) (I : MI) (H : Heap) (locs : List Loc) (ls : Array Slot), w_X1_at_b31 K R a0 x1 Q z0_31 I → Rep E K R I n H → va_S (AA E) s.heap H locs → hv ls 2 [] → W p l e (rmM 1 21 0 0) s m args below meth c H locs 0 0 (MQ below (QcM E (Qi K R n Q)) args s 0 0 (AA E)) (F0 m 31 ls [.int z0_31]) := by
    intro z0_31 I H locs ls h hR hS hl
    unfold w_X1_at_b31 at h
    exact w_ireti C rfl rfl hR hS h dX1_at_31
  have hJ29 : ∀ (I : MI) (H : Heap) (locs : List Loc) (ls : Array Slot), w_X1_at_b29 K R a0 x1 Q  I → Rep E K R I n H → va_S (AA E) s.heap H locs → hv ls 2 [] → W p l e (rmM 1 21 0 0) s m args below meth c H locs 0 0 (MQ below (QcM E (Qi K R n Q)) args s 0 0 (AA E)) (F0 m 29 ls []) := by
    intro  I H locs ls h hR hS hl
    unfold w_X1_at_b29 at h
    refine lv_bipush (v := (-5:Int32)) hx hb dX1_at_29 (by decide) ?_
    exact hJ31 (-5:Int32) I _ _ _ h hR hS (hv_sub hl [] rfl)
  unfold w_X1_at at h
  refine lv_iload_n hx hb dX1_at_0 rfl (hv_at hl 1 rfl) ?_
  refine lv_aload_n hx hb dX1_at_1 rfl (hv_at hl 0 rfl) ?_
  obtain ⟨hf1, h⟩ := h
  refine v_get (T := TX1) (v := .int (I a0 1)) C hR 1 kfl_X1_15 rfl inG1 (by decide) rfl (IsLine.k hf1) rfl dX1_at_2 ?_
  refine v_cNi (As := [.int x1, .int (I a0 1)]) C hR hS hl.1.1 ca_X6_isIndex knm_X1_19 (L_X6_isIndex E l x1 (I a0 1) I _ h) rfl rfl (Nat.le_of_ble_eq_true rfl) ⟨Nat.le_of_ble_eq_true rfl, Nat.le_of_ble_eq_true rfl⟩ ⟨Nat.zero_le _, Nat.zero_le _⟩ dX1_at_5 (fun v3 I2 H locs h hR hS => ?_)
  refine lv_if_eq (tgt := 29) hx hb dX1_at_8 (by decide) (fun c8 => ?_) (fun c8 => ?_)
  · replace h := h.1 c8
    exact hJ29 I2 _ _ _ h hR hS (hv_sub hl [] rfl)
  · replace h := h.2 c8
    refine lv_iload_n hx hb dX1_at_11 rfl (hv_at hl 1 rfl) ?_
    refine lv_bipush (v := (6:Int32)) hx hb dX1_at_12 (by decide) ?_
    refine v_cNi (As := [.int x1, .int (6:Int32)]) C hR hS hl.1.1 ca_X6_isIndex knm_X1_19 (L_X6_isIndex E l x1 (6:Int32) I2 _ h) rfl rfl (Nat.le_of_ble_eq_true rfl) ⟨Nat.le_of_ble_eq_true rfl, Nat.le_of_ble_eq_true rfl⟩ ⟨Nat.zero_le _, Nat.zero_le _⟩ dX1_at_14 (fun v5 I4 H locs h hR hS => ?_)
    refine lv_if_eq (tgt := 29) hx hb dX1_at_17 (by decide) (fun c7 => ?_) (fun c7 => ?_)
    · replace h := h.1 c7
      exact hJ29 I4 _ _ _ h hR hS (hv_sub hl [] rfl)
    · replace h := h.2 c7
      refine lv_aload_n hx hb dX1_at_20 rfl (hv_at hl 0 rfl) ?_
      refine v_get (T := TX1) (v := .ref (a0 + 1)) C hR 0 kfl_X1_9 rfl inG1 (by decide) rfl (IsLine.k hf1) (rf_of (IsLine.r0 hf1 (I4 a0 0))) dX1_at_21 ?_
      refine lv_iload_n hx hb dX1_at_24 rfl (hv_at hl 1 rfl) ?_
      obtain ⟨hi6, h⟩ := h
      refine w_iald C hR (IsLine.a0 hf1) hi6 (j := (ix x1)) rfl dX1_at_25 ?_
      refine lv_goto (tgt := 31) hx hb dX1_at_26 (by decide) ?_
      exact hJ31 (I4 (a0 + 1) (ix x1)) I4 _ _ _ h hR hS (hv_sub hl [] rfl)
set_option maxHeartbeats 4000000 in
set_option maxRecDepth 100000 in
theorem L_X1_removeAt (E : Ev) (l : Launch) {K : MK} {R : MR} {n : Nat} (a0 : Nat) (x1 : Int32) (I : MI) (Q : MI → Prop) (h : w_X1_removeAt K R a0 x1 I Q) : MM E l yX1_removeAt cX1_removeAt 3 none 1 21 0 0 [.ref a0, .int x1] K R I n (Qv K R n Q) := by
  refine MM.of1 (by decide) RX1 rfl (cR (cI cN)) (Nat.le_of_ble_eq_true rfl) ?_
  intro p e s m args below meth c ls C hin hR hS hl
  have hx := C.1
  have hb := C.2.1
  have hml := C.2.2.1
  have hown := C.2.2.2.1
  have hts := C.2.2.2.2.1
  have hl : hv ls 3 [(0, .ref a0), (1, .int x1)] := hl
  clear hin
  have hJ50 : ∀ (I : MI) (H : Heap) (locs : List Loc) (ls : Array Slot), w_X1_removeAt_b50 K R a0 x1 Q  I → Rep E K R I n H → va_S (AA E) s.heap H locs → hv ls 3 [(0, .ref a0)] → W p l e (rmM 1 21 0 0) s m args below meth c H locs 0 0 (MQ below (QcM E (Qv K R n Q)) args s 0 0 (AA E)) (F0 m 50 ls []) := by
    intro  I H locs ls h hR hS hl
    unfold w_X1_removeAt_b50 at h
    refine lv_aload_n hx hb dX1_removeAt_50 rfl (hv_at hl 0 rfl) ?_
    refine lv_dup hx hb dX1_removeAt_51 rfl ?_
    obtain ⟨hf1, h⟩ := h
    refine v_get (T := TX1) (v := .int (I a0 1)) C hR 1 kfl_X1_15 rfl inG1 (by decide) rfl (IsLine.k hf1) rfl dX1_removeAt_52 ?_
    refine lv_iconst (v := (1:Int32)) hx hb dX1_removeAt_55 rfl ?_
    refine lv_isub hx hb dX1_removeAt_56 ?_
    obtain ⟨I2, hI2⟩ := ex_eq (upI I a0 1 ((I a0 1) - (1:Int32)))
    replace h := h I2 hI2
    refine v_put (T := TX1) (ty := .int) C hR hS 1 kfl_X1_15 rfl inG1 tyX1 tyX1_ok nmX1 (by decide) rfl (IsLine.k hf1) rfl (tyX1_ok 1 (by decide)) rfl rfl (fl_i_1_1 _ _ _) (Nat.le_of_ble_eq_true rfl) hI2 dX1_removeAt_57 (fun H locs hR hS => ?_)
    exact w_vret C rfl hR hS h dX1_removeAt_60
  have hJ16 : ∀ (y2_16 : Int32) (I : MI) (H : Heap) (locs : List Loc) (ls : Array Slot), w_X1_removeAt_b16 K R a0 x1 Q y2_16 I → Rep E K R I n H → va_S (AA E) s.heap H locs → hv ls 3 [(0, .ref a0), (2, .int y2_16)] → W p l e (rmM 1 21 0 0) s m args below meth c H locs 0 0 (MQ below (QcM E (Qv K R n Q)) args s 0 0 (AA E)) (F0 m 16 ls []) := by
    intro y2_16 I H locs ls h hR hS hl
    obtain ⟨X16, hX16⟩ : ∃ X : Int32 → MI → Prop, ∀ (y2_16 : Int32) (I : MI), X y2_16 I ↔ (∀ (H : Heap) (locs : List Loc) (ls : Array Slot), Rep E K R I n H → va_S (AA E) s.heap H locs → hv ls 3 [(0, .ref a0), (2, .int y2_16)] → W p l e (rmM 1 21 0 0) s m args below meth c H locs 0 0 (MQ below (QcM E (Qv K R n Q)) args s 0 0 (AA E)) (F0 m 16 ls [])) := ⟨fun y2_16 I => ∀ (H : Heap) (locs : List Loc) (ls : Array Slot), Rep E K R I n H → va_S (AA E) s.heap H locs → hv ls 3 [(0, .ref a0), (2, .int y2_16)] → W p l e (rmM 1 21 0 0) s m args below meth c H locs 0 0 (MQ below (QcM E (Qv K R n Q)) args s 0 0 (AA E)) (F0 m 16 ls []), fun _ _ => Iff.rfl⟩
    refine (hX16 y2_16 I).mp (h X16 ?_) H locs ls hR hS hl
    clear h hR hS hl
    clear ls locs H I y2_16
    intro y2_16 I h
    refine (hX16 y2_16 I).mpr ?_
    intro H locs ls hR hS hl
    unfold w_X1_removeAt_b16_body at h
    refine lv_iload_n hx hb dX1_removeAt_16 rfl (hv_at hl 1 rfl) ?_
    refine lv_aload_n hx hb dX1_removeAt_17 rfl (hv_at hl 0 rfl) ?_
    obtain ⟨hf3, h⟩ := h
    refine v_get (T := TX1) (v := .int (I a0 1)) C hR 1 kfl_X1_15 rfl inG1 (by decide) rfl (IsLine.k hf3) rfl dX1_removeAt_18 ?_
    refine lv_icmp_ge (tgt := 50) hx hb dX1_removeAt_21 (by decide) (fun c8 => ?_) (fun c8 => ?_)
    · replace h := h.1 c8
      exact hJ50 I _ _ _ h hR hS (hv_sub hl [0] rfl)
    · replace h := h.2 c8
      refine lv_iload_n hx hb dX1_removeAt_24 rfl (hv_at hl 1 rfl) ?_
      refine lv_bipush (v := (6:Int32)) hx hb dX1_removeAt_25 (by decide) ?_
      refine lv_icmp_ge (tgt := 50) hx hb dX1_removeAt_27 (by decide) (fun c7 => ?_) (fun c7 => ?_)
      · replace h := h.1 c7
        exact hJ50 I _ _ _ h hR hS (hv_sub hl [0] rfl)
      · replace h := h.2 c7
        refine lv_aload_n hx hb dX1_removeAt_30 rfl (hv_at hl 0 rfl) ?_
        refine v_get (T := TX1) (v := .ref (a0 + 1)) C hR 0 kfl_X1_9 rfl inG1 (by decide) rfl (IsLine.k hf3) (rf_of (IsLine.r0 hf3 (I a0 0))) dX1_removeAt_31 ?_
        refine lv_iload_n hx hb dX1_removeAt_34 rfl (hv_at hl 1 rfl) ?_
        refine lv_iconst (v := (1:Int32)) hx hb dX1_removeAt_35 rfl ?_
        refine lv_isub hx hb dX1_removeAt_36 ?_
        refine lv_aload_n hx hb dX1_removeAt_37 rfl (hv_at hl 0 rfl) ?_
        refine v_get (T := TX1) (v := .ref (a0 + 1)) C hR 0 kfl_X1_9 rfl inG1 (by decide) rfl (IsLine.k hf3) (rf_of (IsLine.r0 hf3 (I a0 0))) dX1_removeAt_38 ?_
        refine lv_iload_n hx hb dX1_removeAt_41 rfl (hv_at hl 1 rfl) ?_
        obtain ⟨hi4, h⟩ := h
        refine w_iald C hR (IsLine.a0 hf3) hi4 (j := (ix y2_16)) rfl dX1_removeAt_42 ?_
        obtain ⟨hi5, h⟩ := h
        obtain ⟨I6, hI6⟩ := ex_eq (upI I (a0 + 1) (ix (y2_16 - (1:Int32))) (I (a0 + 1) (ix y2_16)))
        replace h := h I6 hI6
        refine w_iast C hR hS (IsLine.a0 hf3) hi5 (j := (ix (y2_16 - (1:Int32)))) rfl hI6 dX1_removeAt_43 (fun H locs hR hS => ?_)
        refine v_iinc (v := y2_16 + (1:Int32)) (k := 1) (lv' := [(2, .int (y2_16 + (1:Int32))), (0, .ref a0)]) hx hb dX1_removeAt_44 hl rfl rfl (by decide) rfl (fun ls hl => ?_)
        refine lv_goto (tgt := 16) hx hb dX1_removeAt_47 (by decide) ?_
        exact (hX16 (y2_16 + (1:Int32)) I6).mp h _ _ _ hR hS (hv_sub hl [1, 0] rfl)
  unfold w_X1_removeAt at h
  refine lv_iload_n hx hb dX1_removeAt_0 rfl (hv_at hl 1 rfl) ?_
  refine lv_aload_n hx hb dX1_removeAt_1 rfl (hv_at hl 0 rfl) ?_
  obtain ⟨hf9, h⟩ := h
  refine v_get (T := TX1) (v := .int (I a0 1)) C hR 1 kfl_X1_15 rfl inG1 (by decide) rfl (IsLine.k hf9) rfl dX1_removeAt_2 ?_
  refine v_cNi (As := [.int x1, .int (I a0 1)]) C hR hS hl.1.1 ca_X6_isIndex knm_X1_19 (L_X6_isIndex E l x1 (I a0 1) I _ h) rfl rfl (Nat.le_of_ble_eq_true rfl) ⟨Nat.le_of_ble_eq_true rfl, Nat.le_of_ble_eq_true rfl⟩ ⟨Nat.zero_le _, Nat.zero_le _⟩ dX1_removeAt_5 (fun v11 I10 H locs h hR hS => ?_)
  refine lv_if_ne (tgt := 12) hx hb dX1_removeAt_8 (by decide) (fun c12 => ?_) (fun c12 => ?_)
  · replace h := h.1 c12
    refine lv_iload_n hx hb dX1_removeAt_12 rfl (hv_at hl 1 rfl) ?_
    refine lv_iconst (v := (1:Int32)) hx hb dX1_removeAt_13 rfl ?_
    refine lv_iadd hx hb dX1_removeAt_14 ?_
    refine v_istore_n (lv' := [(2, .int (x1 + (1:Int32))), (0, .ref a0), (1, .int x1)]) hx hb dX1_removeAt_15 rfl hl (by decide) rfl (fun ls hl => ?_)
    exact hJ16 (x1 + (1:Int32)) I10 _ _ _ h hR hS (hv_sub hl [1, 0] rfl)
  · replace h := h.2 c12
    exact w_vret C rfl hR hS h dX1_removeAt_11
set_option maxHeartbeats 4000000 in
set_option maxRecDepth 100000 in
theorem L_X0_questionAt (E : Ev) (l : Launch) {K : MK} {R : MR} {n : Nat} (a0 : Nat) (x1 : Int32) (I : MI) (Q : Option Nat → MI → Prop) (h : w_X0_questionAt K R a0 x1 I Q) : MM E l yX0_questionAt cX0_questionAt 2 (some (Jvm.ClassFile.FieldType.object "TagBus$Question")) 1 21 0 0 [.ref a0, .int x1] K R I n (Qo K R n Q) := by
  refine MM.of1 (by decide) RX0 rfl (cR (cI cN)) (Nat.le_of_ble_eq_true rfl) ?_
  intro p e s m args below meth c ls C hin hR hS hl
  have hx := C.1
  have hb := C.2.1
  have hml := C.2.2.1
  have hown := C.2.2.2.1
  have hts := C.2.2.2.2.1
  have hl : hv ls 2 [(0, .ref a0), (1, .int x1)] := hl
  clear hin
  have hJ31 : ∀ (z0_31 : Option Nat) (I : MI) (H : Heap) (locs : List Loc) (ls : Array Slot), w_X0_questionAt_b31 K R a0 x1 Q z0_31 I → Rep E K R I n H → va_S (AA E) s.heap H locs → hv ls 2 [] → W p l e (rmM 1 21 0 0) s m args below meth c H locs 0 0 (MQ below (QcM E (Qo K R n Q)) args s 0 0 (AA E)) (F0 m 31 ls [va_rf z0_31]) := by
    intro z0_31 I H locs ls h hR hS hl
    unfold w_X0_questionAt_b31 at h
    exact w_aret (o := z0_31) C rfl hR hS h dX0_questionAt_31
  have hJ30 : ∀ (I : MI) (H : Heap) (locs : List Loc) (ls : Array Slot), w_X0_questionAt_b30 K R a0 x1 Q  I → Rep E K R I n H → va_S (AA E) s.heap H locs → hv ls 2 [] → W p l e (rmM 1 21 0 0) s m args below meth c H locs 0 0 (MQ below (QcM E (Qo K R n Q)) args s 0 0 (AA E)) (F0 m 30 ls []) := by
    intro  I H locs ls h hR hS hl
    unfold w_X0_questionAt_b30 at h
    refine lv_null hx hb dX0_questionAt_30 ?_
    exact hJ31 none I _ _ _ h hR hS (hv_sub hl [] rfl)
  unfold w_X0_questionAt at h
  refine lv_iload_n hx hb dX0_questionAt_0 rfl (hv_at hl 1 rfl) ?_
  refine lv_aload_n hx hb dX0_questionAt_1 rfl (hv_at hl 0 rfl) ?_
  obtain ⟨hf1, h⟩ := h
  refine v_get (T := TX0) (v := .int (I a0 5)) C hR 5 kfl_X0_56 rfl inG0 (by decide) rfl (IsBus.k hf1) rfl dX0_questionAt_2 ?_
  refine v_cNi (As := [.int x1, .int (I a0 5)]) C hR hS hl.1.1 ca_X6_isIndex knm_X0_86 (L_X6_isIndex E l x1 (I a0 5) I _ h) rfl rfl (Nat.le_of_ble_eq_true rfl) ⟨Nat.le_of_ble_eq_true rfl, Nat.le_of_ble_eq_true rfl⟩ ⟨Nat.zero_le _, Nat.zero_le _⟩ dX0_questionAt_5 (fun v3 I2 H locs h hR hS => ?_)
  refine lv_if_eq (tgt := 30) hx hb dX0_questionAt_8 (by decide) (fun c8 => ?_) (fun c8 => ?_)
  · replace h := h.1 c8
    exact hJ30 I2 _ _ _ h hR hS (hv_sub hl [] rfl)
  · replace h := h.2 c8
    refine lv_iload_n hx hb dX0_questionAt_11 rfl (hv_at hl 1 rfl) ?_
    refine lv_sipush (v := (200:Int32)) hx hb dX0_questionAt_12 (by decide) ?_
    refine v_cNi (As := [.int x1, .int (200:Int32)]) C hR hS hl.1.1 ca_X6_isIndex knm_X0_86 (L_X6_isIndex E l x1 (200:Int32) I2 _ h) rfl rfl (Nat.le_of_ble_eq_true rfl) ⟨Nat.le_of_ble_eq_true rfl, Nat.le_of_ble_eq_true rfl⟩ ⟨Nat.zero_le _, Nat.zero_le _⟩ dX0_questionAt_15 (fun v5 I4 H locs h hR hS => ?_)
    refine lv_if_eq (tgt := 30) hx hb dX0_questionAt_18 (by decide) (fun c7 => ?_) (fun c7 => ?_)
    · replace h := h.1 c7
      exact hJ30 I4 _ _ _ h hR hS (hv_sub hl [] rfl)
    · replace h := h.2 c7
      refine lv_aload_n hx hb dX0_questionAt_21 rfl (hv_at hl 0 rfl) ?_
      refine v_get (T := TX0) (v := .ref (a0 + 5)) C hR 4 kfl_X0_32 rfl inG0 (by decide) rfl (IsBus.k hf1) (rf_of (IsBus.r4 hf1 (I4 a0 4))) dX0_questionAt_22 ?_
      refine lv_iload_n hx hb dX0_questionAt_25 rfl (hv_at hl 1 rfl) ?_
      obtain ⟨hi6, h⟩ := h
      refine w_aald C hR (w := a0 + 38 + (ix x1)) (IsBus.a4 hf1) (by decide) rfl rfl hi6 (j := (ix x1)) rfl (IsBus.e4 hf1 (vp_lt hi6) _) dX0_questionAt_26 ?_
      refine lv_goto (tgt := 31) hx hb dX0_questionAt_27 (by decide) ?_
      exact hJ31 (some (a0 + 38 + (ix x1))) I4 _ _ _ h hR hS (hv_sub hl [] rfl)
set_option maxHeartbeats 4000000 in
set_option maxRecDepth 100000 in
theorem L_X0_takeLastOf (E : Ev) (l : Launch) {K : MK} {R : MR} {n : Nat} (a0 : Nat) (o1 : Option Nat) (I : MI) (Q : Int32 → MI → Prop) (h : w_X0_takeLastOf K R a0 o1 I Q) : MM E l yX0_takeLastOf cX0_takeLastOf 5 (some Jvm.ClassFile.FieldType.int) 2 43 0 0 [.ref a0, va_rf o1] K R I n (Qi K R n Q) := by
  refine MM.of1 (by decide) RX0 rfl (cR (cO cN)) (Nat.le_of_ble_eq_true rfl) ?_
  intro p e s m args below meth c ls C hin hR hS hl
  have hx := C.1
  have hb := C.2.1
  have hml := C.2.2.1
  have hown := C.2.2.2.1
  have hts := C.2.2.2.2.1
  have hl : hv ls 5 [(0, .ref a0), (1, va_rf o1)] := hl
  clear hin
  have hJ60 : ∀ (y3_60 : Int32) (I : MI) (H : Heap) (locs : List Loc) (ls : Array Slot), w_X0_takeLastOf_b60 K R a0 o1 Q y3_60 I → Rep E K R I n H → va_S (AA E) s.heap H locs → hv ls 5 [(3, .int y3_60)] → W p l e (rmM 2 43 0 0) s m args below meth c H locs 0 0 (MQ below (QcM E (Qi K R n Q)) args s 0 0 (AA E)) (F0 m 60 ls []) := by
    intro y3_60 I H locs ls h hR hS hl
    unfold w_X0_takeLastOf_b60 at h
    refine lv_iload_n hx hb dX0_takeLastOf_60 rfl (hv_at hl 0 rfl) ?_
    exact w_ireti C rfl rfl hR hS h dX0_takeLastOf_61
  have hJ42 : ∀ (y3_42 : Int32) (I : MI) (H : Heap) (locs : List Loc) (ls : Array Slot), w_X0_takeLastOf_b42 K R a0 o1 Q y3_42 I → Rep E K R I n H → va_S (AA E) s.heap H locs → hv ls 5 [(0, .ref a0), (3, .int y3_42)] → W p l e (rmM 2 43 0 0) s m args below meth c H locs 0 0 (MQ below (QcM E (Qi K R n Q)) args s 0 0 (AA E)) (F0 m 42 ls []) := by
    intro y3_42 I H locs ls h hR hS hl
    unfold w_X0_takeLastOf_b42 at h
    refine lv_aload_n hx hb dX0_takeLastOf_42 rfl (hv_at hl 0 rfl) ?_
    refine lv_iload_n hx hb dX0_takeLastOf_43 rfl (hv_at hl 1 rfl) ?_
    obtain ⟨hf1, h⟩ := h
    refine v_cVo (As := [.int y3_42]) C hR hS hl.1.1 ca_X0_questionAt kml_X0_121 (L_X0_questionAt E l a0 y3_42 I _ h) (IsBus.k hf1) rfl rfl rfl rfl (Nat.le_of_ble_eq_true rfl) ⟨Nat.le_of_ble_eq_true rfl, Nat.le_of_ble_eq_true rfl⟩ ⟨Nat.zero_le _, Nat.zero_le _⟩ dX0_takeLastOf_44 (fun o3 I2 H locs h hR hS => ?_)
    refine v_astore (o := o3) (lv' := [(4, va_rf o3), (0, .ref a0), (3, .int y3_42)]) hx hb dX0_takeLastOf_47 hl (by decide) rfl (fun ls hl => ?_)
    refine v_aload hx hb dX0_takeLastOf_49 (hv_at hl 0 rfl) ?_
    refine v_ifnull (tgt := 60) hx hb dX0_takeLastOf_51 (by decide) (fun e_o3 => ?_) (fun r4 e_o3 => ?_)
    · replace h := h.1 e_o3
      have hl : hv ls 5 [(4, .null), (0, .ref a0), (3, .int y3_42)] := by (try rw [e_o3] at hl); exact hl
      try rw [e_o3]
      exact hJ60 y3_42 I2 _ _ _ h hR hS (hv_sub hl [2] rfl)
    · replace h := h.2 r4 e_o3
      have hl : hv ls 5 [(4, .ref r4), (0, .ref a0), (3, .int y3_42)] := by (try rw [e_o3] at hl); exact hl
      try rw [e_o3]
      refine lv_aload hx hb dX0_takeLastOf_54 (hv_at hl 0 rfl) ?_
      refine lv_iconst (v := (4:Int32)) hx hb dX0_takeLastOf_56 rfl ?_
      obtain ⟨hf5, h⟩ := h
      obtain ⟨I6, hI6⟩ := ex_eq (upI I2 r4 4 (4:Int32))
      replace h := h I6 hI6
      refine v_put (T := TX3) (ty := .int) C hR hS 4 kfl_X0_125 rfl inG3 tyX3 tyX3_ok nmX3 (by decide) rfl hf5 rfl (tyX3_ok 4 (by decide)) rfl rfl (fl_i_3_4 _ _ _) (Nat.le_of_ble_eq_true rfl) hI6 dX0_takeLastOf_57 (fun H locs hR hS => ?_)
      exact hJ60 y3_42 I6 _ _ _ h hR hS (hv_sub hl [2] rfl)
  unfold w_X0_takeLastOf at h
  refine v_aload_n hx hb dX0_takeLastOf_0 rfl (hv_at hl 1 rfl) ?_
  obtain ⟨r7, e_o1, h⟩ := h
  have hl : hv ls 5 [(0, .ref a0), (1, .ref r7)] := by (try rw [e_o1] at hl); exact hl
  try rw [e_o1]
  obtain ⟨hf8, h⟩ := h
  refine v_get (T := TX2) (v := .ref (r7 + 1)) C hR 0 kfl_X0_98 rfl inG2 (by decide) rfl (IsMaster.k hf8) (rf_of (IsMaster.r0 hf8 (I r7 0))) dX0_takeLastOf_1 ?_
  refine v_get (T := TX1) (v := .int (I (r7 + 1) 1)) C hR 1 kfl_X0_108 rfl inG1 (by decide) rfl (IsLine.k (IsMaster.o0 hf8)) rfl dX0_takeLastOf_4 ?_
  refine lv_iconst (v := (1:Int32)) hx hb dX0_takeLastOf_7 rfl ?_
  refine lv_isub hx hb dX0_takeLastOf_8 ?_
  refine v_istore_n (lv' := [(2, .int ((I (r7 + 1) 1) - (1:Int32))), (0, .ref a0), (1, .ref r7)]) hx hb dX0_takeLastOf_9 rfl hl (by decide) rfl (fun ls hl => ?_)
  refine lv_aload_n hx hb dX0_takeLastOf_10 rfl (hv_at hl 2 rfl) ?_
  refine v_get (T := TX2) (v := .ref (r7 + 1)) C hR 0 kfl_X0_98 rfl inG2 (by decide) rfl (IsMaster.k hf8) (rf_of (IsMaster.r0 hf8 (I r7 0))) dX0_takeLastOf_11 ?_
  refine lv_iload_n hx hb dX0_takeLastOf_14 rfl (hv_at hl 0 rfl) ?_
  refine v_cVi (As := [.int ((I (r7 + 1) 1) - (1:Int32))]) C hR hS hl.1.1 ca_X1_at kml_X0_111 (L_X1_at E l (r7 + 1) ((I (r7 + 1) 1) - (1:Int32)) I _ h) (IsLine.k (IsMaster.o0 hf8)) rfl rfl rfl rfl (Nat.le_of_ble_eq_true rfl) ⟨Nat.le_of_ble_eq_true rfl, Nat.le_of_ble_eq_true rfl⟩ ⟨Nat.zero_le _, Nat.zero_le _⟩ dX0_takeLastOf_15 (fun v10 I9 H locs h hR hS => ?_)
  refine v_istore_n (lv' := [(3, .int v10), (2, .int ((I (r7 + 1) 1) - (1:Int32))), (0, .ref a0), (1, .ref r7)]) hx hb dX0_takeLastOf_18 rfl hl (by decide) rfl (fun ls hl => ?_)
  refine lv_aload_n hx hb dX0_takeLastOf_19 rfl (hv_at hl 3 rfl) ?_
  refine v_get (T := TX2) (v := .ref (r7 + 1)) C hR 0 kfl_X0_98 rfl inG2 (by decide) rfl (IsMaster.k hf8) (rf_of (IsMaster.r0 hf8 (I9 r7 0))) dX0_takeLastOf_20 ?_
  refine lv_iload_n hx hb dX0_takeLastOf_23 rfl (hv_at hl 1 rfl) ?_
  refine v_cVv (As := [.int ((I (r7 + 1) 1) - (1:Int32))]) C hR hS hl.1.1 ca_X1_removeAt kml_X0_115 (L_X1_removeAt E l (r7 + 1) ((I (r7 + 1) 1) - (1:Int32)) I9 _ h) (IsLine.k (IsMaster.o0 hf8)) rfl rfl rfl rfl (Nat.le_of_ble_eq_true rfl) ⟨Nat.le_of_ble_eq_true rfl, Nat.le_of_ble_eq_true rfl⟩ ⟨Nat.zero_le _, Nat.zero_le _⟩ dX0_takeLastOf_24 (fun I11 H locs h hR hS => ?_)
  refine lv_aload_n hx hb dX0_takeLastOf_27 rfl (hv_at hl 3 rfl) ?_
  refine v_get (T := TX2) (v := .ref (r7 + 1)) C hR 0 kfl_X0_98 rfl inG2 (by decide) rfl (IsMaster.k hf8) (rf_of (IsMaster.r0 hf8 (I11 r7 0))) dX0_takeLastOf_28 ?_
  refine v_get (T := TX1) (v := .int (I11 (r7 + 1) 1)) C hR 1 kfl_X0_108 rfl inG1 (by decide) rfl (IsLine.k (IsMaster.o0 hf8)) rfl dX0_takeLastOf_31 ?_
  refine lv_if_ne (tgt := 42) hx hb dX0_takeLastOf_34 (by decide) (fun c13 => ?_) (fun c13 => ?_)
  · replace h := h.1 c13
    exact hJ42 v10 I11 _ _ _ h hR hS (hv_sub hl [2, 0] rfl)
  · replace h := h.2 c13
    refine lv_aload_n hx hb dX0_takeLastOf_37 rfl (hv_at hl 3 rfl) ?_
    refine lv_iconst (v := (0:Int32)) hx hb dX0_takeLastOf_38 rfl ?_
    obtain ⟨I12, hI12⟩ := ex_eq (upI I11 r7 5 (0:Int32))
    replace h := h I12 hI12
    refine v_put (T := TX2) (ty := .int) C hR hS 5 kfl_X0_118 rfl inG2 tyX2 tyX2_ok nmX2 (by decide) rfl (IsMaster.k hf8) rfl (tyX2_ok 5 (by decide)) rfl rfl (fl_i_2_5 _ _ _) (Nat.le_of_ble_eq_true rfl) hI12 dX0_takeLastOf_39 (fun H locs hR hS => ?_)
    exact hJ42 v10 I12 _ _ _ h hR hS (hv_sub hl [2, 0] rfl)
set_option maxHeartbeats 4000000 in
set_option maxRecDepth 100000 in
theorem L_X6_withdraw (E : Ev) (l : Launch) {K : MK} {R : MR} {n : Nat} (a0 : Nat) (x1 : Int32) (I : MI) (Q : Int32 → MI → Prop) (h : w_X6_withdraw K R a0 x1 I Q) : MM E l yX6_withdraw cX6_withdraw 3 (some Jvm.ClassFile.FieldType.int) 5 112 0 0 [.ref a0, .int x1] K R I n (Qi K R n Q) := by
  refine MM.of1 (by decide) RX6 rfl (cR (cI cN)) (Nat.le_of_ble_eq_true rfl) ?_
  intro p e s m args below meth c ls C hin hR hS hl
  have hx := C.1
  have hb := C.2.1
  have hml := C.2.2.1
  have hown := C.2.2.2.1
  have hts := C.2.2.2.2.1
  have hl : hv ls 3 [(0, .ref a0), (1, .int x1)] := hl
  clear hin
  unfold w_X6_withdraw at h
  refine lv_aload_n hx hb dX6_withdraw_0 rfl (hv_at hl 0 rfl) ?_
  obtain ⟨hf1, h⟩ := h
  refine v_get (T := TX6) (v := .ref (a0 + 1)) C hR 0 kfl_X6_10 rfl inG6 (by decide) rfl (IsTag.k hf1) (rf_of (IsTag.r0 hf1 (I a0 0))) dX6_withdraw_1 ?_
  refine lv_iload_n hx hb dX6_withdraw_4 rfl (hv_at hl 1 rfl) ?_
  refine v_cVo (As := [.int x1]) C hR hS hl.1.1 ca_X0_masterAt kml_X6_58 (L_X0_masterAt E l (a0 + 1) x1 I _ h) (IsBus.k (IsTag.o0 hf1)) rfl rfl rfl rfl (Nat.le_of_ble_eq_true rfl) ⟨Nat.le_of_ble_eq_true rfl, Nat.le_of_ble_eq_true rfl⟩ ⟨Nat.zero_le _, Nat.zero_le _⟩ dX6_withdraw_5 (fun o3 I2 H locs h hR hS => ?_)
  refine v_astore_n (o := o3) (lv' := [(2, va_rf o3), (0, .ref a0), (1, .int x1)]) hx hb dX6_withdraw_8 rfl hl (by decide) rfl (fun ls hl => ?_)
  refine v_aload_n hx hb dX6_withdraw_9 rfl (hv_at hl 0 rfl) ?_
  refine v_ifnonnull (tgt := 15) hx hb dX6_withdraw_10 (by decide) (fun e_o3 => ?_) (fun r4 e_o3 => ?_)
  · replace h := h.1 e_o3
    have hl : hv ls 3 [(2, .null), (0, .ref a0), (1, .int x1)] := by (try rw [e_o3] at hl); exact hl
    try rw [e_o3]
    refine lv_iconst (v := (-1:Int32)) hx hb dX6_withdraw_13 rfl ?_
    exact w_ireti C rfl rfl hR hS h dX6_withdraw_14
  · replace h := h.2 r4 e_o3
    have hl : hv ls 3 [(2, .ref r4), (0, .ref a0), (1, .int x1)] := by (try rw [e_o3] at hl); exact hl
    try rw [e_o3]
    refine lv_aload_n hx hb dX6_withdraw_15 rfl (hv_at hl 0 rfl) ?_
    obtain ⟨hf5, h⟩ := h
    refine v_get (T := TX2) (v := .ref (r4 + 1)) C hR 0 kfl_X6_121 rfl inG2 (by decide) rfl (IsMaster.k hf5) (rf_of (IsMaster.r0 hf5 (I2 r4 0))) dX6_withdraw_16 ?_
    refine v_get (T := TX1) (v := .int (I2 (r4 + 1) 1)) C hR 1 kfl_X6_125 rfl inG1 (by decide) rfl (IsLine.k (IsMaster.o0 hf5)) rfl dX6_withdraw_19 ?_
    refine lv_if_ne (tgt := 28) hx hb dX6_withdraw_22 (by decide) (fun c9 => ?_) (fun c9 => ?_)
    · replace h := h.1 c9
      refine lv_aload_n hx hb dX6_withdraw_28 rfl (hv_at hl 1 rfl) ?_
      refine v_cVv (As := []) C hR hS hl.1.1 ca_X6_record kml_X6_55 (L_X6_record E l a0 I2 _ h) (IsTag.k hf1) rfl rfl rfl rfl (Nat.le_of_ble_eq_true rfl) ⟨Nat.le_of_ble_eq_true rfl, Nat.le_of_ble_eq_true rfl⟩ ⟨Nat.zero_le _, Nat.zero_le _⟩ dX6_withdraw_29 (fun I6 H locs h hR hS => ?_)
      refine lv_aload_n hx hb dX6_withdraw_32 rfl (hv_at hl 1 rfl) ?_
      refine v_get (T := TX6) (v := .ref (a0 + 1)) C hR 0 kfl_X6_10 rfl inG6 (by decide) rfl (IsTag.k hf1) (rf_of (IsTag.r0 hf1 (I6 a0 0))) dX6_withdraw_33 ?_
      refine lv_aload_n hx hb dX6_withdraw_36 rfl (hv_at hl 0 rfl) ?_
      refine v_cVi (As := [.ref r4]) C hR hS hl.1.1 ca_X0_takeLastOf kml_X6_130 (L_X0_takeLastOf E l (a0 + 1) (some r4) I6 _ h) (IsBus.k (IsTag.o0 hf1)) rfl rfl rfl rfl (Nat.le_of_ble_eq_true rfl) ⟨Nat.le_of_ble_eq_true rfl, Nat.le_of_ble_eq_true rfl⟩ ⟨Nat.zero_le _, Nat.zero_le _⟩ dX6_withdraw_37 (fun v8 I7 H locs h hR hS => ?_)
      exact w_ireti C rfl rfl hR hS h dX6_withdraw_40
    · replace h := h.2 c9
      refine lv_bipush (v := (-5:Int32)) hx hb dX6_withdraw_25 (by decide) ?_
      exact w_ireti C rfl rfl hR hS h dX6_withdraw_27
set_option maxHeartbeats 4000000 in
set_option maxRecDepth 100000 in
theorem L_X5_useCell (E : Ev) (l : Launch) {K : MK} {R : MR} {n : Nat} (a0 : Nat) (x1 : Int32) (x2 : Int32) (I : MI) (Q : Int32 → MI → Prop) (h : w_X5_useCell K R a0 x1 x2 I Q) : MM E l yX5_useCell cX5_useCell 4 (some Jvm.ClassFile.FieldType.int) 1 21 0 0 [.ref a0, .int x1, .int x2] K R I n (Qi K R n Q) := by
  refine MM.of1 (by decide) RX5 rfl (cR (cI (cI cN))) (Nat.le_of_ble_eq_true rfl) ?_
  intro p e s m args below meth c ls C hin hR hS hl
  have hx := C.1
  have hb := C.2.1
  have hml := C.2.2.1
  have hown := C.2.2.2.1
  have hts := C.2.2.2.2.1
  have hl : hv ls 4 [(0, .ref a0), (1, .int x1), (2, .int x2)] := hl
  clear hin
  have hJ32 : ∀ (y3_32 : Int32) (I : MI) (H : Heap) (locs : List Loc) (ls : Array Slot), w_X5_useCell_b32 K R a0 x1 x2 Q y3_32 I → Rep E K R I n H → va_S (AA E) s.heap H locs → hv ls 4 [(3, .int y3_32)] → W p l e (rmM 1 21 0 0) s m args below meth c H locs 0 0 (MQ below (QcM E (Qi K R n Q)) args s 0 0 (AA E)) (F0 m 32 ls []) := by
    intro y3_32 I H locs ls h hR hS hl
    unfold w_X5_useCell_b32 at h
    refine lv_iload_n hx hb dX5_useCell_32 rfl (hv_at hl 0 rfl) ?_
    exact w_ireti C rfl rfl hR hS h dX5_useCell_33
  unfold w_X5_useCell at h
  refine lv_iload_n hx hb dX5_useCell_0 rfl (hv_at hl 1 rfl) ?_
  refine lv_bipush (v := (16:Int32)) hx hb dX5_useCell_1 (by decide) ?_
  refine v_cNi (As := [.int x1, .int (16:Int32)]) C hR hS hl.1.1 ca_X6_isIndex knm_X5_29 (L_X6_isIndex E l x1 (16:Int32) I _ h) rfl rfl (Nat.le_of_ble_eq_true rfl) ⟨Nat.le_of_ble_eq_true rfl, Nat.le_of_ble_eq_true rfl⟩ ⟨Nat.zero_le _, Nat.zero_le _⟩ dX5_useCell_3 (fun v2 I1 H locs h hR hS => ?_)
  refine lv_if_ne (tgt := 12) hx hb dX5_useCell_6 (by decide) (fun c8 => ?_) (fun c8 => ?_)
  · replace h := h.1 c8
    refine lv_aload_n hx hb dX5_useCell_12 rfl (hv_at hl 0 rfl) ?_
    obtain ⟨hf3, h⟩ := h
    refine v_get (T := TX5) (v := .ref (a0 + 1)) C hR 0 kfl_X5_9 rfl inG5 (by decide) rfl (IsTarget.k hf3) (rf_of (IsTarget.r0 hf3 (I1 a0 0))) dX5_useCell_13 ?_
    refine lv_iload_n hx hb dX5_useCell_16 rfl (hv_at hl 1 rfl) ?_
    obtain ⟨hi4, h⟩ := h
    refine w_iald C hR (IsTarget.a0 hf3) hi4 (j := (ix x1)) rfl dX5_useCell_17 ?_
    refine v_istore_n (lv' := [(3, .int (I1 (a0 + 1) (ix x1))), (0, .ref a0), (1, .int x1), (2, .int x2)]) hx hb dX5_useCell_18 rfl hl (by decide) rfl (fun ls hl => ?_)
    refine lv_iload_n hx hb dX5_useCell_19 rfl (hv_at hl 3 rfl) ?_
    refine lv_bipush (v := (-5:Int32)) hx hb dX5_useCell_20 (by decide) ?_
    refine lv_icmp_eq (tgt := 32) hx hb dX5_useCell_22 (by decide) (fun c7 => ?_) (fun c7 => ?_)
    · replace h := h.1 c7
      exact hJ32 (I1 (a0 + 1) (ix x1)) I1 _ _ _ h hR hS (hv_sub hl [0] rfl)
    · replace h := h.2 c7
      refine lv_aload_n hx hb dX5_useCell_25 rfl (hv_at hl 1 rfl) ?_
      refine v_get (T := TX5) (v := .ref (a0 + 1)) C hR 0 kfl_X5_9 rfl inG5 (by decide) rfl (IsTarget.k hf3) (rf_of (IsTarget.r0 hf3 (I1 a0 0))) dX5_useCell_26 ?_
      refine lv_iload_n hx hb dX5_useCell_29 rfl (hv_at hl 2 rfl) ?_
      refine lv_iload_n hx hb dX5_useCell_30 rfl (hv_at hl 3 rfl) ?_
      obtain ⟨hi5, h⟩ := h
      obtain ⟨I6, hI6⟩ := ex_eq (upI I1 (a0 + 1) (ix x1) x2)
      replace h := h I6 hI6
      refine w_iast C hR hS (IsTarget.a0 hf3) hi5 (j := (ix x1)) rfl hI6 dX5_useCell_31 (fun H locs hR hS => ?_)
      exact hJ32 (I1 (a0 + 1) (ix x1)) I6 _ _ _ h hR hS (hv_sub hl [0] rfl)
  · replace h := h.2 c8
    refine lv_bipush (v := (-5:Int32)) hx hb dX5_useCell_9 (by decide) ?_
    exact w_ireti C rfl rfl hR hS h dX5_useCell_11
set_option maxHeartbeats 4000000 in
set_option maxRecDepth 100000 in
theorem L_X0_finishQuestions (E : Ev) (l : Launch) {K : MK} {R : MR} {n : Nat} (a0 : Nat) (I : MI) (Q : MI → Prop) (h : w_X0_finishQuestions K R a0 I Q) : MM E l yX0_finishQuestions cX0_finishQuestions 7 none 2 44 0 0 [.ref a0] K R I n (Qv K R n Q) := by
  refine MM.of1 (by decide) RX0 rfl (cR cN) (Nat.le_of_ble_eq_true rfl) ?_
  intro p e s m args below meth c ls C hin hR hS hl
  have hx := C.1
  have hb := C.2.1
  have hml := C.2.2.1
  have hown := C.2.2.2.1
  have hts := C.2.2.2.2.1
  have hl : hv ls 7 [(0, .ref a0)] := hl
  clear hin
  have hJ10 : ∀ (y2_10 : Int32) (y3_10 : Int32) (I : MI) (H : Heap) (locs : List Loc) (ls : Array Slot), w_X0_finishQuestions_b10 K R a0 Q y2_10 y3_10 I → Rep E K R I n H → va_S (AA E) s.heap H locs → hv ls 7 [(0, .ref a0), (1, .ref (a0 + 4)), (2, .int y2_10), (3, .int y3_10)] → W p l e (rmM 2 44 0 0) s m args below meth c H locs 0 0 (MQ below (QcM E (Qv K R n Q)) args s 0 0 (AA E)) (F0 m 10 ls []) := by
    intro y2_10 y3_10 I H locs ls h hR hS hl
    obtain ⟨X10, hX10⟩ : ∃ X : Int32 → Int32 → MI → Prop, ∀ (y2_10 : Int32) (y3_10 : Int32) (I : MI), X y2_10 y3_10 I ↔ (∀ (H : Heap) (locs : List Loc) (ls : Array Slot), Rep E K R I n H → va_S (AA E) s.heap H locs → hv ls 7 [(0, .ref a0), (1, .ref (a0 + 4)), (2, .int y2_10), (3, .int y3_10)] → W p l e (rmM 2 44 0 0) s m args below meth c H locs 0 0 (MQ below (QcM E (Qv K R n Q)) args s 0 0 (AA E)) (F0 m 10 ls [])) := ⟨fun y2_10 y3_10 I => ∀ (H : Heap) (locs : List Loc) (ls : Array Slot), Rep E K R I n H → va_S (AA E) s.heap H locs → hv ls 7 [(0, .ref a0), (1, .ref (a0 + 4)), (2, .int y2_10), (3, .int y3_10)] → W p l e (rmM 2 44 0 0) s m args below meth c H locs 0 0 (MQ below (QcM E (Qv K R n Q)) args s 0 0 (AA E)) (F0 m 10 ls []), fun _ _ _ => Iff.rfl⟩
    refine (hX10 y2_10 y3_10 I).mp (h X10 ?_) H locs ls hR hS hl
    clear h hR hS hl
    clear ls locs H I y2_10 y3_10
    have hJ23 : ∀ (y2_23 : Int32) (y3_23 : Int32) (y4_23 : Nat) (y5_23 : Int32) (I : MI) (H : Heap) (locs : List Loc) (ls : Array Slot), w_X0_finishQuestions_b23 K R a0 Q X10 y2_23 y3_23 y4_23 y5_23 I → Rep E K R I n H → va_S (AA E) s.heap H locs → hv ls 7 [(0, .ref a0), (1, .ref (a0 + 4)), (2, .int y2_23), (3, .int y3_23), (4, .ref y4_23), (5, .int y5_23)] → W p l e (rmM 2 44 0 0) s m args below meth c H locs 0 0 (MQ below (QcM E (Qv K R n Q)) args s 0 0 (AA E)) (F0 m 23 ls []) := by
      intro y2_23 y3_23 y4_23 y5_23 I H locs ls h hR hS hl
      obtain ⟨X23, hX23⟩ : ∃ X : Int32 → Int32 → Nat → Int32 → MI → Prop, ∀ (y2_23 : Int32) (y3_23 : Int32) (y4_23 : Nat) (y5_23 : Int32) (I : MI), X y2_23 y3_23 y4_23 y5_23 I ↔ (∀ (H : Heap) (locs : List Loc) (ls : Array Slot), Rep E K R I n H → va_S (AA E) s.heap H locs → hv ls 7 [(0, .ref a0), (1, .ref (a0 + 4)), (2, .int y2_23), (3, .int y3_23), (4, .ref y4_23), (5, .int y5_23)] → W p l e (rmM 2 44 0 0) s m args below meth c H locs 0 0 (MQ below (QcM E (Qv K R n Q)) args s 0 0 (AA E)) (F0 m 23 ls [])) := ⟨fun y2_23 y3_23 y4_23 y5_23 I => ∀ (H : Heap) (locs : List Loc) (ls : Array Slot), Rep E K R I n H → va_S (AA E) s.heap H locs → hv ls 7 [(0, .ref a0), (1, .ref (a0 + 4)), (2, .int y2_23), (3, .int y3_23), (4, .ref y4_23), (5, .int y5_23)] → W p l e (rmM 2 44 0 0) s m args below meth c H locs 0 0 (MQ below (QcM E (Qv K R n Q)) args s 0 0 (AA E)) (F0 m 23 ls []), fun _ _ _ _ _ => Iff.rfl⟩
      refine (hX23 y2_23 y3_23 y4_23 y5_23 I).mp (h X23 ?_) H locs ls hR hS hl
      clear h hR hS hl
      clear ls locs H I y2_23 y3_23 y4_23 y5_23
      have hJ104 : ∀ (y2_104 : Int32) (y3_104 : Int32) (y4_104 : Nat) (y5_104 : Int32) (I : MI) (H : Heap) (locs : List Loc) (ls : Array Slot), w_X0_finishQuestions_b104 K R a0 Q X10 X23 y2_104 y3_104 y4_104 y5_104 I → Rep E K R I n H → va_S (AA E) s.heap H locs → hv ls 7 [(0, .ref a0), (1, .ref (a0 + 4)), (2, .int y2_104), (3, .int y3_104), (4, .ref y4_104), (5, .int y5_104)] → W p l e (rmM 2 44 0 0) s m args below meth c H locs 0 0 (MQ below (QcM E (Qv K R n Q)) args s 0 0 (AA E)) (F0 m 104 ls []) := by
        intro y2_104 y3_104 y4_104 y5_104 I H locs ls h hR hS hl
        unfold w_X0_finishQuestions_b104 at h
        refine v_iinc (v := y5_104 + (1:Int32)) (k := 5) (lv' := [(5, .int (y5_104 + (1:Int32))), (0, .ref a0), (1, .ref (a0 + 4)), (2, .int y2_104), (3, .int y3_104), (4, .ref y4_104)]) hx hb dX0_finishQuestions_104 hl rfl rfl (by decide) rfl (fun ls hl => ?_)
        refine lv_goto (tgt := 23) hx hb dX0_finishQuestions_107 (by decide) ?_
        exact (hX23 y2_104 y3_104 y4_104 (y5_104 + (1:Int32)) I).mp h _ _ _ hR hS (hv_sub hl [1, 2, 3, 4, 5, 0] rfl)
      intro y2_23 y3_23 y4_23 y5_23 I h
      refine (hX23 y2_23 y3_23 y4_23 y5_23 I).mpr ?_
      intro H locs ls hR hS hl
      unfold w_X0_finishQuestions_b23_body at h
      refine lv_iload hx hb dX0_finishQuestions_23 (hv_at hl 5 rfl) ?_
      refine lv_aload hx hb dX0_finishQuestions_25 (hv_at hl 4 rfl) ?_
      obtain ⟨hf1, h⟩ := h
      refine v_get (T := TX5) (v := .ref (y4_23 + 3)) C hR 2 kfl_X0_128 rfl inG5 (by decide) rfl (IsTarget.k hf1) (rf_of (IsTarget.r2 hf1 (I y4_23 2))) dX0_finishQuestions_27 ?_
      refine v_get (T := TX1) (v := .int (I (y4_23 + 3) 1)) C hR 1 kfl_X0_108 rfl inG1 (by decide) rfl (IsLine.k (IsTarget.o2 hf1)) rfl dX0_finishQuestions_30 ?_
      refine lv_icmp_ge (tgt := 110) hx hb dX0_finishQuestions_33 (by decide) (fun c15 => ?_) (fun c15 => ?_)
      · replace h := h.1 c15
        refine v_iinc (v := y3_23 + (1:Int32)) (k := 3) (lv' := [(3, .int (y3_23 + (1:Int32))), (0, .ref a0), (1, .ref (a0 + 4)), (2, .int y2_23), (4, .ref y4_23), (5, .int y5_23)]) hx hb dX0_finishQuestions_110 hl rfl rfl (by decide) rfl (fun ls hl => ?_)
        refine lv_goto (tgt := 10) hx hb dX0_finishQuestions_113 (by decide) ?_
        exact (hX10 y2_23 (y3_23 + (1:Int32)) I).mp h _ _ _ hR hS (hv_sub hl [1, 2, 3, 0] rfl)
      · replace h := h.2 c15
        refine lv_aload_n hx hb dX0_finishQuestions_36 rfl (hv_at hl 0 rfl) ?_
        refine lv_aload hx hb dX0_finishQuestions_37 (hv_at hl 4 rfl) ?_
        refine v_get (T := TX5) (v := .ref (y4_23 + 3)) C hR 2 kfl_X0_128 rfl inG5 (by decide) rfl (IsTarget.k hf1) (rf_of (IsTarget.r2 hf1 (I y4_23 2))) dX0_finishQuestions_39 ?_
        refine lv_iload hx hb dX0_finishQuestions_42 (hv_at hl 5 rfl) ?_
        refine v_cVi (As := [.int y5_23]) C hR hS hl.1.1 ca_X1_at kml_X0_111 (L_X1_at E l (y4_23 + 3) y5_23 I _ h) (IsLine.k (IsTarget.o2 hf1)) rfl rfl rfl rfl (Nat.le_of_ble_eq_true rfl) ⟨Nat.le_of_ble_eq_true rfl, Nat.le_of_ble_eq_true rfl⟩ ⟨Nat.zero_le _, Nat.zero_le _⟩ dX0_finishQuestions_44 (fun v3 I2 H locs h hR hS => ?_)
        obtain ⟨hf4, h⟩ := h
        refine v_cVo (As := [.int v3]) C hR hS hl.1.1 ca_X0_questionAt kml_X0_121 (L_X0_questionAt E l a0 v3 I2 _ h) (IsBus.k hf4) rfl rfl rfl rfl (Nat.le_of_ble_eq_true rfl) ⟨Nat.le_of_ble_eq_true rfl, Nat.le_of_ble_eq_true rfl⟩ ⟨Nat.zero_le _, Nat.zero_le _⟩ dX0_finishQuestions_47 (fun o6 I5 H locs h hR hS => ?_)
        refine v_astore (o := o6) (lv' := [(6, va_rf o6), (0, .ref a0), (1, .ref (a0 + 4)), (2, .int y2_23), (3, .int y3_23), (4, .ref y4_23), (5, .int y5_23)]) hx hb dX0_finishQuestions_50 hl (by decide) rfl (fun ls hl => ?_)
        refine v_aload hx hb dX0_finishQuestions_52 (hv_at hl 0 rfl) ?_
        refine v_ifnull (tgt := 104) hx hb dX0_finishQuestions_54 (by decide) (fun e_o6 => ?_) (fun r7 e_o6 => ?_)
        · replace h := h.1 e_o6
          have hl : hv ls 7 [(6, .null), (0, .ref a0), (1, .ref (a0 + 4)), (2, .int y2_23), (3, .int y3_23), (4, .ref y4_23), (5, .int y5_23)] := by (try rw [e_o6] at hl); exact hl
          try rw [e_o6]
          exact hJ104 y2_23 y3_23 y4_23 y5_23 I5 _ _ _ h hR hS (hv_sub hl [1, 2, 3, 4, 5, 6] rfl)
        · replace h := h.2 r7 e_o6
          have hl : hv ls 7 [(6, .ref r7), (0, .ref a0), (1, .ref (a0 + 4)), (2, .int y2_23), (3, .int y3_23), (4, .ref y4_23), (5, .int y5_23)] := by (try rw [e_o6] at hl); exact hl
          try rw [e_o6]
          refine lv_aload hx hb dX0_finishQuestions_57 (hv_at hl 0 rfl) ?_
          obtain ⟨hf8, h⟩ := h
          refine v_get (T := TX3) (v := .int (I5 r7 4)) C hR 4 kfl_X0_125 rfl inG3 (by decide) rfl hf8 rfl dX0_finishQuestions_59 ?_
          refine lv_iconst (v := (1:Int32)) hx hb dX0_finishQuestions_62 rfl ?_
          refine lv_icmp_ne (tgt := 104) hx hb dX0_finishQuestions_63 (by decide) (fun c14 => ?_) (fun c14 => ?_)
          · replace h := h.1 c14
            exact hJ104 y2_23 y3_23 y4_23 y5_23 I5 _ _ _ h hR hS (hv_sub hl [1, 2, 3, 4, 5, 6] rfl)
          · replace h := h.2 c14
            refine lv_aload hx hb dX0_finishQuestions_66 (hv_at hl 0 rfl) ?_
            refine v_get (T := TX3) (v := .int (I5 r7 8)) C hR 8 kfl_X0_144 rfl inG3 (by decide) rfl hf8 rfl dX0_finishQuestions_68 ?_
            refine lv_aload_n hx hb dX0_finishQuestions_71 rfl (hv_at hl 1 rfl) ?_
            refine v_get (T := TX0) (v := .int (I5 a0 6)) C hR 6 kfl_X0_62 rfl inG0 (by decide) rfl (IsBus.k hf4) rfl dX0_finishQuestions_72 ?_
            refine lv_icmp_ne (tgt := 104) hx hb dX0_finishQuestions_75 (by decide) (fun c13 => ?_) (fun c13 => ?_)
            · replace h := h.1 c13
              exact hJ104 y2_23 y3_23 y4_23 y5_23 I5 _ _ _ h hR hS (hv_sub hl [1, 2, 3, 4, 5, 6] rfl)
            · replace h := h.2 c13
              refine lv_aload hx hb dX0_finishQuestions_78 (hv_at hl 0 rfl) ?_
              refine lv_aload hx hb dX0_finishQuestions_80 (hv_at hl 5 rfl) ?_
              refine lv_aload hx hb dX0_finishQuestions_82 (hv_at hl 0 rfl) ?_
              refine v_get (T := TX3) (v := .int (I5 r7 2)) C hR 2 kfl_X0_147 rfl inG3 (by decide) rfl hf8 rfl dX0_finishQuestions_84 ?_
              refine lv_aload hx hb dX0_finishQuestions_87 (hv_at hl 0 rfl) ?_
              refine v_get (T := TX3) (v := .int (I5 r7 3)) C hR 3 kfl_X0_150 rfl inG3 (by decide) rfl hf8 rfl dX0_finishQuestions_89 ?_
              refine v_cVi (As := [.int (I5 r7 2), .int (I5 r7 3)]) C hR hS hl.1.1 ca_X5_useCell kml_X0_153 (L_X5_useCell E l y4_23 (I5 r7 2) (I5 r7 3) I5 _ h) (IsTarget.k hf1) rfl rfl rfl rfl (Nat.le_of_ble_eq_true rfl) ⟨Nat.le_of_ble_eq_true rfl, Nat.le_of_ble_eq_true rfl⟩ ⟨Nat.zero_le _, Nat.zero_le _⟩ dX0_finishQuestions_92 (fun v10 I9 H locs h hR hS => ?_)
              obtain ⟨I11, hI11⟩ := ex_eq (upI I9 r7 6 v10)
              replace h := h I11 hI11
              refine v_put (T := TX3) (ty := .int) C hR hS 6 kfl_X0_157 rfl inG3 tyX3 tyX3_ok nmX3 (by decide) rfl hf8 rfl (tyX3_ok 6 (by decide)) rfl rfl (fl_i_3_6 _ _ _) (Nat.le_of_ble_eq_true rfl) hI11 dX0_finishQuestions_95 (fun H locs hR hS => ?_)
              refine lv_aload hx hb dX0_finishQuestions_98 (hv_at hl 0 rfl) ?_
              refine lv_iconst (v := (2:Int32)) hx hb dX0_finishQuestions_100 rfl ?_
              obtain ⟨I12, hI12⟩ := ex_eq (upI I11 r7 4 (2:Int32))
              replace h := h I12 hI12
              refine v_put (T := TX3) (ty := .int) C hR hS 4 kfl_X0_125 rfl inG3 tyX3 tyX3_ok nmX3 (by decide) rfl hf8 rfl (tyX3_ok 4 (by decide)) rfl rfl (fl_i_3_4 _ _ _) (Nat.le_of_ble_eq_true rfl) hI12 dX0_finishQuestions_101 (fun H locs hR hS => ?_)
              exact hJ104 y2_23 y3_23 y4_23 y5_23 I12 _ _ _ h hR hS (hv_sub hl [1, 2, 3, 4, 5, 6] rfl)
    intro y2_10 y3_10 I h
    refine (hX10 y2_10 y3_10 I).mpr ?_
    intro H locs ls hR hS hl
    unfold w_X0_finishQuestions_b10_body at h
    refine lv_iload_n hx hb dX0_finishQuestions_10 rfl (hv_at hl 3 rfl) ?_
    refine lv_iload_n hx hb dX0_finishQuestions_11 rfl (hv_at hl 2 rfl) ?_
    refine lv_icmp_ge (tgt := 116) hx hb dX0_finishQuestions_12 (by decide) (fun c18 => ?_) (fun c18 => ?_)
    · replace h := h.1 c18
      exact w_vret C rfl hR hS h dX0_finishQuestions_116
    · replace h := h.2 c18
      refine lv_aload_n hx hb dX0_finishQuestions_15 rfl (hv_at hl 1 rfl) ?_
      refine lv_iload_n hx hb dX0_finishQuestions_16 rfl (hv_at hl 3 rfl) ?_
      obtain ⟨hf17, h⟩ := h
      obtain ⟨hi16, h⟩ := h
      refine w_aald C hR (w := a0 + 18 + 5 * (ix y3_10)) (IsBus.a3 hf17) (by decide) rfl rfl hi16 (j := (ix y3_10)) rfl (IsBus.e3 hf17 (vp_lt hi16) _) dX0_finishQuestions_17 ?_
      refine v_astore (o := (some (a0 + 18 + 5 * (ix y3_10)))) (lv' := [(4, .ref (a0 + 18 + 5 * (ix y3_10))), (0, .ref a0), (1, .ref (a0 + 4)), (2, .int y2_10), (3, .int y3_10)]) hx hb dX0_finishQuestions_18 hl (by decide) rfl (fun ls hl => ?_)
      refine lv_iconst (v := (0:Int32)) hx hb dX0_finishQuestions_20 rfl ?_
      refine v_istore (lv' := [(5, .int (0:Int32)), (4, .ref (a0 + 18 + 5 * (ix y3_10))), (0, .ref a0), (1, .ref (a0 + 4)), (2, .int y2_10), (3, .int y3_10)]) hx hb dX0_finishQuestions_21 hl (by decide) rfl (fun ls hl => ?_)
      exact hJ23 y2_10 y3_10 (a0 + 18 + 5 * (ix y3_10)) (0:Int32) I _ _ _ h hR hS (hv_sub hl [2, 3, 4, 5, 1, 0] rfl)
  unfold w_X0_finishQuestions at h
  refine lv_aload_n hx hb dX0_finishQuestions_0 rfl (hv_at hl 0 rfl) ?_
  obtain ⟨hf19, h⟩ := h
  refine v_get (T := TX0) (v := .ref (a0 + 4)) C hR 3 kfl_X0_26 rfl inG0 (by decide) rfl (IsBus.k hf19) (rf_of (IsBus.r3 hf19 (I a0 3))) dX0_finishQuestions_1 ?_
  refine v_astore_n (o := (some (a0 + 4))) (lv' := [(1, .ref (a0 + 4)), (0, .ref a0)]) hx hb dX0_finishQuestions_4 rfl hl (by decide) rfl (fun ls hl => ?_)
  refine lv_aload_n hx hb dX0_finishQuestions_5 rfl (hv_at hl 0 rfl) ?_
  refine v_alen C hR (IsBus.a3 hf19) (by decide) (v := (4:Int32)) rfl dX0_finishQuestions_6 ?_
  refine v_istore_n (lv' := [(2, .int (4:Int32)), (1, .ref (a0 + 4)), (0, .ref a0)]) hx hb dX0_finishQuestions_7 rfl hl (by decide) rfl (fun ls hl => ?_)
  refine lv_iconst (v := (0:Int32)) hx hb dX0_finishQuestions_8 rfl ?_
  refine v_istore_n (lv' := [(3, .int (0:Int32)), (2, .int (4:Int32)), (1, .ref (a0 + 4)), (0, .ref a0)]) hx hb dX0_finishQuestions_9 rfl hl (by decide) rfl (fun ls hl => ?_)
  exact hJ10 (4:Int32) (0:Int32) I _ _ _ h hR hS (hv_sub hl [3, 2, 1, 0] rfl)
set_option maxHeartbeats 4000000 in
set_option maxRecDepth 100000 in
theorem L_X0_placeOfAnswer (E : Ev) (l : Launch) {K : MK} {R : MR} {n : Nat} (a0 : Nat) (o1 : Option Nat) (I : MI) (Q : Int32 → MI → Prop) (h : w_X0_placeOfAnswer K R a0 o1 I Q) : MM E l yX0_placeOfAnswer cX0_placeOfAnswer 8 (some Jvm.ClassFile.FieldType.int) 2 42 0 0 [.ref a0, va_rf o1] K R I n (Qi K R n Q) := by
  refine MM.of1 (by decide) RX0 rfl (cR (cO cN)) (Nat.le_of_ble_eq_true rfl) ?_
  intro p e s m args below meth c ls C hin hR hS hl
  have hx := C.1
  have hb := C.2.1
  have hml := C.2.2.1
  have hown := C.2.2.2.1
  have hts := C.2.2.2.2.1
  have hl : hv ls 8 [(0, .ref a0), (1, va_rf o1)] := hl
  clear hin
  have hJ51 : ∀ (y3_51 : Int32) (y4_51 : Int32) (y5_51 : Int32) (y6_51 : Int32) (I : MI) (H : Heap) (locs : List Loc) (ls : Array Slot), w_X0_placeOfAnswer_b51 K R a0 o1 Q y3_51 y4_51 y5_51 y6_51 I → Rep E K R I n H → va_S (AA E) s.heap H locs → hv ls 8 [(0, .ref a0), (1, va_rf o1), (3, .int y3_51), (4, .int y4_51), (5, .int y5_51), (6, .int y6_51)] → W p l e (rmM 2 42 0 0) s m args below meth c H locs 0 0 (MQ below (QcM E (Qi K R n Q)) args s 0 0 (AA E)) (F0 m 51 ls []) := by
    intro y3_51 y4_51 y5_51 y6_51 I H locs ls h hR hS hl
    obtain ⟨X51, hX51⟩ : ∃ X : Int32 → Int32 → Int32 → Int32 → MI → Prop, ∀ (y3_51 : Int32) (y4_51 : Int32) (y5_51 : Int32) (y6_51 : Int32) (I : MI), X y3_51 y4_51 y5_51 y6_51 I ↔ (∀ (H : Heap) (locs : List Loc) (ls : Array Slot), Rep E K R I n H → va_S (AA E) s.heap H locs → hv ls 8 [(0, .ref a0), (1, va_rf o1), (3, .int y3_51), (4, .int y4_51), (5, .int y5_51), (6, .int y6_51)] → W p l e (rmM 2 42 0 0) s m args below meth c H locs 0 0 (MQ below (QcM E (Qi K R n Q)) args s 0 0 (AA E)) (F0 m 51 ls [])) := ⟨fun y3_51 y4_51 y5_51 y6_51 I => ∀ (H : Heap) (locs : List Loc) (ls : Array Slot), Rep E K R I n H → va_S (AA E) s.heap H locs → hv ls 8 [(0, .ref a0), (1, va_rf o1), (3, .int y3_51), (4, .int y4_51), (5, .int y5_51), (6, .int y6_51)] → W p l e (rmM 2 42 0 0) s m args below meth c H locs 0 0 (MQ below (QcM E (Qi K R n Q)) args s 0 0 (AA E)) (F0 m 51 ls []), fun _ _ _ _ _ => Iff.rfl⟩
    refine (hX51 y3_51 y4_51 y5_51 y6_51 I).mp (h X51 ?_) H locs ls hR hS hl
    clear h hR hS hl
    clear ls locs H I y3_51 y4_51 y5_51 y6_51
    have hJ114 : ∀ (y3_114 : Int32) (y4_114 : Int32) (y5_114 : Int32) (y6_114 : Int32) (I : MI) (H : Heap) (locs : List Loc) (ls : Array Slot), w_X0_placeOfAnswer_b114 K R a0 o1 Q X51 y3_114 y4_114 y5_114 y6_114 I → Rep E K R I n H → va_S (AA E) s.heap H locs → hv ls 8 [(0, .ref a0), (1, va_rf o1), (3, .int y3_114), (4, .int y4_114), (5, .int y5_114), (6, .int y6_114)] → W p l e (rmM 2 42 0 0) s m args below meth c H locs 0 0 (MQ below (QcM E (Qi K R n Q)) args s 0 0 (AA E)) (F0 m 114 ls []) := by
      intro y3_114 y4_114 y5_114 y6_114 I H locs ls h hR hS hl
      unfold w_X0_placeOfAnswer_b114 at h
      refine v_iinc (v := y6_114 + (1:Int32)) (k := 5) (lv' := [(6, .int (y6_114 + (1:Int32))), (0, .ref a0), (1, va_rf o1), (3, .int y3_114), (4, .int y4_114), (5, .int y5_114)]) hx hb dX0_placeOfAnswer_114 hl rfl rfl (by decide) rfl (fun ls hl => ?_)
      refine lv_goto (tgt := 51) hx hb dX0_placeOfAnswer_117 (by decide) ?_
      exact (hX51 y3_114 y4_114 y5_114 (y6_114 + (1:Int32)) I).mp h _ _ _ hR hS (hv_sub hl [1, 2, 3, 4, 5, 0] rfl)
    have hJ103 : ∀ (y3_103 : Int32) (y6_103 : Int32) (y7_103 : Option Nat) (I : MI) (H : Heap) (locs : List Loc) (ls : Array Slot), w_X0_placeOfAnswer_b103 K R a0 o1 Q X51 y3_103 y6_103 y7_103 I → Rep E K R I n H → va_S (AA E) s.heap H locs → hv ls 8 [(0, .ref a0), (1, va_rf o1), (3, .int y3_103), (6, .int y6_103), (7, va_rf y7_103)] → W p l e (rmM 2 42 0 0) s m args below meth c H locs 0 0 (MQ below (QcM E (Qi K R n Q)) args s 0 0 (AA E)) (F0 m 103 ls []) := by
      intro y3_103 y6_103 y7_103 I H locs ls h hR hS hl
      unfold w_X0_placeOfAnswer_b103 at h
      refine lv_iload hx hb dX0_placeOfAnswer_103 (hv_at hl 3 rfl) ?_
      refine v_istore (lv' := [(4, .int y6_103), (0, .ref a0), (1, va_rf o1), (3, .int y3_103), (6, .int y6_103), (7, va_rf y7_103)]) hx hb dX0_placeOfAnswer_105 hl (by decide) rfl (fun ls hl => ?_)
      refine v_aload hx hb dX0_placeOfAnswer_107 (hv_at hl 5 rfl) ?_
      obtain ⟨r1, e_y7_103, h⟩ := h
      have hl : hv ls 8 [(4, .int y6_103), (0, .ref a0), (1, va_rf o1), (3, .int y3_103), (6, .int y6_103), (7, .ref r1)] := by (try rw [e_y7_103] at hl); exact hl
      try rw [e_y7_103]
      obtain ⟨hf2, h⟩ := h
      refine v_get (T := TX3) (v := .int (I r1 8)) C hR 8 kfl_X0_144 rfl inG3 (by decide) rfl hf2 rfl dX0_placeOfAnswer_109 ?_
      refine v_istore (lv' := [(5, .int (I r1 8)), (4, .int y6_103), (0, .ref a0), (1, va_rf o1), (3, .int y3_103), (6, .int y6_103), (7, .ref r1)]) hx hb dX0_placeOfAnswer_112 hl (by decide) rfl (fun ls hl => ?_)
      exact hJ114 y3_103 y6_103 (I r1 8) y6_103 I _ _ _ h hR hS (hv_sub hl [2, 3, 4, 1, 0, 5] rfl)
    intro y3_51 y4_51 y5_51 y6_51 I h
    refine (hX51 y3_51 y4_51 y5_51 y6_51 I).mpr ?_
    intro H locs ls hR hS hl
    unfold w_X0_placeOfAnswer_b51_body at h
    refine lv_iload hx hb dX0_placeOfAnswer_51 (hv_at hl 5 rfl) ?_
    refine lv_iload_n hx hb dX0_placeOfAnswer_53 rfl (hv_at hl 2 rfl) ?_
    refine lv_icmp_ge (tgt := 120) hx hb dX0_placeOfAnswer_54 (by decide) (fun c15 => ?_) (fun c15 => ?_)
    · replace h := h.1 c15
      refine lv_iload hx hb dX0_placeOfAnswer_120 (hv_at hl 3 rfl) ?_
      exact w_ireti C rfl rfl hR hS h dX0_placeOfAnswer_122
    · replace h := h.2 c15
      refine lv_aload_n hx hb dX0_placeOfAnswer_57 rfl (hv_at hl 0 rfl) ?_
      refine v_aload_n hx hb dX0_placeOfAnswer_58 rfl (hv_at hl 1 rfl) ?_
      obtain ⟨r3, e_o1, h⟩ := h
      have hl : hv ls 8 [(0, .ref a0), (1, .ref r3), (3, .int y3_51), (4, .int y4_51), (5, .int y5_51), (6, .int y6_51)] := by (try rw [e_o1] at hl); exact hl
      try rw [e_o1]
      obtain ⟨hf4, h⟩ := h
      refine v_get (T := TX5) (v := .ref (r3 + 3)) C hR 2 kfl_X0_128 rfl inG5 (by decide) rfl (IsTarget.k hf4) (rf_of (IsTarget.r2 hf4 (I r3 2))) dX0_placeOfAnswer_59 ?_
      refine lv_iload hx hb dX0_placeOfAnswer_62 (hv_at hl 5 rfl) ?_
      refine v_cVi (As := [.int y6_51]) C hR hS hl.1.1 ca_X1_at kml_X0_111 (L_X1_at E l (r3 + 3) y6_51 I _ h) (IsLine.k (IsTarget.o2 hf4)) rfl rfl rfl rfl (Nat.le_of_ble_eq_true rfl) ⟨Nat.le_of_ble_eq_true rfl, Nat.le_of_ble_eq_true rfl⟩ ⟨Nat.zero_le _, Nat.zero_le _⟩ dX0_placeOfAnswer_64 (fun v6 I5 H locs h hR hS => ?_)
      obtain ⟨hf7, h⟩ := h
      refine v_cVo (As := [.int v6]) C hR hS hl.1.1 ca_X0_questionAt kml_X0_121 (L_X0_questionAt E l a0 v6 I5 _ h) (IsBus.k hf7) rfl rfl rfl rfl (Nat.le_of_ble_eq_true rfl) ⟨Nat.le_of_ble_eq_true rfl, Nat.le_of_ble_eq_true rfl⟩ ⟨Nat.zero_le _, Nat.zero_le _⟩ dX0_placeOfAnswer_67 (fun o9 I8 H locs h hR hS => ?_)
      refine v_astore (o := o9) (lv' := [(7, va_rf o9), (0, .ref a0), (1, .ref r3), (3, .int y3_51), (4, .int y4_51), (5, .int y5_51), (6, .int y6_51)]) hx hb dX0_placeOfAnswer_70 hl (by decide) rfl (fun ls hl => ?_)
      refine v_aload hx hb dX0_placeOfAnswer_72 (hv_at hl 0 rfl) ?_
      refine v_ifnull (tgt := 114) hx hb dX0_placeOfAnswer_74 (by decide) (fun e_o9 => ?_) (fun r10 e_o9 => ?_)
      · replace h := h.1 e_o9
        have hl : hv ls 8 [(7, .null), (0, .ref a0), (1, .ref r3), (3, .int y3_51), (4, .int y4_51), (5, .int y5_51), (6, .int y6_51)] := by (try rw [e_o9] at hl); exact hl
        try rw [e_o9]
        exact hJ114 y3_51 y4_51 y5_51 y6_51 I8 _ _ _ h hR hS (hv_sub hl [1, 2, 3, 4, 5, 6] (by rw [e_o1]; rfl))
      · replace h := h.2 r10 e_o9
        have hl : hv ls 8 [(7, .ref r10), (0, .ref a0), (1, .ref r3), (3, .int y3_51), (4, .int y4_51), (5, .int y5_51), (6, .int y6_51)] := by (try rw [e_o9] at hl); exact hl
        try rw [e_o9]
        refine lv_aload hx hb dX0_placeOfAnswer_77 (hv_at hl 0 rfl) ?_
        obtain ⟨hf11, h⟩ := h
        refine v_get (T := TX3) (v := .int (I8 r10 4)) C hR 4 kfl_X0_125 rfl inG3 (by decide) rfl hf11 rfl dX0_placeOfAnswer_79 ?_
        refine lv_iconst (v := (2:Int32)) hx hb dX0_placeOfAnswer_82 rfl ?_
        refine lv_icmp_ne (tgt := 114) hx hb dX0_placeOfAnswer_83 (by decide) (fun c14 => ?_) (fun c14 => ?_)
        · replace h := h.1 c14
          exact hJ114 y3_51 y4_51 y5_51 y6_51 I8 _ _ _ h hR hS (hv_sub hl [1, 2, 3, 4, 5, 6] (by rw [e_o1]; rfl))
        · replace h := h.2 c14
          refine lv_iload hx hb dX0_placeOfAnswer_86 (hv_at hl 4 rfl) ?_
          refine lv_bipush (v := (-5:Int32)) hx hb dX0_placeOfAnswer_88 (by decide) ?_
          refine lv_icmp_eq (tgt := 103) hx hb dX0_placeOfAnswer_90 (by decide) (fun c13 => ?_) (fun c13 => ?_)
          · replace h := h.1 c13
            exact hJ103 y3_51 y6_51 (some r10) I8 _ _ _ h hR hS (hv_sub hl [1, 2, 3, 6, 0] (by rw [e_o1]; rfl))
          · replace h := h.2 c13
            refine lv_aload hx hb dX0_placeOfAnswer_93 (hv_at hl 0 rfl) ?_
            refine v_get (T := TX3) (v := .int (I8 r10 8)) C hR 8 kfl_X0_144 rfl inG3 (by decide) rfl hf11 rfl dX0_placeOfAnswer_95 ?_
            refine lv_iload hx hb dX0_placeOfAnswer_98 (hv_at hl 5 rfl) ?_
            refine lv_icmp_ge (tgt := 114) hx hb dX0_placeOfAnswer_100 (by decide) (fun c12 => ?_) (fun c12 => ?_)
            · replace h := h.1 c12
              exact hJ114 y3_51 y4_51 y5_51 y6_51 I8 _ _ _ h hR hS (hv_sub hl [1, 2, 3, 4, 5, 6] (by rw [e_o1]; rfl))
            · replace h := h.2 c12
              exact hJ103 y3_51 y6_51 (some r10) I8 _ _ _ h hR hS (hv_sub hl [1, 2, 3, 6, 0] (by rw [e_o1]; rfl))
  have hJ40 : ∀ (z0_40 : Int32) (I : MI) (H : Heap) (locs : List Loc) (ls : Array Slot), w_X0_placeOfAnswer_b40 K R a0 o1 Q z0_40 I → Rep E K R I n H → va_S (AA E) s.heap H locs → hv ls 8 [(0, .ref a0), (1, va_rf o1)] → W p l e (rmM 2 42 0 0) s m args below meth c H locs 0 0 (MQ below (QcM E (Qi K R n Q)) args s 0 0 (AA E)) (F0 m 40 ls [.int z0_40]) := by
    intro z0_40 I H locs ls h hR hS hl
    unfold w_X0_placeOfAnswer_b40 at h
    refine v_istore_n (lv' := [(3, .int z0_40), (0, .ref a0), (1, va_rf o1)]) hx hb dX0_placeOfAnswer_40 rfl hl (by decide) rfl (fun ls hl => ?_)
    refine lv_bipush (v := (-5:Int32)) hx hb dX0_placeOfAnswer_41 (by decide) ?_
    refine v_istore (lv' := [(4, .int (-5:Int32)), (3, .int z0_40), (0, .ref a0), (1, va_rf o1)]) hx hb dX0_placeOfAnswer_43 hl (by decide) rfl (fun ls hl => ?_)
    refine lv_iconst (v := (0:Int32)) hx hb dX0_placeOfAnswer_45 rfl ?_
    refine v_istore (lv' := [(5, .int (0:Int32)), (4, .int (-5:Int32)), (3, .int z0_40), (0, .ref a0), (1, va_rf o1)]) hx hb dX0_placeOfAnswer_46 hl (by decide) rfl (fun ls hl => ?_)
    refine lv_iconst (v := (0:Int32)) hx hb dX0_placeOfAnswer_48 rfl ?_
    refine v_istore (lv' := [(6, .int (0:Int32)), (5, .int (0:Int32)), (4, .int (-5:Int32)), (3, .int z0_40), (0, .ref a0), (1, va_rf o1)]) hx hb dX0_placeOfAnswer_49 hl (by decide) rfl (fun ls hl => ?_)
    exact hJ51 z0_40 (-5:Int32) (0:Int32) (0:Int32) I _ _ _ h hR hS (hv_sub hl [4, 5, 3, 2, 1, 0] rfl)
  have hJ14 : ∀ (z0_14 : Int32) (I : MI) (H : Heap) (locs : List Loc) (ls : Array Slot), w_X0_placeOfAnswer_b14 K R a0 o1 Q z0_14 I → Rep E K R I n H → va_S (AA E) s.heap H locs → hv ls 8 [(0, .ref a0), (1, va_rf o1)] → W p l e (rmM 2 42 0 0) s m args below meth c H locs 0 0 (MQ below (QcM E (Qi K R n Q)) args s 0 0 (AA E)) (F0 m 14 ls [.int z0_14]) := by
    intro z0_14 I H locs ls h hR hS hl
    unfold w_X0_placeOfAnswer_b14 at h
    refine v_istore_n (lv' := [(2, .int z0_14), (0, .ref a0), (1, va_rf o1)]) hx hb dX0_placeOfAnswer_14 rfl hl (by decide) rfl (fun ls hl => ?_)
    refine lv_iload_n hx hb dX0_placeOfAnswer_15 rfl (hv_at hl 0 rfl) ?_
    refine lv_if_eq (tgt := 33) hx hb dX0_placeOfAnswer_16 (by decide) (fun c20 => ?_) (fun c20 => ?_)
    · replace h := h.1 c20
      refine v_aload_n hx hb dX0_placeOfAnswer_33 rfl (hv_at hl 2 rfl) ?_
      obtain ⟨r16, e_o1, h⟩ := h
      have hl : hv ls 8 [(2, .int z0_14), (0, .ref a0), (1, .ref r16)] := by (try rw [e_o1] at hl); exact hl
      try rw [e_o1]
      obtain ⟨hf17, h⟩ := h
      refine v_get (T := TX5) (v := .ref (r16 + 3)) C hR 2 kfl_X0_128 rfl inG5 (by decide) rfl (IsTarget.k hf17) (rf_of (IsTarget.r2 hf17 (I r16 2))) dX0_placeOfAnswer_34 ?_
      refine v_get (T := TX1) (v := .int (I (r16 + 3) 1)) C hR 1 kfl_X0_108 rfl inG1 (by decide) rfl (IsLine.k (IsTarget.o2 hf17)) rfl dX0_placeOfAnswer_37 ?_
      exact hJ40 (I (r16 + 3) 1) I _ _ _ h hR hS (hv_sub hl [1, 2] (by rw [e_o1]; rfl))
    · replace h := h.2 c20
      refine lv_iconst (v := (1:Int32)) hx hb dX0_placeOfAnswer_19 rfl ?_
      refine v_aload_n hx hb dX0_placeOfAnswer_20 rfl (hv_at hl 2 rfl) ?_
      obtain ⟨r18, e_o1, h⟩ := h
      have hl : hv ls 8 [(2, .int z0_14), (0, .ref a0), (1, .ref r18)] := by (try rw [e_o1] at hl); exact hl
      try rw [e_o1]
      obtain ⟨hf19, h⟩ := h
      refine v_get (T := TX5) (v := .ref (r18 + 3)) C hR 2 kfl_X0_128 rfl inG5 (by decide) rfl (IsTarget.k hf19) (rf_of (IsTarget.r2 hf19 (I r18 2))) dX0_placeOfAnswer_21 ?_
      refine v_get (T := TX1) (v := .int (I (r18 + 3) 1)) C hR 1 kfl_X0_108 rfl inG1 (by decide) rfl (IsLine.k (IsTarget.o2 hf19)) rfl dX0_placeOfAnswer_24 ?_
      refine va_mmin hx hb (hml.trans hl.1.1.symm) hown (hts _ kml_X0_187) (hts _ kst_Lib_Math_min_name) (hts _ kin_Math) (hts _ kco_Lib_Math_min_name) (Nat.le_of_ble_eq_true rfl) (Nat.le_of_ble_eq_true rfl) (Nat.zero_le _) (Nat.zero_le _) dX0_placeOfAnswer_27 ?_
      refine lv_goto (tgt := 40) hx hb dX0_placeOfAnswer_30 (by decide) ?_
      exact hJ40 (if (I (r18 + 3) 1) < (1:Int32) then (I (r18 + 3) 1) else (1:Int32)) I _ _ _ h hR hS (hv_sub hl [1, 2] (by rw [e_o1]; rfl))
  unfold w_X0_placeOfAnswer at h
  refine v_aload_n hx hb dX0_placeOfAnswer_0 rfl (hv_at hl 1 rfl) ?_
  obtain ⟨r21, e_o1, h⟩ := h
  have hl : hv ls 8 [(0, .ref a0), (1, .ref r21)] := by (try rw [e_o1] at hl); exact hl
  try rw [e_o1]
  obtain ⟨hf22, h⟩ := h
  refine v_get (T := TX5) (v := .ref (r21 + 2)) C hR 1 kfl_X0_184 rfl inG5 (by decide) rfl (IsTarget.k hf22) (rf_of (IsTarget.r1 hf22 (I r21 1))) dX0_placeOfAnswer_1 ?_
  refine lv_iconst (v := (2:Int32)) hx hb dX0_placeOfAnswer_4 rfl ?_
  refine w_iald C hR (IsTarget.a1 hf22) (show vp_in (2:Int32) 3 by unfold vp_in; decide) (j := 2) (by decide) dX0_placeOfAnswer_5 ?_
  refine lv_if_ne (tgt := 13) hx hb dX0_placeOfAnswer_6 (by decide) (fun c23 => ?_) (fun c23 => ?_)
  · replace h := h.1 c23
    refine lv_iconst (v := (0:Int32)) hx hb dX0_placeOfAnswer_13 rfl ?_
    exact hJ14 (0:Int32) I _ _ _ h hR hS (hv_sub hl [0, 1] (by rw [e_o1]; rfl))
  · replace h := h.2 c23
    refine lv_iconst (v := (1:Int32)) hx hb dX0_placeOfAnswer_9 rfl ?_
    refine lv_goto (tgt := 14) hx hb dX0_placeOfAnswer_10 (by decide) ?_
    exact hJ14 (1:Int32) I _ _ _ h hR hS (hv_sub hl [0, 1] (by rw [e_o1]; rfl))
