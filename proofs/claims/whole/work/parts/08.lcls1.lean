set_option maxHeartbeats 4000000 in
set_option maxRecDepth 100000 in
theorem L_X6_setCell (E : Ev) (l : Launch) {K : MK} {R : MR} {n : Nat} (a0 : Nat) (x1 : Int32) (x2 : Int32) (x3 : Int32) (I : MI) (Q : Int32 → MI → Prop) (h : w_X6_setCell K R a0 x1 x2 x3 I Q) : MM E l yX6_setCell cX6_setCell 6 (some Jvm.ClassFile.FieldType.int) 5 112 0 0 [.ref a0, .int x1, .int x2, .int x3] K R I n (Qi K R n Q) := by
  refine MM.of1 (by decide) RX6 rfl (cR (cI (cI (cI cN)))) (Nat.le_of_ble_eq_true rfl) ?_
  intro p e s m args below meth c ls C hin hR hS hl
  have hx := C.1
  have hb := C.2.1
  have hml := C.2.2.1
  have hown := C.2.2.2.1
  have hts := C.2.2.2.2.1
  have hl : hv ls 6 [(0, .ref a0), (1, .int x1), (2, .int x2), (3, .int x3)] := hl
  clear hin
  have hJ36 : ∀ (I : MI) (H : Heap) (locs : List Loc) (ls : Array Slot), w_X6_setCell_b36 K R a0 x1 x2 x3 Q  I → Rep E K R I n H → va_S (AA E) s.heap H locs → hv ls 6 [] → W p l e (rmM 5 112 0 0) s m args below meth c H locs 0 0 (MQ below (QcM E (Qi K R n Q)) args s 0 0 (AA E)) (F0 m 36 ls []) := by
    intro  I H locs ls h hR hS hl
    unfold w_X6_setCell_b36 at h
    refine lv_bipush (v := (-2:Int32)) hx hb dX6_setCell_36 (by decide) ?_
    exact w_ireti C rfl rfl hR hS h dX6_setCell_38
  unfold w_X6_setCell at h
  refine lv_aload_n hx hb dX6_setCell_0 rfl (hv_at hl 0 rfl) ?_
  obtain ⟨hf1, h⟩ := h
  refine v_get (T := TX6) (v := .ref (a0 + 1)) C hR 0 kfl_X6_10 rfl inG6 (by decide) rfl (IsTag.k hf1) (rf_of (IsTag.r0 hf1 (I a0 0))) dX6_setCell_1 ?_
  refine lv_iload_n hx hb dX6_setCell_4 rfl (hv_at hl 1 rfl) ?_
  refine v_cVo (As := [.int x1]) C hR hS hl.1.1 ca_X0_targetAt kml_X6_68 (L_X0_targetAt E l (a0 + 1) x1 I _ h) (IsBus.k (IsTag.o0 hf1)) rfl rfl rfl rfl (Nat.le_of_ble_eq_true rfl) ⟨Nat.le_of_ble_eq_true rfl, Nat.le_of_ble_eq_true rfl⟩ ⟨Nat.zero_le _, Nat.zero_le _⟩ dX6_setCell_5 (fun o3 I2 H locs h hR hS => ?_)
  refine v_astore (o := o3) (lv' := [(4, va_rf o3), (0, .ref a0), (1, .int x1), (2, .int x2), (3, .int x3)]) hx hb dX6_setCell_8 hl (by decide) rfl (fun ls hl => ?_)
  refine v_aload hx hb dX6_setCell_10 (hv_at hl 0 rfl) ?_
  refine v_ifnonnull (tgt := 17) hx hb dX6_setCell_12 (by decide) (fun e_o3 => ?_) (fun r4 e_o3 => ?_)
  · replace h := h.1 e_o3
    have hl : hv ls 6 [(4, .null), (0, .ref a0), (1, .int x1), (2, .int x2), (3, .int x3)] := by (try rw [e_o3] at hl); exact hl
    try rw [e_o3]
    refine lv_iconst (v := (-1:Int32)) hx hb dX6_setCell_15 rfl ?_
    exact w_ireti C rfl rfl hR hS h dX6_setCell_16
  · replace h := h.2 r4 e_o3
    have hl : hv ls 6 [(4, .ref r4), (0, .ref a0), (1, .int x1), (2, .int x2), (3, .int x3)] := by (try rw [e_o3] at hl); exact hl
    try rw [e_o3]
    refine lv_iload_n hx hb dX6_setCell_17 rfl (hv_at hl 3 rfl) ?_
    refine lv_bipush (v := (16:Int32)) hx hb dX6_setCell_18 (by decide) ?_
    refine v_cSi (As := [.int x2, .int (16:Int32)]) C hR hS hl.1.1 ca_X6_isIndex kml_X6_37 (L_X6_isIndex E l x2 (16:Int32) I2 _ h) rfl rfl (Nat.le_of_ble_eq_true rfl) ⟨Nat.le_of_ble_eq_true rfl, Nat.le_of_ble_eq_true rfl⟩ ⟨Nat.zero_le _, Nat.zero_le _⟩ dX6_setCell_20 (fun v6 I5 H locs h hR hS => ?_)
    refine lv_if_eq (tgt := 36) hx hb dX6_setCell_23 (by decide) (fun c16 => ?_) (fun c16 => ?_)
    · replace h := h.1 c16
      exact hJ36 I5 _ _ _ h hR hS (hv_sub hl [] rfl)
    · replace h := h.2 c16
      refine lv_iload_n hx hb dX6_setCell_26 rfl (hv_at hl 4 rfl) ?_
      refine lv_iconst (v := (0:Int32)) hx hb dX6_setCell_27 rfl ?_
      refine lv_bipush (v := (99:Int32)) hx hb dX6_setCell_28 (by decide) ?_
      refine v_cSi (As := [.int x3, .int (0:Int32), .int (99:Int32)]) C hR hS hl.1.1 ca_X6_isBetween kml_X6_44 (L_X6_isBetween E l x3 (0:Int32) (99:Int32) I5 _ h) rfl rfl (Nat.le_of_ble_eq_true rfl) ⟨Nat.le_of_ble_eq_true rfl, Nat.le_of_ble_eq_true rfl⟩ ⟨Nat.zero_le _, Nat.zero_le _⟩ dX6_setCell_30 (fun v8 I7 H locs h hR hS => ?_)
      refine lv_if_ne (tgt := 39) hx hb dX6_setCell_33 (by decide) (fun c15 => ?_) (fun c15 => ?_)
      · replace h := h.1 c15
        refine lv_aload hx hb dX6_setCell_39 (hv_at hl 0 rfl) ?_
        obtain ⟨hf9, h⟩ := h
        refine v_get (T := TX5) (v := .ref (r4 + 1)) C hR 0 kfl_X6_83 rfl inG5 (by decide) rfl (IsTarget.k hf9) (rf_of (IsTarget.r0 hf9 (I7 r4 0))) dX6_setCell_41 ?_
        refine lv_iload_n hx hb dX6_setCell_44 rfl (hv_at hl 3 rfl) ?_
        obtain ⟨hi10, h⟩ := h
        refine w_iald C hR (IsTarget.a0 hf9) hi10 (j := (ix x2)) rfl dX6_setCell_45 ?_
        refine v_istore (lv' := [(5, .int (I7 (r4 + 1) (ix x2))), (4, .ref r4), (0, .ref a0), (1, .int x1), (2, .int x2), (3, .int x3)]) hx hb dX6_setCell_46 hl (by decide) rfl (fun ls hl => ?_)
        refine lv_iload hx hb dX6_setCell_48 (hv_at hl 0 rfl) ?_
        refine lv_iload_n hx hb dX6_setCell_50 rfl (hv_at hl 5 rfl) ?_
        refine lv_icmp_ne (tgt := 57) hx hb dX6_setCell_51 (by decide) (fun c14 => ?_) (fun c14 => ?_)
        · replace h := h.1 c14
          refine lv_aload_n hx hb dX6_setCell_57 rfl (hv_at hl 2 rfl) ?_
          refine v_cVv (As := []) C hR hS hl.1.1 ca_X6_record kml_X6_55 (L_X6_record E l a0 I7 _ h) (IsTag.k hf1) rfl rfl rfl rfl (Nat.le_of_ble_eq_true rfl) ⟨Nat.le_of_ble_eq_true rfl, Nat.le_of_ble_eq_true rfl⟩ ⟨Nat.zero_le _, Nat.zero_le _⟩ dX6_setCell_58 (fun I11 H locs h hR hS => ?_)
          refine lv_aload hx hb dX6_setCell_61 (hv_at hl 1 rfl) ?_
          refine v_get (T := TX5) (v := .ref (r4 + 1)) C hR 0 kfl_X6_83 rfl inG5 (by decide) rfl (IsTarget.k hf9) (rf_of (IsTarget.r0 hf9 (I11 r4 0))) dX6_setCell_63 ?_
          refine lv_iload_n hx hb dX6_setCell_66 rfl (hv_at hl 4 rfl) ?_
          refine lv_iload_n hx hb dX6_setCell_67 rfl (hv_at hl 5 rfl) ?_
          obtain ⟨hi12, h⟩ := h
          obtain ⟨I13, hI13⟩ := ex_eq (upI I11 (r4 + 1) (ix x2) x3)
          replace h := h I13 hI13
          refine w_iast C hR hS (IsTarget.a0 hf9) hi12 (j := (ix x2)) rfl hI13 dX6_setCell_68 (fun H locs hR hS => ?_)
          refine lv_iload hx hb dX6_setCell_69 (hv_at hl 0 rfl) ?_
          exact w_ireti C rfl rfl hR hS h dX6_setCell_71
        · replace h := h.2 c14
          refine lv_bipush (v := (-5:Int32)) hx hb dX6_setCell_54 (by decide) ?_
          exact w_ireti C rfl rfl hR hS h dX6_setCell_56
      · replace h := h.2 c15
        exact hJ36 I7 _ _ _ h hR hS (hv_sub hl [] rfl)
set_option maxHeartbeats 4000000 in
set_option maxRecDepth 100000 in
theorem L_X3_begin (E : Ev) (l : Launch) {K : MK} {R : MR} {n : Nat} (a0 : Nat) (x1 : Int32) (x2 : Int32) (x3 : Int32) (x4 : Int32) (x5 : Int32) (I : MI) (Q : MI → Prop) (h : w_X3_begin K R a0 x1 x2 x3 x4 x5 I Q) : MM E l yX3_begin cX3_begin 6 none 0 0 0 0 [.ref a0, .int x1, .int x2, .int x3, .int x4, .int x5] K R I n (Qv K R n Q) := by
  refine MM.of1 (by decide) RX3 rfl (cR (cI (cI (cI (cI (cI cN)))))) (Nat.le_of_ble_eq_true rfl) ?_
  intro p e s m args below meth c ls C hin hR hS hl
  have hx := C.1
  have hb := C.2.1
  have hml := C.2.2.1
  have hown := C.2.2.2.1
  have hts := C.2.2.2.2.1
  have hl : hv ls 6 [(0, .ref a0), (1, .int x1), (2, .int x2), (3, .int x3), (4, .int x4), (5, .int x5)] := hl
  clear hin
  unfold w_X3_begin at h
  refine lv_aload_n hx hb dX3_begin_0 rfl (hv_at hl 0 rfl) ?_
  refine lv_iload_n hx hb dX3_begin_1 rfl (hv_at hl 1 rfl) ?_
  obtain ⟨hf1, h⟩ := h
  obtain ⟨I2, hI2⟩ := ex_eq (upI I a0 0 x1)
  replace h := h I2 hI2
  refine v_put (T := TX3) (ty := .int) C hR hS 0 kfl_X3_9 rfl inG3 tyX3 tyX3_ok nmX3 (by decide) rfl hf1 rfl (tyX3_ok 0 (by decide)) rfl rfl (fl_i_3_0 _ _ _) (Nat.le_of_ble_eq_true rfl) hI2 dX3_begin_2 (fun H locs hR hS => ?_)
  refine lv_aload_n hx hb dX3_begin_5 rfl (hv_at hl 0 rfl) ?_
  refine lv_iload_n hx hb dX3_begin_6 rfl (hv_at hl 2 rfl) ?_
  obtain ⟨I3, hI3⟩ := ex_eq (upI I2 a0 1 x2)
  replace h := h I3 hI3
  refine v_put (T := TX3) (ty := .int) C hR hS 1 kfl_X3_15 rfl inG3 tyX3 tyX3_ok nmX3 (by decide) rfl hf1 rfl (tyX3_ok 1 (by decide)) rfl rfl (fl_i_3_1 _ _ _) (Nat.le_of_ble_eq_true rfl) hI3 dX3_begin_7 (fun H locs hR hS => ?_)
  refine lv_aload_n hx hb dX3_begin_10 rfl (hv_at hl 0 rfl) ?_
  refine lv_iload_n hx hb dX3_begin_11 rfl (hv_at hl 3 rfl) ?_
  obtain ⟨I4, hI4⟩ := ex_eq (upI I3 a0 2 x3)
  replace h := h I4 hI4
  refine v_put (T := TX3) (ty := .int) C hR hS 2 kfl_X3_18 rfl inG3 tyX3 tyX3_ok nmX3 (by decide) rfl hf1 rfl (tyX3_ok 2 (by decide)) rfl rfl (fl_i_3_2 _ _ _) (Nat.le_of_ble_eq_true rfl) hI4 dX3_begin_12 (fun H locs hR hS => ?_)
  refine lv_aload_n hx hb dX3_begin_15 rfl (hv_at hl 0 rfl) ?_
  refine lv_iload hx hb dX3_begin_16 (hv_at hl 4 rfl) ?_
  obtain ⟨I5, hI5⟩ := ex_eq (upI I4 a0 3 x4)
  replace h := h I5 hI5
  refine v_put (T := TX3) (ty := .int) C hR hS 3 kfl_X3_21 rfl inG3 tyX3 tyX3_ok nmX3 (by decide) rfl hf1 rfl (tyX3_ok 3 (by decide)) rfl rfl (fl_i_3_3 _ _ _) (Nat.le_of_ble_eq_true rfl) hI5 dX3_begin_18 (fun H locs hR hS => ?_)
  refine lv_aload_n hx hb dX3_begin_21 rfl (hv_at hl 0 rfl) ?_
  refine lv_iconst (v := (0:Int32)) hx hb dX3_begin_22 rfl ?_
  obtain ⟨I6, hI6⟩ := ex_eq (upI I5 a0 4 (0:Int32))
  replace h := h I6 hI6
  refine v_put (T := TX3) (ty := .int) C hR hS 4 kfl_X3_24 rfl inG3 tyX3 tyX3_ok nmX3 (by decide) rfl hf1 rfl (tyX3_ok 4 (by decide)) rfl rfl (fl_i_3_4 _ _ _) (Nat.le_of_ble_eq_true rfl) hI6 dX3_begin_23 (fun H locs hR hS => ?_)
  refine lv_aload_n hx hb dX3_begin_26 rfl (hv_at hl 0 rfl) ?_
  refine lv_bipush (v := (-5:Int32)) hx hb dX3_begin_27 (by decide) ?_
  obtain ⟨I7, hI7⟩ := ex_eq (upI I6 a0 5 (-5:Int32))
  replace h := h I7 hI7
  refine v_put (T := TX3) (ty := .int) C hR hS 5 kfl_X3_27 rfl inG3 tyX3 tyX3_ok nmX3 (by decide) rfl hf1 rfl (tyX3_ok 5 (by decide)) rfl rfl (fl_i_3_5 _ _ _) (Nat.le_of_ble_eq_true rfl) hI7 dX3_begin_29 (fun H locs hR hS => ?_)
  refine lv_aload_n hx hb dX3_begin_32 rfl (hv_at hl 0 rfl) ?_
  refine lv_bipush (v := (-5:Int32)) hx hb dX3_begin_33 (by decide) ?_
  obtain ⟨I8, hI8⟩ := ex_eq (upI I7 a0 6 (-5:Int32))
  replace h := h I8 hI8
  refine v_put (T := TX3) (ty := .int) C hR hS 6 kfl_X3_30 rfl inG3 tyX3 tyX3_ok nmX3 (by decide) rfl hf1 rfl (tyX3_ok 6 (by decide)) rfl rfl (fl_i_3_6 _ _ _) (Nat.le_of_ble_eq_true rfl) hI8 dX3_begin_35 (fun H locs hR hS => ?_)
  refine lv_aload_n hx hb dX3_begin_38 rfl (hv_at hl 0 rfl) ?_
  refine lv_iload hx hb dX3_begin_39 (hv_at hl 5 rfl) ?_
  obtain ⟨I9, hI9⟩ := ex_eq (upI I8 a0 7 x5)
  replace h := h I9 hI9
  refine v_put (T := TX3) (ty := .int) C hR hS 7 kfl_X3_33 rfl inG3 tyX3 tyX3_ok nmX3 (by decide) rfl hf1 rfl (tyX3_ok 7 (by decide)) rfl rfl (fl_i_3_7 _ _ _) (Nat.le_of_ble_eq_true rfl) hI9 dX3_begin_41 (fun H locs hR hS => ?_)
  refine lv_aload_n hx hb dX3_begin_44 rfl (hv_at hl 0 rfl) ?_
  refine lv_bipush (v := (-5:Int32)) hx hb dX3_begin_45 (by decide) ?_
  obtain ⟨I10, hI10⟩ := ex_eq (upI I9 a0 8 (-5:Int32))
  replace h := h I10 hI10
  refine v_put (T := TX3) (ty := .int) C hR hS 8 kfl_X3_36 rfl inG3 tyX3 tyX3_ok nmX3 (by decide) rfl hf1 rfl (tyX3_ok 8 (by decide)) rfl rfl (fl_i_3_8 _ _ _) (Nat.le_of_ble_eq_true rfl) hI10 dX3_begin_47 (fun H locs hR hS => ?_)
  refine lv_aload_n hx hb dX3_begin_50 rfl (hv_at hl 0 rfl) ?_
  refine lv_bipush (v := (-5:Int32)) hx hb dX3_begin_51 (by decide) ?_
  obtain ⟨I11, hI11⟩ := ex_eq (upI I10 a0 9 (-5:Int32))
  replace h := h I11 hI11
  refine v_put (T := TX3) (ty := .int) C hR hS 9 kfl_X3_39 rfl inG3 tyX3 tyX3_ok nmX3 (by decide) rfl hf1 rfl (tyX3_ok 9 (by decide)) rfl rfl (fl_i_3_9 _ _ _) (Nat.le_of_ble_eq_true rfl) hI11 dX3_begin_53 (fun H locs hR hS => ?_)
  refine lv_aload_n hx hb dX3_begin_56 rfl (hv_at hl 0 rfl) ?_
  refine lv_iconst (v := (0:Int32)) hx hb dX3_begin_57 rfl ?_
  obtain ⟨I12, hI12⟩ := ex_eq (upI I11 a0 10 (0:Int32))
  replace h := h I12 hI12
  refine v_put (T := TX3) (ty := .int) C hR hS 10 kfl_X3_42 rfl inG3 tyX3 tyX3_ok nmX3 (by decide) rfl hf1 rfl (tyX3_ok 10 (by decide)) rfl rfl (fl_i_3_10 _ _ _) (Nat.le_of_ble_eq_true rfl) hI12 dX3_begin_58 (fun H locs hR hS => ?_)
  exact w_vret C rfl hR hS h dX3_begin_61
set_option maxHeartbeats 4000000 in
set_option maxRecDepth 100000 in
theorem L_X1_append (E : Ev) (l : Launch) {K : MK} {R : MR} {n : Nat} (a0 : Nat) (x1 : Int32) (I : MI) (Q : MI → Prop) (h : w_X1_append K R a0 x1 I Q) : MM E l yX1_append cX1_append 2 none 1 21 0 0 [.ref a0, .int x1] K R I n (Qv K R n Q) := by
  refine MM.of1 (by decide) RX1 rfl (cR (cI cN)) (Nat.le_of_ble_eq_true rfl) ?_
  intro p e s m args below meth c ls C hin hR hS hl
  have hx := C.1
  have hb := C.2.1
  have hml := C.2.2.1
  have hown := C.2.2.2.1
  have hts := C.2.2.2.2.1
  have hl : hv ls 2 [(0, .ref a0), (1, .int x1)] := hl
  clear hin
  have hJ32 : ∀ (I : MI) (H : Heap) (locs : List Loc) (ls : Array Slot), w_X1_append_b32 K R a0 x1 Q  I → Rep E K R I n H → va_S (AA E) s.heap H locs → hv ls 2 [] → W p l e (rmM 1 21 0 0) s m args below meth c H locs 0 0 (MQ below (QcM E (Qv K R n Q)) args s 0 0 (AA E)) (F0 m 32 ls []) := by
    intro  I H locs ls h hR hS hl
    unfold w_X1_append_b32 at h
    exact w_vret C rfl hR hS h dX1_append_32
  unfold w_X1_append at h
  refine lv_aload_n hx hb dX1_append_0 rfl (hv_at hl 0 rfl) ?_
  obtain ⟨hf1, h⟩ := h
  refine v_get (T := TX1) (v := .int (I a0 1)) C hR 1 kfl_X1_15 rfl inG1 (by decide) rfl (IsLine.k hf1) rfl dX1_append_1 ?_
  refine lv_bipush (v := (6:Int32)) hx hb dX1_append_4 (by decide) ?_
  refine v_cNi (As := [.int (I a0 1), .int (6:Int32)]) C hR hS hl.1.1 ca_X6_isIndex knm_X1_19 (L_X6_isIndex E l (I a0 1) (6:Int32) I _ h) rfl rfl (Nat.le_of_ble_eq_true rfl) ⟨Nat.le_of_ble_eq_true rfl, Nat.le_of_ble_eq_true rfl⟩ ⟨Nat.zero_le _, Nat.zero_le _⟩ dX1_append_6 (fun v3 I2 H locs h hR hS => ?_)
  refine lv_if_eq (tgt := 32) hx hb dX1_append_9 (by decide) (fun c7 => ?_) (fun c7 => ?_)
  · replace h := h.1 c7
    exact hJ32 I2 _ _ _ h hR hS (hv_sub hl [] rfl)
  · replace h := h.2 c7
    refine lv_aload_n hx hb dX1_append_12 rfl (hv_at hl 0 rfl) ?_
    refine v_get (T := TX1) (v := .ref (a0 + 1)) C hR 0 kfl_X1_9 rfl inG1 (by decide) rfl (IsLine.k hf1) (rf_of (IsLine.r0 hf1 (I2 a0 0))) dX1_append_13 ?_
    refine lv_aload_n hx hb dX1_append_16 rfl (hv_at hl 0 rfl) ?_
    refine v_get (T := TX1) (v := .int (I2 a0 1)) C hR 1 kfl_X1_15 rfl inG1 (by decide) rfl (IsLine.k hf1) rfl dX1_append_17 ?_
    refine lv_iload_n hx hb dX1_append_20 rfl (hv_at hl 1 rfl) ?_
    obtain ⟨hi4, h⟩ := h
    obtain ⟨I5, hI5⟩ := ex_eq (upI I2 (a0 + 1) (ix (I2 a0 1)) x1)
    replace h := h I5 hI5
    refine w_iast C hR hS (IsLine.a0 hf1) hi4 (j := (ix (I2 a0 1))) rfl hI5 dX1_append_21 (fun H locs hR hS => ?_)
    refine lv_aload_n hx hb dX1_append_22 rfl (hv_at hl 0 rfl) ?_
    refine lv_dup hx hb dX1_append_23 rfl ?_
    refine v_get (T := TX1) (v := .int (I5 a0 1)) C hR 1 kfl_X1_15 rfl inG1 (by decide) rfl (IsLine.k hf1) rfl dX1_append_24 ?_
    refine lv_iconst (v := (1:Int32)) hx hb dX1_append_27 rfl ?_
    refine lv_iadd hx hb dX1_append_28 ?_
    obtain ⟨I6, hI6⟩ := ex_eq (upI I5 a0 1 ((I5 a0 1) + (1:Int32)))
    replace h := h I6 hI6
    refine v_put (T := TX1) (ty := .int) C hR hS 1 kfl_X1_15 rfl inG1 tyX1 tyX1_ok nmX1 (by decide) rfl (IsLine.k hf1) rfl (tyX1_ok 1 (by decide)) rfl rfl (fl_i_1_1 _ _ _) (Nat.le_of_ble_eq_true rfl) hI6 dX1_append_29 (fun H locs hR hS => ?_)
    exact hJ32 I6 _ _ _ h hR hS (hv_sub hl [] rfl)
set_option maxHeartbeats 4000000 in
set_option maxRecDepth 100000 in
theorem L_X0_put (E : Ev) (l : Launch) {K : MK} {R : MR} {n : Nat} (a0 : Nat) (x1 : Int32) (x2 : Int32) (x3 : Int32) (x4 : Int32) (I : MI) (Q : Int32 → MI → Prop) (h : w_X0_put K R a0 x1 x2 x3 x4 I Q) : MM E l yX0_put cX0_put 7 (some Jvm.ClassFile.FieldType.int) 2 42 0 0 [.ref a0, .int x1, .int x2, .int x3, .int x4] K R I n (Qi K R n Q) := by
  refine MM.of1 (by decide) RX0 rfl (cR (cI (cI (cI (cI cN))))) (Nat.le_of_ble_eq_true rfl) ?_
  intro p e s m args below meth c ls C hin hR hS hl
  have hx := C.1
  have hb := C.2.1
  have hml := C.2.2.1
  have hown := C.2.2.2.1
  have hts := C.2.2.2.2.1
  have hl : hv ls 7 [(0, .ref a0), (1, .int x1), (2, .int x2), (3, .int x3), (4, .int x4)] := hl
  clear hin
  have hJ25 : ∀ (I : MI) (H : Heap) (locs : List Loc) (ls : Array Slot), w_X0_put_b25 K R a0 x1 x2 x3 x4 Q  I → Rep E K R I n H → va_S (AA E) s.heap H locs → hv ls 7 [] → W p l e (rmM 2 42 0 0) s m args below meth c H locs 0 0 (MQ below (QcM E (Qi K R n Q)) args s 0 0 (AA E)) (F0 m 25 ls []) := by
    intro  I H locs ls h hR hS hl
    unfold w_X0_put_b25 at h
    refine lv_bipush (v := (-5:Int32)) hx hb dX0_put_25 (by decide) ?_
    exact w_ireti C rfl rfl hR hS h dX0_put_27
  unfold w_X0_put at h
  refine lv_aload_n hx hb dX0_put_0 rfl (hv_at hl 0 rfl) ?_
  refine lv_iload_n hx hb dX0_put_1 rfl (hv_at hl 1 rfl) ?_
  obtain ⟨hf1, h⟩ := h
  refine v_cVo (As := [.int x1]) C hR hS hl.1.1 ca_X0_masterAt kml_X0_90 (L_X0_masterAt E l a0 x1 I _ h) (IsBus.k hf1) rfl rfl rfl rfl (Nat.le_of_ble_eq_true rfl) ⟨Nat.le_of_ble_eq_true rfl, Nat.le_of_ble_eq_true rfl⟩ ⟨Nat.zero_le _, Nat.zero_le _⟩ dX0_put_2 (fun o3 I2 H locs h hR hS => ?_)
  refine v_astore (o := o3) (lv' := [(5, va_rf o3), (0, .ref a0), (1, .int x1), (2, .int x2), (3, .int x3), (4, .int x4)]) hx hb dX0_put_5 hl (by decide) rfl (fun ls hl => ?_)
  refine v_aload hx hb dX0_put_7 (hv_at hl 0 rfl) ?_
  refine v_ifnull (tgt := 25) hx hb dX0_put_9 (by decide) (fun e_o3 => ?_) (fun r4 e_o3 => ?_)
  · replace h := h.1 e_o3
    have hl : hv ls 7 [(5, .null), (0, .ref a0), (1, .int x1), (2, .int x2), (3, .int x3), (4, .int x4)] := by (try rw [e_o3] at hl); exact hl
    try rw [e_o3]
    exact hJ25 I2 _ _ _ h hR hS (hv_sub hl [] rfl)
  · replace h := h.2 r4 e_o3
    have hl : hv ls 7 [(5, .ref r4), (0, .ref a0), (1, .int x1), (2, .int x2), (3, .int x3), (4, .int x4)] := by (try rw [e_o3] at hl); exact hl
    try rw [e_o3]
    refine lv_aload_n hx hb dX0_put_12 rfl (hv_at hl 1 rfl) ?_
    refine v_get (T := TX0) (v := .int (I2 a0 5)) C hR 5 kfl_X0_56 rfl inG0 (by decide) rfl (IsBus.k hf1) rfl dX0_put_13 ?_
    refine lv_sipush (v := (200:Int32)) hx hb dX0_put_16 (by decide) ?_
    refine v_cNi (As := [.int (I2 a0 5), .int (200:Int32)]) C hR hS hl.1.1 ca_X6_isIndex knm_X0_86 (L_X6_isIndex E l (I2 a0 5) (200:Int32) I2 _ h) rfl rfl (Nat.le_of_ble_eq_true rfl) ⟨Nat.le_of_ble_eq_true rfl, Nat.le_of_ble_eq_true rfl⟩ ⟨Nat.zero_le _, Nat.zero_le _⟩ dX0_put_19 (fun v6 I5 H locs h hR hS => ?_)
    refine lv_if_ne (tgt := 28) hx hb dX0_put_22 (by decide) (fun c12 => ?_) (fun c12 => ?_)
    · replace h := h.1 c12
      refine lv_aload_n hx hb dX0_put_28 rfl (hv_at hl 1 rfl) ?_
      refine v_get (T := TX0) (v := .int (I5 a0 5)) C hR 5 kfl_X0_56 rfl inG0 (by decide) rfl (IsBus.k hf1) rfl dX0_put_29 ?_
      refine v_istore (lv' := [(6, .int (I5 a0 5)), (5, .ref r4), (0, .ref a0), (1, .int x1), (2, .int x2), (3, .int x3), (4, .int x4)]) hx hb dX0_put_32 hl (by decide) rfl (fun ls hl => ?_)
      refine lv_aload_n hx hb dX0_put_34 rfl (hv_at hl 2 rfl) ?_
      refine v_get (T := TX0) (v := .ref (a0 + 5)) C hR 4 kfl_X0_32 rfl inG0 (by decide) rfl (IsBus.k hf1) (rf_of (IsBus.r4 hf1 (I5 a0 4))) dX0_put_35 ?_
      refine lv_iload hx hb dX0_put_38 (hv_at hl 0 rfl) ?_
      obtain ⟨hi7, h⟩ := h
      refine w_aald C hR (w := a0 + 38 + (ix (I5 a0 5))) (IsBus.a4 hf1) (by decide) rfl rfl hi7 (j := (ix (I5 a0 5))) rfl (IsBus.e4 hf1 (vp_lt hi7) _) dX0_put_40 ?_
      refine lv_iload_n hx hb dX0_put_41 rfl (hv_at hl 3 rfl) ?_
      refine lv_iload_n hx hb dX0_put_42 rfl (hv_at hl 4 rfl) ?_
      refine lv_iload_n hx hb dX0_put_43 rfl (hv_at hl 5 rfl) ?_
      refine lv_iload hx hb dX0_put_44 (hv_at hl 6 rfl) ?_
      refine lv_aload_n hx hb dX0_put_46 rfl (hv_at hl 2 rfl) ?_
      refine v_get (T := TX0) (v := .int (I5 a0 6)) C hR 6 kfl_X0_62 rfl inG0 (by decide) rfl (IsBus.k hf1) rfl dX0_put_47 ?_
      refine v_cVv (As := [.int x1, .int x2, .int x3, .int x4, .int (I5 a0 6)]) C hR hS hl.1.1 ca_X3_begin kml_X0_94 (L_X3_begin E l (a0 + 38 + (ix (I5 a0 5))) x1 x2 x3 x4 (I5 a0 6) I5 _ h) (IsBus.p4 hf1 (vp_lt hi7)) rfl rfl rfl rfl (Nat.le_of_ble_eq_true rfl) ⟨Nat.le_of_ble_eq_true rfl, Nat.le_of_ble_eq_true rfl⟩ ⟨Nat.zero_le _, Nat.zero_le _⟩ dX0_put_50 (fun I8 H locs h hR hS => ?_)
      refine lv_aload_n hx hb dX0_put_53 rfl (hv_at hl 2 rfl) ?_
      refine lv_dup hx hb dX0_put_54 rfl ?_
      refine v_get (T := TX0) (v := .int (I8 a0 5)) C hR 5 kfl_X0_56 rfl inG0 (by decide) rfl (IsBus.k hf1) rfl dX0_put_55 ?_
      refine lv_iconst (v := (1:Int32)) hx hb dX0_put_58 rfl ?_
      refine lv_iadd hx hb dX0_put_59 ?_
      obtain ⟨I9, hI9⟩ := ex_eq (upI I8 a0 5 ((I8 a0 5) + (1:Int32)))
      replace h := h I9 hI9
      refine v_put (T := TX0) (ty := .int) C hR hS 5 kfl_X0_56 rfl inG0 tyX0 tyX0_ok nmX0 (by decide) rfl (IsBus.k hf1) rfl (tyX0_ok 5 (by decide)) rfl rfl (fl_i_0_5 _ _ _) (Nat.le_of_ble_eq_true rfl) hI9 dX0_put_60 (fun H locs hR hS => ?_)
      refine lv_aload hx hb dX0_put_63 (hv_at hl 1 rfl) ?_
      obtain ⟨hf10, h⟩ := h
      refine v_get (T := TX2) (v := .ref (r4 + 1)) C hR 0 kfl_X0_98 rfl inG2 (by decide) rfl (IsMaster.k hf10) (rf_of (IsMaster.r0 hf10 (I9 r4 0))) dX0_put_65 ?_
      refine lv_iload hx hb dX0_put_68 (hv_at hl 0 rfl) ?_
      refine v_cVv (As := [.int (I5 a0 5)]) C hR hS hl.1.1 ca_X1_append kml_X0_102 (L_X1_append E l (r4 + 1) (I5 a0 5) I9 _ h) (IsLine.k (IsMaster.o0 hf10)) rfl rfl rfl rfl (Nat.le_of_ble_eq_true rfl) ⟨Nat.le_of_ble_eq_true rfl, Nat.le_of_ble_eq_true rfl⟩ ⟨Nat.zero_le _, Nat.zero_le _⟩ dX0_put_70 (fun I11 H locs h hR hS => ?_)
      refine lv_iload hx hb dX0_put_73 (hv_at hl 0 rfl) ?_
      exact w_ireti C rfl rfl hR hS h dX0_put_75
    · replace h := h.2 c12
      exact hJ25 I5 _ _ _ h hR hS (hv_sub hl [] rfl)
set_option maxHeartbeats 4000000 in
set_option maxRecDepth 100000 in
theorem L_X6_putOne (E : Ev) (l : Launch) {K : MK} {R : MR} {n : Nat} (a0 : Nat) (x1 : Int32) (x2 : Int32) (x3 : Int32) (x4 : Int32) (I : MI) (Q : Int32 → MI → Prop) (h : w_X6_putOne K R a0 x1 x2 x3 x4 I Q) : MM E l yX6_putOne cX6_putOne 6 (some Jvm.ClassFile.FieldType.int) 5 112 0 0 [.ref a0, .int x1, .int x2, .int x3, .int x4] K R I n (Qi K R n Q) := by
  refine MM.of1 (by decide) RX6 rfl (cR (cI (cI (cI (cI cN))))) (Nat.le_of_ble_eq_true rfl) ?_
  intro p e s m args below meth c ls C hin hR hS hl
  have hx := C.1
  have hb := C.2.1
  have hml := C.2.2.1
  have hown := C.2.2.2.1
  have hts := C.2.2.2.2.1
  have hl : hv ls 6 [(0, .ref a0), (1, .int x1), (2, .int x2), (3, .int x3), (4, .int x4)] := hl
  clear hin
  have hJ26 : ∀ (I : MI) (H : Heap) (locs : List Loc) (ls : Array Slot), w_X6_putOne_b26 K R a0 x1 x2 x3 x4 Q  I → Rep E K R I n H → va_S (AA E) s.heap H locs → hv ls 6 [] → W p l e (rmM 5 112 0 0) s m args below meth c H locs 0 0 (MQ below (QcM E (Qi K R n Q)) args s 0 0 (AA E)) (F0 m 26 ls []) := by
    intro  I H locs ls h hR hS hl
    unfold w_X6_putOne_b26 at h
    refine lv_iconst (v := (-1:Int32)) hx hb dX6_putOne_26 rfl ?_
    exact w_ireti C rfl rfl hR hS h dX6_putOne_27
  have hJ66 : ∀ (I : MI) (H : Heap) (locs : List Loc) (ls : Array Slot), w_X6_putOne_b66 K R a0 x1 x2 x3 x4 Q  I → Rep E K R I n H → va_S (AA E) s.heap H locs → hv ls 6 [] → W p l e (rmM 5 112 0 0) s m args below meth c H locs 0 0 (MQ below (QcM E (Qi K R n Q)) args s 0 0 (AA E)) (F0 m 66 ls []) := by
    intro  I H locs ls h hR hS hl
    unfold w_X6_putOne_b66 at h
    refine lv_bipush (v := (-3:Int32)) hx hb dX6_putOne_66 (by decide) ?_
    exact w_ireti C rfl rfl hR hS h dX6_putOne_68
  unfold w_X6_putOne at h
  refine lv_aload_n hx hb dX6_putOne_0 rfl (hv_at hl 0 rfl) ?_
  obtain ⟨hf1, h⟩ := h
  refine v_get (T := TX6) (v := .ref (a0 + 1)) C hR 0 kfl_X6_10 rfl inG6 (by decide) rfl (IsTag.k hf1) (rf_of (IsTag.r0 hf1 (I a0 0))) dX6_putOne_1 ?_
  refine lv_iload_n hx hb dX6_putOne_4 rfl (hv_at hl 1 rfl) ?_
  refine v_cVo (As := [.int x1]) C hR hS hl.1.1 ca_X0_masterAt kml_X6_58 (L_X0_masterAt E l (a0 + 1) x1 I _ h) (IsBus.k (IsTag.o0 hf1)) rfl rfl rfl rfl (Nat.le_of_ble_eq_true rfl) ⟨Nat.le_of_ble_eq_true rfl, Nat.le_of_ble_eq_true rfl⟩ ⟨Nat.zero_le _, Nat.zero_le _⟩ dX6_putOne_5 (fun o3 I2 H locs h hR hS => ?_)
  refine v_astore (o := o3) (lv' := [(5, va_rf o3), (0, .ref a0), (1, .int x1), (2, .int x2), (3, .int x3), (4, .int x4)]) hx hb dX6_putOne_8 hl (by decide) rfl (fun ls hl => ?_)
  refine v_aload hx hb dX6_putOne_10 (hv_at hl 0 rfl) ?_
  refine v_ifnull (tgt := 26) hx hb dX6_putOne_12 (by decide) (fun e_o3 => ?_) (fun r4 e_o3 => ?_)
  · replace h := h.1 e_o3
    have hl : hv ls 6 [(5, .null), (0, .ref a0), (1, .int x1), (2, .int x2), (3, .int x3), (4, .int x4)] := by (try rw [e_o3] at hl); exact hl
    try rw [e_o3]
    exact hJ26 I2 _ _ _ h hR hS (hv_sub hl [] rfl)
  · replace h := h.2 r4 e_o3
    have hl : hv ls 6 [(5, .ref r4), (0, .ref a0), (1, .int x1), (2, .int x2), (3, .int x3), (4, .int x4)] := by (try rw [e_o3] at hl); exact hl
    try rw [e_o3]
    refine lv_aload_n hx hb dX6_putOne_15 rfl (hv_at hl 1 rfl) ?_
    refine v_get (T := TX6) (v := .ref (a0 + 1)) C hR 0 kfl_X6_10 rfl inG6 (by decide) rfl (IsTag.k hf1) (rf_of (IsTag.r0 hf1 (I2 a0 0))) dX6_putOne_16 ?_
    refine lv_iload_n hx hb dX6_putOne_19 rfl (hv_at hl 3 rfl) ?_
    refine v_cVo (As := [.int x2]) C hR hS hl.1.1 ca_X0_targetAt kml_X6_68 (L_X0_targetAt E l (a0 + 1) x2 I2 _ h) (IsBus.k (IsTag.o0 hf1)) rfl rfl rfl rfl (Nat.le_of_ble_eq_true rfl) ⟨Nat.le_of_ble_eq_true rfl, Nat.le_of_ble_eq_true rfl⟩ ⟨Nat.zero_le _, Nat.zero_le _⟩ dX6_putOne_20 (fun o6 I5 H locs h hR hS => ?_)
    refine v_ifnonnull (tgt := 28) hx hb dX6_putOne_23 (by decide) (fun e_o6 => ?_) (fun r7 e_o6 => ?_)
    · replace h := h.1 e_o6
      have hl : hv ls 6 [(5, .ref r4), (0, .ref a0), (1, .int x1), (2, .int x2), (3, .int x3), (4, .int x4)] := by (try rw [e_o6] at hl); exact hl
      try rw [e_o6]
      exact hJ26 I5 _ _ _ h hR hS (hv_sub hl [] rfl)
    · replace h := h.2 r7 e_o6
      have hl : hv ls 6 [(5, .ref r4), (0, .ref a0), (1, .int x1), (2, .int x2), (3, .int x3), (4, .int x4)] := by (try rw [e_o6] at hl); exact hl
      try rw [e_o6]
      refine lv_iload_n hx hb dX6_putOne_28 rfl (hv_at hl 4 rfl) ?_
      refine lv_bipush (v := (16:Int32)) hx hb dX6_putOne_29 (by decide) ?_
      refine v_cSi (As := [.int x3, .int (16:Int32)]) C hR hS hl.1.1 ca_X6_isIndex kml_X6_37 (L_X6_isIndex E l x3 (16:Int32) I5 _ h) rfl rfl (Nat.le_of_ble_eq_true rfl) ⟨Nat.le_of_ble_eq_true rfl, Nat.le_of_ble_eq_true rfl⟩ ⟨Nat.zero_le _, Nat.zero_le _⟩ dX6_putOne_31 (fun v9 I8 H locs h hR hS => ?_)
      refine lv_if_ne (tgt := 40) hx hb dX6_putOne_34 (by decide) (fun c16 => ?_) (fun c16 => ?_)
      · replace h := h.1 c16
        refine lv_aload hx hb dX6_putOne_40 (hv_at hl 0 rfl) ?_
        obtain ⟨hf10, h⟩ := h
        refine v_get (T := TX2) (v := .ref (r4 + 1)) C hR 0 kfl_X6_121 rfl inG2 (by decide) rfl (IsMaster.k hf10) (rf_of (IsMaster.r0 hf10 (I8 r4 0))) dX6_putOne_42 ?_
        refine v_get (T := TX1) (v := .int (I8 (r4 + 1) 1)) C hR 1 kfl_X6_125 rfl inG1 (by decide) rfl (IsLine.k (IsMaster.o0 hf10)) rfl dX6_putOne_45 ?_
        refine lv_bipush (v := (6:Int32)) hx hb dX6_putOne_48 (by decide) ?_
        refine lv_icmp_ge (tgt := 66) hx hb dX6_putOne_50 (by decide) (fun c15 => ?_) (fun c15 => ?_)
        · replace h := h.1 c15
          exact hJ66 I8 _ _ _ h hR hS (hv_sub hl [] rfl)
        · replace h := h.2 c15
          refine lv_aload_n hx hb dX6_putOne_53 rfl (hv_at hl 1 rfl) ?_
          refine v_get (T := TX6) (v := .ref (a0 + 1)) C hR 0 kfl_X6_10 rfl inG6 (by decide) rfl (IsTag.k hf1) (rf_of (IsTag.r0 hf1 (I8 a0 0))) dX6_putOne_54 ?_
          refine v_get (T := TX0) (v := .int (I8 (a0 + 1) 5)) C hR 5 kfl_X6_218 rfl inG0 (by decide) rfl (IsBus.k (IsTag.o0 hf1)) rfl dX6_putOne_57 ?_
          refine lv_sipush (v := (200:Int32)) hx hb dX6_putOne_60 (by decide) ?_
          refine lv_icmp_lt (tgt := 69) hx hb dX6_putOne_63 (by decide) (fun c14 => ?_) (fun c14 => ?_)
          · replace h := h.1 c14
            refine lv_aload_n hx hb dX6_putOne_69 rfl (hv_at hl 1 rfl) ?_
            refine v_cVv (As := []) C hR hS hl.1.1 ca_X6_record kml_X6_55 (L_X6_record E l a0 I8 _ h) (IsTag.k hf1) rfl rfl rfl rfl (Nat.le_of_ble_eq_true rfl) ⟨Nat.le_of_ble_eq_true rfl, Nat.le_of_ble_eq_true rfl⟩ ⟨Nat.zero_le _, Nat.zero_le _⟩ dX6_putOne_70 (fun I11 H locs h hR hS => ?_)
            refine lv_aload_n hx hb dX6_putOne_73 rfl (hv_at hl 1 rfl) ?_
            refine v_get (T := TX6) (v := .ref (a0 + 1)) C hR 0 kfl_X6_10 rfl inG6 (by decide) rfl (IsTag.k hf1) (rf_of (IsTag.r0 hf1 (I11 a0 0))) dX6_putOne_74 ?_
            refine lv_iload_n hx hb dX6_putOne_77 rfl (hv_at hl 2 rfl) ?_
            refine lv_iload_n hx hb dX6_putOne_78 rfl (hv_at hl 3 rfl) ?_
            refine lv_iload_n hx hb dX6_putOne_79 rfl (hv_at hl 4 rfl) ?_
            refine lv_iload hx hb dX6_putOne_80 (hv_at hl 5 rfl) ?_
            refine v_cVi (As := [.int x1, .int x2, .int x3, .int x4]) C hR hS hl.1.1 ca_X0_put kml_X6_118 (L_X0_put E l (a0 + 1) x1 x2 x3 x4 I11 _ h) (IsBus.k (IsTag.o0 hf1)) rfl rfl rfl rfl (Nat.le_of_ble_eq_true rfl) ⟨Nat.le_of_ble_eq_true rfl, Nat.le_of_ble_eq_true rfl⟩ ⟨Nat.zero_le _, Nat.zero_le _⟩ dX6_putOne_82 (fun v13 I12 H locs h hR hS => ?_)
            exact w_ireti C rfl rfl hR hS h dX6_putOne_85
          · replace h := h.2 c14
            exact hJ66 I8 _ _ _ h hR hS (hv_sub hl [] rfl)
      · replace h := h.2 c16
        refine lv_bipush (v := (-2:Int32)) hx hb dX6_putOne_37 (by decide) ?_
        exact w_ireti C rfl rfl hR hS h dX6_putOne_39
set_option maxHeartbeats 4000000 in
set_option maxRecDepth 100000 in
theorem L_X6_read (E : Ev) (l : Launch) {K : MK} {R : MR} {n : Nat} (a0 : Nat) (x1 : Int32) (x2 : Int32) (x3 : Int32) (I : MI) (Q : Int32 → MI → Prop) (h : w_X6_read K R a0 x1 x2 x3 I Q) : MM E l yX6_read cX6_read 4 (some Jvm.ClassFile.FieldType.int) 6 137 0 0 [.ref a0, .int x1, .int x2, .int x3] K R I n (Qi K R n Q) := by
  refine MM.of1 (by decide) RX6 rfl (cR (cI (cI (cI cN)))) (Nat.le_of_ble_eq_true rfl) ?_
  intro p e s m args below meth c ls C hin hR hS hl
  have hx := C.1
  have hb := C.2.1
  have hml := C.2.2.1
  have hown := C.2.2.2.1
  have hts := C.2.2.2.2.1
  have hl : hv ls 4 [(0, .ref a0), (1, .int x1), (2, .int x2), (3, .int x3)] := hl
  clear hin
  unfold w_X6_read at h
  refine lv_aload_n hx hb dX6_read_0 rfl (hv_at hl 0 rfl) ?_
  refine lv_iload_n hx hb dX6_read_1 rfl (hv_at hl 1 rfl) ?_
  refine lv_iload_n hx hb dX6_read_2 rfl (hv_at hl 2 rfl) ?_
  refine lv_iload_n hx hb dX6_read_3 rfl (hv_at hl 3 rfl) ?_
  refine lv_bipush (v := (-5:Int32)) hx hb dX6_read_4 (by decide) ?_
  obtain ⟨hf1, h⟩ := h
  refine v_cVi (As := [.int x1, .int x2, .int x3, .int (-5:Int32)]) C hR hS hl.1.1 ca_X6_putOne kml_X6_86 (L_X6_putOne E l a0 x1 x2 x3 (-5:Int32) I _ h) (IsTag.k hf1) rfl rfl rfl rfl (Nat.le_of_ble_eq_true rfl) ⟨Nat.le_of_ble_eq_true rfl, Nat.le_of_ble_eq_true rfl⟩ ⟨Nat.zero_le _, Nat.zero_le _⟩ dX6_read_6 (fun v3 I2 H locs h hR hS => ?_)
  exact w_ireti C rfl rfl hR hS h dX6_read_9
set_option maxHeartbeats 4000000 in
set_option maxRecDepth 100000 in
theorem L_X6_write (E : Ev) (l : Launch) {K : MK} {R : MR} {n : Nat} (a0 : Nat) (x1 : Int32) (x2 : Int32) (x3 : Int32) (x4 : Int32) (I : MI) (Q : Int32 → MI → Prop) (h : w_X6_write K R a0 x1 x2 x3 x4 I Q) : MM E l yX6_write cX6_write 5 (some Jvm.ClassFile.FieldType.int) 6 137 0 0 [.ref a0, .int x1, .int x2, .int x3, .int x4] K R I n (Qi K R n Q) := by
  refine MM.of1 (by decide) RX6 rfl (cR (cI (cI (cI (cI cN))))) (Nat.le_of_ble_eq_true rfl) ?_
  intro p e s m args below meth c ls C hin hR hS hl
  have hx := C.1
  have hb := C.2.1
  have hml := C.2.2.1
  have hown := C.2.2.2.1
  have hts := C.2.2.2.2.1
  have hl : hv ls 5 [(0, .ref a0), (1, .int x1), (2, .int x2), (3, .int x3), (4, .int x4)] := hl
  clear hin
  have hJ22 : ∀ (I : MI) (H : Heap) (locs : List Loc) (ls : Array Slot), w_X6_write_b22 K R a0 x1 x2 x3 x4 Q  I → Rep E K R I n H → va_S (AA E) s.heap H locs → hv ls 5 [] → W p l e (rmM 6 137 0 0) s m args below meth c H locs 0 0 (MQ below (QcM E (Qi K R n Q)) args s 0 0 (AA E)) (F0 m 22 ls []) := by
    intro  I H locs ls h hR hS hl
    unfold w_X6_write_b22 at h
    refine lv_iconst (v := (-1:Int32)) hx hb dX6_write_22 rfl ?_
    exact w_ireti C rfl rfl hR hS h dX6_write_23
  unfold w_X6_write at h
  refine lv_aload_n hx hb dX6_write_0 rfl (hv_at hl 0 rfl) ?_
  obtain ⟨hf1, h⟩ := h
  refine v_get (T := TX6) (v := .ref (a0 + 1)) C hR 0 kfl_X6_10 rfl inG6 (by decide) rfl (IsTag.k hf1) (rf_of (IsTag.r0 hf1 (I a0 0))) dX6_write_1 ?_
  refine lv_iload_n hx hb dX6_write_4 rfl (hv_at hl 1 rfl) ?_
  refine v_cVo (As := [.int x1]) C hR hS hl.1.1 ca_X0_masterAt kml_X6_58 (L_X0_masterAt E l (a0 + 1) x1 I _ h) (IsBus.k (IsTag.o0 hf1)) rfl rfl rfl rfl (Nat.le_of_ble_eq_true rfl) ⟨Nat.le_of_ble_eq_true rfl, Nat.le_of_ble_eq_true rfl⟩ ⟨Nat.zero_le _, Nat.zero_le _⟩ dX6_write_5 (fun o3 I2 H locs h hR hS => ?_)
  refine v_ifnull (tgt := 22) hx hb dX6_write_8 (by decide) (fun e_o3 => ?_) (fun r4 e_o3 => ?_)
  · replace h := h.1 e_o3
    have hl : hv ls 5 [(0, .ref a0), (1, .int x1), (2, .int x2), (3, .int x3), (4, .int x4)] := by (try rw [e_o3] at hl); exact hl
    try rw [e_o3]
    exact hJ22 I2 _ _ _ h hR hS (hv_sub hl [] rfl)
  · replace h := h.2 r4 e_o3
    have hl : hv ls 5 [(0, .ref a0), (1, .int x1), (2, .int x2), (3, .int x3), (4, .int x4)] := by (try rw [e_o3] at hl); exact hl
    try rw [e_o3]
    refine lv_aload_n hx hb dX6_write_11 rfl (hv_at hl 0 rfl) ?_
    refine v_get (T := TX6) (v := .ref (a0 + 1)) C hR 0 kfl_X6_10 rfl inG6 (by decide) rfl (IsTag.k hf1) (rf_of (IsTag.r0 hf1 (I2 a0 0))) dX6_write_12 ?_
    refine lv_iload_n hx hb dX6_write_15 rfl (hv_at hl 2 rfl) ?_
    refine v_cVo (As := [.int x2]) C hR hS hl.1.1 ca_X0_targetAt kml_X6_68 (L_X0_targetAt E l (a0 + 1) x2 I2 _ h) (IsBus.k (IsTag.o0 hf1)) rfl rfl rfl rfl (Nat.le_of_ble_eq_true rfl) ⟨Nat.le_of_ble_eq_true rfl, Nat.le_of_ble_eq_true rfl⟩ ⟨Nat.zero_le _, Nat.zero_le _⟩ dX6_write_16 (fun o6 I5 H locs h hR hS => ?_)
    refine v_ifnonnull (tgt := 24) hx hb dX6_write_19 (by decide) (fun e_o6 => ?_) (fun r7 e_o6 => ?_)
    · replace h := h.1 e_o6
      have hl : hv ls 5 [(0, .ref a0), (1, .int x1), (2, .int x2), (3, .int x3), (4, .int x4)] := by (try rw [e_o6] at hl); exact hl
      try rw [e_o6]
      exact hJ22 I5 _ _ _ h hR hS (hv_sub hl [] rfl)
    · replace h := h.2 r7 e_o6
      have hl : hv ls 5 [(0, .ref a0), (1, .int x1), (2, .int x2), (3, .int x3), (4, .int x4)] := by (try rw [e_o6] at hl); exact hl
      try rw [e_o6]
      refine lv_iload hx hb dX6_write_24 (hv_at hl 4 rfl) ?_
      refine lv_iconst (v := (0:Int32)) hx hb dX6_write_26 rfl ?_
      refine lv_bipush (v := (99:Int32)) hx hb dX6_write_27 (by decide) ?_
      refine v_cSi (As := [.int x4, .int (0:Int32), .int (99:Int32)]) C hR hS hl.1.1 ca_X6_isBetween kml_X6_44 (L_X6_isBetween E l x4 (0:Int32) (99:Int32) I5 _ h) rfl rfl (Nat.le_of_ble_eq_true rfl) ⟨Nat.le_of_ble_eq_true rfl, Nat.le_of_ble_eq_true rfl⟩ ⟨Nat.zero_le _, Nat.zero_le _⟩ dX6_write_29 (fun v9 I8 H locs h hR hS => ?_)
      refine lv_if_ne (tgt := 38) hx hb dX6_write_32 (by decide) (fun c12 => ?_) (fun c12 => ?_)
      · replace h := h.1 c12
        refine lv_aload_n hx hb dX6_write_38 rfl (hv_at hl 0 rfl) ?_
        refine lv_iload_n hx hb dX6_write_39 rfl (hv_at hl 1 rfl) ?_
        refine lv_iload_n hx hb dX6_write_40 rfl (hv_at hl 2 rfl) ?_
        refine lv_iload_n hx hb dX6_write_41 rfl (hv_at hl 3 rfl) ?_
        refine lv_iload hx hb dX6_write_42 (hv_at hl 4 rfl) ?_
        refine v_cVi (As := [.int x1, .int x2, .int x3, .int x4]) C hR hS hl.1.1 ca_X6_putOne kml_X6_86 (L_X6_putOne E l a0 x1 x2 x3 x4 I8 _ h) (IsTag.k hf1) rfl rfl rfl rfl (Nat.le_of_ble_eq_true rfl) ⟨Nat.le_of_ble_eq_true rfl, Nat.le_of_ble_eq_true rfl⟩ ⟨Nat.zero_le _, Nat.zero_le _⟩ dX6_write_44 (fun v11 I10 H locs h hR hS => ?_)
        exact w_ireti C rfl rfl hR hS h dX6_write_47
      · replace h := h.2 c12
        refine lv_bipush (v := (-2:Int32)) hx hb dX6_write_35 (by decide) ?_
        exact w_ireti C rfl rfl hR hS h dX6_write_37
set_option maxHeartbeats 4000000 in
set_option maxRecDepth 100000 in
theorem L_X4_digitAt (E : Ev) (l : Launch) {K : MK} {R : MR} {n : Nat} (a0 : Nat) (x1 : Int32) (I : MI) (Q : Int32 → MI → Prop) (h : w_X4_digitAt K R a0 x1 I Q) : MM E l yX4_digitAt cX4_digitAt 3 (some Jvm.ClassFile.FieldType.int) 1 21 0 0 [.ref a0, .int x1] K R I n (Qi K R n Q) := by
  refine MM.of1 (by decide) RX4 rfl (cR (cI cN)) (Nat.le_of_ble_eq_true rfl) ?_
  intro p e s m args below meth c ls C hin hR hS hl
  have hx := C.1
  have hb := C.2.1
  have hml := C.2.2.1
  have hown := C.2.2.2.1
  have hts := C.2.2.2.2.1
  have hl : hv ls 3 [(0, .ref a0), (1, .int x1)] := hl
  clear hin
  have hJ17 : ∀ (I : MI) (H : Heap) (locs : List Loc) (ls : Array Slot), w_X4_digitAt_b17 K R a0 x1 Q  I → Rep E K R I n H → va_S (AA E) s.heap H locs → hv ls 3 [] → W p l e (rmM 1 21 0 0) s m args below meth c H locs 0 0 (MQ below (QcM E (Qi K R n Q)) args s 0 0 (AA E)) (F0 m 17 ls []) := by
    intro  I H locs ls h hR hS hl
    unfold w_X4_digitAt_b17 at h
    refine lv_bipush (v := (-5:Int32)) hx hb dX4_digitAt_17 (by decide) ?_
    exact w_ireti C rfl rfl hR hS h dX4_digitAt_19
  have hJ48 : ∀ (z0_48 : Int32) (I : MI) (H : Heap) (locs : List Loc) (ls : Array Slot), w_X4_digitAt_b48 K R a0 x1 Q z0_48 I → Rep E K R I n H → va_S (AA E) s.heap H locs → hv ls 3 [] → W p l e (rmM 1 21 0 0) s m args below meth c H locs 0 0 (MQ below (QcM E (Qi K R n Q)) args s 0 0 (AA E)) (F0 m 48 ls [.int z0_48]) := by
    intro z0_48 I H locs ls h hR hS hl
    unfold w_X4_digitAt_b48 at h
    exact w_ireti C rfl rfl hR hS h dX4_digitAt_48
  have hJ46 : ∀ (I : MI) (H : Heap) (locs : List Loc) (ls : Array Slot), w_X4_digitAt_b46 K R a0 x1 Q  I → Rep E K R I n H → va_S (AA E) s.heap H locs → hv ls 3 [] → W p l e (rmM 1 21 0 0) s m args below meth c H locs 0 0 (MQ below (QcM E (Qi K R n Q)) args s 0 0 (AA E)) (F0 m 46 ls []) := by
    intro  I H locs ls h hR hS hl
    unfold w_X4_digitAt_b46 at h
    refine lv_bipush (v := (-5:Int32)) hx hb dX4_digitAt_46 (by decide) ?_
    exact hJ48 (-5:Int32) I _ _ _ h hR hS (hv_sub hl [] rfl)
  unfold w_X4_digitAt at h
  refine lv_iload_n hx hb dX4_digitAt_0 rfl (hv_at hl 1 rfl) ?_
  refine lv_aload_n hx hb dX4_digitAt_1 rfl (hv_at hl 0 rfl) ?_
  obtain ⟨hf1, h⟩ := h
  refine v_get (T := TX4) (v := .int (I a0 1)) C hR 1 kfl_X4_22 rfl inG4 (by decide) rfl (IsText.k hf1) rfl dX4_digitAt_2 ?_
  refine lv_icmp_ge (tgt := 17) hx hb dX4_digitAt_5 (by decide) (fun c8 => ?_) (fun c8 => ?_)
  · replace h := h.1 c8
    exact hJ17 I _ _ _ h hR hS (hv_sub hl [] rfl)
  · replace h := h.2 c8
    refine lv_iload_n hx hb dX4_digitAt_8 rfl (hv_at hl 1 rfl) ?_
    refine lv_bipush (v := (60:Int32)) hx hb dX4_digitAt_9 (by decide) ?_
    refine v_cNi (As := [.int x1, .int (60:Int32)]) C hR hS hl.1.1 ca_X6_isIndex knm_X4_26 (L_X6_isIndex E l x1 (60:Int32) I _ h) rfl rfl (Nat.le_of_ble_eq_true rfl) ⟨Nat.le_of_ble_eq_true rfl, Nat.le_of_ble_eq_true rfl⟩ ⟨Nat.zero_le _, Nat.zero_le _⟩ dX4_digitAt_11 (fun v3 I2 H locs h hR hS => ?_)
    refine lv_if_ne (tgt := 20) hx hb dX4_digitAt_14 (by decide) (fun c7 => ?_) (fun c7 => ?_)
    · replace h := h.1 c7
      refine lv_aload_n hx hb dX4_digitAt_20 rfl (hv_at hl 0 rfl) ?_
      refine v_get (T := TX4) (v := .ref (a0 + 1)) C hR 0 kfl_X4_9 rfl inG4 (by decide) rfl (IsText.k hf1) (rf_of (IsText.r0 hf1 (I2 a0 0))) dX4_digitAt_21 ?_
      refine lv_iload_n hx hb dX4_digitAt_24 rfl (hv_at hl 1 rfl) ?_
      obtain ⟨hi4, h⟩ := h
      refine w_cald C hR (IsText.a0 hf1) hi4 (j := (ix x1)) rfl dX4_digitAt_25 ?_
      refine v_istore_n (lv' := [(2, .int (I2 (a0 + 1) (ix x1))), (0, .ref a0), (1, .int x1)]) hx hb dX4_digitAt_26 rfl hl (by decide) rfl (fun ls hl => ?_)
      refine lv_iload_n hx hb dX4_digitAt_27 rfl (hv_at hl 0 rfl) ?_
      refine lv_bipush (v := (48:Int32)) hx hb dX4_digitAt_28 (by decide) ?_
      refine lv_icmp_lt (tgt := 46) hx hb dX4_digitAt_30 (by decide) (fun c6 => ?_) (fun c6 => ?_)
      · replace h := h.1 c6
        exact hJ46 I2 _ _ _ h hR hS (hv_sub hl [] rfl)
      · replace h := h.2 c6
        refine lv_iload_n hx hb dX4_digitAt_33 rfl (hv_at hl 0 rfl) ?_
        refine lv_bipush (v := (57:Int32)) hx hb dX4_digitAt_34 (by decide) ?_
        refine lv_icmp_gt (tgt := 46) hx hb dX4_digitAt_36 (by decide) (fun c5 => ?_) (fun c5 => ?_)
        · replace h := h.1 c5
          exact hJ46 I2 _ _ _ h hR hS (hv_sub hl [] rfl)
        · replace h := h.2 c5
          refine lv_iload_n hx hb dX4_digitAt_39 rfl (hv_at hl 0 rfl) ?_
          refine lv_bipush (v := (48:Int32)) hx hb dX4_digitAt_40 (by decide) ?_
          refine lv_isub hx hb dX4_digitAt_42 ?_
          refine lv_goto (tgt := 48) hx hb dX4_digitAt_43 (by decide) ?_
          exact hJ48 ((I2 (a0 + 1) (ix x1)) - (48:Int32)) I2 _ _ _ h hR hS (hv_sub hl [] rfl)
    · replace h := h.2 c7
      exact hJ17 I2 _ _ _ h hR hS (hv_sub hl [] rfl)
set_option maxHeartbeats 4000000 in
set_option maxRecDepth 100000 in
theorem L_X4_readNumber (E : Ev) (l : Launch) {K : MK} {R : MR} {n : Nat} (a0 : Nat) (x1 : Int32) (I : MI) (Q : Int32 → MI → Prop) (h : w_X4_readNumber K R a0 x1 I Q) : MM E l yX4_readNumber cX4_readNumber 4 (some Jvm.ClassFile.FieldType.int) 2 43 0 0 [.ref a0, .int x1] K R I n (Qi K R n Q) := by
  refine MM.of1 (by decide) RX4 rfl (cR (cI cN)) (Nat.le_of_ble_eq_true rfl) ?_
  intro p e s m args below meth c ls C hin hR hS hl
  have hx := C.1
  have hb := C.2.1
  have hml := C.2.2.1
  have hown := C.2.2.2.1
  have hts := C.2.2.2.2.1
  have hl : hv ls 4 [(0, .ref a0), (1, .int x1)] := hl
  clear hin
  have hJ20 : ∀ (I : MI) (H : Heap) (locs : List Loc) (ls : Array Slot), w_X4_readNumber_b20 K R a0 x1 Q  I → Rep E K R I n H → va_S (AA E) s.heap H locs → hv ls 4 [] → W p l e (rmM 2 43 0 0) s m args below meth c H locs 0 0 (MQ below (QcM E (Qi K R n Q)) args s 0 0 (AA E)) (F0 m 20 ls []) := by
    intro  I H locs ls h hR hS hl
    unfold w_X4_readNumber_b20 at h
    refine lv_bipush (v := (-5:Int32)) hx hb dX4_readNumber_20 (by decide) ?_
    exact w_ireti C rfl rfl hR hS h dX4_readNumber_22
  have hJ62 : ∀ (y2_62 : Int32) (I : MI) (H : Heap) (locs : List Loc) (ls : Array Slot), w_X4_readNumber_b62 K R a0 x1 Q y2_62 I → Rep E K R I n H → va_S (AA E) s.heap H locs → hv ls 4 [(2, .int y2_62)] → W p l e (rmM 2 43 0 0) s m args below meth c H locs 0 0 (MQ below (QcM E (Qi K R n Q)) args s 0 0 (AA E)) (F0 m 62 ls []) := by
    intro y2_62 I H locs ls h hR hS hl
    unfold w_X4_readNumber_b62 at h
    refine lv_iload_n hx hb dX4_readNumber_62 rfl (hv_at hl 0 rfl) ?_
    exact w_ireti C rfl rfl hR hS h dX4_readNumber_63
  unfold w_X4_readNumber at h
  refine lv_aload_n hx hb dX4_readNumber_0 rfl (hv_at hl 0 rfl) ?_
  refine lv_aload_n hx hb dX4_readNumber_1 rfl (hv_at hl 0 rfl) ?_
  obtain ⟨hf1, h⟩ := h
  refine v_get (T := TX4) (v := .int (I a0 4)) C hR 4 kfl_X4_36 rfl inG4 (by decide) rfl (IsText.k hf1) rfl dX4_readNumber_2 ?_
  refine v_cVi (As := [.int (I a0 4)]) C hR hS hl.1.1 ca_X4_digitAt kml_X4_55 (L_X4_digitAt E l a0 (I a0 4) I _ h) (IsText.k hf1) rfl rfl rfl rfl (Nat.le_of_ble_eq_true rfl) ⟨Nat.le_of_ble_eq_true rfl, Nat.le_of_ble_eq_true rfl⟩ ⟨Nat.zero_le _, Nat.zero_le _⟩ dX4_readNumber_5 (fun v3 I2 H locs h hR hS => ?_)
  refine v_istore_n (lv' := [(2, .int v3), (0, .ref a0), (1, .int x1)]) hx hb dX4_readNumber_8 rfl hl (by decide) rfl (fun ls hl => ?_)
  refine lv_iload_n hx hb dX4_readNumber_9 rfl (hv_at hl 0 rfl) ?_
  refine lv_bipush (v := (-5:Int32)) hx hb dX4_readNumber_10 (by decide) ?_
  refine lv_icmp_eq (tgt := 20) hx hb dX4_readNumber_12 (by decide) (fun c12 => ?_) (fun c12 => ?_)
  · replace h := h.1 c12
    exact hJ20 I2 _ _ _ h hR hS (hv_sub hl [] rfl)
  · replace h := h.2 c12
    refine lv_iload_n hx hb dX4_readNumber_15 rfl (hv_at hl 0 rfl) ?_
    refine lv_iload_n hx hb dX4_readNumber_16 rfl (hv_at hl 2 rfl) ?_
    refine lv_icmp_le (tgt := 23) hx hb dX4_readNumber_17 (by decide) (fun c11 => ?_) (fun c11 => ?_)
    · replace h := h.1 c11
      refine lv_aload_n hx hb dX4_readNumber_23 rfl (hv_at hl 1 rfl) ?_
      refine lv_dup hx hb dX4_readNumber_24 rfl ?_
      refine v_get (T := TX4) (v := .int (I2 a0 4)) C hR 4 kfl_X4_36 rfl inG4 (by decide) rfl (IsText.k hf1) rfl dX4_readNumber_25 ?_
      refine lv_iconst (v := (1:Int32)) hx hb dX4_readNumber_28 rfl ?_
      refine lv_iadd hx hb dX4_readNumber_29 ?_
      obtain ⟨I4, hI4⟩ := ex_eq (upI I2 a0 4 ((I2 a0 4) + (1:Int32)))
      replace h := h I4 hI4
      refine v_put (T := TX4) (ty := .int) C hR hS 4 kfl_X4_36 rfl inG4 tyX4 tyX4_ok nmX4 (by decide) rfl (IsText.k hf1) rfl (tyX4_ok 4 (by decide)) rfl rfl (fl_i_4_4 _ _ _) (Nat.le_of_ble_eq_true rfl) hI4 dX4_readNumber_30 (fun H locs hR hS => ?_)
      refine lv_aload_n hx hb dX4_readNumber_33 rfl (hv_at hl 1 rfl) ?_
      refine lv_aload_n hx hb dX4_readNumber_34 rfl (hv_at hl 1 rfl) ?_
      refine v_get (T := TX4) (v := .int (I4 a0 4)) C hR 4 kfl_X4_36 rfl inG4 (by decide) rfl (IsText.k hf1) rfl dX4_readNumber_35 ?_
      refine v_cVi (As := [.int (I4 a0 4)]) C hR hS hl.1.1 ca_X4_digitAt kml_X4_55 (L_X4_digitAt E l a0 (I4 a0 4) I4 _ h) (IsText.k hf1) rfl rfl rfl rfl (Nat.le_of_ble_eq_true rfl) ⟨Nat.le_of_ble_eq_true rfl, Nat.le_of_ble_eq_true rfl⟩ ⟨Nat.zero_le _, Nat.zero_le _⟩ dX4_readNumber_38 (fun v6 I5 H locs h hR hS => ?_)
      refine v_istore_n (lv' := [(3, .int v6), (2, .int v3), (0, .ref a0), (1, .int x1)]) hx hb dX4_readNumber_41 rfl hl (by decide) rfl (fun ls hl => ?_)
      refine lv_iload_n hx hb dX4_readNumber_42 rfl (hv_at hl 1 rfl) ?_
      refine lv_if_eq (tgt := 62) hx hb dX4_readNumber_43 (by decide) (fun c10 => ?_) (fun c10 => ?_)
      · replace h := h.1 c10
        exact hJ62 v3 I5 _ _ _ h hR hS (hv_sub hl [1] rfl)
      · replace h := h.2 c10
        refine lv_iload_n hx hb dX4_readNumber_46 rfl (hv_at hl 0 rfl) ?_
        refine lv_bipush (v := (-5:Int32)) hx hb dX4_readNumber_47 (by decide) ?_
        refine lv_icmp_eq (tgt := 62) hx hb dX4_readNumber_49 (by decide) (fun c9 => ?_) (fun c9 => ?_)
        · replace h := h.1 c9
          exact hJ62 v3 I5 _ _ _ h hR hS (hv_sub hl [1] rfl)
        · replace h := h.2 c9
          refine lv_iload_n hx hb dX4_readNumber_52 rfl (hv_at hl 1 rfl) ?_
          refine lv_bipush (v := (10:Int32)) hx hb dX4_readNumber_53 (by decide) ?_
          refine lv_imul hx hb dX4_readNumber_55 ?_
          refine lv_iload_n hx hb dX4_readNumber_56 rfl (hv_at hl 0 rfl) ?_
          refine lv_iadd hx hb dX4_readNumber_57 ?_
          refine lv_iload_n hx hb dX4_readNumber_58 rfl (hv_at hl 3 rfl) ?_
          refine lv_icmp_le (tgt := 64) hx hb dX4_readNumber_59 (by decide) (fun c8 => ?_) (fun c8 => ?_)
          · replace h := h.1 c8
            refine lv_aload_n hx hb dX4_readNumber_64 rfl (hv_at hl 2 rfl) ?_
            refine lv_dup hx hb dX4_readNumber_65 rfl ?_
            refine v_get (T := TX4) (v := .int (I5 a0 4)) C hR 4 kfl_X4_36 rfl inG4 (by decide) rfl (IsText.k hf1) rfl dX4_readNumber_66 ?_
            refine lv_iconst (v := (1:Int32)) hx hb dX4_readNumber_69 rfl ?_
            refine lv_iadd hx hb dX4_readNumber_70 ?_
            obtain ⟨I7, hI7⟩ := ex_eq (upI I5 a0 4 ((I5 a0 4) + (1:Int32)))
            replace h := h I7 hI7
            refine v_put (T := TX4) (ty := .int) C hR hS 4 kfl_X4_36 rfl inG4 tyX4 tyX4_ok nmX4 (by decide) rfl (IsText.k hf1) rfl (tyX4_ok 4 (by decide)) rfl rfl (fl_i_4_4 _ _ _) (Nat.le_of_ble_eq_true rfl) hI7 dX4_readNumber_71 (fun H locs hR hS => ?_)
            refine lv_iload_n hx hb dX4_readNumber_74 rfl (hv_at hl 1 rfl) ?_
            refine lv_bipush (v := (10:Int32)) hx hb dX4_readNumber_75 (by decide) ?_
            refine lv_imul hx hb dX4_readNumber_77 ?_
            refine lv_iload_n hx hb dX4_readNumber_78 rfl (hv_at hl 0 rfl) ?_
            refine lv_iadd hx hb dX4_readNumber_79 ?_
            exact w_ireti C rfl rfl hR hS h dX4_readNumber_80
          · replace h := h.2 c8
            exact hJ62 v3 I5 _ _ _ h hR hS (hv_sub hl [1] rfl)
    · replace h := h.2 c11
      exact hJ20 I2 _ _ _ h hR hS (hv_sub hl [] rfl)
set_option maxHeartbeats 4000000 in
set_option maxRecDepth 100000 in
theorem L_X4_skip (E : Ev) (l : Launch) {K : MK} {R : MR} {n : Nat} (a0 : Nat) (x1 : Int32) (I : MI) (Q : Int32 → MI → Prop) (h : w_X4_skip K R a0 x1 I Q) : MM E l yX4_skip cX4_skip 2 (some Jvm.ClassFile.FieldType.boolean) 1 21 0 0 [.ref a0, .int x1] K R I n (Qi K R n Q) := by
  refine MM.of1 (by decide) RX4 rfl (cR (cI cN)) (Nat.le_of_ble_eq_true rfl) ?_
  intro p e s m args below meth c ls C hin hR hS hl
  have hx := C.1
  have hb := C.2.1
  have hml := C.2.2.1
  have hown := C.2.2.2.1
  have hts := C.2.2.2.2.1
  have hl : hv ls 2 [(0, .ref a0), (1, .int x1)] := hl
  clear hin
  have hJ36 : ∀ (I : MI) (H : Heap) (locs : List Loc) (ls : Array Slot), w_X4_skip_b36 K R a0 x1 Q  I → Rep E K R I n H → va_S (AA E) s.heap H locs → hv ls 2 [] → W p l e (rmM 1 21 0 0) s m args below meth c H locs 0 0 (MQ below (QcM E (Qi K R n Q)) args s 0 0 (AA E)) (F0 m 36 ls []) := by
    intro  I H locs ls h hR hS hl
    unfold w_X4_skip_b36 at h
    refine lv_iconst (v := (0:Int32)) hx hb dX4_skip_36 rfl ?_
    exact w_ireti C rfl rfl hR hS h dX4_skip_37
  unfold w_X4_skip at h
  refine lv_aload_n hx hb dX4_skip_0 rfl (hv_at hl 0 rfl) ?_
  obtain ⟨hf1, h⟩ := h
  refine v_get (T := TX4) (v := .int (I a0 4)) C hR 4 kfl_X4_36 rfl inG4 (by decide) rfl (IsText.k hf1) rfl dX4_skip_1 ?_
  refine lv_aload_n hx hb dX4_skip_4 rfl (hv_at hl 0 rfl) ?_
  refine v_get (T := TX4) (v := .int (I a0 1)) C hR 1 kfl_X4_22 rfl inG4 (by decide) rfl (IsText.k hf1) rfl dX4_skip_5 ?_
  refine lv_icmp_ge (tgt := 36) hx hb dX4_skip_8 (by decide) (fun c8 => ?_) (fun c8 => ?_)
  · replace h := h.1 c8
    exact hJ36 I _ _ _ h hR hS (hv_sub hl [] rfl)
  · replace h := h.2 c8
    refine lv_aload_n hx hb dX4_skip_11 rfl (hv_at hl 0 rfl) ?_
    refine v_get (T := TX4) (v := .int (I a0 4)) C hR 4 kfl_X4_36 rfl inG4 (by decide) rfl (IsText.k hf1) rfl dX4_skip_12 ?_
    refine lv_bipush (v := (60:Int32)) hx hb dX4_skip_15 (by decide) ?_
    refine v_cNi (As := [.int (I a0 4), .int (60:Int32)]) C hR hS hl.1.1 ca_X6_isIndex knm_X4_26 (L_X6_isIndex E l (I a0 4) (60:Int32) I _ h) rfl rfl (Nat.le_of_ble_eq_true rfl) ⟨Nat.le_of_ble_eq_true rfl, Nat.le_of_ble_eq_true rfl⟩ ⟨Nat.zero_le _, Nat.zero_le _⟩ dX4_skip_17 (fun v3 I2 H locs h hR hS => ?_)
    refine lv_if_eq (tgt := 36) hx hb dX4_skip_20 (by decide) (fun c7 => ?_) (fun c7 => ?_)
    · replace h := h.1 c7
      exact hJ36 I2 _ _ _ h hR hS (hv_sub hl [] rfl)
    · replace h := h.2 c7
      refine lv_aload_n hx hb dX4_skip_23 rfl (hv_at hl 0 rfl) ?_
      refine v_get (T := TX4) (v := .ref (a0 + 1)) C hR 0 kfl_X4_9 rfl inG4 (by decide) rfl (IsText.k hf1) (rf_of (IsText.r0 hf1 (I2 a0 0))) dX4_skip_24 ?_
      refine lv_aload_n hx hb dX4_skip_27 rfl (hv_at hl 0 rfl) ?_
      refine v_get (T := TX4) (v := .int (I2 a0 4)) C hR 4 kfl_X4_36 rfl inG4 (by decide) rfl (IsText.k hf1) rfl dX4_skip_28 ?_
      obtain ⟨hi4, h⟩ := h
      refine w_cald C hR (IsText.a0 hf1) hi4 (j := (ix (I2 a0 4))) rfl dX4_skip_31 ?_
      refine lv_iload_n hx hb dX4_skip_32 rfl (hv_at hl 1 rfl) ?_
      refine lv_icmp_eq (tgt := 38) hx hb dX4_skip_33 (by decide) (fun c6 => ?_) (fun c6 => ?_)
      · replace h := h.1 c6
        refine lv_aload_n hx hb dX4_skip_38 rfl (hv_at hl 0 rfl) ?_
        refine lv_dup hx hb dX4_skip_39 rfl ?_
        refine v_get (T := TX4) (v := .int (I2 a0 4)) C hR 4 kfl_X4_36 rfl inG4 (by decide) rfl (IsText.k hf1) rfl dX4_skip_40 ?_
        refine lv_iconst (v := (1:Int32)) hx hb dX4_skip_43 rfl ?_
        refine lv_iadd hx hb dX4_skip_44 ?_
        obtain ⟨I5, hI5⟩ := ex_eq (upI I2 a0 4 ((I2 a0 4) + (1:Int32)))
        replace h := h I5 hI5
        refine v_put (T := TX4) (ty := .int) C hR hS 4 kfl_X4_36 rfl inG4 tyX4 tyX4_ok nmX4 (by decide) rfl (IsText.k hf1) rfl (tyX4_ok 4 (by decide)) rfl rfl (fl_i_4_4 _ _ _) (Nat.le_of_ble_eq_true rfl) hI5 dX4_skip_45 (fun H locs hR hS => ?_)
        refine lv_iconst (v := (1:Int32)) hx hb dX4_skip_48 rfl ?_
        exact w_ireti C rfl rfl hR hS h dX4_skip_49
      · replace h := h.2 c6
        exact hJ36 I2 _ _ _ h hR hS (hv_sub hl [] rfl)
set_option maxHeartbeats 4000000 in
set_option maxRecDepth 100000 in
theorem L_X4_readQuestion (E : Ev) (l : Launch) {K : MK} {R : MR} {n : Nat} (a0 : Nat) (o1 : Option Nat) (I : MI) (Q : Int32 → MI → Prop) (h : w_X4_readQuestion K R a0 o1 I Q) : MM E l yX4_readQuestion cX4_readQuestion 7 (some Jvm.ClassFile.FieldType.boolean) 3 66 0 0 [.ref a0, va_rf o1] K R I n (Qi K R n Q) := by
  refine MM.of1 (by decide) RX4 rfl (cR (cO cN)) (Nat.le_of_ble_eq_true rfl) ?_
  intro p e s m args below meth c ls C hin hR hS hl
  have hx := C.1
  have hb := C.2.1
  have hml := C.2.2.1
  have hown := C.2.2.2.1
  have hts := C.2.2.2.2.1
  have hl : hv ls 7 [(0, .ref a0), (1, va_rf o1)] := hl
  clear hin
  have hJ21 : ∀ (I : MI) (H : Heap) (locs : List Loc) (ls : Array Slot), w_X4_readQuestion_b21 K R a0 o1 Q  I → Rep E K R I n H → va_S (AA E) s.heap H locs → hv ls 7 [] → W p l e (rmM 3 66 0 0) s m args below meth c H locs 0 0 (MQ below (QcM E (Qi K R n Q)) args s 0 0 (AA E)) (F0 m 21 ls []) := by
    intro  I H locs ls h hR hS hl
    unfold w_X4_readQuestion_b21 at h
    refine lv_iconst (v := (0:Int32)) hx hb dX4_readQuestion_21 rfl ?_
    exact w_ireti C rfl rfl hR hS h dX4_readQuestion_22
  have hJ90 : ∀ (I : MI) (H : Heap) (locs : List Loc) (ls : Array Slot), w_X4_readQuestion_b90 K R a0 o1 Q  I → Rep E K R I n H → va_S (AA E) s.heap H locs → hv ls 7 [] → W p l e (rmM 3 66 0 0) s m args below meth c H locs 0 0 (MQ below (QcM E (Qi K R n Q)) args s 0 0 (AA E)) (F0 m 90 ls []) := by
    intro  I H locs ls h hR hS hl
    unfold w_X4_readQuestion_b90 at h
    refine lv_iconst (v := (0:Int32)) hx hb dX4_readQuestion_90 rfl ?_
    exact w_ireti C rfl rfl hR hS h dX4_readQuestion_91
  have hJ124 : ∀ (y2_124 : Int32) (y3_124 : Int32) (y5_124 : Int32) (y6_124 : Int32) (I : MI) (H : Heap) (locs : List Loc) (ls : Array Slot), w_X4_readQuestion_b124 K R a0 o1 Q y2_124 y3_124 y5_124 y6_124 I → Rep E K R I n H → va_S (AA E) s.heap H locs → hv ls 7 [(1, va_rf o1), (2, .int y2_124), (3, .int y3_124), (5, .int y5_124), (6, .int y6_124)] → W p l e (rmM 3 66 0 0) s m args below meth c H locs 0 0 (MQ below (QcM E (Qi K R n Q)) args s 0 0 (AA E)) (F0 m 124 ls []) := by
    intro y2_124 y3_124 y5_124 y6_124 I H locs ls h hR hS hl
    unfold w_X4_readQuestion_b124 at h
    refine v_aload_n hx hb dX4_readQuestion_124 rfl (hv_at hl 0 rfl) ?_
    refine lv_iload_n hx hb dX4_readQuestion_125 rfl (hv_at hl 1 rfl) ?_
    refine lv_iload_n hx hb dX4_readQuestion_126 rfl (hv_at hl 2 rfl) ?_
    refine lv_iload hx hb dX4_readQuestion_127 (hv_at hl 3 rfl) ?_
    refine lv_iload hx hb dX4_readQuestion_129 (hv_at hl 4 rfl) ?_
    refine lv_iconst (v := (0:Int32)) hx hb dX4_readQuestion_131 rfl ?_
    obtain ⟨r1, e_o1, h⟩ := h
    have hl : hv ls 7 [(1, .ref r1), (2, .int y2_124), (3, .int y3_124), (5, .int y5_124), (6, .int y6_124)] := by (try rw [e_o1] at hl); exact hl
    try rw [e_o1]
    obtain ⟨hf2, h⟩ := h
    refine v_cVv (As := [.int y2_124, .int y3_124, .int y5_124, .int y6_124, .int (0:Int32)]) C hR hS hl.1.1 ca_X3_begin kml_X4_51 (L_X3_begin E l r1 y2_124 y3_124 y5_124 y6_124 (0:Int32) I _ h) hf2 rfl rfl rfl rfl (Nat.le_of_ble_eq_true rfl) ⟨Nat.le_of_ble_eq_true rfl, Nat.le_of_ble_eq_true rfl⟩ ⟨Nat.zero_le _, Nat.zero_le _⟩ dX4_readQuestion_132 (fun I3 H locs h hR hS => ?_)
    refine lv_iconst (v := (1:Int32)) hx hb dX4_readQuestion_135 rfl ?_
    exact w_ireti C rfl rfl hR hS h dX4_readQuestion_136
  have hJ108 : ∀ (y2_108 : Int32) (y3_108 : Int32) (y4_108 : Int32) (y5_108 : Int32) (z0_108 : Int32) (I : MI) (H : Heap) (locs : List Loc) (ls : Array Slot), w_X4_readQuestion_b108 K R a0 o1 Q y2_108 y3_108 y4_108 y5_108 z0_108 I → Rep E K R I n H → va_S (AA E) s.heap H locs → hv ls 7 [(1, va_rf o1), (2, .int y2_108), (3, .int y3_108), (4, .int y4_108), (5, .int y5_108)] → W p l e (rmM 3 66 0 0) s m args below meth c H locs 0 0 (MQ below (QcM E (Qi K R n Q)) args s 0 0 (AA E)) (F0 m 108 ls [.int z0_108]) := by
    intro y2_108 y3_108 y4_108 y5_108 z0_108 I H locs ls h hR hS hl
    unfold w_X4_readQuestion_b108 at h
    refine v_istore (lv' := [(6, .int z0_108), (1, va_rf o1), (2, .int y2_108), (3, .int y3_108), (4, .int y4_108), (5, .int y5_108)]) hx hb dX4_readQuestion_108 hl (by decide) rfl (fun ls hl => ?_)
    refine lv_iload hx hb dX4_readQuestion_110 (hv_at hl 4 rfl) ?_
    refine lv_if_eq (tgt := 124) hx hb dX4_readQuestion_112 (by decide) (fun c5 => ?_) (fun c5 => ?_)
    · replace h := h.1 c5
      exact hJ124 y2_108 y3_108 y5_108 z0_108 I _ _ _ h hR hS (hv_sub hl [1, 2, 3, 5, 0] rfl)
    · replace h := h.2 c5
      refine lv_iload hx hb dX4_readQuestion_115 (hv_at hl 0 rfl) ?_
      refine lv_bipush (v := (-5:Int32)) hx hb dX4_readQuestion_117 (by decide) ?_
      refine lv_icmp_ne (tgt := 124) hx hb dX4_readQuestion_119 (by decide) (fun c4 => ?_) (fun c4 => ?_)
      · replace h := h.1 c4
        exact hJ124 y2_108 y3_108 y5_108 z0_108 I _ _ _ h hR hS (hv_sub hl [1, 2, 3, 5, 0] rfl)
      · replace h := h.2 c4
        refine lv_iconst (v := (0:Int32)) hx hb dX4_readQuestion_122 rfl ?_
        exact w_ireti C rfl rfl hR hS h dX4_readQuestion_123
  have hJ92 : ∀ (y2_92 : Int32) (y3_92 : Int32) (y4_92 : Int32) (y5_92 : Int32) (I : MI) (H : Heap) (locs : List Loc) (ls : Array Slot), w_X4_readQuestion_b92 K R a0 o1 Q y2_92 y3_92 y4_92 y5_92 I → Rep E K R I n H → va_S (AA E) s.heap H locs → hv ls 7 [(0, .ref a0), (1, va_rf o1), (2, .int y2_92), (3, .int y3_92), (4, .int y4_92), (5, .int y5_92)] → W p l e (rmM 3 66 0 0) s m args below meth c H locs 0 0 (MQ below (QcM E (Qi K R n Q)) args s 0 0 (AA E)) (F0 m 92 ls []) := by
    intro y2_92 y3_92 y4_92 y5_92 I H locs ls h hR hS hl
    unfold w_X4_readQuestion_b92 at h
    refine lv_iload hx hb dX4_readQuestion_92 (hv_at hl 4 rfl) ?_
    refine lv_if_eq (tgt := 106) hx hb dX4_readQuestion_94 (by decide) (fun c9 => ?_) (fun c9 => ?_)
    · replace h := h.1 c9
      refine lv_bipush (v := (-5:Int32)) hx hb dX4_readQuestion_106 (by decide) ?_
      exact hJ108 y2_92 y3_92 y4_92 y5_92 (-5:Int32) I _ _ _ h hR hS (hv_sub hl [1, 2, 3, 4, 5] rfl)
    · replace h := h.2 c9
      refine lv_aload_n hx hb dX4_readQuestion_97 rfl (hv_at hl 0 rfl) ?_
      refine lv_bipush (v := (99:Int32)) hx hb dX4_readQuestion_98 (by decide) ?_
      obtain ⟨hf6, h⟩ := h
      refine v_cVi (As := [.int (99:Int32)]) C hR hS hl.1.1 ca_X4_readNumber kml_X4_47 (L_X4_readNumber E l a0 (99:Int32) I _ h) (IsText.k hf6) rfl rfl rfl rfl (Nat.le_of_ble_eq_true rfl) ⟨Nat.le_of_ble_eq_true rfl, Nat.le_of_ble_eq_true rfl⟩ ⟨Nat.zero_le _, Nat.zero_le _⟩ dX4_readQuestion_100 (fun v8 I7 H locs h hR hS => ?_)
      refine lv_goto (tgt := 108) hx hb dX4_readQuestion_103 (by decide) ?_
      exact hJ108 y2_92 y3_92 y4_92 y5_92 v8 I7 _ _ _ h hR hS (hv_sub hl [1, 2, 3, 4, 5] rfl)
  have hJ61 : ∀ (y2_61 : Int32) (y3_61 : Int32) (y4_61 : Int32) (I : MI) (H : Heap) (locs : List Loc) (ls : Array Slot), w_X4_readQuestion_b61 K R a0 o1 Q y2_61 y3_61 y4_61 I → Rep E K R I n H → va_S (AA E) s.heap H locs → hv ls 7 [(0, .ref a0), (1, va_rf o1), (2, .int y2_61), (3, .int y3_61), (4, .int y4_61)] → W p l e (rmM 3 66 0 0) s m args below meth c H locs 0 0 (MQ below (QcM E (Qi K R n Q)) args s 0 0 (AA E)) (F0 m 61 ls []) := by
    intro y2_61 y3_61 y4_61 I H locs ls h hR hS hl
    unfold w_X4_readQuestion_b61 at h
    refine lv_aload_n hx hb dX4_readQuestion_61 rfl (hv_at hl 0 rfl) ?_
    refine lv_bipush (v := (15:Int32)) hx hb dX4_readQuestion_62 (by decide) ?_
    obtain ⟨hf10, h⟩ := h
    refine v_cVi (As := [.int (15:Int32)]) C hR hS hl.1.1 ca_X4_readNumber kml_X4_47 (L_X4_readNumber E l a0 (15:Int32) I _ h) (IsText.k hf10) rfl rfl rfl rfl (Nat.le_of_ble_eq_true rfl) ⟨Nat.le_of_ble_eq_true rfl, Nat.le_of_ble_eq_true rfl⟩ ⟨Nat.zero_le _, Nat.zero_le _⟩ dX4_readQuestion_64 (fun v12 I11 H locs h hR hS => ?_)
    refine v_istore (lv' := [(5, .int v12), (0, .ref a0), (1, va_rf o1), (2, .int y2_61), (3, .int y3_61), (4, .int y4_61)]) hx hb dX4_readQuestion_67 hl (by decide) rfl (fun ls hl => ?_)
    refine lv_iload hx hb dX4_readQuestion_69 (hv_at hl 0 rfl) ?_
    refine lv_bipush (v := (-5:Int32)) hx hb dX4_readQuestion_71 (by decide) ?_
    refine lv_icmp_eq (tgt := 90) hx hb dX4_readQuestion_73 (by decide) (fun c17 => ?_) (fun c17 => ?_)
    · replace h := h.1 c17
      exact hJ90 I11 _ _ _ h hR hS (hv_sub hl [] rfl)
    · replace h := h.2 c17
      refine lv_iload hx hb dX4_readQuestion_76 (hv_at hl 5 rfl) ?_
      refine lv_if_eq (tgt := 92) hx hb dX4_readQuestion_78 (by decide) (fun c16 => ?_) (fun c16 => ?_)
      · replace h := h.1 c16
        exact hJ92 y2_61 y3_61 y4_61 v12 I11 _ _ _ h hR hS (hv_sub hl [1, 2, 3, 4, 5, 0] rfl)
      · replace h := h.2 c16
        refine lv_aload_n hx hb dX4_readQuestion_81 rfl (hv_at hl 1 rfl) ?_
        refine lv_bipush (v := (61:Int32)) hx hb dX4_readQuestion_82 (by decide) ?_
        refine v_cVi (As := [.int (61:Int32)]) C hR hS hl.1.1 ca_X4_skip kml_X4_43 (L_X4_skip E l a0 (61:Int32) I11 _ h) (IsText.k hf10) rfl rfl rfl rfl (Nat.le_of_ble_eq_true rfl) ⟨Nat.le_of_ble_eq_true rfl, Nat.le_of_ble_eq_true rfl⟩ ⟨Nat.zero_le _, Nat.zero_le _⟩ dX4_readQuestion_84 (fun v14 I13 H locs h hR hS => ?_)
        refine lv_if_ne (tgt := 92) hx hb dX4_readQuestion_87 (by decide) (fun c15 => ?_) (fun c15 => ?_)
        · replace h := h.1 c15
          exact hJ92 y2_61 y3_61 y4_61 v12 I13 _ _ _ h hR hS (hv_sub hl [1, 2, 3, 4, 5, 0] rfl)
        · replace h := h.2 c15
          exact hJ90 I13 _ _ _ h hR hS (hv_sub hl [] rfl)
  unfold w_X4_readQuestion at h
  refine lv_aload_n hx hb dX4_readQuestion_0 rfl (hv_at hl 0 rfl) ?_
  refine lv_iconst (v := (3:Int32)) hx hb dX4_readQuestion_1 rfl ?_
  obtain ⟨hf18, h⟩ := h
  refine v_cVi (As := [.int (3:Int32)]) C hR hS hl.1.1 ca_X4_readNumber kml_X4_47 (L_X4_readNumber E l a0 (3:Int32) I _ h) (IsText.k hf18) rfl rfl rfl rfl (Nat.le_of_ble_eq_true rfl) ⟨Nat.le_of_ble_eq_true rfl, Nat.le_of_ble_eq_true rfl⟩ ⟨Nat.zero_le _, Nat.zero_le _⟩ dX4_readQuestion_2 (fun v20 I19 H locs h hR hS => ?_)
  refine v_istore_n (lv' := [(2, .int v20), (0, .ref a0), (1, va_rf o1)]) hx hb dX4_readQuestion_5 rfl hl (by decide) rfl (fun ls hl => ?_)
  refine lv_iload_n hx hb dX4_readQuestion_6 rfl (hv_at hl 0 rfl) ?_
  refine lv_bipush (v := (-5:Int32)) hx hb dX4_readQuestion_7 (by decide) ?_
  refine lv_icmp_eq (tgt := 21) hx hb dX4_readQuestion_9 (by decide) (fun c33 => ?_) (fun c33 => ?_)
  · replace h := h.1 c33
    exact hJ21 I19 _ _ _ h hR hS (hv_sub hl [] rfl)
  · replace h := h.2 c33
    refine lv_aload_n hx hb dX4_readQuestion_12 rfl (hv_at hl 1 rfl) ?_
    refine lv_bipush (v := (62:Int32)) hx hb dX4_readQuestion_13 (by decide) ?_
    refine v_cVi (As := [.int (62:Int32)]) C hR hS hl.1.1 ca_X4_skip kml_X4_43 (L_X4_skip E l a0 (62:Int32) I19 _ h) (IsText.k hf18) rfl rfl rfl rfl (Nat.le_of_ble_eq_true rfl) ⟨Nat.le_of_ble_eq_true rfl, Nat.le_of_ble_eq_true rfl⟩ ⟨Nat.zero_le _, Nat.zero_le _⟩ dX4_readQuestion_15 (fun v22 I21 H locs h hR hS => ?_)
    refine lv_if_ne (tgt := 23) hx hb dX4_readQuestion_18 (by decide) (fun c32 => ?_) (fun c32 => ?_)
    · replace h := h.1 c32
      refine lv_aload_n hx hb dX4_readQuestion_23 rfl (hv_at hl 1 rfl) ?_
      refine lv_iconst (v := (3:Int32)) hx hb dX4_readQuestion_24 rfl ?_
      refine v_cVi (As := [.int (3:Int32)]) C hR hS hl.1.1 ca_X4_readNumber kml_X4_47 (L_X4_readNumber E l a0 (3:Int32) I21 _ h) (IsText.k hf18) rfl rfl rfl rfl (Nat.le_of_ble_eq_true rfl) ⟨Nat.le_of_ble_eq_true rfl, Nat.le_of_ble_eq_true rfl⟩ ⟨Nat.zero_le _, Nat.zero_le _⟩ dX4_readQuestion_25 (fun v24 I23 H locs h hR hS => ?_)
      refine v_istore_n (lv' := [(3, .int v24), (2, .int v20), (0, .ref a0), (1, va_rf o1)]) hx hb dX4_readQuestion_28 rfl hl (by decide) rfl (fun ls hl => ?_)
      refine lv_iload_n hx hb dX4_readQuestion_29 rfl (hv_at hl 0 rfl) ?_
      refine lv_bipush (v := (-5:Int32)) hx hb dX4_readQuestion_30 (by decide) ?_
      refine lv_icmp_ne (tgt := 37) hx hb dX4_readQuestion_32 (by decide) (fun c31 => ?_) (fun c31 => ?_)
      · replace h := h.1 c31
        refine lv_aload_n hx hb dX4_readQuestion_37 rfl (hv_at hl 2 rfl) ?_
        refine lv_bipush (v := (119:Int32)) hx hb dX4_readQuestion_38 (by decide) ?_
        refine v_cVi (As := [.int (119:Int32)]) C hR hS hl.1.1 ca_X4_skip kml_X4_43 (L_X4_skip E l a0 (119:Int32) I23 _ h) (IsText.k hf18) rfl rfl rfl rfl (Nat.le_of_ble_eq_true rfl) ⟨Nat.le_of_ble_eq_true rfl, Nat.le_of_ble_eq_true rfl⟩ ⟨Nat.zero_le _, Nat.zero_le _⟩ dX4_readQuestion_40 (fun v26 I25 H locs h hR hS => ?_)
        refine v_istore (lv' := [(4, .int v26), (3, .int v24), (2, .int v20), (0, .ref a0), (1, va_rf o1)]) hx hb dX4_readQuestion_43 hl (by decide) rfl (fun ls hl => ?_)
        refine lv_iload hx hb dX4_readQuestion_45 (hv_at hl 0 rfl) ?_
        refine lv_if_ne (tgt := 61) hx hb dX4_readQuestion_47 (by decide) (fun c30 => ?_) (fun c30 => ?_)
        · replace h := h.1 c30
          exact hJ61 v20 v24 v26 I25 _ _ _ h hR hS (hv_sub hl [3, 4, 2, 1, 0] rfl)
        · replace h := h.2 c30
          refine lv_aload_n hx hb dX4_readQuestion_50 rfl (hv_at hl 3 rfl) ?_
          refine lv_bipush (v := (114:Int32)) hx hb dX4_readQuestion_51 (by decide) ?_
          refine v_cVi (As := [.int (114:Int32)]) C hR hS hl.1.1 ca_X4_skip kml_X4_43 (L_X4_skip E l a0 (114:Int32) I25 _ h) (IsText.k hf18) rfl rfl rfl rfl (Nat.le_of_ble_eq_true rfl) ⟨Nat.le_of_ble_eq_true rfl, Nat.le_of_ble_eq_true rfl⟩ ⟨Nat.zero_le _, Nat.zero_le _⟩ dX4_readQuestion_53 (fun v28 I27 H locs h hR hS => ?_)
          refine lv_if_ne (tgt := 61) hx hb dX4_readQuestion_56 (by decide) (fun c29 => ?_) (fun c29 => ?_)
          · replace h := h.1 c29
            exact hJ61 v20 v24 v26 I27 _ _ _ h hR hS (hv_sub hl [3, 4, 2, 1, 0] rfl)
          · replace h := h.2 c29
            refine lv_iconst (v := (0:Int32)) hx hb dX4_readQuestion_59 rfl ?_
            exact w_ireti C rfl rfl hR hS h dX4_readQuestion_60
      · replace h := h.2 c31
        refine lv_iconst (v := (0:Int32)) hx hb dX4_readQuestion_35 rfl ?_
        exact w_ireti C rfl rfl hR hS h dX4_readQuestion_36
    · replace h := h.2 c32
      exact hJ21 I21 _ _ _ h hR hS (hv_sub hl [] rfl)
set_option maxHeartbeats 4000000 in
set_option maxRecDepth 100000 in
theorem L_X4_findFault (E : Ev) (l : Launch) {K : MK} {R : MR} {n : Nat} (a0 : Nat) (I : MI) (Q : Int32 → MI → Prop) (h : w_X4_findFault K R a0 I Q) : MM E l yX4_findFault cX4_findFault 2 (some Jvm.ClassFile.FieldType.int) 4 92 0 0 [.ref a0] K R I n (Qi K R n Q) := by
  refine MM.of1 (by decide) RX4 rfl (cR cN) (Nat.le_of_ble_eq_true rfl) ?_
  intro p e s m args below meth c ls C hin hR hS hl
  have hx := C.1
  have hb := C.2.1
  have hml := C.2.2.1
  have hown := C.2.2.2.1
  have hts := C.2.2.2.2.1
  have hl : hv ls 2 [(0, .ref a0)] := hl
  clear hin
  have hJ12 : ∀ (y1_12 : Int32) (I : MI) (H : Heap) (locs : List Loc) (ls : Array Slot), w_X4_findFault_b12 K R a0 Q y1_12 I → Rep E K R I n H → va_S (AA E) s.heap H locs → hv ls 2 [(0, .ref a0), (1, .int y1_12)] → W p l e (rmM 4 92 0 0) s m args below meth c H locs 0 0 (MQ below (QcM E (Qi K R n Q)) args s 0 0 (AA E)) (F0 m 12 ls []) := by
    intro y1_12 I H locs ls h hR hS hl
    obtain ⟨X12, hX12⟩ : ∃ X : Int32 → MI → Prop, ∀ (y1_12 : Int32) (I : MI), X y1_12 I ↔ (∀ (H : Heap) (locs : List Loc) (ls : Array Slot), Rep E K R I n H → va_S (AA E) s.heap H locs → hv ls 2 [(0, .ref a0), (1, .int y1_12)] → W p l e (rmM 4 92 0 0) s m args below meth c H locs 0 0 (MQ below (QcM E (Qi K R n Q)) args s 0 0 (AA E)) (F0 m 12 ls [])) := ⟨fun y1_12 I => ∀ (H : Heap) (locs : List Loc) (ls : Array Slot), Rep E K R I n H → va_S (AA E) s.heap H locs → hv ls 2 [(0, .ref a0), (1, .int y1_12)] → W p l e (rmM 4 92 0 0) s m args below meth c H locs 0 0 (MQ below (QcM E (Qi K R n Q)) args s 0 0 (AA E)) (F0 m 12 ls []), fun _ _ => Iff.rfl⟩
    refine (hX12 y1_12 I).mp (h X12 ?_) H locs ls hR hS hl
    clear h hR hS hl
    clear ls locs H I y1_12
    intro y1_12 I h
    refine (hX12 y1_12 I).mpr ?_
    intro H locs ls hR hS hl
    unfold w_X4_findFault_b12_body at h
    refine lv_iload_n hx hb dX4_findFault_12 rfl (hv_at hl 1 rfl) ?_
    refine lv_bipush (v := (10:Int32)) hx hb dX4_findFault_13 (by decide) ?_
    refine lv_icmp_ge (tgt := 80) hx hb dX4_findFault_15 (by decide) (fun c12 => ?_) (fun c12 => ?_)
    · replace h := h.1 c12
      refine lv_aload_n hx hb dX4_findFault_80 rfl (hv_at hl 0 rfl) ?_
      obtain ⟨hf1, h⟩ := h
      refine v_get (T := TX4) (v := .int (I a0 4)) C hR 4 kfl_X4_36 rfl inG4 (by decide) rfl (IsText.k hf1) rfl dX4_findFault_81 ?_
      exact w_ireti C rfl rfl hR hS h dX4_findFault_84
    · replace h := h.2 c12
      refine lv_aload_n hx hb dX4_findFault_18 rfl (hv_at hl 0 rfl) ?_
      refine lv_aload_n hx hb dX4_findFault_19 rfl (hv_at hl 0 rfl) ?_
      obtain ⟨hf2, h⟩ := h
      refine v_get (T := TX4) (v := .ref (a0 + 2)) C hR 2 kfl_X4_17 rfl inG4 (by decide) rfl (IsText.k hf2) (rf_of (IsText.r2 hf2 (I a0 2))) dX4_findFault_20 ?_
      refine lv_iload_n hx hb dX4_findFault_23 rfl (hv_at hl 1 rfl) ?_
      obtain ⟨hi3, h⟩ := h
      refine w_aald C hR (w := a0 + 3 + (ix y1_12)) (IsText.a2 hf2) (by decide) rfl rfl hi3 (j := (ix y1_12)) rfl (IsText.e2 hf2 (vp_lt hi3) _) dX4_findFault_24 ?_
      refine v_cVi (As := [.ref (a0 + 3 + (ix y1_12))]) C hR hS hl.1.1 ca_X4_readQuestion kml_X4_39 (L_X4_readQuestion E l a0 (some (a0 + 3 + (ix y1_12))) I _ h) (IsText.k hf2) rfl rfl rfl rfl (Nat.le_of_ble_eq_true rfl) ⟨Nat.le_of_ble_eq_true rfl, Nat.le_of_ble_eq_true rfl⟩ ⟨Nat.zero_le _, Nat.zero_le _⟩ dX4_findFault_25 (fun v5 I4 H locs h hR hS => ?_)
      refine lv_if_ne (tgt := 36) hx hb dX4_findFault_28 (by decide) (fun c11 => ?_) (fun c11 => ?_)
      · replace h := h.1 c11
        refine lv_aload_n hx hb dX4_findFault_36 rfl (hv_at hl 0 rfl) ?_
        refine lv_dup hx hb dX4_findFault_37 rfl ?_
        refine v_get (T := TX4) (v := .int (I4 a0 3)) C hR 3 kfl_X4_30 rfl inG4 (by decide) rfl (IsText.k hf2) rfl dX4_findFault_38 ?_
        refine lv_iconst (v := (1:Int32)) hx hb dX4_findFault_41 rfl ?_
        refine lv_iadd hx hb dX4_findFault_42 ?_
        obtain ⟨I6, hI6⟩ := ex_eq (upI I4 a0 3 ((I4 a0 3) + (1:Int32)))
        replace h := h I6 hI6
        refine v_put (T := TX4) (ty := .int) C hR hS 3 kfl_X4_30 rfl inG4 tyX4 tyX4_ok nmX4 (by decide) rfl (IsText.k hf2) rfl (tyX4_ok 3 (by decide)) rfl rfl (fl_i_4_3 _ _ _) (Nat.le_of_ble_eq_true rfl) hI6 dX4_findFault_43 (fun H locs hR hS => ?_)
        refine lv_aload_n hx hb dX4_findFault_46 rfl (hv_at hl 0 rfl) ?_
        refine v_get (T := TX4) (v := .int (I6 a0 4)) C hR 4 kfl_X4_36 rfl inG4 (by decide) rfl (IsText.k hf2) rfl dX4_findFault_47 ?_
        refine lv_aload_n hx hb dX4_findFault_50 rfl (hv_at hl 0 rfl) ?_
        refine v_get (T := TX4) (v := .int (I6 a0 1)) C hR 1 kfl_X4_22 rfl inG4 (by decide) rfl (IsText.k hf2) rfl dX4_findFault_51 ?_
        refine lv_icmp_lt (tgt := 60) hx hb dX4_findFault_54 (by decide) (fun c10 => ?_) (fun c10 => ?_)
        · replace h := h.1 c10
          refine lv_aload_n hx hb dX4_findFault_60 rfl (hv_at hl 0 rfl) ?_
          refine lv_bipush (v := (59:Int32)) hx hb dX4_findFault_61 (by decide) ?_
          refine v_cVi (As := [.int (59:Int32)]) C hR hS hl.1.1 ca_X4_skip kml_X4_43 (L_X4_skip E l a0 (59:Int32) I6 _ h) (IsText.k hf2) rfl rfl rfl rfl (Nat.le_of_ble_eq_true rfl) ⟨Nat.le_of_ble_eq_true rfl, Nat.le_of_ble_eq_true rfl⟩ ⟨Nat.zero_le _, Nat.zero_le _⟩ dX4_findFault_63 (fun v8 I7 H locs h hR hS => ?_)
          refine lv_if_ne (tgt := 74) hx hb dX4_findFault_66 (by decide) (fun c9 => ?_) (fun c9 => ?_)
          · replace h := h.1 c9
            refine v_iinc (v := y1_12 + (1:Int32)) (k := 1) (lv' := [(1, .int (y1_12 + (1:Int32))), (0, .ref a0)]) hx hb dX4_findFault_74 hl rfl rfl (by decide) rfl (fun ls hl => ?_)
            refine lv_goto (tgt := 12) hx hb dX4_findFault_77 (by decide) ?_
            exact (hX12 (y1_12 + (1:Int32)) I7).mp h _ _ _ hR hS (hv_sub hl [1, 0] rfl)
          · replace h := h.2 c9
            refine lv_aload_n hx hb dX4_findFault_69 rfl (hv_at hl 0 rfl) ?_
            refine v_get (T := TX4) (v := .int (I7 a0 4)) C hR 4 kfl_X4_36 rfl inG4 (by decide) rfl (IsText.k hf2) rfl dX4_findFault_70 ?_
            exact w_ireti C rfl rfl hR hS h dX4_findFault_73
        · replace h := h.2 c10
          refine lv_bipush (v := (-5:Int32)) hx hb dX4_findFault_57 (by decide) ?_
          exact w_ireti C rfl rfl hR hS h dX4_findFault_59
      · replace h := h.2 c11
        refine lv_aload_n hx hb dX4_findFault_31 rfl (hv_at hl 0 rfl) ?_
        refine v_get (T := TX4) (v := .int (I4 a0 4)) C hR 4 kfl_X4_36 rfl inG4 (by decide) rfl (IsText.k hf2) rfl dX4_findFault_32 ?_
        exact w_ireti C rfl rfl hR hS h dX4_findFault_35
  unfold w_X4_findFault at h
  refine lv_aload_n hx hb dX4_findFault_0 rfl (hv_at hl 0 rfl) ?_
  refine lv_iconst (v := (0:Int32)) hx hb dX4_findFault_1 rfl ?_
  obtain ⟨hf13, h⟩ := h
  obtain ⟨I14, hI14⟩ := ex_eq (upI I a0 4 (0:Int32))
  replace h := h I14 hI14
  refine v_put (T := TX4) (ty := .int) C hR hS 4 kfl_X4_36 rfl inG4 tyX4 tyX4_ok nmX4 (by decide) rfl (IsText.k hf13) rfl (tyX4_ok 4 (by decide)) rfl rfl (fl_i_4_4 _ _ _) (Nat.le_of_ble_eq_true rfl) hI14 dX4_findFault_2 (fun H locs hR hS => ?_)
  refine lv_aload_n hx hb dX4_findFault_5 rfl (hv_at hl 0 rfl) ?_
  refine lv_iconst (v := (0:Int32)) hx hb dX4_findFault_6 rfl ?_
  obtain ⟨I15, hI15⟩ := ex_eq (upI I14 a0 3 (0:Int32))
  replace h := h I15 hI15
  refine v_put (T := TX4) (ty := .int) C hR hS 3 kfl_X4_30 rfl inG4 tyX4 tyX4_ok nmX4 (by decide) rfl (IsText.k hf13) rfl (tyX4_ok 3 (by decide)) rfl rfl (fl_i_4_3 _ _ _) (Nat.le_of_ble_eq_true rfl) hI15 dX4_findFault_7 (fun H locs hR hS => ?_)
  refine lv_iconst (v := (0:Int32)) hx hb dX4_findFault_10 rfl ?_
  refine v_istore_n (lv' := [(1, .int (0:Int32)), (0, .ref a0)]) hx hb dX4_findFault_11 rfl hl (by decide) rfl (fun ls hl => ?_)
  exact hJ12 (0:Int32) I15 _ _ _ h hR hS (hv_sub hl [1, 0] rfl)
set_option maxHeartbeats 4000000 in
set_option maxRecDepth 100000 in
theorem L_X4_foundOf (E : Ev) (l : Launch) {K : MK} {R : MR} {n : Nat} (a0 : Nat) (x1 : Int32) (I : MI) (Q : Int32 → MI → Prop) (h : w_X4_foundOf K R a0 x1 I Q) : MM E l yX4_foundOf cX4_foundOf 4 (some Jvm.ClassFile.FieldType.int) 0 0 0 0 [.ref a0, .int x1] K R I n (Qi K R n Q) := by
  refine MM.of1 (by decide) RX4 rfl (cR (cI cN)) (Nat.le_of_ble_eq_true rfl) ?_
  intro p e s m args below meth c ls C hin hR hS hl
  have hx := C.1
  have hb := C.2.1
  have hml := C.2.2.1
  have hown := C.2.2.2.1
  have hts := C.2.2.2.2.1
  have hl : hv ls 4 [(0, .ref a0), (1, .int x1)] := hl
  clear hin
  have hJ40 : ∀ (y2_40 : Int32) (I : MI) (H : Heap) (locs : List Loc) (ls : Array Slot), w_X4_foundOf_b40 K R a0 x1 Q y2_40 I → Rep E K R I n H → va_S (AA E) s.heap H locs → hv ls 4 [(2, .int y2_40)] → W p l e (rmM 0 0 0 0) s m args below meth c H locs 0 0 (MQ below (QcM E (Qi K R n Q)) args s 0 0 (AA E)) (F0 m 40 ls []) := by
    intro y2_40 I H locs ls h hR hS hl
    unfold w_X4_foundOf_b40 at h
    refine lv_iload_n hx hb dX4_foundOf_40 rfl (hv_at hl 0 rfl) ?_
    exact w_ireti C rfl rfl hR hS h dX4_foundOf_41
  have hJ4 : ∀ (y2_4 : Int32) (y3_4 : Int32) (I : MI) (H : Heap) (locs : List Loc) (ls : Array Slot), w_X4_foundOf_b4 K R a0 x1 Q y2_4 y3_4 I → Rep E K R I n H → va_S (AA E) s.heap H locs → hv ls 4 [(0, .ref a0), (1, .int x1), (2, .int y2_4), (3, .int y3_4)] → W p l e (rmM 0 0 0 0) s m args below meth c H locs 0 0 (MQ below (QcM E (Qi K R n Q)) args s 0 0 (AA E)) (F0 m 4 ls []) := by
    intro y2_4 y3_4 I H locs ls h hR hS hl
    obtain ⟨X4, hX4⟩ : ∃ X : Int32 → Int32 → MI → Prop, ∀ (y2_4 : Int32) (y3_4 : Int32) (I : MI), X y2_4 y3_4 I ↔ (∀ (H : Heap) (locs : List Loc) (ls : Array Slot), Rep E K R I n H → va_S (AA E) s.heap H locs → hv ls 4 [(0, .ref a0), (1, .int x1), (2, .int y2_4), (3, .int y3_4)] → W p l e (rmM 0 0 0 0) s m args below meth c H locs 0 0 (MQ below (QcM E (Qi K R n Q)) args s 0 0 (AA E)) (F0 m 4 ls [])) := ⟨fun y2_4 y3_4 I => ∀ (H : Heap) (locs : List Loc) (ls : Array Slot), Rep E K R I n H → va_S (AA E) s.heap H locs → hv ls 4 [(0, .ref a0), (1, .int x1), (2, .int y2_4), (3, .int y3_4)] → W p l e (rmM 0 0 0 0) s m args below meth c H locs 0 0 (MQ below (QcM E (Qi K R n Q)) args s 0 0 (AA E)) (F0 m 4 ls []), fun _ _ _ => Iff.rfl⟩
    refine (hX4 y2_4 y3_4 I).mp (h X4 ?_) H locs ls hR hS hl
    clear h hR hS hl
    clear ls locs H I y2_4 y3_4
    have hJ34 : ∀ (y2_34 : Int32) (y3_34 : Int32) (I : MI) (H : Heap) (locs : List Loc) (ls : Array Slot), w_X4_foundOf_b34 K R a0 x1 Q X4 y2_34 y3_34 I → Rep E K R I n H → va_S (AA E) s.heap H locs → hv ls 4 [(0, .ref a0), (1, .int x1), (2, .int y2_34), (3, .int y3_34)] → W p l e (rmM 0 0 0 0) s m args below meth c H locs 0 0 (MQ below (QcM E (Qi K R n Q)) args s 0 0 (AA E)) (F0 m 34 ls []) := by
      intro y2_34 y3_34 I H locs ls h hR hS hl
      unfold w_X4_foundOf_b34 at h
      refine v_iinc (v := y3_34 + (1:Int32)) (k := 3) (lv' := [(3, .int (y3_34 + (1:Int32))), (0, .ref a0), (1, .int x1), (2, .int y2_34)]) hx hb dX4_foundOf_34 hl rfl rfl (by decide) rfl (fun ls hl => ?_)
      refine lv_goto (tgt := 4) hx hb dX4_foundOf_37 (by decide) ?_
      exact (hX4 y2_34 (y3_34 + (1:Int32)) I).mp h _ _ _ hR hS (hv_sub hl [1, 2, 3, 0] rfl)
    intro y2_4 y3_4 I h
    refine (hX4 y2_4 y3_4 I).mpr ?_
    intro H locs ls hR hS hl
    unfold w_X4_foundOf_b4_body at h
    refine lv_iload_n hx hb dX4_foundOf_4 rfl (hv_at hl 3 rfl) ?_
    refine lv_aload_n hx hb dX4_foundOf_5 rfl (hv_at hl 0 rfl) ?_
    obtain ⟨hf1, h⟩ := h
    refine v_get (T := TX4) (v := .int (I a0 3)) C hR 3 kfl_X4_30 rfl inG4 (by decide) rfl (IsText.k hf1) rfl dX4_foundOf_6 ?_
    refine lv_icmp_ge (tgt := 40) hx hb dX4_foundOf_9 (by decide) (fun c5 => ?_) (fun c5 => ?_)
    · replace h := h.1 c5
      exact hJ40 y2_4 I _ _ _ h hR hS (hv_sub hl [2] rfl)
    · replace h := h.2 c5
      refine lv_iload_n hx hb dX4_foundOf_12 rfl (hv_at hl 3 rfl) ?_
      refine lv_bipush (v := (10:Int32)) hx hb dX4_foundOf_13 (by decide) ?_
      refine lv_icmp_ge (tgt := 40) hx hb dX4_foundOf_15 (by decide) (fun c4 => ?_) (fun c4 => ?_)
      · replace h := h.1 c4
        exact hJ40 y2_4 I _ _ _ h hR hS (hv_sub hl [2] rfl)
      · replace h := h.2 c4
        refine lv_aload_n hx hb dX4_foundOf_18 rfl (hv_at hl 0 rfl) ?_
        refine v_get (T := TX4) (v := .ref (a0 + 2)) C hR 2 kfl_X4_17 rfl inG4 (by decide) rfl (IsText.k hf1) (rf_of (IsText.r2 hf1 (I a0 2))) dX4_foundOf_19 ?_
        refine lv_iload_n hx hb dX4_foundOf_22 rfl (hv_at hl 3 rfl) ?_
        obtain ⟨hi2, h⟩ := h
        refine w_aald C hR (w := a0 + 3 + (ix y3_4)) (IsText.a2 hf1) (by decide) rfl rfl hi2 (j := (ix y3_4)) rfl (IsText.e2 hf1 (vp_lt hi2) _) dX4_foundOf_23 ?_
        refine v_get (T := TX3) (v := .int (I (a0 + 3 + (ix y3_4)) 0)) C hR 0 kfl_X4_33 rfl inG3 (by decide) rfl (IsText.p2 hf1 (vp_lt hi2)) rfl dX4_foundOf_24 ?_
        refine lv_iload_n hx hb dX4_foundOf_27 rfl (hv_at hl 1 rfl) ?_
        refine lv_icmp_ne (tgt := 34) hx hb dX4_foundOf_28 (by decide) (fun c3 => ?_) (fun c3 => ?_)
        · replace h := h.1 c3
          exact hJ34 y2_4 y3_4 I _ _ _ h hR hS (hv_sub hl [0, 1, 2, 3] rfl)
        · replace h := h.2 c3
          refine v_iinc (v := y2_4 + (1:Int32)) (k := 2) (lv' := [(2, .int (y2_4 + (1:Int32))), (0, .ref a0), (1, .int x1), (3, .int y3_4)]) hx hb dX4_foundOf_31 hl rfl rfl (by decide) rfl (fun ls hl => ?_)
          exact hJ34 (y2_4 + (1:Int32)) y3_4 I _ _ _ h hR hS (hv_sub hl [1, 2, 0, 3] rfl)
  unfold w_X4_foundOf at h
  refine lv_iconst (v := (0:Int32)) hx hb dX4_foundOf_0 rfl ?_
  refine v_istore_n (lv' := [(2, .int (0:Int32)), (0, .ref a0), (1, .int x1)]) hx hb dX4_foundOf_1 rfl hl (by decide) rfl (fun ls hl => ?_)
  refine lv_iconst (v := (0:Int32)) hx hb dX4_foundOf_2 rfl ?_
  refine v_istore_n (lv' := [(3, .int (0:Int32)), (2, .int (0:Int32)), (0, .ref a0), (1, .int x1)]) hx hb dX4_foundOf_3 rfl hl (by decide) rfl (fun ls hl => ?_)
  exact hJ4 (0:Int32) (0:Int32) I _ _ _ h hR hS (hv_sub hl [2, 3, 1, 0] rfl)
