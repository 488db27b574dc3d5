set_option maxHeartbeats 4000000 in
set_option maxRecDepth 100000 in
theorem L_X7_withdraw (E : Ev) (l : Launch) {K : MK} {R : MR} {n : Nat} (a0 : Nat) (x1 : Int32) (I : MI) (Q : Int32 → MI → Prop) (h : w_X7_withdraw K R a0 x1 I Q) : MM E l yX7_withdraw cX7_withdraw 4 (some Jvm.ClassFile.FieldType.int) 2 42 0 0 [.ref a0, .int x1] K R I n (Qi K R n Q) := by
  refine MM.of1 (by decide) RX7 rfl (cR (cI cN)) (Nat.le_of_ble_eq_true rfl) ?_
  intro p e s m args below meth c ls C hin hR hS hl
  have hx := C.1
  have hb := C.2.1
  have hml := C.2.2.1
  have hown := C.2.2.2.1
  have hts := C.2.2.2.2.1
  have hl : hv ls 4 [(0, .ref a0), (1, .int x1)] := hl
  clear hin
  have hJ107 : ∀ (y3_107 : Int32) (z0_107 : Int32) (z1_107 : Int32) (I : MI) (H : Heap) (locs : List Loc) (ls : Array Slot), w_X7_withdraw_b107 K R a0 x1 Q y3_107 z0_107 z1_107 I → Rep E K R I n H → va_S (AA E) s.heap H locs → hv ls 4 [(3, .int y3_107)] → W p l e (rmM 2 42 0 0) s m args below meth c H locs 0 0 (MQ below (QcM E (Qi K R n Q)) args s 0 0 (AA E)) (F0 m 107 ls [.int z0_107, .int z1_107, .ref (a0 + 1)]) := by
    intro y3_107 z0_107 z1_107 I H locs ls h hR hS hl
    unfold w_X7_withdraw_b107 at h
    obtain ⟨hf2, h⟩ := h
    obtain ⟨hi1, h⟩ := h
    obtain ⟨I3, hI3⟩ := ex_eq (upI I (a0 + 1) (ix z1_107) z0_107)
    replace h := h I3 hI3
    refine w_iast C hR hS (IsModel.a0 hf2) hi1 (j := (ix z1_107)) rfl hI3 dX7_withdraw_107 (fun H locs hR hS => ?_)
    refine lv_iload_n hx hb dX7_withdraw_108 rfl (hv_at hl 0 rfl) ?_
    exact w_ireti C rfl rfl hR hS h dX7_withdraw_109
  unfold w_X7_withdraw at h
  refine lv_iload_n hx hb dX7_withdraw_0 rfl (hv_at hl 1 rfl) ?_
  refine v_cSi (As := [.int x1]) C hR hS hl.1.1 ca_X7_isPort kml_X7_56 (L_X7_isPort E l x1 I _ h) rfl rfl (Nat.le_of_ble_eq_true rfl) ⟨Nat.le_of_ble_eq_true rfl, Nat.le_of_ble_eq_true rfl⟩ ⟨Nat.zero_le _, Nat.zero_le _⟩ dX7_withdraw_1 (fun v5 I4 H locs h hR hS => ?_)
  refine lv_if_ne (tgt := 9) hx hb dX7_withdraw_4 (by decide) (fun c33 => ?_) (fun c33 => ?_)
  · replace h := h.1 c33
    refine lv_aload_n hx hb dX7_withdraw_9 rfl (hv_at hl 0 rfl) ?_
    obtain ⟨hf6, h⟩ := h
    refine v_get (T := TX7) (v := .ref (a0 + 1)) C hR 0 kfl_X7_7 rfl inG7 (by decide) rfl (IsModel.k hf6) (rf_of (IsModel.r0 hf6 (I4 a0 0))) dX7_withdraw_10 ?_
    refine lv_iload_n hx hb dX7_withdraw_13 rfl (hv_at hl 1 rfl) ?_
    refine lv_iconst (v := (0:Int32)) hx hb dX7_withdraw_14 rfl ?_
    refine v_cSi (As := [.int x1, .int (0:Int32)]) C hR hS hl.1.1 ca_X7_ofMaster kml_X7_31 (L_X7_ofMaster E l x1 (0:Int32) I4 _ h) rfl rfl (Nat.le_of_ble_eq_true rfl) ⟨Nat.le_of_ble_eq_true rfl, Nat.le_of_ble_eq_true rfl⟩ ⟨Nat.zero_le _, Nat.zero_le _⟩ dX7_withdraw_15 (fun v8 I7 H locs h hR hS => ?_)
    obtain ⟨hi9, h⟩ := h
    refine w_iald C hR (IsModel.a0 hf6) hi9 (j := (ix v8)) rfl dX7_withdraw_18 ?_
    refine lv_if_ne (tgt := 25) hx hb dX7_withdraw_19 (by decide) (fun c32 => ?_) (fun c32 => ?_)
    · replace h := h.1 c32
      refine lv_aload_n hx hb dX7_withdraw_25 rfl (hv_at hl 0 rfl) ?_
      refine v_cVv (As := []) C hR hS hl.1.1 ca_X7_know kml_X7_46 (L_X7_know E l a0 I7 _ h) (IsModel.k hf6) rfl rfl rfl rfl (Nat.le_of_ble_eq_true rfl) ⟨Nat.le_of_ble_eq_true rfl, Nat.le_of_ble_eq_true rfl⟩ ⟨Nat.zero_le _, Nat.zero_le _⟩ dX7_withdraw_26 (fun I10 H locs h hR hS => ?_)
      refine lv_aload_n hx hb dX7_withdraw_29 rfl (hv_at hl 0 rfl) ?_
      refine v_get (T := TX7) (v := .ref (a0 + 1)) C hR 0 kfl_X7_7 rfl inG7 (by decide) rfl (IsModel.k hf6) (rf_of (IsModel.r0 hf6 (I10 a0 0))) dX7_withdraw_30 ?_
      refine lv_iload_n hx hb dX7_withdraw_33 rfl (hv_at hl 1 rfl) ?_
      refine lv_iconst (v := (0:Int32)) hx hb dX7_withdraw_34 rfl ?_
      refine v_cSi (As := [.int x1, .int (0:Int32)]) C hR hS hl.1.1 ca_X7_ofMaster kml_X7_31 (L_X7_ofMaster E l x1 (0:Int32) I10 _ h) rfl rfl (Nat.le_of_ble_eq_true rfl) ⟨Nat.le_of_ble_eq_true rfl, Nat.le_of_ble_eq_true rfl⟩ ⟨Nat.zero_le _, Nat.zero_le _⟩ dX7_withdraw_35 (fun v12 I11 H locs h hR hS => ?_)
      refine lv_dup2_11 hx hb dX7_withdraw_38 rfl rfl ?_
      obtain ⟨hi13, h⟩ := h
      refine w_iald C hR (IsModel.a0 hf6) hi13 (j := (ix v12)) rfl dX7_withdraw_39 ?_
      refine lv_iconst (v := (1:Int32)) hx hb dX7_withdraw_40 rfl ?_
      refine lv_isub hx hb dX7_withdraw_41 ?_
      obtain ⟨hi14, h⟩ := h
      obtain ⟨I15, hI15⟩ := ex_eq (upI I11 (a0 + 1) (ix v12) ((I11 (a0 + 1) (ix v12)) - (1:Int32)))
      replace h := h I15 hI15
      refine w_iast C hR hS (IsModel.a0 hf6) hi14 (j := (ix v12)) rfl hI15 dX7_withdraw_42 (fun H locs hR hS => ?_)
      refine lv_aload_n hx hb dX7_withdraw_43 rfl (hv_at hl 0 rfl) ?_
      refine v_get (T := TX7) (v := .ref (a0 + 1)) C hR 0 kfl_X7_7 rfl inG7 (by decide) rfl (IsModel.k hf6) (rf_of (IsModel.r0 hf6 (I15 a0 0))) dX7_withdraw_44 ?_
      refine lv_iload_n hx hb dX7_withdraw_47 rfl (hv_at hl 1 rfl) ?_
      refine lv_iconst (v := (0:Int32)) hx hb dX7_withdraw_48 rfl ?_
      refine v_cSi (As := [.int x1, .int (0:Int32)]) C hR hS hl.1.1 ca_X7_ofMaster kml_X7_31 (L_X7_ofMaster E l x1 (0:Int32) I15 _ h) rfl rfl (Nat.le_of_ble_eq_true rfl) ⟨Nat.le_of_ble_eq_true rfl, Nat.le_of_ble_eq_true rfl⟩ ⟨Nat.zero_le _, Nat.zero_le _⟩ dX7_withdraw_49 (fun v17 I16 H locs h hR hS => ?_)
      obtain ⟨hi18, h⟩ := h
      refine w_iald C hR (IsModel.a0 hf6) hi18 (j := (ix v17)) rfl dX7_withdraw_52 ?_
      refine v_istore_n (lv' := [(2, .int (I16 (a0 + 1) (ix v17))), (0, .ref a0), (1, .int x1)]) hx hb dX7_withdraw_53 rfl hl (by decide) rfl (fun ls hl => ?_)
      refine lv_aload_n hx hb dX7_withdraw_54 rfl (hv_at hl 1 rfl) ?_
      refine v_get (T := TX7) (v := .ref (a0 + 1)) C hR 0 kfl_X7_7 rfl inG7 (by decide) rfl (IsModel.k hf6) (rf_of (IsModel.r0 hf6 (I16 a0 0))) dX7_withdraw_55 ?_
      refine lv_iload_n hx hb dX7_withdraw_58 rfl (hv_at hl 2 rfl) ?_
      refine lv_iconst (v := (1:Int32)) hx hb dX7_withdraw_59 rfl ?_
      refine lv_iload_n hx hb dX7_withdraw_60 rfl (hv_at hl 0 rfl) ?_
      refine lv_iadd hx hb dX7_withdraw_61 ?_
      refine v_cSi (As := [.int x1, .int ((1:Int32) + (I16 (a0 + 1) (ix v17)))]) C hR hS hl.1.1 ca_X7_ofMaster kml_X7_31 (L_X7_ofMaster E l x1 ((1:Int32) + (I16 (a0 + 1) (ix v17))) I16 _ h) rfl rfl (Nat.le_of_ble_eq_true rfl) ⟨Nat.le_of_ble_eq_true rfl, Nat.le_of_ble_eq_true rfl⟩ ⟨Nat.zero_le _, Nat.zero_le _⟩ dX7_withdraw_62 (fun v20 I19 H locs h hR hS => ?_)
      obtain ⟨hi21, h⟩ := h
      refine w_iald C hR (IsModel.a0 hf6) hi21 (j := (ix v20)) rfl dX7_withdraw_65 ?_
      refine v_istore_n (lv' := [(3, .int (I19 (a0 + 1) (ix v20))), (2, .int (I16 (a0 + 1) (ix v17))), (0, .ref a0), (1, .int x1)]) hx hb dX7_withdraw_66 rfl hl (by decide) rfl (fun ls hl => ?_)
      refine lv_aload_n hx hb dX7_withdraw_67 rfl (hv_at hl 2 rfl) ?_
      refine v_get (T := TX7) (v := .ref (a0 + 1)) C hR 0 kfl_X7_7 rfl inG7 (by decide) rfl (IsModel.k hf6) (rf_of (IsModel.r0 hf6 (I19 a0 0))) dX7_withdraw_68 ?_
      refine lv_iload_n hx hb dX7_withdraw_71 rfl (hv_at hl 0 rfl) ?_
      refine lv_iconst (v := (4:Int32)) hx hb dX7_withdraw_72 rfl ?_
      refine v_cSi (As := [.int (I19 (a0 + 1) (ix v20)), .int (4:Int32)]) C hR hS hl.1.1 ca_X7_of kml_X7_59 (L_X7_of E l (I19 (a0 + 1) (ix v20)) (4:Int32) I19 _ h) rfl rfl (Nat.le_of_ble_eq_true rfl) ⟨Nat.le_of_ble_eq_true rfl, Nat.le_of_ble_eq_true rfl⟩ ⟨Nat.zero_le _, Nat.zero_le _⟩ dX7_withdraw_73 (fun v23 I22 H locs h hR hS => ?_)
      refine lv_iconst (v := (4:Int32)) hx hb dX7_withdraw_76 rfl ?_
      obtain ⟨hi24, h⟩ := h
      obtain ⟨I25, hI25⟩ := ex_eq (upI I22 (a0 + 1) (ix v23) (4:Int32))
      replace h := h I25 hI25
      refine w_iast C hR hS (IsModel.a0 hf6) hi24 (j := (ix v23)) rfl hI25 dX7_withdraw_77 (fun H locs hR hS => ?_)
      refine lv_aload_n hx hb dX7_withdraw_78 rfl (hv_at hl 2 rfl) ?_
      refine v_get (T := TX7) (v := .ref (a0 + 1)) C hR 0 kfl_X7_7 rfl inG7 (by decide) rfl (IsModel.k hf6) (rf_of (IsModel.r0 hf6 (I25 a0 0))) dX7_withdraw_79 ?_
      refine lv_iload_n hx hb dX7_withdraw_82 rfl (hv_at hl 3 rfl) ?_
      refine lv_bipush (v := (10:Int32)) hx hb dX7_withdraw_83 (by decide) ?_
      refine v_cSi (As := [.int x1, .int (10:Int32)]) C hR hS hl.1.1 ca_X7_ofMaster kml_X7_31 (L_X7_ofMaster E l x1 (10:Int32) I25 _ h) rfl rfl (Nat.le_of_ble_eq_true rfl) ⟨Nat.le_of_ble_eq_true rfl, Nat.le_of_ble_eq_true rfl⟩ ⟨Nat.zero_le _, Nat.zero_le _⟩ dX7_withdraw_85 (fun v27 I26 H locs h hR hS => ?_)
      refine lv_iload_n hx hb dX7_withdraw_88 rfl (hv_at hl 1 rfl) ?_
      refine lv_if_ne (tgt := 96) hx hb dX7_withdraw_89 (by decide) (fun c31 => ?_) (fun c31 => ?_)
      · replace h := h.1 c31
        refine lv_aload_n hx hb dX7_withdraw_96 rfl (hv_at hl 2 rfl) ?_
        refine v_get (T := TX7) (v := .ref (a0 + 1)) C hR 0 kfl_X7_7 rfl inG7 (by decide) rfl (IsModel.k hf6) (rf_of (IsModel.r0 hf6 (I26 a0 0))) dX7_withdraw_97 ?_
        refine lv_iload_n hx hb dX7_withdraw_100 rfl (hv_at hl 3 rfl) ?_
        refine lv_bipush (v := (10:Int32)) hx hb dX7_withdraw_101 (by decide) ?_
        refine v_cSi (As := [.int x1, .int (10:Int32)]) C hR hS hl.1.1 ca_X7_ofMaster kml_X7_31 (L_X7_ofMaster E l x1 (10:Int32) I26 _ h) rfl rfl (Nat.le_of_ble_eq_true rfl) ⟨Nat.le_of_ble_eq_true rfl, Nat.le_of_ble_eq_true rfl⟩ ⟨Nat.zero_le _, Nat.zero_le _⟩ dX7_withdraw_103 (fun v29 I28 H locs h hR hS => ?_)
        obtain ⟨hi30, h⟩ := h
        refine w_iald C hR (IsModel.a0 hf6) hi30 (j := (ix v29)) rfl dX7_withdraw_106 ?_
        exact hJ107 (I19 (a0 + 1) (ix v20)) (I28 (a0 + 1) (ix v29)) v27 I28 _ _ _ h hR hS (hv_sub hl [0] rfl)
      · replace h := h.2 c31
        refine lv_iconst (v := (0:Int32)) hx hb dX7_withdraw_92 rfl ?_
        refine lv_goto (tgt := 107) hx hb dX7_withdraw_93 (by decide) ?_
        exact hJ107 (I19 (a0 + 1) (ix v20)) (0:Int32) v27 I26 _ _ _ h hR hS (hv_sub hl [0] rfl)
    · replace h := h.2 c32
      refine lv_bipush (v := (-5:Int32)) hx hb dX7_withdraw_22 (by decide) ?_
      exact w_ireti C rfl rfl hR hS h dX7_withdraw_24
  · replace h := h.2 c33
    refine lv_iconst (v := (-1:Int32)) hx hb dX7_withdraw_7 rfl ?_
    exact w_ireti C rfl rfl hR hS h dX7_withdraw_8
set_option maxHeartbeats 4000000 in
set_option maxRecDepth 100000 in
theorem L_X7_sign (E : Ev) (l : Launch) {K : MK} {R : MR} {n : Nat} (a0 : Nat) (x1 : Int32) (x2 : Int32) (I : MI) (Q : Int32 → MI → Prop) (h : w_X7_sign K R a0 x1 x2 I Q) : MM E l yX7_sign cX7_sign 4 (some Jvm.ClassFile.FieldType.int) 1 22 0 0 [.ref a0, .int x1, .int x2] K R I n (Qi K R n Q) := by
  refine MM.of1 (by decide) RX7 rfl (cR (cI (cI cN))) (Nat.le_of_ble_eq_true rfl) ?_
  intro p e s m args below meth c ls C hin hR hS hl
  have hx := C.1
  have hb := C.2.1
  have hml := C.2.2.1
  have hown := C.2.2.2.1
  have hts := C.2.2.2.2.1
  have hl : hv ls 4 [(0, .ref a0), (1, .int x1), (2, .int x2)] := hl
  clear hin
  have hJ67 : ∀ (y3_67 : Int32) (z0_67 : Int32) (z1_67 : Int32) (I : MI) (H : Heap) (locs : List Loc) (ls : Array Slot), w_X7_sign_b67 K R a0 x1 x2 Q y3_67 z0_67 z1_67 I → Rep E K R I n H → va_S (AA E) s.heap H locs → hv ls 4 [(3, .int y3_67)] → W p l e (rmM 1 22 0 0) s m args below meth c H locs 0 0 (MQ below (QcM E (Qi K R n Q)) args s 0 0 (AA E)) (F0 m 67 ls [.int z0_67, .int z1_67, .ref a0]) := by
    intro y3_67 z0_67 z1_67 I H locs ls h hR hS hl
    unfold w_X7_sign_b67 at h
    refine lv_iadd hx hb dX7_sign_67 ?_
    obtain ⟨hf1, h⟩ := h
    obtain ⟨I2, hI2⟩ := ex_eq (upI I a0 8 (z1_67 + z0_67))
    replace h := h I2 hI2
    refine v_put (T := TX7) (ty := .int) C hR hS 8 kfl_X7_69 rfl inG7 tyX7 tyX7_ok nmX7 (by decide) rfl (IsModel.k hf1) rfl (tyX7_ok 8 (by decide)) rfl rfl (fl_i_7_8 _ _ _) (Nat.le_of_ble_eq_true rfl) hI2 dX7_sign_68 (fun H locs hR hS => ?_)
    refine lv_iload_n hx hb dX7_sign_71 rfl (hv_at hl 0 rfl) ?_
    exact w_ireti C rfl rfl hR hS h dX7_sign_72
  have hJ47 : ∀ (y3_47 : Int32) (z0_47 : Int32) (I : MI) (H : Heap) (locs : List Loc) (ls : Array Slot), w_X7_sign_b47 K R a0 x1 x2 Q y3_47 z0_47 I → Rep E K R I n H → va_S (AA E) s.heap H locs → hv ls 4 [(0, .ref a0), (3, .int y3_47)] → W p l e (rmM 1 22 0 0) s m args below meth c H locs 0 0 (MQ below (QcM E (Qi K R n Q)) args s 0 0 (AA E)) (F0 m 47 ls [.int z0_47, .ref a0]) := by
    intro y3_47 z0_47 I H locs ls h hR hS hl
    unfold w_X7_sign_b47 at h
    obtain ⟨hf3, h⟩ := h
    obtain ⟨hb5, h⟩ := h
    obtain ⟨I4, hI4⟩ := ex_eq (upI I a0 9 z0_47)
    replace h := h I4 hI4
    refine v_put (T := TX7) (ty := .boolean) C hR hS 9 kfl_X7_75 rfl inG7 tyX7 tyX7_ok nmX7 (by decide) rfl (IsModel.k hf3) rfl (tyX7_ok 9 (by decide)) (bz_nar hb5) (bz_fit hb5) (fl_i_7_9 _ _ _) (Nat.le_of_ble_eq_true rfl) hI4 dX7_sign_47 (fun H locs hR hS => ?_)
    refine lv_aload_n hx hb dX7_sign_50 rfl (hv_at hl 0 rfl) ?_
    refine lv_dup hx hb dX7_sign_51 rfl ?_
    refine v_get (T := TX7) (v := .int (I4 a0 8)) C hR 8 kfl_X7_69 rfl inG7 (by decide) rfl (IsModel.k hf3) rfl dX7_sign_52 ?_
    refine lv_aload_n hx hb dX7_sign_55 rfl (hv_at hl 0 rfl) ?_
    refine v_get (T := TX7) (v := .int (I4 a0 9)) C hR 9 kfl_X7_75 rfl inG7 (by decide) rfl (IsModel.k hf3) rfl dX7_sign_56 ?_
    refine lv_if_eq (tgt := 66) hx hb dX7_sign_59 (by decide) (fun c6 => ?_) (fun c6 => ?_)
    · replace h := h.1 c6
      refine lv_iconst (v := (1:Int32)) hx hb dX7_sign_66 rfl ?_
      exact hJ67 y3_47 (1:Int32) (I4 a0 8) I4 _ _ _ h hR hS (hv_sub hl [1] rfl)
    · replace h := h.2 c6
      refine lv_iconst (v := (0:Int32)) hx hb dX7_sign_62 rfl ?_
      refine lv_goto (tgt := 67) hx hb dX7_sign_63 (by decide) ?_
      exact hJ67 y3_47 (0:Int32) (I4 a0 8) I4 _ _ _ h hR hS (hv_sub hl [1] rfl)
  have hJ42 : ∀ (y3_42 : Int32) (I : MI) (H : Heap) (locs : List Loc) (ls : Array Slot), w_X7_sign_b42 K R a0 x1 x2 Q y3_42 I → Rep E K R I n H → va_S (AA E) s.heap H locs → hv ls 4 [(0, .ref a0), (3, .int y3_42)] → W p l e (rmM 1 22 0 0) s m args below meth c H locs 0 0 (MQ below (QcM E (Qi K R n Q)) args s 0 0 (AA E)) (F0 m 42 ls [.ref a0]) := by
    intro y3_42 I H locs ls h hR hS hl
    unfold w_X7_sign_b42 at h
    refine lv_iconst (v := (1:Int32)) hx hb dX7_sign_42 rfl ?_
    refine lv_goto (tgt := 47) hx hb dX7_sign_43 (by decide) ?_
    exact hJ47 y3_42 (1:Int32) I _ _ _ h hR hS (hv_sub hl [0, 1] rfl)
  have hJ24 : ∀ (z0_24 : Int32) (I : MI) (H : Heap) (locs : List Loc) (ls : Array Slot), w_X7_sign_b24 K R a0 x1 x2 Q z0_24 I → Rep E K R I n H → va_S (AA E) s.heap H locs → hv ls 4 [(0, .ref a0), (1, .int x1), (2, .int x2)] → W p l e (rmM 1 22 0 0) s m args below meth c H locs 0 0 (MQ below (QcM E (Qi K R n Q)) args s 0 0 (AA E)) (F0 m 24 ls [.int z0_24]) := by
    intro z0_24 I H locs ls h hR hS hl
    unfold w_X7_sign_b24 at h
    refine v_istore_n (lv' := [(3, .int z0_24), (0, .ref a0), (1, .int x1), (2, .int x2)]) hx hb dX7_sign_24 rfl hl (by decide) rfl (fun ls hl => ?_)
    refine lv_aload_n hx hb dX7_sign_25 rfl (hv_at hl 1 rfl) ?_
    refine lv_aload_n hx hb dX7_sign_26 rfl (hv_at hl 1 rfl) ?_
    obtain ⟨hf7, h⟩ := h
    refine v_get (T := TX7) (v := .int (I a0 9)) C hR 9 kfl_X7_75 rfl inG7 (by decide) rfl (IsModel.k hf7) rfl dX7_sign_27 ?_
    refine lv_if_ne (tgt := 42) hx hb dX7_sign_30 (by decide) (fun c11 => ?_) (fun c11 => ?_)
    · replace h := h.1 c11
      exact hJ42 z0_24 I _ _ _ h hR hS (hv_sub hl [1, 0] rfl)
    · replace h := h.2 c11
      refine lv_iload_n hx hb dX7_sign_33 rfl (hv_at hl 0 rfl) ?_
      refine lv_iload_n hx hb dX7_sign_34 rfl (hv_at hl 2 rfl) ?_
      refine lv_iload_n hx hb dX7_sign_35 rfl (hv_at hl 3 rfl) ?_
      refine v_cSi (As := [.int z0_24, .int x1, .int x2]) C hR hS hl.1.1 ca_X7_in kml_X7_38 (L_X7_in E l z0_24 x1 x2 I _ h) rfl rfl (Nat.le_of_ble_eq_true rfl) ⟨Nat.le_of_ble_eq_true rfl, Nat.le_of_ble_eq_true rfl⟩ ⟨Nat.zero_le _, Nat.zero_le _⟩ dX7_sign_36 (fun v9 I8 H locs h hR hS => ?_)
      refine lv_if_ne (tgt := 46) hx hb dX7_sign_39 (by decide) (fun c10 => ?_) (fun c10 => ?_)
      · replace h := h.1 c10
        refine lv_iconst (v := (0:Int32)) hx hb dX7_sign_46 rfl ?_
        exact hJ47 z0_24 (0:Int32) I8 _ _ _ h hR hS (hv_sub hl [1, 0] rfl)
      · replace h := h.2 c10
        exact hJ42 z0_24 I8 _ _ _ h hR hS (hv_sub hl [1, 0] rfl)
  unfold w_X7_sign at h
  refine lv_aload_n hx hb dX7_sign_0 rfl (hv_at hl 0 rfl) ?_
  obtain ⟨hf12, h⟩ := h
  refine v_get (T := TX7) (v := .int (I a0 8)) C hR 8 kfl_X7_69 rfl inG7 (by decide) rfl (IsModel.k hf12) rfl dX7_sign_1 ?_
  refine lv_aload_n hx hb dX7_sign_4 rfl (hv_at hl 0 rfl) ?_
  refine v_get (T := TX7) (v := .int (I a0 7)) C hR 7 kfl_X7_72 rfl inG7 (by decide) rfl (IsModel.k hf12) rfl dX7_sign_5 ?_
  refine lv_icmp_ge (tgt := 23) hx hb dX7_sign_8 (by decide) (fun c14 => ?_) (fun c14 => ?_)
  · replace h := h.1 c14
    refine lv_iconst (v := (0:Int32)) hx hb dX7_sign_23 rfl ?_
    exact hJ24 (0:Int32) I _ _ _ h hR hS (hv_sub hl [0, 1, 2] rfl)
  · replace h := h.2 c14
    refine lv_aload_n hx hb dX7_sign_11 rfl (hv_at hl 0 rfl) ?_
    refine v_get (T := TX7) (v := .ref (a0 + 5)) C hR 6 kfl_X7_22 rfl inG7 (by decide) rfl (IsModel.k hf12) (rf_of (IsModel.r6 hf12 (I a0 6))) dX7_sign_12 ?_
    refine lv_aload_n hx hb dX7_sign_15 rfl (hv_at hl 0 rfl) ?_
    refine v_get (T := TX7) (v := .int (I a0 8)) C hR 8 kfl_X7_69 rfl inG7 (by decide) rfl (IsModel.k hf12) rfl dX7_sign_16 ?_
    obtain ⟨hi13, h⟩ := h
    refine w_iald C hR (IsModel.a6 hf12) hi13 (j := (ix (I a0 8))) rfl dX7_sign_19 ?_
    refine lv_goto (tgt := 24) hx hb dX7_sign_20 (by decide) ?_
    exact hJ24 (I (a0 + 5) (ix (I a0 8))) I _ _ _ h hR hS (hv_sub hl [0, 1, 2] rfl)
set_option maxHeartbeats 4000000 in
set_option maxRecDepth 100000 in
theorem L_X7_number (E : Ev) (l : Launch) {K : MK} {R : MR} {n : Nat} (a0 : Nat) (x1 : Int32) (I : MI) (Q : Int32 → MI → Prop) (h : w_X7_number K R a0 x1 I Q) : MM E l yX7_number cX7_number 4 (some Jvm.ClassFile.FieldType.int) 2 45 0 0 [.ref a0, .int x1] K R I n (Qi K R n Q) := by
  refine MM.of1 (by decide) RX7 rfl (cR (cI cN)) (Nat.le_of_ble_eq_true rfl) ?_
  intro p e s m args below meth c ls C hin hR hS hl
  have hx := C.1
  have hb := C.2.1
  have hml := C.2.2.1
  have hown := C.2.2.2.1
  have hts := C.2.2.2.2.1
  have hl : hv ls 4 [(0, .ref a0), (1, .int x1)] := hl
  clear hin
  have hJ104 : ∀ (z0_104 : Int32) (I : MI) (H : Heap) (locs : List Loc) (ls : Array Slot), w_X7_number_b104 K R a0 x1 Q z0_104 I → Rep E K R I n H → va_S (AA E) s.heap H locs → hv ls 4 [] → W p l e (rmM 2 45 0 0) s m args below meth c H locs 0 0 (MQ below (QcM E (Qi K R n Q)) args s 0 0 (AA E)) (F0 m 104 ls [.int z0_104]) := by
    intro z0_104 I H locs ls h hR hS hl
    unfold w_X7_number_b104 at h
    exact w_ireti C rfl rfl hR hS h dX7_number_104
  have hJ79 : ∀ (y2_79 : Int32) (z0_79 : Int32) (I : MI) (H : Heap) (locs : List Loc) (ls : Array Slot), w_X7_number_b79 K R a0 x1 Q y2_79 z0_79 I → Rep E K R I n H → va_S (AA E) s.heap H locs → hv ls 4 [(0, .ref a0), (2, .int y2_79)] → W p l e (rmM 2 45 0 0) s m args below meth c H locs 0 0 (MQ below (QcM E (Qi K R n Q)) args s 0 0 (AA E)) (F0 m 79 ls [.int z0_79]) := by
    intro y2_79 z0_79 I H locs ls h hR hS hl
    unfold w_X7_number_b79 at h
    refine v_istore_n (lv' := [(3, .int z0_79), (0, .ref a0), (2, .int y2_79)]) hx hb dX7_number_79 rfl hl (by decide) rfl (fun ls hl => ?_)
    refine lv_iload_n hx hb dX7_number_80 rfl (hv_at hl 0 rfl) ?_
    refine lv_if_eq (tgt := 103) hx hb dX7_number_81 (by decide) (fun c4 => ?_) (fun c4 => ?_)
    · replace h := h.1 c4
      refine lv_iload_n hx hb dX7_number_103 rfl (hv_at hl 2 rfl) ?_
      exact hJ104 y2_79 I _ _ _ h hR hS (hv_sub hl [] rfl)
    · replace h := h.2 c4
      refine lv_bipush (v := (10:Int32)) hx hb dX7_number_84 (by decide) ?_
      refine lv_iload_n hx hb dX7_number_86 rfl (hv_at hl 2 rfl) ?_
      refine lv_imul hx hb dX7_number_87 ?_
      refine lv_aload_n hx hb dX7_number_88 rfl (hv_at hl 1 rfl) ?_
      refine lv_bipush (v := (48:Int32)) hx hb dX7_number_89 (by decide) ?_
      refine lv_bipush (v := (57:Int32)) hx hb dX7_number_91 (by decide) ?_
      obtain ⟨hf1, h⟩ := h
      refine v_cVi (As := [.int (48:Int32), .int (57:Int32)]) C hR hS hl.1.1 ca_X7_sign kml_X7_79 (L_X7_sign E l a0 (48:Int32) (57:Int32) I _ h) (IsModel.k hf1) rfl rfl rfl rfl (Nat.le_of_ble_eq_true rfl) ⟨Nat.le_of_ble_eq_true rfl, Nat.le_of_ble_eq_true rfl⟩ ⟨Nat.zero_le _, Nat.zero_le _⟩ dX7_number_93 (fun v3 I2 H locs h hR hS => ?_)
      refine lv_iadd hx hb dX7_number_96 ?_
      refine lv_bipush (v := (48:Int32)) hx hb dX7_number_97 (by decide) ?_
      refine lv_isub hx hb dX7_number_99 ?_
      refine lv_goto (tgt := 104) hx hb dX7_number_100 (by decide) ?_
      exact hJ104 ((((10:Int32) * y2_79) + v3) - (48:Int32)) I2 _ _ _ h hR hS (hv_sub hl [] rfl)
  have hJ78 : ∀ (y2_78 : Int32) (I : MI) (H : Heap) (locs : List Loc) (ls : Array Slot), w_X7_number_b78 K R a0 x1 Q y2_78 I → Rep E K R I n H → va_S (AA E) s.heap H locs → hv ls 4 [(0, .ref a0), (2, .int y2_78)] → W p l e (rmM 2 45 0 0) s m args below meth c H locs 0 0 (MQ below (QcM E (Qi K R n Q)) args s 0 0 (AA E)) (F0 m 78 ls []) := by
    intro y2_78 I H locs ls h hR hS hl
    unfold w_X7_number_b78 at h
    refine lv_iconst (v := (0:Int32)) hx hb dX7_number_78 rfl ?_
    exact hJ79 y2_78 (0:Int32) I _ _ _ h hR hS (hv_sub hl [0, 1] rfl)
  unfold w_X7_number at h
  refine lv_aload_n hx hb dX7_number_0 rfl (hv_at hl 0 rfl) ?_
  refine lv_bipush (v := (48:Int32)) hx hb dX7_number_1 (by decide) ?_
  refine lv_bipush (v := (57:Int32)) hx hb dX7_number_3 (by decide) ?_
  obtain ⟨hf5, h⟩ := h
  refine v_cVi (As := [.int (48:Int32), .int (57:Int32)]) C hR hS hl.1.1 ca_X7_sign kml_X7_79 (L_X7_sign E l a0 (48:Int32) (57:Int32) I _ h) (IsModel.k hf5) rfl rfl rfl rfl (Nat.le_of_ble_eq_true rfl) ⟨Nat.le_of_ble_eq_true rfl, Nat.le_of_ble_eq_true rfl⟩ ⟨Nat.zero_le _, Nat.zero_le _⟩ dX7_number_5 (fun v7 I6 H locs h hR hS => ?_)
  refine lv_bipush (v := (48:Int32)) hx hb dX7_number_8 (by decide) ?_
  refine lv_isub hx hb dX7_number_10 ?_
  refine v_istore_n (lv' := [(2, .int (v7 - (48:Int32))), (0, .ref a0), (1, .int x1)]) hx hb dX7_number_11 rfl hl (by decide) rfl (fun ls hl => ?_)
  refine lv_aload_n hx hb dX7_number_12 rfl (hv_at hl 1 rfl) ?_
  refine v_get (T := TX7) (v := .int (I6 a0 9)) C hR 9 kfl_X7_75 rfl inG7 (by decide) rfl (IsModel.k hf5) rfl dX7_number_13 ?_
  refine lv_if_ne (tgt := 78) hx hb dX7_number_16 (by decide) (fun c16 => ?_) (fun c16 => ?_)
  · replace h := h.1 c16
    exact hJ78 (v7 - (48:Int32)) I6 _ _ _ h hR hS (hv_sub hl [1, 0] rfl)
  · replace h := h.2 c16
    refine lv_iload_n hx hb dX7_number_19 rfl (hv_at hl 0 rfl) ?_
    refine lv_if_le (tgt := 78) hx hb dX7_number_20 (by decide) (fun c15 => ?_) (fun c15 => ?_)
    · replace h := h.1 c15
      exact hJ78 (v7 - (48:Int32)) I6 _ _ _ h hR hS (hv_sub hl [1, 0] rfl)
    · replace h := h.2 c15
      refine lv_aload_n hx hb dX7_number_23 rfl (hv_at hl 1 rfl) ?_
      refine v_get (T := TX7) (v := .int (I6 a0 8)) C hR 8 kfl_X7_69 rfl inG7 (by decide) rfl (IsModel.k hf5) rfl dX7_number_24 ?_
      refine lv_aload_n hx hb dX7_number_27 rfl (hv_at hl 1 rfl) ?_
      refine v_get (T := TX7) (v := .int (I6 a0 7)) C hR 7 kfl_X7_72 rfl inG7 (by decide) rfl (IsModel.k hf5) rfl dX7_number_28 ?_
      refine lv_icmp_ge (tgt := 78) hx hb dX7_number_31 (by decide) (fun c14 => ?_) (fun c14 => ?_)
      · replace h := h.1 c14
        exact hJ78 (v7 - (48:Int32)) I6 _ _ _ h hR hS (hv_sub hl [1, 0] rfl)
      · replace h := h.2 c14
        refine lv_aload_n hx hb dX7_number_34 rfl (hv_at hl 1 rfl) ?_
        refine v_get (T := TX7) (v := .ref (a0 + 5)) C hR 6 kfl_X7_22 rfl inG7 (by decide) rfl (IsModel.k hf5) (rf_of (IsModel.r6 hf5 (I6 a0 6))) dX7_number_35 ?_
        refine lv_aload_n hx hb dX7_number_38 rfl (hv_at hl 1 rfl) ?_
        refine v_get (T := TX7) (v := .int (I6 a0 8)) C hR 8 kfl_X7_69 rfl inG7 (by decide) rfl (IsModel.k hf5) rfl dX7_number_39 ?_
        obtain ⟨hi8, h⟩ := h
        refine w_iald C hR (IsModel.a6 hf5) hi8 (j := (ix (I6 a0 8))) rfl dX7_number_42 ?_
        refine lv_bipush (v := (48:Int32)) hx hb dX7_number_43 (by decide) ?_
        refine lv_bipush (v := (57:Int32)) hx hb dX7_number_45 (by decide) ?_
        refine v_cSi (As := [.int (I6 (a0 + 5) (ix (I6 a0 8))), .int (48:Int32), .int (57:Int32)]) C hR hS hl.1.1 ca_X7_in kml_X7_38 (L_X7_in E l (I6 (a0 + 5) (ix (I6 a0 8))) (48:Int32) (57:Int32) I6 _ h) rfl rfl (Nat.le_of_ble_eq_true rfl) ⟨Nat.le_of_ble_eq_true rfl, Nat.le_of_ble_eq_true rfl⟩ ⟨Nat.zero_le _, Nat.zero_le _⟩ dX7_number_47 (fun v10 I9 H locs h hR hS => ?_)
        refine lv_if_eq (tgt := 78) hx hb dX7_number_50 (by decide) (fun c13 => ?_) (fun c13 => ?_)
        · replace h := h.1 c13
          exact hJ78 (v7 - (48:Int32)) I9 _ _ _ h hR hS (hv_sub hl [1, 0] rfl)
        · replace h := h.2 c13
          refine lv_bipush (v := (10:Int32)) hx hb dX7_number_53 (by decide) ?_
          refine lv_iload_n hx hb dX7_number_55 rfl (hv_at hl 0 rfl) ?_
          refine lv_imul hx hb dX7_number_56 ?_
          refine lv_aload_n hx hb dX7_number_57 rfl (hv_at hl 1 rfl) ?_
          refine v_get (T := TX7) (v := .ref (a0 + 5)) C hR 6 kfl_X7_22 rfl inG7 (by decide) rfl (IsModel.k hf5) (rf_of (IsModel.r6 hf5 (I9 a0 6))) dX7_number_58 ?_
          refine lv_aload_n hx hb dX7_number_61 rfl (hv_at hl 1 rfl) ?_
          refine v_get (T := TX7) (v := .int (I9 a0 8)) C hR 8 kfl_X7_69 rfl inG7 (by decide) rfl (IsModel.k hf5) rfl dX7_number_62 ?_
          obtain ⟨hi11, h⟩ := h
          refine w_iald C hR (IsModel.a6 hf5) hi11 (j := (ix (I9 a0 8))) rfl dX7_number_65 ?_
          refine lv_iadd hx hb dX7_number_66 ?_
          refine lv_bipush (v := (48:Int32)) hx hb dX7_number_67 (by decide) ?_
          refine lv_isub hx hb dX7_number_69 ?_
          refine lv_iload_n hx hb dX7_number_70 rfl (hv_at hl 2 rfl) ?_
          refine lv_icmp_gt (tgt := 78) hx hb dX7_number_71 (by decide) (fun c12 => ?_) (fun c12 => ?_)
          · replace h := h.1 c12
            exact hJ78 (v7 - (48:Int32)) I9 _ _ _ h hR hS (hv_sub hl [1, 0] rfl)
          · replace h := h.2 c12
            refine lv_iconst (v := (1:Int32)) hx hb dX7_number_74 rfl ?_
            refine lv_goto (tgt := 79) hx hb dX7_number_75 (by decide) ?_
            exact hJ79 (v7 - (48:Int32)) (1:Int32) I9 _ _ _ h hR hS (hv_sub hl [1, 0] rfl)
set_option maxHeartbeats 4000000 in
set_option maxRecDepth 100000 in
theorem L_X7_question (E : Ev) (l : Launch) {K : MK} {R : MR} {n : Nat} (a0 : Nat) (I : MI) (Q : MI → Prop) (h : w_X7_question K R a0 I Q) : MM E l yX7_question cX7_question 5 none 3 68 0 0 [.ref a0] K R I n (Qv K R n Q) := by
  refine MM.of1 (by decide) RX7 rfl (cR cN) (Nat.le_of_ble_eq_true rfl) ?_
  intro p e s m args below meth c ls C hin hR hS hl
  have hx := C.1
  have hb := C.2.1
  have hml := C.2.2.1
  have hown := C.2.2.2.1
  have hts := C.2.2.2.2.1
  have hl : hv ls 5 [(0, .ref a0)] := hl
  clear hin
  have hJ148 : ∀ (z0_148 : Int32) (z1_148 : Int32) (I : MI) (H : Heap) (locs : List Loc) (ls : Array Slot), w_X7_question_b148 K R a0 Q z0_148 z1_148 I → Rep E K R I n H → va_S (AA E) s.heap H locs → hv ls 5 [] → W p l e (rmM 3 68 0 0) s m args below meth c H locs 0 0 (MQ below (QcM E (Qv K R n Q)) args s 0 0 (AA E)) (F0 m 148 ls [.int z0_148, .int z1_148, .ref (a0 + 6)]) := by
    intro z0_148 z1_148 I H locs ls h hR hS hl
    unfold w_X7_question_b148 at h
    obtain ⟨hf2, h⟩ := h
    obtain ⟨hi1, h⟩ := h
    obtain ⟨I3, hI3⟩ := ex_eq (upI I (a0 + 6) (ix z1_148) z0_148)
    replace h := h I3 hI3
    refine w_iast C hR hS (IsModel.a10 hf2) hi1 (j := (ix z1_148)) rfl hI3 dX7_question_148 (fun H locs hR hS => ?_)
    exact w_vret C rfl hR hS h dX7_question_149
  have hJ126 : ∀ (y2_126 : Int32) (z0_126 : Int32) (I : MI) (H : Heap) (locs : List Loc) (ls : Array Slot), w_X7_question_b126 K R a0 Q y2_126 z0_126 I → Rep E K R I n H → va_S (AA E) s.heap H locs → hv ls 5 [(0, .ref a0), (2, .int y2_126)] → W p l e (rmM 3 68 0 0) s m args below meth c H locs 0 0 (MQ below (QcM E (Qv K R n Q)) args s 0 0 (AA E)) (F0 m 126 ls [.int z0_126]) := by
    intro y2_126 z0_126 I H locs ls h hR hS hl
    unfold w_X7_question_b126 at h
    refine v_istore (lv' := [(4, .int z0_126), (0, .ref a0), (2, .int y2_126)]) hx hb dX7_question_126 hl (by decide) rfl (fun ls hl => ?_)
    refine lv_aload_n hx hb dX7_question_128 rfl (hv_at hl 1 rfl) ?_
    obtain ⟨hf4, h⟩ := h
    refine v_get (T := TX7) (v := .ref (a0 + 6)) C hR 10 kfl_X7_25 rfl inG7 (by decide) rfl (IsModel.k hf4) (rf_of (IsModel.r10 hf4 (I a0 10))) dX7_question_129 ?_
    refine lv_iconst (v := (3:Int32)) hx hb dX7_question_132 rfl ?_
    refine lv_iload_n hx hb dX7_question_133 rfl (hv_at hl 2 rfl) ?_
    refine lv_if_eq (tgt := 146) hx hb dX7_question_134 (by decide) (fun c7 => ?_) (fun c7 => ?_)
    · replace h := h.1 c7
      refine lv_bipush (v := (-5:Int32)) hx hb dX7_question_146 (by decide) ?_
      exact hJ148 (-5:Int32) (3:Int32) I _ _ _ h hR hS (hv_sub hl [] rfl)
    · replace h := h.2 c7
      refine lv_aload_n hx hb dX7_question_137 rfl (hv_at hl 1 rfl) ?_
      refine lv_bipush (v := (99:Int32)) hx hb dX7_question_138 (by decide) ?_
      refine v_cVi (As := [.int (99:Int32)]) C hR hS hl.1.1 ca_X7_number kml_X7_82 (L_X7_number E l a0 (99:Int32) I _ h) (IsModel.k hf4) rfl rfl rfl rfl (Nat.le_of_ble_eq_true rfl) ⟨Nat.le_of_ble_eq_true rfl, Nat.le_of_ble_eq_true rfl⟩ ⟨Nat.zero_le _, Nat.zero_le _⟩ dX7_question_140 (fun v6 I5 H locs h hR hS => ?_)
      refine lv_goto (tgt := 148) hx hb dX7_question_143 (by decide) ?_
      exact hJ148 v6 (3:Int32) I5 _ _ _ h hR hS (hv_sub hl [] rfl)
  have hJ97 : ∀ (y2_97 : Int32) (z0_97 : Int32) (I : MI) (H : Heap) (locs : List Loc) (ls : Array Slot), w_X7_question_b97 K R a0 Q y2_97 z0_97 I → Rep E K R I n H → va_S (AA E) s.heap H locs → hv ls 5 [(0, .ref a0), (2, .int y2_97)] → W p l e (rmM 3 68 0 0) s m args below meth c H locs 0 0 (MQ below (QcM E (Qv K R n Q)) args s 0 0 (AA E)) (F0 m 97 ls [.int z0_97]) := by
    intro y2_97 z0_97 I H locs ls h hR hS hl
    unfold w_X7_question_b97 at h
    refine v_istore_n (lv' := [(3, .int z0_97), (0, .ref a0), (2, .int y2_97)]) hx hb dX7_question_97 rfl hl (by decide) rfl (fun ls hl => ?_)
    refine lv_aload_n hx hb dX7_question_98 rfl (hv_at hl 1 rfl) ?_
    obtain ⟨hf8, h⟩ := h
    refine v_get (T := TX7) (v := .ref (a0 + 6)) C hR 10 kfl_X7_25 rfl inG7 (by decide) rfl (IsModel.k hf8) (rf_of (IsModel.r10 hf8 (I a0 10))) dX7_question_99 ?_
    refine lv_iconst (v := (2:Int32)) hx hb dX7_question_102 rfl ?_
    refine lv_aload_n hx hb dX7_question_103 rfl (hv_at hl 1 rfl) ?_
    refine lv_bipush (v := (15:Int32)) hx hb dX7_question_104 (by decide) ?_
    refine v_cVi (As := [.int (15:Int32)]) C hR hS hl.1.1 ca_X7_number kml_X7_82 (L_X7_number E l a0 (15:Int32) I _ h) (IsModel.k hf8) rfl rfl rfl rfl (Nat.le_of_ble_eq_true rfl) ⟨Nat.le_of_ble_eq_true rfl, Nat.le_of_ble_eq_true rfl⟩ ⟨Nat.zero_le _, Nat.zero_le _⟩ dX7_question_106 (fun v10 I9 H locs h hR hS => ?_)
    obtain ⟨I11, hI11⟩ := ex_eq (upI I9 (a0 + 6) 2 v10)
    replace h := h I11 hI11
    refine w_iast C hR hS (IsModel.a10 hf8) (show vp_in (2:Int32) 4 by unfold vp_in; decide) (j := 2) (by decide) hI11 dX7_question_109 (fun H locs hR hS => ?_)
    refine lv_iload_n hx hb dX7_question_110 rfl (hv_at hl 2 rfl) ?_
    refine lv_if_eq (tgt := 125) hx hb dX7_question_111 (by decide) (fun c14 => ?_) (fun c14 => ?_)
    · replace h := h.1 c14
      refine lv_iconst (v := (0:Int32)) hx hb dX7_question_125 rfl ?_
      exact hJ126 y2_97 (0:Int32) I11 _ _ _ h hR hS (hv_sub hl [1, 2] rfl)
    · replace h := h.2 c14
      refine lv_aload_n hx hb dX7_question_114 rfl (hv_at hl 1 rfl) ?_
      refine lv_bipush (v := (61:Int32)) hx hb dX7_question_115 (by decide) ?_
      refine lv_bipush (v := (61:Int32)) hx hb dX7_question_117 (by decide) ?_
      refine v_cVi (As := [.int (61:Int32), .int (61:Int32)]) C hR hS hl.1.1 ca_X7_sign kml_X7_79 (L_X7_sign E l a0 (61:Int32) (61:Int32) I11 _ h) (IsModel.k hf8) rfl rfl rfl rfl (Nat.le_of_ble_eq_true rfl) ⟨Nat.le_of_ble_eq_true rfl, Nat.le_of_ble_eq_true rfl⟩ ⟨Nat.zero_le _, Nat.zero_le _⟩ dX7_question_119 (fun v13 I12 H locs h hR hS => ?_)
      refine lv_goto (tgt := 126) hx hb dX7_question_122 (by decide) ?_
      exact hJ126 y2_97 v13 I12 _ _ _ h hR hS (hv_sub hl [1, 2] rfl)
  have hJ73 : ∀ (z0_73 : Int32) (I : MI) (H : Heap) (locs : List Loc) (ls : Array Slot), w_X7_question_b73 K R a0 Q z0_73 I → Rep E K R I n H → va_S (AA E) s.heap H locs → hv ls 5 [(0, .ref a0)] → W p l e (rmM 3 68 0 0) s m args below meth c H locs 0 0 (MQ below (QcM E (Qv K R n Q)) args s 0 0 (AA E)) (F0 m 73 ls [.int z0_73]) := by
    intro z0_73 I H locs ls h hR hS hl
    unfold w_X7_question_b73 at h
    refine v_istore_n (lv' := [(2, .int z0_73), (0, .ref a0)]) hx hb dX7_question_73 rfl hl (by decide) rfl (fun ls hl => ?_)
    refine lv_iload_n hx hb dX7_question_74 rfl (hv_at hl 0 rfl) ?_
    refine lv_if_eq (tgt := 89) hx hb dX7_question_75 (by decide) (fun c21 => ?_) (fun c21 => ?_)
    · replace h := h.1 c21
      refine lv_aload_n hx hb dX7_question_89 rfl (hv_at hl 1 rfl) ?_
      refine lv_bipush (v := (114:Int32)) hx hb dX7_question_90 (by decide) ?_
      refine lv_bipush (v := (114:Int32)) hx hb dX7_question_92 (by decide) ?_
      obtain ⟨hf15, h⟩ := h
      refine v_cVi (As := [.int (114:Int32), .int (114:Int32)]) C hR hS hl.1.1 ca_X7_sign kml_X7_79 (L_X7_sign E l a0 (114:Int32) (114:Int32) I _ h) (IsModel.k hf15) rfl rfl rfl rfl (Nat.le_of_ble_eq_true rfl) ⟨Nat.le_of_ble_eq_true rfl, Nat.le_of_ble_eq_true rfl⟩ ⟨Nat.zero_le _, Nat.zero_le _⟩ dX7_question_94 (fun v17 I16 H locs h hR hS => ?_)
      exact hJ97 z0_73 v17 I16 _ _ _ h hR hS (hv_sub hl [1, 0] rfl)
    · replace h := h.2 c21
      refine lv_aload_n hx hb dX7_question_78 rfl (hv_at hl 1 rfl) ?_
      refine lv_bipush (v := (119:Int32)) hx hb dX7_question_79 (by decide) ?_
      refine lv_bipush (v := (119:Int32)) hx hb dX7_question_81 (by decide) ?_
      obtain ⟨hf18, h⟩ := h
      refine v_cVi (As := [.int (119:Int32), .int (119:Int32)]) C hR hS hl.1.1 ca_X7_sign kml_X7_79 (L_X7_sign E l a0 (119:Int32) (119:Int32) I _ h) (IsModel.k hf18) rfl rfl rfl rfl (Nat.le_of_ble_eq_true rfl) ⟨Nat.le_of_ble_eq_true rfl, Nat.le_of_ble_eq_true rfl⟩ ⟨Nat.zero_le _, Nat.zero_le _⟩ dX7_question_83 (fun v20 I19 H locs h hR hS => ?_)
      refine lv_goto (tgt := 97) hx hb dX7_question_86 (by decide) ?_
      exact hJ97 z0_73 v20 I19 _ _ _ h hR hS (hv_sub hl [1, 0] rfl)
  have hJ72 : ∀ (I : MI) (H : Heap) (locs : List Loc) (ls : Array Slot), w_X7_question_b72 K R a0 Q  I → Rep E K R I n H → va_S (AA E) s.heap H locs → hv ls 5 [(0, .ref a0)] → W p l e (rmM 3 68 0 0) s m args below meth c H locs 0 0 (MQ below (QcM E (Qv K R n Q)) args s 0 0 (AA E)) (F0 m 72 ls []) := by
    intro  I H locs ls h hR hS hl
    unfold w_X7_question_b72 at h
    refine lv_iconst (v := (0:Int32)) hx hb dX7_question_72 rfl ?_
    exact hJ73 (0:Int32) I _ _ _ h hR hS (hv_sub hl [0] rfl)
  unfold w_X7_question at h
  refine lv_aload_n hx hb dX7_question_0 rfl (hv_at hl 0 rfl) ?_
  obtain ⟨hf22, h⟩ := h
  refine v_get (T := TX7) (v := .ref (a0 + 6)) C hR 10 kfl_X7_25 rfl inG7 (by decide) rfl (IsModel.k hf22) (rf_of (IsModel.r10 hf22 (I a0 10))) dX7_question_1 ?_
  refine lv_iconst (v := (0:Int32)) hx hb dX7_question_4 rfl ?_
  refine lv_aload_n hx hb dX7_question_5 rfl (hv_at hl 0 rfl) ?_
  refine lv_bipush (v := (48:Int32)) hx hb dX7_question_6 (by decide) ?_
  refine lv_bipush (v := (51:Int32)) hx hb dX7_question_8 (by decide) ?_
  refine v_cVi (As := [.int (48:Int32), .int (51:Int32)]) C hR hS hl.1.1 ca_X7_sign kml_X7_79 (L_X7_sign E l a0 (48:Int32) (51:Int32) I _ h) (IsModel.k hf22) rfl rfl rfl rfl (Nat.le_of_ble_eq_true rfl) ⟨Nat.le_of_ble_eq_true rfl, Nat.le_of_ble_eq_true rfl⟩ ⟨Nat.zero_le _, Nat.zero_le _⟩ dX7_question_10 (fun v24 I23 H locs h hR hS => ?_)
  refine lv_bipush (v := (48:Int32)) hx hb dX7_question_13 (by decide) ?_
  refine lv_isub hx hb dX7_question_15 ?_
  obtain ⟨I25, hI25⟩ := ex_eq (upI I23 (a0 + 6) 0 (v24 - (48:Int32)))
  replace h := h I25 hI25
  refine w_iast C hR hS (IsModel.a10 hf22) (show vp_in (0:Int32) 4 by unfold vp_in; decide) (j := 0) (by decide) hI25 dX7_question_16 (fun H locs hR hS => ?_)
  refine lv_aload_n hx hb dX7_question_17 rfl (hv_at hl 0 rfl) ?_
  refine lv_bipush (v := (62:Int32)) hx hb dX7_question_18 (by decide) ?_
  refine lv_bipush (v := (62:Int32)) hx hb dX7_question_20 (by decide) ?_
  refine v_cVi (As := [.int (62:Int32), .int (62:Int32)]) C hR hS hl.1.1 ca_X7_sign kml_X7_79 (L_X7_sign E l a0 (62:Int32) (62:Int32) I25 _ h) (IsModel.k hf22) rfl rfl rfl rfl (Nat.le_of_ble_eq_true rfl) ⟨Nat.le_of_ble_eq_true rfl, Nat.le_of_ble_eq_true rfl⟩ ⟨Nat.zero_le _, Nat.zero_le _⟩ dX7_question_22 (fun v27 I26 H locs h hR hS => ?_)
  refine v_istore_n (lv' := [(1, .int v27), (0, .ref a0)]) hx hb dX7_question_25 rfl hl (by decide) rfl (fun ls hl => ?_)
  refine lv_aload_n hx hb dX7_question_26 rfl (hv_at hl 1 rfl) ?_
  refine v_get (T := TX7) (v := .ref (a0 + 6)) C hR 10 kfl_X7_25 rfl inG7 (by decide) rfl (IsModel.k hf22) (rf_of (IsModel.r10 hf22 (I26 a0 10))) dX7_question_27 ?_
  refine lv_iconst (v := (1:Int32)) hx hb dX7_question_30 rfl ?_
  refine lv_aload_n hx hb dX7_question_31 rfl (hv_at hl 1 rfl) ?_
  refine lv_bipush (v := (48:Int32)) hx hb dX7_question_32 (by decide) ?_
  refine lv_bipush (v := (51:Int32)) hx hb dX7_question_34 (by decide) ?_
  refine v_cVi (As := [.int (48:Int32), .int (51:Int32)]) C hR hS hl.1.1 ca_X7_sign kml_X7_79 (L_X7_sign E l a0 (48:Int32) (51:Int32) I26 _ h) (IsModel.k hf22) rfl rfl rfl rfl (Nat.le_of_ble_eq_true rfl) ⟨Nat.le_of_ble_eq_true rfl, Nat.le_of_ble_eq_true rfl⟩ ⟨Nat.zero_le _, Nat.zero_le _⟩ dX7_question_36 (fun v29 I28 H locs h hR hS => ?_)
  refine lv_bipush (v := (48:Int32)) hx hb dX7_question_39 (by decide) ?_
  refine lv_isub hx hb dX7_question_41 ?_
  obtain ⟨I30, hI30⟩ := ex_eq (upI I28 (a0 + 6) 1 (v29 - (48:Int32)))
  replace h := h I30 hI30
  refine w_iast C hR hS (IsModel.a10 hf22) (show vp_in (1:Int32) 4 by unfold vp_in; decide) (j := 1) (by decide) hI30 dX7_question_42 (fun H locs hR hS => ?_)
  refine lv_aload_n hx hb dX7_question_43 rfl (hv_at hl 1 rfl) ?_
  refine v_get (T := TX7) (v := .int (I30 a0 8)) C hR 8 kfl_X7_69 rfl inG7 (by decide) rfl (IsModel.k hf22) rfl dX7_question_44 ?_
  refine lv_aload_n hx hb dX7_question_47 rfl (hv_at hl 1 rfl) ?_
  refine v_get (T := TX7) (v := .int (I30 a0 7)) C hR 7 kfl_X7_72 rfl inG7 (by decide) rfl (IsModel.k hf22) rfl dX7_question_48 ?_
  refine lv_icmp_ge (tgt := 72) hx hb dX7_question_51 (by decide) (fun c33 => ?_) (fun c33 => ?_)
  · replace h := h.1 c33
    exact hJ72 I30 _ _ _ h hR hS (hv_sub hl [1] rfl)
  · replace h := h.2 c33
    refine lv_aload_n hx hb dX7_question_54 rfl (hv_at hl 1 rfl) ?_
    refine v_get (T := TX7) (v := .ref (a0 + 5)) C hR 6 kfl_X7_22 rfl inG7 (by decide) rfl (IsModel.k hf22) (rf_of (IsModel.r6 hf22 (I30 a0 6))) dX7_question_55 ?_
    refine lv_aload_n hx hb dX7_question_58 rfl (hv_at hl 1 rfl) ?_
    refine v_get (T := TX7) (v := .int (I30 a0 8)) C hR 8 kfl_X7_69 rfl inG7 (by decide) rfl (IsModel.k hf22) rfl dX7_question_59 ?_
    obtain ⟨hi31, h⟩ := h
    refine w_iald C hR (IsModel.a6 hf22) hi31 (j := (ix (I30 a0 8))) rfl dX7_question_62 ?_
    refine lv_bipush (v := (119:Int32)) hx hb dX7_question_63 (by decide) ?_
    refine lv_icmp_ne (tgt := 72) hx hb dX7_question_65 (by decide) (fun c32 => ?_) (fun c32 => ?_)
    · replace h := h.1 c32
      exact hJ72 I30 _ _ _ h hR hS (hv_sub hl [1] rfl)
    · replace h := h.2 c32
      refine lv_iconst (v := (1:Int32)) hx hb dX7_question_68 rfl ?_
      refine lv_goto (tgt := 73) hx hb dX7_question_69 (by decide) ?_
      exact hJ73 (1:Int32) I30 _ _ _ h hR hS (hv_sub hl [1] rfl)
set_option maxHeartbeats 4000000 in
set_option maxRecDepth 100000 in
theorem L_X7_go (E : Ev) (l : Launch) {K : MK} {R : MR} {n : Nat} (a0 : Nat) (x1 : Int32) (I : MI) (Q : Int32 → MI → Prop) (h : w_X7_go K R a0 x1 I Q) : MM E l yX7_go cX7_go 5 (some Jvm.ClassFile.FieldType.int) 4 92 0 0 [.ref a0, .int x1] K R I n (Qi K R n Q) := by
  refine MM.of1 (by decide) RX7 rfl (cR (cI cN)) (Nat.le_of_ble_eq_true rfl) ?_
  intro p e s m args below meth c ls C hin hR hS hl
  have hx := C.1
  have hb := C.2.1
  have hml := C.2.2.1
  have hown := C.2.2.2.1
  have hts := C.2.2.2.2.1
  have hl : hv ls 5 [(0, .ref a0), (1, .int x1)] := hl
  clear hin
  have hJ14 : ∀ (y2_14 : Int32) (y3_14 : Int32) (I : MI) (H : Heap) (locs : List Loc) (ls : Array Slot), w_X7_go_b14 K R a0 x1 Q y2_14 y3_14 I → Rep E K R I n H → va_S (AA E) s.heap H locs → hv ls 5 [(0, .ref a0), (1, .int x1), (2, .int y2_14), (3, .int y3_14)] → W p l e (rmM 4 92 0 0) s m args below meth c H locs 0 0 (MQ below (QcM E (Qi K R n Q)) args s 0 0 (AA E)) (F0 m 14 ls []) := by
    intro y2_14 y3_14 I H locs ls h hR hS hl
    obtain ⟨X14, hX14⟩ : ∃ X : Int32 → Int32 → MI → Prop, ∀ (y2_14 : Int32) (y3_14 : Int32) (I : MI), X y2_14 y3_14 I ↔ (∀ (H : Heap) (locs : List Loc) (ls : Array Slot), Rep E K R I n H → va_S (AA E) s.heap H locs → hv ls 5 [(0, .ref a0), (1, .int x1), (2, .int y2_14), (3, .int y3_14)] → W p l e (rmM 4 92 0 0) s m args below meth c H locs 0 0 (MQ below (QcM E (Qi K R n Q)) args s 0 0 (AA E)) (F0 m 14 ls [])) := ⟨fun y2_14 y3_14 I => ∀ (H : Heap) (locs : List Loc) (ls : Array Slot), Rep E K R I n H → va_S (AA E) s.heap H locs → hv ls 5 [(0, .ref a0), (1, .int x1), (2, .int y2_14), (3, .int y3_14)] → W p l e (rmM 4 92 0 0) s m args below meth c H locs 0 0 (MQ below (QcM E (Qi K R n Q)) args s 0 0 (AA E)) (F0 m 14 ls []), fun _ _ _ => Iff.rfl⟩
    refine (hX14 y2_14 y3_14 I).mp (h X14 ?_) H locs ls hR hS hl
    clear h hR hS hl
    clear ls locs H I y2_14 y3_14
    have hJ134 : ∀ (y2_134 : Int32) (z0_134 : Int32) (I : MI) (H : Heap) (locs : List Loc) (ls : Array Slot), w_X7_go_b134 K R a0 x1 Q X14 y2_134 z0_134 I → Rep E K R I n H → va_S (AA E) s.heap H locs → hv ls 5 [(0, .ref a0), (1, .int x1), (2, .int y2_134)] → W p l e (rmM 4 92 0 0) s m args below meth c H locs 0 0 (MQ below (QcM E (Qi K R n Q)) args s 0 0 (AA E)) (F0 m 134 ls [.int z0_134]) := by
      intro y2_134 z0_134 I H locs ls h hR hS hl
      unfold w_X7_go_b134 at h
      refine v_istore_n (lv' := [(3, .int z0_134), (0, .ref a0), (1, .int x1), (2, .int y2_134)]) hx hb dX7_go_134 rfl hl (by decide) rfl (fun ls hl => ?_)
      refine lv_goto (tgt := 14) hx hb dX7_go_135 (by decide) ?_
      exact (hX14 y2_134 z0_134 I).mp h _ _ _ hR hS (hv_sub hl [1, 2, 3, 0] rfl)
    have hJ107 : ∀ (y2_107 : Int32) (z0_107 : Int32) (I : MI) (H : Heap) (locs : List Loc) (ls : Array Slot), w_X7_go_b107 K R a0 x1 Q X14 y2_107 z0_107 I → Rep E K R I n H → va_S (AA E) s.heap H locs → hv ls 5 [(0, .ref a0), (1, .int x1), (2, .int y2_107)] → W p l e (rmM 4 92 0 0) s m args below meth c H locs 0 0 (MQ below (QcM E (Qi K R n Q)) args s 0 0 (AA E)) (F0 m 107 ls [.int z0_107]) := by
      intro y2_107 z0_107 I H locs ls h hR hS hl
      unfold w_X7_go_b107 at h
      refine v_istore_n (lv' := [(3, .int z0_107), (0, .ref a0), (1, .int x1), (2, .int y2_107)]) hx hb dX7_go_107 rfl hl (by decide) rfl (fun ls hl => ?_)
      refine lv_iload_n hx hb dX7_go_108 rfl (hv_at hl 0 rfl) ?_
      refine lv_if_eq (tgt := 14) hx hb dX7_go_109 (by decide) (fun c5 => ?_) (fun c5 => ?_)
      · replace h := h.1 c5
        exact (hX14 y2_107 z0_107 I).mp h _ _ _ hR hS (hv_sub hl [1, 2, 3, 0] rfl)
      · replace h := h.2 c5
        refine lv_aload_n hx hb dX7_go_112 rfl (hv_at hl 1 rfl) ?_
        refine lv_bipush (v := (59:Int32)) hx hb dX7_go_113 (by decide) ?_
        refine lv_bipush (v := (59:Int32)) hx hb dX7_go_115 (by decide) ?_
        obtain ⟨hf1, h⟩ := h
        refine v_cVi (As := [.int (59:Int32), .int (59:Int32)]) C hR hS hl.1.1 ca_X7_sign kml_X7_79 (L_X7_sign E l a0 (59:Int32) (59:Int32) I _ h) (IsModel.k hf1) rfl rfl rfl rfl (Nat.le_of_ble_eq_true rfl) ⟨Nat.le_of_ble_eq_true rfl, Nat.le_of_ble_eq_true rfl⟩ ⟨Nat.zero_le _, Nat.zero_le _⟩ dX7_go_117 (fun v3 I2 H locs h hR hS => ?_)
        refine v_istore (lv' := [(4, .int v3), (3, .int z0_107), (0, .ref a0), (1, .int x1), (2, .int y2_107)]) hx hb dX7_go_120 hl (by decide) rfl (fun ls hl => ?_)
        refine lv_aload_n hx hb dX7_go_122 rfl (hv_at hl 2 rfl) ?_
        refine v_get (T := TX7) (v := .int (I2 a0 9)) C hR 9 kfl_X7_75 rfl inG7 (by decide) rfl (IsModel.k hf1) rfl dX7_go_123 ?_
        refine lv_if_ne (tgt := 133) hx hb dX7_go_126 (by decide) (fun c4 => ?_) (fun c4 => ?_)
        · replace h := h.1 c4
          refine lv_iconst (v := (0:Int32)) hx hb dX7_go_133 rfl ?_
          exact hJ134 y2_107 (0:Int32) I2 _ _ _ h hR hS (hv_sub hl [2, 3, 4] rfl)
        · replace h := h.2 c4
          refine lv_iconst (v := (1:Int32)) hx hb dX7_go_129 rfl ?_
          refine lv_goto (tgt := 134) hx hb dX7_go_130 (by decide) ?_
          exact hJ134 y2_107 (1:Int32) I2 _ _ _ h hR hS (hv_sub hl [2, 3, 4] rfl)
    have hJ106 : ∀ (y2_106 : Int32) (I : MI) (H : Heap) (locs : List Loc) (ls : Array Slot), w_X7_go_b106 K R a0 x1 Q X14 y2_106 I → Rep E K R I n H → va_S (AA E) s.heap H locs → hv ls 5 [(0, .ref a0), (1, .int x1), (2, .int y2_106)] → W p l e (rmM 4 92 0 0) s m args below meth c H locs 0 0 (MQ below (QcM E (Qi K R n Q)) args s 0 0 (AA E)) (F0 m 106 ls []) := by
      intro y2_106 I H locs ls h hR hS hl
      unfold w_X7_go_b106 at h
      refine lv_iconst (v := (0:Int32)) hx hb dX7_go_106 rfl ?_
      exact hJ107 y2_106 (0:Int32) I _ _ _ h hR hS (hv_sub hl [0, 1, 2] rfl)
    have hJ84 : ∀ (y2_84 : Int32) (I : MI) (H : Heap) (locs : List Loc) (ls : Array Slot), w_X7_go_b84 K R a0 x1 Q X14 y2_84 I → Rep E K R I n H → va_S (AA E) s.heap H locs → hv ls 5 [(0, .ref a0), (1, .int x1), (2, .int y2_84)] → W p l e (rmM 4 92 0 0) s m args below meth c H locs 0 0 (MQ below (QcM E (Qi K R n Q)) args s 0 0 (AA E)) (F0 m 84 ls []) := by
      intro y2_84 I H locs ls h hR hS hl
      unfold w_X7_go_b84 at h
      refine lv_aload_n hx hb dX7_go_84 rfl (hv_at hl 0 rfl) ?_
      obtain ⟨hf6, h⟩ := h
      refine v_get (T := TX7) (v := .int (I a0 9)) C hR 9 kfl_X7_75 rfl inG7 (by decide) rfl (IsModel.k hf6) rfl dX7_go_85 ?_
      refine lv_if_ne (tgt := 106) hx hb dX7_go_88 (by decide) (fun c8 => ?_) (fun c8 => ?_)
      · replace h := h.1 c8
        exact hJ106 y2_84 I _ _ _ h hR hS (hv_sub hl [0, 1, 2] rfl)
      · replace h := h.2 c8
        refine lv_aload_n hx hb dX7_go_91 rfl (hv_at hl 0 rfl) ?_
        refine v_get (T := TX7) (v := .int (I a0 8)) C hR 8 kfl_X7_69 rfl inG7 (by decide) rfl (IsModel.k hf6) rfl dX7_go_92 ?_
        refine lv_aload_n hx hb dX7_go_95 rfl (hv_at hl 0 rfl) ?_
        refine v_get (T := TX7) (v := .int (I a0 7)) C hR 7 kfl_X7_72 rfl inG7 (by decide) rfl (IsModel.k hf6) rfl dX7_go_96 ?_
        refine lv_icmp_ge (tgt := 106) hx hb dX7_go_99 (by decide) (fun c7 => ?_) (fun c7 => ?_)
        · replace h := h.1 c7
          exact hJ106 y2_84 I _ _ _ h hR hS (hv_sub hl [0, 1, 2] rfl)
        · replace h := h.2 c7
          refine lv_iconst (v := (1:Int32)) hx hb dX7_go_102 rfl ?_
          refine lv_goto (tgt := 107) hx hb dX7_go_103 (by decide) ?_
          exact hJ107 y2_84 (1:Int32) I _ _ _ h hR hS (hv_sub hl [0, 1, 2] rfl)
    intro y2_14 y3_14 I h
    refine (hX14 y2_14 y3_14 I).mpr ?_
    intro H locs ls hR hS hl
    unfold w_X7_go_b14_body at h
    refine lv_iload_n hx hb dX7_go_14 rfl (hv_at hl 3 rfl) ?_
    refine lv_if_eq (tgt := 138) hx hb dX7_go_15 (by decide) (fun c18 => ?_) (fun c18 => ?_)
    · replace h := h.1 c18
      refine lv_iload_n hx hb dX7_go_138 rfl (hv_at hl 2 rfl) ?_
      exact w_ireti C rfl rfl hR hS h dX7_go_139
    · replace h := h.2 c18
      refine lv_aload_n hx hb dX7_go_18 rfl (hv_at hl 0 rfl) ?_
      obtain ⟨hf9, h⟩ := h
      refine v_cVv (As := []) C hR hS hl.1.1 ca_X7_question kml_X7_86 (L_X7_question E l a0 I _ h) (IsModel.k hf9) rfl rfl rfl rfl (Nat.le_of_ble_eq_true rfl) ⟨Nat.le_of_ble_eq_true rfl, Nat.le_of_ble_eq_true rfl⟩ ⟨Nat.zero_le _, Nat.zero_le _⟩ dX7_go_19 (fun I10 H locs h hR hS => ?_)
      refine v_iinc (v := y2_14 + (1:Int32)) (k := 2) (lv' := [(2, .int (y2_14 + (1:Int32))), (0, .ref a0), (1, .int x1), (3, .int y3_14)]) hx hb dX7_go_22 hl rfl rfl (by decide) rfl (fun ls hl => ?_)
      refine lv_iload_n hx hb dX7_go_25 rfl (hv_at hl 2 rfl) ?_
      refine lv_if_eq (tgt := 62) hx hb dX7_go_26 (by decide) (fun c17 => ?_) (fun c17 => ?_)
      · replace h := h.1 c17
        refine lv_aload_n hx hb dX7_go_62 rfl (hv_at hl 1 rfl) ?_
        refine v_get (T := TX7) (v := .int (I10 a0 9)) C hR 9 kfl_X7_75 rfl inG7 (by decide) rfl (IsModel.k hf9) rfl dX7_go_63 ?_
        refine lv_if_ne (tgt := 84) hx hb dX7_go_66 (by decide) (fun c14 => ?_) (fun c14 => ?_)
        · replace h := h.1 c14
          exact hJ84 (y2_14 + (1:Int32)) I10 _ _ _ h hR hS (hv_sub hl [1, 2, 0] rfl)
        · replace h := h.2 c14
          refine lv_aload_n hx hb dX7_go_69 rfl (hv_at hl 1 rfl) ?_
          refine v_get (T := TX7) (v := .ref (a0 + 7)) C hR 11 kfl_X7_28 rfl inG7 (by decide) rfl (IsModel.k hf9) (rf_of (IsModel.r11 hf9 (I10 a0 11))) dX7_go_70 ?_
          refine lv_aload_n hx hb dX7_go_73 rfl (hv_at hl 1 rfl) ?_
          refine v_get (T := TX7) (v := .ref (a0 + 6)) C hR 10 kfl_X7_25 rfl inG7 (by decide) rfl (IsModel.k hf9) (rf_of (IsModel.r10 hf9 (I10 a0 10))) dX7_go_74 ?_
          refine lv_iconst (v := (0:Int32)) hx hb dX7_go_77 rfl ?_
          refine w_iald C hR (IsModel.a10 hf9) (show vp_in (0:Int32) 4 by unfold vp_in; decide) (j := 0) (by decide) dX7_go_78 ?_
          refine lv_dup2_11 hx hb dX7_go_79 rfl rfl ?_
          obtain ⟨hi11, h⟩ := h
          refine w_iald C hR (IsModel.a11 hf9) hi11 (j := (ix (I10 (a0 + 6) 0))) rfl dX7_go_80 ?_
          refine lv_iconst (v := (1:Int32)) hx hb dX7_go_81 rfl ?_
          refine lv_iadd hx hb dX7_go_82 ?_
          obtain ⟨hi12, h⟩ := h
          obtain ⟨I13, hI13⟩ := ex_eq (upI I10 (a0 + 7) (ix (I10 (a0 + 6) 0)) ((I10 (a0 + 7) (ix (I10 (a0 + 6) 0))) + (1:Int32)))
          replace h := h I13 hI13
          refine w_iast C hR hS (IsModel.a11 hf9) hi12 (j := (ix (I10 (a0 + 6) 0))) rfl hI13 dX7_go_83 (fun H locs hR hS => ?_)
          exact hJ84 (y2_14 + (1:Int32)) I13 _ _ _ h hR hS (hv_sub hl [1, 2, 0] rfl)
      · replace h := h.2 c17
        refine lv_aload_n hx hb dX7_go_29 rfl (hv_at hl 1 rfl) ?_
        refine lv_aload_n hx hb dX7_go_30 rfl (hv_at hl 1 rfl) ?_
        refine v_get (T := TX7) (v := .ref (a0 + 6)) C hR 10 kfl_X7_25 rfl inG7 (by decide) rfl (IsModel.k hf9) (rf_of (IsModel.r10 hf9 (I10 a0 10))) dX7_go_31 ?_
        refine lv_iconst (v := (0:Int32)) hx hb dX7_go_34 rfl ?_
        refine w_iald C hR (IsModel.a10 hf9) (show vp_in (0:Int32) 4 by unfold vp_in; decide) (j := 0) (by decide) dX7_go_35 ?_
        refine lv_aload_n hx hb dX7_go_36 rfl (hv_at hl 1 rfl) ?_
        refine v_get (T := TX7) (v := .ref (a0 + 6)) C hR 10 kfl_X7_25 rfl inG7 (by decide) rfl (IsModel.k hf9) (rf_of (IsModel.r10 hf9 (I10 a0 10))) dX7_go_37 ?_
        refine lv_iconst (v := (1:Int32)) hx hb dX7_go_40 rfl ?_
        refine w_iald C hR (IsModel.a10 hf9) (show vp_in (1:Int32) 4 by unfold vp_in; decide) (j := 1) (by decide) dX7_go_41 ?_
        refine lv_aload_n hx hb dX7_go_42 rfl (hv_at hl 1 rfl) ?_
        refine v_get (T := TX7) (v := .ref (a0 + 6)) C hR 10 kfl_X7_25 rfl inG7 (by decide) rfl (IsModel.k hf9) (rf_of (IsModel.r10 hf9 (I10 a0 10))) dX7_go_43 ?_
        refine lv_iconst (v := (2:Int32)) hx hb dX7_go_46 rfl ?_
        refine w_iald C hR (IsModel.a10 hf9) (show vp_in (2:Int32) 4 by unfold vp_in; decide) (j := 2) (by decide) dX7_go_47 ?_
        refine lv_aload_n hx hb dX7_go_48 rfl (hv_at hl 1 rfl) ?_
        refine v_get (T := TX7) (v := .ref (a0 + 6)) C hR 10 kfl_X7_25 rfl inG7 (by decide) rfl (IsModel.k hf9) (rf_of (IsModel.r10 hf9 (I10 a0 10))) dX7_go_49 ?_
        refine lv_iconst (v := (3:Int32)) hx hb dX7_go_52 rfl ?_
        refine w_iald C hR (IsModel.a10 hf9) (show vp_in (3:Int32) 4 by unfold vp_in; decide) (j := 3) (by decide) dX7_go_53 ?_
        refine v_cVi (As := [.int (I10 (a0 + 6) 0), .int (I10 (a0 + 6) 1), .int (I10 (a0 + 6) 2), .int (I10 (a0 + 6) 3)]) C hR hS hl.1.1 ca_X7_put kml_X7_65 (L_X7_put E l a0 (I10 (a0 + 6) 0) (I10 (a0 + 6) 1) (I10 (a0 + 6) 2) (I10 (a0 + 6) 3) I10 _ h) (IsModel.k hf9) rfl rfl rfl rfl (Nat.le_of_ble_eq_true rfl) ⟨Nat.le_of_ble_eq_true rfl, Nat.le_of_ble_eq_true rfl⟩ ⟨Nat.zero_le _, Nat.zero_le _⟩ dX7_go_54 (fun v16 I15 H locs h hR hS => ?_)
        refine v_istore (lv' := [(4, .int v16), (2, .int (y2_14 + (1:Int32))), (0, .ref a0), (1, .int x1), (3, .int y3_14)]) hx hb dX7_go_57 hl (by decide) rfl (fun ls hl => ?_)
        refine lv_goto (tgt := 84) hx hb dX7_go_59 (by decide) ?_
        exact hJ84 (y2_14 + (1:Int32)) I15 _ _ _ h hR hS (hv_sub hl [2, 3, 1] rfl)
  unfold w_X7_go at h
  refine lv_aload_n hx hb dX7_go_0 rfl (hv_at hl 0 rfl) ?_
  refine lv_iconst (v := (0:Int32)) hx hb dX7_go_1 rfl ?_
  obtain ⟨hf19, h⟩ := h
  obtain ⟨I20, hI20⟩ := ex_eq (upI I a0 8 (0:Int32))
  replace h := h I20 hI20
  refine v_put (T := TX7) (ty := .int) C hR hS 8 kfl_X7_69 rfl inG7 tyX7 tyX7_ok nmX7 (by decide) rfl (IsModel.k hf19) rfl (tyX7_ok 8 (by decide)) rfl rfl (fl_i_7_8 _ _ _) (Nat.le_of_ble_eq_true rfl) hI20 dX7_go_2 (fun H locs hR hS => ?_)
  refine lv_aload_n hx hb dX7_go_5 rfl (hv_at hl 0 rfl) ?_
  refine lv_iconst (v := (0:Int32)) hx hb dX7_go_6 rfl ?_
  obtain ⟨I21, hI21⟩ := ex_eq (upI I20 a0 9 (0:Int32))
  replace h := h I21 hI21
  refine v_put (T := TX7) (ty := .boolean) C hR hS 9 kfl_X7_75 rfl inG7 tyX7 tyX7_ok nmX7 (by decide) rfl (IsModel.k hf19) rfl (tyX7_ok 9 (by decide)) rfl rfl (fl_i_7_9 _ _ _) (Nat.le_of_ble_eq_true rfl) hI21 dX7_go_7 (fun H locs hR hS => ?_)
  refine lv_iconst (v := (0:Int32)) hx hb dX7_go_10 rfl ?_
  refine v_istore_n (lv' := [(2, .int (0:Int32)), (0, .ref a0), (1, .int x1)]) hx hb dX7_go_11 rfl hl (by decide) rfl (fun ls hl => ?_)
  refine lv_iconst (v := (1:Int32)) hx hb dX7_go_12 rfl ?_
  refine v_istore_n (lv' := [(3, .int (1:Int32)), (2, .int (0:Int32)), (0, .ref a0), (1, .int x1)]) hx hb dX7_go_13 rfl hl (by decide) rfl (fun ls hl => ?_)
  exact hJ14 (0:Int32) (1:Int32) I21 _ _ _ h hR hS (hv_sub hl [2, 3, 1, 0] rfl)
set_option maxHeartbeats 4000000 in
set_option maxRecDepth 100000 in
theorem L_X7_ask (E : Ev) (l : Launch) {K : MK} {R : MR} {n : Nat} (a0 : Nat) (I : MI) (Q : Int32 → MI → Prop) (h : w_X7_ask K R a0 I Q) : MM E l yX7_ask cX7_ask 4 (some Jvm.ClassFile.FieldType.int) 5 116 0 0 [.ref a0] K R I n (Qi K R n Q) := by
  refine MM.of1 (by decide) RX7 rfl (cR cN) (Nat.le_of_ble_eq_true rfl) ?_
  intro p e s m args below meth c ls C hin hR hS hl
  have hx := C.1
  have hb := C.2.1
  have hml := C.2.2.1
  have hown := C.2.2.2.1
  have hts := C.2.2.2.2.1
  have hl : hv ls 4 [(0, .ref a0)] := hl
  clear hin
  have hJ72 : ∀ (y2_72 : Int32) (y3_72 : Int32) (I : MI) (H : Heap) (locs : List Loc) (ls : Array Slot), w_X7_ask_b72 K R a0 Q y2_72 y3_72 I → Rep E K R I n H → va_S (AA E) s.heap H locs → hv ls 4 [(0, .ref a0), (2, .int y2_72), (3, .int y3_72)] → W p l e (rmM 5 116 0 0) s m args below meth c H locs 0 0 (MQ below (QcM E (Qi K R n Q)) args s 0 0 (AA E)) (F0 m 72 ls []) := by
    intro y2_72 y3_72 I H locs ls h hR hS hl
    obtain ⟨X72, hX72⟩ : ∃ X : Int32 → Int32 → MI → Prop, ∀ (y2_72 : Int32) (y3_72 : Int32) (I : MI), X y2_72 y3_72 I ↔ (∀ (H : Heap) (locs : List Loc) (ls : Array Slot), Rep E K R I n H → va_S (AA E) s.heap H locs → hv ls 4 [(0, .ref a0), (2, .int y2_72), (3, .int y3_72)] → W p l e (rmM 5 116 0 0) s m args below meth c H locs 0 0 (MQ below (QcM E (Qi K R n Q)) args s 0 0 (AA E)) (F0 m 72 ls [])) := ⟨fun y2_72 y3_72 I => ∀ (H : Heap) (locs : List Loc) (ls : Array Slot), Rep E K R I n H → va_S (AA E) s.heap H locs → hv ls 4 [(0, .ref a0), (2, .int y2_72), (3, .int y3_72)] → W p l e (rmM 5 116 0 0) s m args below meth c H locs 0 0 (MQ below (QcM E (Qi K R n Q)) args s 0 0 (AA E)) (F0 m 72 ls []), fun _ _ _ => Iff.rfl⟩
    refine (hX72 y2_72 y3_72 I).mp (h X72 ?_) H locs ls hR hS hl
    clear h hR hS hl
    clear ls locs H I y2_72 y3_72
    have hJ97 : ∀ (y3_97 : Int32) (z0_97 : Int32) (I : MI) (H : Heap) (locs : List Loc) (ls : Array Slot), w_X7_ask_b97 K R a0 Q X72 y3_97 z0_97 I → Rep E K R I n H → va_S (AA E) s.heap H locs → hv ls 4 [(0, .ref a0), (3, .int y3_97)] → W p l e (rmM 5 116 0 0) s m args below meth c H locs 0 0 (MQ below (QcM E (Qi K R n Q)) args s 0 0 (AA E)) (F0 m 97 ls [.int z0_97]) := by
      intro y3_97 z0_97 I H locs ls h hR hS hl
      unfold w_X7_ask_b97 at h
      refine v_istore_n (lv' := [(2, .int z0_97), (0, .ref a0), (3, .int y3_97)]) hx hb dX7_ask_97 rfl hl (by decide) rfl (fun ls hl => ?_)
      refine v_iinc (v := y3_97 + (1:Int32)) (k := 2) (lv' := [(3, .int (y3_97 + (1:Int32))), (2, .int z0_97), (0, .ref a0)]) hx hb dX7_ask_98 hl rfl rfl (by decide) rfl (fun ls hl => ?_)
      refine lv_goto (tgt := 72) hx hb dX7_ask_101 (by decide) ?_
      exact (hX72 z0_97 (y3_97 + (1:Int32)) I).mp h _ _ _ hR hS (hv_sub hl [2, 1, 0] rfl)
    have hJ92 : ∀ (y3_92 : Int32) (I : MI) (H : Heap) (locs : List Loc) (ls : Array Slot), w_X7_ask_b92 K R a0 Q X72 y3_92 I → Rep E K R I n H → va_S (AA E) s.heap H locs → hv ls 4 [(0, .ref a0), (3, .int y3_92)] → W p l e (rmM 5 116 0 0) s m args below meth c H locs 0 0 (MQ below (QcM E (Qi K R n Q)) args s 0 0 (AA E)) (F0 m 92 ls []) := by
      intro y3_92 I H locs ls h hR hS hl
      unfold w_X7_ask_b92 at h
      refine lv_iconst (v := (1:Int32)) hx hb dX7_ask_92 rfl ?_
      refine lv_goto (tgt := 97) hx hb dX7_ask_93 (by decide) ?_
      exact hJ97 y3_92 (1:Int32) I _ _ _ h hR hS (hv_sub hl [0, 1] rfl)
    intro y2_72 y3_72 I h
    refine (hX72 y2_72 y3_72 I).mpr ?_
    intro H locs ls hR hS hl
    unfold w_X7_ask_b72_body at h
    refine lv_iload_n hx hb dX7_ask_72 rfl (hv_at hl 2 rfl) ?_
    refine lv_iconst (v := (4:Int32)) hx hb dX7_ask_73 rfl ?_
    refine lv_icmp_ge (tgt := 104) hx hb dX7_ask_74 (by decide) (fun c10 => ?_) (fun c10 => ?_)
    · replace h := h.1 c10
      refine lv_iload_n hx hb dX7_ask_104 rfl (hv_at hl 1 rfl) ?_
      refine lv_if_eq (tgt := 111) hx hb dX7_ask_105 (by decide) (fun c5 => ?_) (fun c5 => ?_)
      · replace h := h.1 c5
        refine lv_aload_n hx hb dX7_ask_111 rfl (hv_at hl 0 rfl) ?_
        obtain ⟨hf1, h⟩ := h
        refine v_cVv (As := []) C hR hS hl.1.1 ca_X7_know kml_X7_46 (L_X7_know E l a0 I _ h) (IsModel.k hf1) rfl rfl rfl rfl (Nat.le_of_ble_eq_true rfl) ⟨Nat.le_of_ble_eq_true rfl, Nat.le_of_ble_eq_true rfl⟩ ⟨Nat.zero_le _, Nat.zero_le _⟩ dX7_ask_112 (fun I2 H locs h hR hS => ?_)
        refine lv_aload_n hx hb dX7_ask_115 rfl (hv_at hl 0 rfl) ?_
        refine lv_iconst (v := (1:Int32)) hx hb dX7_ask_116 rfl ?_
        refine v_cVi (As := [.int (1:Int32)]) C hR hS hl.1.1 ca_X7_go kml_X7_89 (L_X7_go E l a0 (1:Int32) I2 _ h) (IsModel.k hf1) rfl rfl rfl rfl (Nat.le_of_ble_eq_true rfl) ⟨Nat.le_of_ble_eq_true rfl, Nat.le_of_ble_eq_true rfl⟩ ⟨Nat.zero_le _, Nat.zero_le _⟩ dX7_ask_117 (fun v4 I3 H locs h hR hS => ?_)
        exact w_ireti C rfl rfl hR hS h dX7_ask_120
      · replace h := h.2 c5
        refine lv_bipush (v := (-3:Int32)) hx hb dX7_ask_108 (by decide) ?_
        exact w_ireti C rfl rfl hR hS h dX7_ask_110
    · replace h := h.2 c10
      refine lv_iload_n hx hb dX7_ask_77 rfl (hv_at hl 1 rfl) ?_
      refine lv_if_ne (tgt := 92) hx hb dX7_ask_78 (by decide) (fun c9 => ?_) (fun c9 => ?_)
      · replace h := h.1 c9
        exact hJ92 y3_72 I _ _ _ h hR hS (hv_sub hl [0, 2] rfl)
      · replace h := h.2 c9
        refine lv_aload_n hx hb dX7_ask_81 rfl (hv_at hl 0 rfl) ?_
        obtain ⟨hf6, h⟩ := h
        refine v_get (T := TX7) (v := .ref (a0 + 7)) C hR 11 kfl_X7_28 rfl inG7 (by decide) rfl (IsModel.k hf6) (rf_of (IsModel.r11 hf6 (I a0 11))) dX7_ask_82 ?_
        refine lv_iload_n hx hb dX7_ask_85 rfl (hv_at hl 2 rfl) ?_
        obtain ⟨hi7, h⟩ := h
        refine w_iald C hR (IsModel.a11 hf6) hi7 (j := (ix y3_72)) rfl dX7_ask_86 ?_
        refine lv_bipush (v := (6:Int32)) hx hb dX7_ask_87 (by decide) ?_
        refine lv_icmp_le (tgt := 96) hx hb dX7_ask_89 (by decide) (fun c8 => ?_) (fun c8 => ?_)
        · replace h := h.1 c8
          refine lv_iconst (v := (0:Int32)) hx hb dX7_ask_96 rfl ?_
          exact hJ97 y3_72 (0:Int32) I _ _ _ h hR hS (hv_sub hl [0, 2] rfl)
        · replace h := h.2 c8
          exact hJ92 y3_72 I _ _ _ h hR hS (hv_sub hl [0, 2] rfl)
  have hJ69 : ∀ (z0_69 : Int32) (I : MI) (H : Heap) (locs : List Loc) (ls : Array Slot), w_X7_ask_b69 K R a0 Q z0_69 I → Rep E K R I n H → va_S (AA E) s.heap H locs → hv ls 4 [(0, .ref a0)] → W p l e (rmM 5 116 0 0) s m args below meth c H locs 0 0 (MQ below (QcM E (Qi K R n Q)) args s 0 0 (AA E)) (F0 m 69 ls [.int z0_69]) := by
    intro z0_69 I H locs ls h hR hS hl
    unfold w_X7_ask_b69 at h
    refine v_istore_n (lv' := [(2, .int z0_69), (0, .ref a0)]) hx hb dX7_ask_69 rfl hl (by decide) rfl (fun ls hl => ?_)
    refine lv_iconst (v := (0:Int32)) hx hb dX7_ask_70 rfl ?_
    refine v_istore_n (lv' := [(3, .int (0:Int32)), (2, .int z0_69), (0, .ref a0)]) hx hb dX7_ask_71 rfl hl (by decide) rfl (fun ls hl => ?_)
    exact hJ72 z0_69 (0:Int32) I _ _ _ h hR hS (hv_sub hl [2, 1, 0] rfl)
  have hJ2 : ∀ (y1_2 : Int32) (I : MI) (H : Heap) (locs : List Loc) (ls : Array Slot), w_X7_ask_b2 K R a0 Q y1_2 I → Rep E K R I n H → va_S (AA E) s.heap H locs → hv ls 4 [(0, .ref a0), (1, .int y1_2)] → W p l e (rmM 5 116 0 0) s m args below meth c H locs 0 0 (MQ below (QcM E (Qi K R n Q)) args s 0 0 (AA E)) (F0 m 2 ls []) := by
    intro y1_2 I H locs ls h hR hS hl
    obtain ⟨X2, hX2⟩ : ∃ X : Int32 → MI → Prop, ∀ (y1_2 : Int32) (I : MI), X y1_2 I ↔ (∀ (H : Heap) (locs : List Loc) (ls : Array Slot), Rep E K R I n H → va_S (AA E) s.heap H locs → hv ls 4 [(0, .ref a0), (1, .int y1_2)] → W p l e (rmM 5 116 0 0) s m args below meth c H locs 0 0 (MQ below (QcM E (Qi K R n Q)) args s 0 0 (AA E)) (F0 m 2 ls [])) := ⟨fun y1_2 I => ∀ (H : Heap) (locs : List Loc) (ls : Array Slot), Rep E K R I n H → va_S (AA E) s.heap H locs → hv ls 4 [(0, .ref a0), (1, .int y1_2)] → W p l e (rmM 5 116 0 0) s m args below meth c H locs 0 0 (MQ below (QcM E (Qi K R n Q)) args s 0 0 (AA E)) (F0 m 2 ls []), fun _ _ => Iff.rfl⟩
    refine (hX2 y1_2 I).mp (h X2 ?_) H locs ls hR hS hl
    clear h hR hS hl
    clear ls locs H I y1_2
    intro y1_2 I h
    refine (hX2 y1_2 I).mpr ?_
    intro H locs ls hR hS hl
    unfold w_X7_ask_b2_body at h
    refine lv_iload_n hx hb dX7_ask_2 rfl (hv_at hl 1 rfl) ?_
    refine lv_iconst (v := (4:Int32)) hx hb dX7_ask_3 rfl ?_
    refine lv_icmp_ge (tgt := 29) hx hb dX7_ask_4 (by decide) (fun c22 => ?_) (fun c22 => ?_)
    · replace h := h.1 c22
      refine lv_aload_n hx hb dX7_ask_29 rfl (hv_at hl 0 rfl) ?_
      refine lv_iconst (v := (0:Int32)) hx hb dX7_ask_30 rfl ?_
      obtain ⟨hf11, h⟩ := h
      refine v_cVi (As := [.int (0:Int32)]) C hR hS hl.1.1 ca_X7_go kml_X7_89 (L_X7_go E l a0 (0:Int32) I _ h) (IsModel.k hf11) rfl rfl rfl rfl (Nat.le_of_ble_eq_true rfl) ⟨Nat.le_of_ble_eq_true rfl, Nat.le_of_ble_eq_true rfl⟩ ⟨Nat.zero_le _, Nat.zero_le _⟩ dX7_ask_31 (fun v13 I12 H locs h hR hS => ?_)
      refine v_istore_n (lv' := [(1, .int v13), (0, .ref a0)]) hx hb dX7_ask_34 rfl hl (by decide) rfl (fun ls hl => ?_)
      refine lv_aload_n hx hb dX7_ask_35 rfl (hv_at hl 1 rfl) ?_
      refine v_get (T := TX7) (v := .int (I12 a0 9)) C hR 9 kfl_X7_75 rfl inG7 (by decide) rfl (IsModel.k hf11) rfl dX7_ask_36 ?_
      refine lv_if_eq (tgt := 50) hx hb dX7_ask_39 (by decide) (fun c15 => ?_) (fun c15 => ?_)
      · replace h := h.1 c15
        refine lv_aload_n hx hb dX7_ask_50 rfl (hv_at hl 1 rfl) ?_
        refine v_get (T := TX7) (v := .ref (a0 + 1)) C hR 0 kfl_X7_7 rfl inG7 (by decide) rfl (IsModel.k hf11) (rf_of (IsModel.r0 hf11 (I12 a0 0))) dX7_ask_51 ?_
        refine lv_iconst (v := (4:Int32)) hx hb dX7_ask_54 rfl ?_
        refine w_iald C hR (IsModel.a0 hf11) (show vp_in (4:Int32) 2361 by unfold vp_in; decide) (j := 4) (by decide) dX7_ask_55 ?_
        refine lv_iload_n hx hb dX7_ask_56 rfl (hv_at hl 0 rfl) ?_
        refine lv_iadd hx hb dX7_ask_57 ?_
        refine lv_sipush (v := (200:Int32)) hx hb dX7_ask_58 (by decide) ?_
        refine lv_icmp_le (tgt := 68) hx hb dX7_ask_61 (by decide) (fun c14 => ?_) (fun c14 => ?_)
        · replace h := h.1 c14
          refine lv_iconst (v := (0:Int32)) hx hb dX7_ask_68 rfl ?_
          exact hJ69 (0:Int32) I12 _ _ _ h hR hS (hv_sub hl [1] rfl)
        · replace h := h.2 c14
          refine lv_iconst (v := (1:Int32)) hx hb dX7_ask_64 rfl ?_
          refine lv_goto (tgt := 69) hx hb dX7_ask_65 (by decide) ?_
          exact hJ69 (1:Int32) I12 _ _ _ h hR hS (hv_sub hl [1] rfl)
      · replace h := h.2 c15
        refine lv_bipush (v := (-100:Int32)) hx hb dX7_ask_42 (by decide) ?_
        refine lv_aload_n hx hb dX7_ask_44 rfl (hv_at hl 1 rfl) ?_
        refine v_get (T := TX7) (v := .int (I12 a0 8)) C hR 8 kfl_X7_69 rfl inG7 (by decide) rfl (IsModel.k hf11) rfl dX7_ask_45 ?_
        refine lv_isub hx hb dX7_ask_48 ?_
        exact w_ireti C rfl rfl hR hS h dX7_ask_49
    · replace h := h.2 c22
      refine lv_aload_n hx hb dX7_ask_7 rfl (hv_at hl 0 rfl) ?_
      obtain ⟨hf16, h⟩ := h
      refine v_get (T := TX7) (v := .ref (a0 + 7)) C hR 11 kfl_X7_28 rfl inG7 (by decide) rfl (IsModel.k hf16) (rf_of (IsModel.r11 hf16 (I a0 11))) dX7_ask_8 ?_
      refine lv_iload_n hx hb dX7_ask_11 rfl (hv_at hl 1 rfl) ?_
      refine lv_aload_n hx hb dX7_ask_12 rfl (hv_at hl 0 rfl) ?_
      refine v_get (T := TX7) (v := .ref (a0 + 1)) C hR 0 kfl_X7_7 rfl inG7 (by decide) rfl (IsModel.k hf16) (rf_of (IsModel.r0 hf16 (I a0 0))) dX7_ask_13 ?_
      refine lv_iload_n hx hb dX7_ask_16 rfl (hv_at hl 1 rfl) ?_
      refine lv_iconst (v := (0:Int32)) hx hb dX7_ask_17 rfl ?_
      refine v_cSi (As := [.int y1_2, .int (0:Int32)]) C hR hS hl.1.1 ca_X7_ofMaster kml_X7_31 (L_X7_ofMaster E l y1_2 (0:Int32) I _ h) rfl rfl (Nat.le_of_ble_eq_true rfl) ⟨Nat.le_of_ble_eq_true rfl, Nat.le_of_ble_eq_true rfl⟩ ⟨Nat.zero_le _, Nat.zero_le _⟩ dX7_ask_18 (fun v18 I17 H locs h hR hS => ?_)
      obtain ⟨hi19, h⟩ := h
      refine w_iald C hR (IsModel.a0 hf16) hi19 (j := (ix v18)) rfl dX7_ask_21 ?_
      obtain ⟨hi20, h⟩ := h
      obtain ⟨I21, hI21⟩ := ex_eq (upI I17 (a0 + 7) (ix y1_2) (I17 (a0 + 1) (ix v18)))
      replace h := h I21 hI21
      refine w_iast C hR hS (IsModel.a11 hf16) hi20 (j := (ix y1_2)) rfl hI21 dX7_ask_22 (fun H locs hR hS => ?_)
      refine v_iinc (v := y1_2 + (1:Int32)) (k := 1) (lv' := [(1, .int (y1_2 + (1:Int32))), (0, .ref a0)]) hx hb dX7_ask_23 hl rfl rfl (by decide) rfl (fun ls hl => ?_)
      refine lv_goto (tgt := 2) hx hb dX7_ask_26 (by decide) ?_
      exact (hX2 (y1_2 + (1:Int32)) I21).mp h _ _ _ hR hS (hv_sub hl [1, 0] rfl)
  unfold w_X7_ask at h
  refine lv_iconst (v := (0:Int32)) hx hb dX7_ask_0 rfl ?_
  refine v_istore_n (lv' := [(1, .int (0:Int32)), (0, .ref a0)]) hx hb dX7_ask_1 rfl hl (by decide) rfl (fun ls hl => ?_)
  exact hJ2 (0:Int32) I _ _ _ h hR hS (hv_sub hl [1, 0] rfl)
set_option maxHeartbeats 4000000 in
set_option maxRecDepth 100000 in
theorem L_X7_type (E : Ev) (l : Launch) {K : MK} {R : MR} {n : Nat} (a0 : Nat) (x1 : Int32) (I : MI) (Q : Int32 → MI → Prop) (h : w_X7_type K R a0 x1 I Q) : MM E l yX7_type cX7_type 2 (some Jvm.ClassFile.FieldType.int) 0 0 0 0 [.ref a0, .int x1] K R I n (Qi K R n Q) := by
  refine MM.of1 (by decide) RX7 rfl (cR (cI cN)) (Nat.le_of_ble_eq_true rfl) ?_
  intro p e s m args below meth c ls C hin hR hS hl
  have hx := C.1
  have hb := C.2.1
  have hml := C.2.2.1
  have hown := C.2.2.2.1
  have hts := C.2.2.2.2.1
  have hl : hv ls 2 [(0, .ref a0), (1, .int x1)] := hl
  clear hin
  unfold w_X7_type at h
  refine lv_aload_n hx hb dX7_type_0 rfl (hv_at hl 0 rfl) ?_
  obtain ⟨hf1, h⟩ := h
  refine v_get (T := TX7) (v := .int (I a0 7)) C hR 7 kfl_X7_72 rfl inG7 (by decide) rfl (IsModel.k hf1) rfl dX7_type_1 ?_
  refine lv_bipush (v := (60:Int32)) hx hb dX7_type_4 (by decide) ?_
  refine lv_icmp_ne (tgt := 12) hx hb dX7_type_6 (by decide) (fun c5 => ?_) (fun c5 => ?_)
  · replace h := h.1 c5
    refine lv_aload_n hx hb dX7_type_12 rfl (hv_at hl 0 rfl) ?_
    refine v_get (T := TX7) (v := .ref (a0 + 5)) C hR 6 kfl_X7_22 rfl inG7 (by decide) rfl (IsModel.k hf1) (rf_of (IsModel.r6 hf1 (I a0 6))) dX7_type_13 ?_
    refine lv_aload_n hx hb dX7_type_16 rfl (hv_at hl 0 rfl) ?_
    refine v_get (T := TX7) (v := .int (I a0 7)) C hR 7 kfl_X7_72 rfl inG7 (by decide) rfl (IsModel.k hf1) rfl dX7_type_17 ?_
    refine lv_iload_n hx hb dX7_type_20 rfl (hv_at hl 1 rfl) ?_
    obtain ⟨hi2, h⟩ := h
    obtain ⟨I3, hI3⟩ := ex_eq (upI I (a0 + 5) (ix (I a0 7)) x1)
    replace h := h I3 hI3
    refine w_iast C hR hS (IsModel.a6 hf1) hi2 (j := (ix (I a0 7))) rfl hI3 dX7_type_21 (fun H locs hR hS => ?_)
    refine lv_aload_n hx hb dX7_type_22 rfl (hv_at hl 0 rfl) ?_
    refine lv_dup hx hb dX7_type_23 rfl ?_
    refine v_get (T := TX7) (v := .int (I3 a0 7)) C hR 7 kfl_X7_72 rfl inG7 (by decide) rfl (IsModel.k hf1) rfl dX7_type_24 ?_
    refine lv_iconst (v := (1:Int32)) hx hb dX7_type_27 rfl ?_
    refine lv_iadd hx hb dX7_type_28 ?_
    obtain ⟨I4, hI4⟩ := ex_eq (upI I3 a0 7 ((I3 a0 7) + (1:Int32)))
    replace h := h I4 hI4
    refine v_put (T := TX7) (ty := .int) C hR hS 7 kfl_X7_72 rfl inG7 tyX7 tyX7_ok nmX7 (by decide) rfl (IsModel.k hf1) rfl (tyX7_ok 7 (by decide)) rfl rfl (fl_i_7_7 _ _ _) (Nat.le_of_ble_eq_true rfl) hI4 dX7_type_29 (fun H locs hR hS => ?_)
    refine lv_aload_n hx hb dX7_type_32 rfl (hv_at hl 0 rfl) ?_
    refine v_get (T := TX7) (v := .int (I4 a0 7)) C hR 7 kfl_X7_72 rfl inG7 (by decide) rfl (IsModel.k hf1) rfl dX7_type_33 ?_
    exact w_ireti C rfl rfl hR hS h dX7_type_36
  · replace h := h.2 c5
    refine lv_bipush (v := (-3:Int32)) hx hb dX7_type_9 (by decide) ?_
    exact w_ireti C rfl rfl hR hS h dX7_type_11
set_option maxHeartbeats 4000000 in
set_option maxRecDepth 100000 in
theorem L_X7_clearText (E : Ev) (l : Launch) {K : MK} {R : MR} {n : Nat} (a0 : Nat) (I : MI) (Q : Int32 → MI → Prop) (h : w_X7_clearText K R a0 I Q) : MM E l yX7_clearText cX7_clearText 2 (some Jvm.ClassFile.FieldType.int) 0 0 0 0 [.ref a0] K R I n (Qi K R n Q) := by
  refine MM.of1 (by decide) RX7 rfl (cR cN) (Nat.le_of_ble_eq_true rfl) ?_
  intro p e s m args below meth c ls C hin hR hS hl
  have hx := C.1
  have hb := C.2.1
  have hml := C.2.2.1
  have hown := C.2.2.2.1
  have hts := C.2.2.2.2.1
  have hl : hv ls 2 [(0, .ref a0)] := hl
  clear hin
  unfold w_X7_clearText at h
  refine lv_aload_n hx hb dX7_clearText_0 rfl (hv_at hl 0 rfl) ?_
  obtain ⟨hf1, h⟩ := h
  refine v_get (T := TX7) (v := .int (I a0 7)) C hR 7 kfl_X7_72 rfl inG7 (by decide) rfl (IsModel.k hf1) rfl dX7_clearText_1 ?_
  refine v_istore_n (lv' := [(1, .int (I a0 7)), (0, .ref a0)]) hx hb dX7_clearText_4 rfl hl (by decide) rfl (fun ls hl => ?_)
  refine lv_aload_n hx hb dX7_clearText_5 rfl (hv_at hl 1 rfl) ?_
  refine lv_iconst (v := (0:Int32)) hx hb dX7_clearText_6 rfl ?_
  obtain ⟨I2, hI2⟩ := ex_eq (upI I a0 7 (0:Int32))
  replace h := h I2 hI2
  refine v_put (T := TX7) (ty := .int) C hR hS 7 kfl_X7_72 rfl inG7 tyX7 tyX7_ok nmX7 (by decide) rfl (IsModel.k hf1) rfl (tyX7_ok 7 (by decide)) rfl rfl (fl_i_7_7 _ _ _) (Nat.le_of_ble_eq_true rfl) hI2 dX7_clearText_7 (fun H locs hR hS => ?_)
  refine lv_iload_n hx hb dX7_clearText_10 rfl (hv_at hl 0 rfl) ?_
  exact w_ireti C rfl rfl hR hS h dX7_clearText_11
set_option maxHeartbeats 4000000 in
set_option maxRecDepth 100000 in
theorem L_X7_freeTag (E : Ev) (l : Launch) {K : MK} {R : MR} {n : Nat} (a0 : Nat) (I : MI) (Q : Int32 → MI → Prop) (h : w_X7_freeTag K R a0 I Q) : MM E l yX7_freeTag cX7_freeTag 2 (some Jvm.ClassFile.FieldType.int) 0 0 0 0 [.ref a0] K R I n (Qi K R n Q) := by
  refine MM.of1 (by decide) RX7 rfl (cR cN) (Nat.le_of_ble_eq_true rfl) ?_
  intro p e s m args below meth c ls C hin hR hS hl
  have hx := C.1
  have hb := C.2.1
  have hml := C.2.2.1
  have hown := C.2.2.2.1
  have hts := C.2.2.2.2.1
  have hl : hv ls 2 [(0, .ref a0)] := hl
  clear hin
  have hJ2 : ∀ (y1_2 : Int32) (I : MI) (H : Heap) (locs : List Loc) (ls : Array Slot), w_X7_freeTag_b2 K R a0 Q y1_2 I → Rep E K R I n H → va_S (AA E) s.heap H locs → hv ls 2 [(0, .ref a0), (1, .int y1_2)] → W p l e (rmM 0 0 0 0) s m args below meth c H locs 0 0 (MQ below (QcM E (Qi K R n Q)) args s 0 0 (AA E)) (F0 m 2 ls []) := by
    intro y1_2 I H locs ls h hR hS hl
    obtain ⟨X2, hX2⟩ : ∃ X : Int32 → MI → Prop, ∀ (y1_2 : Int32) (I : MI), X y1_2 I ↔ (∀ (H : Heap) (locs : List Loc) (ls : Array Slot), Rep E K R I n H → va_S (AA E) s.heap H locs → hv ls 2 [(0, .ref a0), (1, .int y1_2)] → W p l e (rmM 0 0 0 0) s m args below meth c H locs 0 0 (MQ below (QcM E (Qi K R n Q)) args s 0 0 (AA E)) (F0 m 2 ls [])) := ⟨fun y1_2 I => ∀ (H : Heap) (locs : List Loc) (ls : Array Slot), Rep E K R I n H → va_S (AA E) s.heap H locs → hv ls 2 [(0, .ref a0), (1, .int y1_2)] → W p l e (rmM 0 0 0 0) s m args below meth c H locs 0 0 (MQ below (QcM E (Qi K R n Q)) args s 0 0 (AA E)) (F0 m 2 ls []), fun _ _ => Iff.rfl⟩
    refine (hX2 y1_2 I).mp (h X2 ?_) H locs ls hR hS hl
    clear h hR hS hl
    clear ls locs H I y1_2
    intro y1_2 I h
    refine (hX2 y1_2 I).mpr ?_
    intro H locs ls hR hS hl
    unfold w_X7_freeTag_b2_body at h
    refine lv_iload_n hx hb dX7_freeTag_2 rfl (hv_at hl 1 rfl) ?_
    refine lv_aload_n hx hb dX7_freeTag_3 rfl (hv_at hl 0 rfl) ?_
    obtain ⟨hf1, h⟩ := h
    refine v_get (T := TX7) (v := .ref (a0 + 1)) C hR 0 kfl_X7_7 rfl inG7 (by decide) rfl (IsModel.k hf1) (rf_of (IsModel.r0 hf1 (I a0 0))) dX7_freeTag_4 ?_
    refine lv_iconst (v := (1:Int32)) hx hb dX7_freeTag_7 rfl ?_
    refine w_iald C hR (IsModel.a0 hf1) (show vp_in (1:Int32) 2361 by unfold vp_in; decide) (j := 1) (by decide) dX7_freeTag_8 ?_
    refine lv_icmp_ge (tgt := 34) hx hb dX7_freeTag_9 (by decide) (fun c4 => ?_) (fun c4 => ?_)
    · replace h := h.1 c4
      refine lv_bipush (v := (-5:Int32)) hx hb dX7_freeTag_34 (by decide) ?_
      exact w_ireti C rfl rfl hR hS h dX7_freeTag_36
    · replace h := h.2 c4
      refine lv_aload_n hx hb dX7_freeTag_12 rfl (hv_at hl 0 rfl) ?_
      refine v_get (T := TX7) (v := .ref (a0 + 1)) C hR 0 kfl_X7_7 rfl inG7 (by decide) rfl (IsModel.k hf1) (rf_of (IsModel.r0 hf1 (I a0 0))) dX7_freeTag_13 ?_
      refine lv_bipush (v := (13:Int32)) hx hb dX7_freeTag_16 (by decide) ?_
      refine lv_iload_n hx hb dX7_freeTag_18 rfl (hv_at hl 1 rfl) ?_
      refine lv_iadd hx hb dX7_freeTag_19 ?_
      obtain ⟨hi2, h⟩ := h
      refine w_iald C hR (IsModel.a0 hf1) hi2 (j := (ix ((13:Int32) + y1_2))) rfl dX7_freeTag_20 ?_
      refine lv_bipush (v := (-5:Int32)) hx hb dX7_freeTag_21 (by decide) ?_
      refine lv_icmp_ne (tgt := 28) hx hb dX7_freeTag_23 (by decide) (fun c3 => ?_) (fun c3 => ?_)
      · replace h := h.1 c3
        refine v_iinc (v := y1_2 + (1:Int32)) (k := 1) (lv' := [(1, .int (y1_2 + (1:Int32))), (0, .ref a0)]) hx hb dX7_freeTag_28 hl rfl rfl (by decide) rfl (fun ls hl => ?_)
        refine lv_goto (tgt := 2) hx hb dX7_freeTag_31 (by decide) ?_
        exact (hX2 (y1_2 + (1:Int32)) I).mp h _ _ _ hR hS (hv_sub hl [1, 0] rfl)
      · replace h := h.2 c3
        refine lv_iload_n hx hb dX7_freeTag_26 rfl (hv_at hl 1 rfl) ?_
        exact w_ireti C rfl rfl hR hS h dX7_freeTag_27
  unfold w_X7_freeTag at h
  refine lv_iconst (v := (0:Int32)) hx hb dX7_freeTag_0 rfl ?_
  refine v_istore_n (lv' := [(1, .int (0:Int32)), (0, .ref a0)]) hx hb dX7_freeTag_1 rfl hl (by decide) rfl (fun ls hl => ?_)
  exact hJ2 (0:Int32) I _ _ _ h hR hS (hv_sub hl [1, 0] rfl)
set_option maxHeartbeats 4000000 in
set_option maxRecDepth 100000 in
theorem L_X7_holds (E : Ev) (l : Launch) {K : MK} {R : MR} {n : Nat} (a0 : Nat) (x1 : Int32) (I : MI) (Q : Int32 → MI → Prop) (h : w_X7_holds K R a0 x1 I Q) : MM E l yX7_holds cX7_holds 4 (some Jvm.ClassFile.FieldType.int) 1 21 0 0 [.ref a0, .int x1] K R I n (Qi K R n Q) := by
  refine MM.of1 (by decide) RX7 rfl (cR (cI cN)) (Nat.le_of_ble_eq_true rfl) ?_
  intro p e s m args below meth c ls C hin hR hS hl
  have hx := C.1
  have hb := C.2.1
  have hml := C.2.2.1
  have hown := C.2.2.2.1
  have hts := C.2.2.2.2.1
  have hl : hv ls 4 [(0, .ref a0), (1, .int x1)] := hl
  clear hin
  have hJ4 : ∀ (y2_4 : Int32) (y3_4 : Int32) (I : MI) (H : Heap) (locs : List Loc) (ls : Array Slot), w_X7_holds_b4 K R a0 x1 Q y2_4 y3_4 I → Rep E K R I n H → va_S (AA E) s.heap H locs → hv ls 4 [(0, .ref a0), (1, .int x1), (2, .int y2_4), (3, .int y3_4)] → W p l e (rmM 1 21 0 0) s m args below meth c H locs 0 0 (MQ below (QcM E (Qi K R n Q)) args s 0 0 (AA E)) (F0 m 4 ls []) := by
    intro y2_4 y3_4 I H locs ls h hR hS hl
    obtain ⟨X4, hX4⟩ : ∃ X : Int32 → Int32 → MI → Prop, ∀ (y2_4 : Int32) (y3_4 : Int32) (I : MI), X y2_4 y3_4 I ↔ (∀ (H : Heap) (locs : List Loc) (ls : Array Slot), Rep E K R I n H → va_S (AA E) s.heap H locs → hv ls 4 [(0, .ref a0), (1, .int x1), (2, .int y2_4), (3, .int y3_4)] → W p l e (rmM 1 21 0 0) s m args below meth c H locs 0 0 (MQ below (QcM E (Qi K R n Q)) args s 0 0 (AA E)) (F0 m 4 ls [])) := ⟨fun y2_4 y3_4 I => ∀ (H : Heap) (locs : List Loc) (ls : Array Slot), Rep E K R I n H → va_S (AA E) s.heap H locs → hv ls 4 [(0, .ref a0), (1, .int x1), (2, .int y2_4), (3, .int y3_4)] → W p l e (rmM 1 21 0 0) s m args below meth c H locs 0 0 (MQ below (QcM E (Qi K R n Q)) args s 0 0 (AA E)) (F0 m 4 ls []), fun _ _ _ => Iff.rfl⟩
    refine (hX4 y2_4 y3_4 I).mp (h X4 ?_) H locs ls hR hS hl
    clear h hR hS hl
    clear ls locs H I y2_4 y3_4
    have hJ56 : ∀ (y3_56 : Int32) (z0_56 : Int32) (z1_56 : Int32) (I : MI) (H : Heap) (locs : List Loc) (ls : Array Slot), w_X7_holds_b56 K R a0 x1 Q X4 y3_56 z0_56 z1_56 I → Rep E K R I n H → va_S (AA E) s.heap H locs → hv ls 4 [(0, .ref a0), (1, .int x1), (3, .int y3_56)] → W p l e (rmM 1 21 0 0) s m args below meth c H locs 0 0 (MQ below (QcM E (Qi K R n Q)) args s 0 0 (AA E)) (F0 m 56 ls [.int z0_56, .int z1_56]) := by
      intro y3_56 z0_56 z1_56 I H locs ls h hR hS hl
      unfold w_X7_holds_b56 at h
      refine lv_iadd hx hb dX7_holds_56 ?_
      refine v_istore_n (lv' := [(2, .int (z1_56 + z0_56)), (0, .ref a0), (1, .int x1), (3, .int y3_56)]) hx hb dX7_holds_57 rfl hl (by decide) rfl (fun ls hl => ?_)
      refine v_iinc (v := y3_56 + (1:Int32)) (k := 3) (lv' := [(3, .int (y3_56 + (1:Int32))), (2, .int (z1_56 + z0_56)), (0, .ref a0), (1, .int x1)]) hx hb dX7_holds_58 hl rfl rfl (by decide) rfl (fun ls hl => ?_)
      refine lv_goto (tgt := 4) hx hb dX7_holds_61 (by decide) ?_
      exact (hX4 (z1_56 + z0_56) (y3_56 + (1:Int32)) I).mp h _ _ _ hR hS (hv_sub hl [2, 3, 1, 0] rfl)
    have hJ55 : ∀ (y3_55 : Int32) (z0_55 : Int32) (I : MI) (H : Heap) (locs : List Loc) (ls : Array Slot), w_X7_holds_b55 K R a0 x1 Q X4 y3_55 z0_55 I → Rep E K R I n H → va_S (AA E) s.heap H locs → hv ls 4 [(0, .ref a0), (1, .int x1), (3, .int y3_55)] → W p l e (rmM 1 21 0 0) s m args below meth c H locs 0 0 (MQ below (QcM E (Qi K R n Q)) args s 0 0 (AA E)) (F0 m 55 ls [.int z0_55]) := by
      intro y3_55 z0_55 I H locs ls h hR hS hl
      unfold w_X7_holds_b55 at h
      refine lv_iconst (v := (0:Int32)) hx hb dX7_holds_55 rfl ?_
      exact hJ56 y3_55 (0:Int32) z0_55 I _ _ _ h hR hS (hv_sub hl [0, 1, 2] rfl)
    intro y2_4 y3_4 I h
    refine (hX4 y2_4 y3_4 I).mpr ?_
    intro H locs ls hR hS hl
    unfold w_X7_holds_b4_body at h
    refine lv_iload_n hx hb dX7_holds_4 rfl (hv_at hl 3 rfl) ?_
    refine lv_aload_n hx hb dX7_holds_5 rfl (hv_at hl 0 rfl) ?_
    obtain ⟨hf1, h⟩ := h
    refine v_get (T := TX7) (v := .ref (a0 + 1)) C hR 0 kfl_X7_7 rfl inG7 (by decide) rfl (IsModel.k hf1) (rf_of (IsModel.r0 hf1 (I a0 0))) dX7_holds_6 ?_
    refine lv_iconst (v := (1:Int32)) hx hb dX7_holds_9 rfl ?_
    refine w_iald C hR (IsModel.a0 hf1) (show vp_in (1:Int32) 2361 by unfold vp_in; decide) (j := 1) (by decide) dX7_holds_10 ?_
    refine lv_icmp_ge (tgt := 64) hx hb dX7_holds_11 (by decide) (fun c9 => ?_) (fun c9 => ?_)
    · replace h := h.1 c9
      refine lv_iload_n hx hb dX7_holds_64 rfl (hv_at hl 2 rfl) ?_
      exact w_ireti C rfl rfl hR hS h dX7_holds_65
    · replace h := h.2 c9
      refine lv_iload_n hx hb dX7_holds_14 rfl (hv_at hl 2 rfl) ?_
      refine lv_aload_n hx hb dX7_holds_15 rfl (hv_at hl 0 rfl) ?_
      refine v_get (T := TX7) (v := .ref (a0 + 1)) C hR 0 kfl_X7_7 rfl inG7 (by decide) rfl (IsModel.k hf1) (rf_of (IsModel.r0 hf1 (I a0 0))) dX7_holds_16 ?_
      refine lv_bipush (v := (13:Int32)) hx hb dX7_holds_19 (by decide) ?_
      refine lv_iload_n hx hb dX7_holds_21 rfl (hv_at hl 3 rfl) ?_
      refine lv_iadd hx hb dX7_holds_22 ?_
      obtain ⟨hi2, h⟩ := h
      refine w_iald C hR (IsModel.a0 hf1) hi2 (j := (ix ((13:Int32) + y3_4))) rfl dX7_holds_23 ?_
      refine lv_bipush (v := (-5:Int32)) hx hb dX7_holds_24 (by decide) ?_
      refine lv_icmp_eq (tgt := 55) hx hb dX7_holds_26 (by decide) (fun c8 => ?_) (fun c8 => ?_)
      · replace h := h.1 c8
        exact hJ55 y3_4 y2_4 I _ _ _ h hR hS (hv_sub hl [0, 1, 3] rfl)
      · replace h := h.2 c8
        refine lv_aload_n hx hb dX7_holds_29 rfl (hv_at hl 0 rfl) ?_
        refine v_get (T := TX7) (v := .ref (a0 + 1)) C hR 0 kfl_X7_7 rfl inG7 (by decide) rfl (IsModel.k hf1) (rf_of (IsModel.r0 hf1 (I a0 0))) dX7_holds_30 ?_
        refine lv_aload_n hx hb dX7_holds_33 rfl (hv_at hl 0 rfl) ?_
        refine v_get (T := TX7) (v := .ref (a0 + 1)) C hR 0 kfl_X7_7 rfl inG7 (by decide) rfl (IsModel.k hf1) (rf_of (IsModel.r0 hf1 (I a0 0))) dX7_holds_34 ?_
        refine lv_bipush (v := (13:Int32)) hx hb dX7_holds_37 (by decide) ?_
        refine lv_iload_n hx hb dX7_holds_39 rfl (hv_at hl 3 rfl) ?_
        refine lv_iadd hx hb dX7_holds_40 ?_
        obtain ⟨hi3, h⟩ := h
        refine w_iald C hR (IsModel.a0 hf1) hi3 (j := (ix ((13:Int32) + y3_4))) rfl dX7_holds_41 ?_
        refine lv_iconst (v := (0:Int32)) hx hb dX7_holds_42 rfl ?_
        refine v_cSi (As := [.int (I (a0 + 1) (ix ((13:Int32) + y3_4))), .int (0:Int32)]) C hR hS hl.1.1 ca_X7_of kml_X7_59 (L_X7_of E l (I (a0 + 1) (ix ((13:Int32) + y3_4))) (0:Int32) I _ h) rfl rfl (Nat.le_of_ble_eq_true rfl) ⟨Nat.le_of_ble_eq_true rfl, Nat.le_of_ble_eq_true rfl⟩ ⟨Nat.zero_le _, Nat.zero_le _⟩ dX7_holds_43 (fun v5 I4 H locs h hR hS => ?_)
        obtain ⟨hi6, h⟩ := h
        refine w_iald C hR (IsModel.a0 hf1) hi6 (j := (ix v5)) rfl dX7_holds_46 ?_
        refine lv_iload_n hx hb dX7_holds_47 rfl (hv_at hl 1 rfl) ?_
        refine lv_icmp_ne (tgt := 55) hx hb dX7_holds_48 (by decide) (fun c7 => ?_) (fun c7 => ?_)
        · replace h := h.1 c7
          exact hJ55 y3_4 y2_4 I4 _ _ _ h hR hS (hv_sub hl [0, 1, 3] rfl)
        · replace h := h.2 c7
          refine lv_iconst (v := (1:Int32)) hx hb dX7_holds_51 rfl ?_
          refine lv_goto (tgt := 56) hx hb dX7_holds_52 (by decide) ?_
          exact hJ56 y3_4 (1:Int32) y2_4 I4 _ _ _ h hR hS (hv_sub hl [0, 1, 3] rfl)
  unfold w_X7_holds at h
  refine lv_iconst (v := (0:Int32)) hx hb dX7_holds_0 rfl ?_
  refine v_istore_n (lv' := [(2, .int (0:Int32)), (0, .ref a0), (1, .int x1)]) hx hb dX7_holds_1 rfl hl (by decide) rfl (fun ls hl => ?_)
  refine lv_iconst (v := (0:Int32)) hx hb dX7_holds_2 rfl ?_
  refine v_istore_n (lv' := [(3, .int (0:Int32)), (2, .int (0:Int32)), (0, .ref a0), (1, .int x1)]) hx hb dX7_holds_3 rfl hl (by decide) rfl (fun ls hl => ?_)
  exact hJ4 (0:Int32) (0:Int32) I _ _ _ h hR hS (hv_sub hl [2, 3, 1, 0] rfl)
