set_option maxHeartbeats 4000000 in
set_option maxRecDepth 100000 in
theorem L_X7_doneIn (E : Ev) (l : Launch) {K : MK} {R : MR} {n : Nat} (a0 : Nat) (x1 : Int32) (I : MI) (Q : Int32 → MI → Prop) (h : w_X7_doneIn K R a0 x1 I Q) : MM E l yX7_doneIn cX7_doneIn 4 (some Jvm.ClassFile.FieldType.int) 1 21 0 0 [.ref a0, .int x1] K R I n (Qi K R n Q) := by
  refine MM.of1 (by decide) RX7 rfl (cR (cI cN)) (Nat.le_of_ble_eq_true rfl) ?_
  intro p e s m args below meth c ls C hin hR hS hl
  have hx := C.1
  have hb := C.2.1
  have hml := C.2.2.1
  have hown := C.2.2.2.1
  have hts := C.2.2.2.2.1
  have hl : hv ls 4 [(0, .ref a0), (1, .int x1)] := hl
  clear hin
  have hJ4 : ∀ (y2_4 : Int32) (y3_4 : Int32) (I : MI) (H : Heap) (locs : List Loc) (ls : Array Slot), w_X7_doneIn_b4 K R a0 x1 Q y2_4 y3_4 I → Rep E K R I n H → va_S (AA E) s.heap H locs → hv ls 4 [(0, .ref a0), (1, .int x1), (2, .int y2_4), (3, .int y3_4)] → W p l e (rmM 1 21 0 0) s m args below meth c H locs 0 0 (MQ below (QcM E (Qi K R n Q)) args s 0 0 (AA E)) (F0 m 4 ls []) := by
    intro y2_4 y3_4 I H locs ls h hR hS hl
    obtain ⟨X4, hX4⟩ : ∃ X : Int32 → Int32 → MI → Prop, ∀ (y2_4 : Int32) (y3_4 : Int32) (I : MI), X y2_4 y3_4 I ↔ (∀ (H : Heap) (locs : List Loc) (ls : Array Slot), Rep E K R I n H → va_S (AA E) s.heap H locs → hv ls 4 [(0, .ref a0), (1, .int x1), (2, .int y2_4), (3, .int y3_4)] → W p l e (rmM 1 21 0 0) s m args below meth c H locs 0 0 (MQ below (QcM E (Qi K R n Q)) args s 0 0 (AA E)) (F0 m 4 ls [])) := ⟨fun y2_4 y3_4 I => ∀ (H : Heap) (locs : List Loc) (ls : Array Slot), Rep E K R I n H → va_S (AA E) s.heap H locs → hv ls 4 [(0, .ref a0), (1, .int x1), (2, .int y2_4), (3, .int y3_4)] → W p l e (rmM 1 21 0 0) s m args below meth c H locs 0 0 (MQ below (QcM E (Qi K R n Q)) args s 0 0 (AA E)) (F0 m 4 ls []), fun _ _ _ => Iff.rfl⟩
    refine (hX4 y2_4 y3_4 I).mp (h X4 ?_) H locs ls hR hS hl
    clear h hR hS hl
    clear ls locs H I y2_4 y3_4
    have hJ51 : ∀ (y3_51 : Int32) (z0_51 : Int32) (z1_51 : Int32) (I : MI) (H : Heap) (locs : List Loc) (ls : Array Slot), w_X7_doneIn_b51 K R a0 x1 Q X4 y3_51 z0_51 z1_51 I → Rep E K R I n H → va_S (AA E) s.heap H locs → hv ls 4 [(0, .ref a0), (1, .int x1), (3, .int y3_51)] → W p l e (rmM 1 21 0 0) s m args below meth c H locs 0 0 (MQ below (QcM E (Qi K R n Q)) args s 0 0 (AA E)) (F0 m 51 ls [.int z0_51, .int z1_51]) := by
      intro y3_51 z0_51 z1_51 I H locs ls h hR hS hl
      unfold w_X7_doneIn_b51 at h
      refine lv_iadd hx hb dX7_doneIn_51 ?_
      refine v_istore_n (lv' := [(2, .int (z1_51 + z0_51)), (0, .ref a0), (1, .int x1), (3, .int y3_51)]) hx hb dX7_doneIn_52 rfl hl (by decide) rfl (fun ls hl => ?_)
      refine v_iinc (v := y3_51 + (1:Int32)) (k := 3) (lv' := [(3, .int (y3_51 + (1:Int32))), (2, .int (z1_51 + z0_51)), (0, .ref a0), (1, .int x1)]) hx hb dX7_doneIn_53 hl rfl rfl (by decide) rfl (fun ls hl => ?_)
      refine lv_goto (tgt := 4) hx hb dX7_doneIn_56 (by decide) ?_
      exact (hX4 (z1_51 + z0_51) (y3_51 + (1:Int32)) I).mp h _ _ _ hR hS (hv_sub hl [2, 3, 1, 0] rfl)
    intro y2_4 y3_4 I h
    refine (hX4 y2_4 y3_4 I).mpr ?_
    intro H locs ls hR hS hl
    unfold w_X7_doneIn_b4_body at h
    refine lv_iload_n hx hb dX7_doneIn_4 rfl (hv_at hl 3 rfl) ?_
    refine lv_aload_n hx hb dX7_doneIn_5 rfl (hv_at hl 0 rfl) ?_
    obtain ⟨hf1, h⟩ := h
    refine v_get (T := TX7) (v := .ref (a0 + 1)) C hR 0 kfl_X7_7 rfl inG7 (by decide) rfl (IsModel.k hf1) (rf_of (IsModel.r0 hf1 (I a0 0))) dX7_doneIn_6 ?_
    refine lv_iload_n hx hb dX7_doneIn_9 rfl (hv_at hl 1 rfl) ?_
    refine lv_bipush (v := (19:Int32)) hx hb dX7_doneIn_10 (by decide) ?_
    refine v_cSi (As := [.int x1, .int (19:Int32)]) C hR hS hl.1.1 ca_X7_ofTarget kml_X7_35 (L_X7_ofTarget E l x1 (19:Int32) I _ h) rfl rfl (Nat.le_of_ble_eq_true rfl) ⟨Nat.le_of_ble_eq_true rfl, Nat.le_of_ble_eq_true rfl⟩ ⟨Nat.zero_le _, Nat.zero_le _⟩ dX7_doneIn_12 (fun v3 I2 H locs h hR hS => ?_)
    obtain ⟨hi4, h⟩ := h
    refine w_iald C hR (IsModel.a0 hf1) hi4 (j := (ix v3)) rfl dX7_doneIn_15 ?_
    refine lv_icmp_ge (tgt := 59) hx hb dX7_doneIn_16 (by decide) (fun c12 => ?_) (fun c12 => ?_)
    · replace h := h.1 c12
      refine lv_iload_n hx hb dX7_doneIn_59 rfl (hv_at hl 2 rfl) ?_
      exact w_ireti C rfl rfl hR hS h dX7_doneIn_60
    · replace h := h.2 c12
      refine lv_iload_n hx hb dX7_doneIn_19 rfl (hv_at hl 2 rfl) ?_
      refine lv_aload_n hx hb dX7_doneIn_20 rfl (hv_at hl 0 rfl) ?_
      refine v_get (T := TX7) (v := .ref (a0 + 1)) C hR 0 kfl_X7_7 rfl inG7 (by decide) rfl (IsModel.k hf1) (rf_of (IsModel.r0 hf1 (I2 a0 0))) dX7_doneIn_21 ?_
      refine lv_aload_n hx hb dX7_doneIn_24 rfl (hv_at hl 0 rfl) ?_
      refine v_get (T := TX7) (v := .ref (a0 + 1)) C hR 0 kfl_X7_7 rfl inG7 (by decide) rfl (IsModel.k hf1) (rf_of (IsModel.r0 hf1 (I2 a0 0))) dX7_doneIn_25 ?_
      refine lv_iload_n hx hb dX7_doneIn_28 rfl (hv_at hl 1 rfl) ?_
      refine lv_bipush (v := (20:Int32)) hx hb dX7_doneIn_29 (by decide) ?_
      refine lv_iload_n hx hb dX7_doneIn_31 rfl (hv_at hl 3 rfl) ?_
      refine lv_iadd hx hb dX7_doneIn_32 ?_
      refine v_cSi (As := [.int x1, .int ((20:Int32) + y3_4)]) C hR hS hl.1.1 ca_X7_ofTarget kml_X7_35 (L_X7_ofTarget E l x1 ((20:Int32) + y3_4) I2 _ h) rfl rfl (Nat.le_of_ble_eq_true rfl) ⟨Nat.le_of_ble_eq_true rfl, Nat.le_of_ble_eq_true rfl⟩ ⟨Nat.zero_le _, Nat.zero_le _⟩ dX7_doneIn_33 (fun v6 I5 H locs h hR hS => ?_)
      obtain ⟨hi7, h⟩ := h
      refine w_iald C hR (IsModel.a0 hf1) hi7 (j := (ix v6)) rfl dX7_doneIn_36 ?_
      refine lv_iconst (v := (4:Int32)) hx hb dX7_doneIn_37 rfl ?_
      refine v_cSi (As := [.int (I5 (a0 + 1) (ix v6)), .int (4:Int32)]) C hR hS hl.1.1 ca_X7_of kml_X7_59 (L_X7_of E l (I5 (a0 + 1) (ix v6)) (4:Int32) I5 _ h) rfl rfl (Nat.le_of_ble_eq_true rfl) ⟨Nat.le_of_ble_eq_true rfl, Nat.le_of_ble_eq_true rfl⟩ ⟨Nat.zero_le _, Nat.zero_le _⟩ dX7_doneIn_38 (fun v9 I8 H locs h hR hS => ?_)
      obtain ⟨hi10, h⟩ := h
      refine w_iald C hR (IsModel.a0 hf1) hi10 (j := (ix v9)) rfl dX7_doneIn_41 ?_
      refine lv_iconst (v := (2:Int32)) hx hb dX7_doneIn_42 rfl ?_
      refine lv_icmp_ne (tgt := 50) hx hb dX7_doneIn_43 (by decide) (fun c11 => ?_) (fun c11 => ?_)
      · replace h := h.1 c11
        refine lv_iconst (v := (0:Int32)) hx hb dX7_doneIn_50 rfl ?_
        exact hJ51 y3_4 (0:Int32) y2_4 I8 _ _ _ h hR hS (hv_sub hl [0, 1, 3] rfl)
      · replace h := h.2 c11
        refine lv_iconst (v := (1:Int32)) hx hb dX7_doneIn_46 rfl ?_
        refine lv_goto (tgt := 51) hx hb dX7_doneIn_47 (by decide) ?_
        exact hJ51 y3_4 (1:Int32) y2_4 I8 _ _ _ h hR hS (hv_sub hl [0, 1, 3] rfl)
  unfold w_X7_doneIn at h
  refine lv_iconst (v := (0:Int32)) hx hb dX7_doneIn_0 rfl ?_
  refine v_istore_n (lv' := [(2, .int (0:Int32)), (0, .ref a0), (1, .int x1)]) hx hb dX7_doneIn_1 rfl hl (by decide) rfl (fun ls hl => ?_)
  refine lv_iconst (v := (0:Int32)) hx hb dX7_doneIn_2 rfl ?_
  refine v_istore_n (lv' := [(3, .int (0:Int32)), (2, .int (0:Int32)), (0, .ref a0), (1, .int x1)]) hx hb dX7_doneIn_3 rfl hl (by decide) rfl (fun ls hl => ?_)
  exact hJ4 (0:Int32) (0:Int32) I _ _ _ h hR hS (hv_sub hl [2, 3, 1, 0] rfl)
set_option maxHeartbeats 4000000 in
set_option maxRecDepth 100000 in
theorem L_X7_target (E : Ev) (l : Launch) {K : MK} {R : MR} {n : Nat} (a0 : Nat) (x1 : Int32) (x2 : Int32) (I : MI) (Q : Int32 → MI → Prop) (h : w_X7_target K R a0 x1 x2 I Q) : MM E l yX7_target cX7_target 4 (some Jvm.ClassFile.FieldType.int) 2 47 0 0 [.ref a0, .int x1, .int x2] K R I n (Qi K R n Q) := by
  refine MM.of1 (by decide) RX7 rfl (cR (cI (cI cN))) (Nat.le_of_ble_eq_true rfl) ?_
  intro p e s m args below meth c ls C hin hR hS hl
  have hx := C.1
  have hb := C.2.1
  have hml := C.2.2.1
  have hown := C.2.2.2.1
  have hts := C.2.2.2.2.1
  have hl : hv ls 4 [(0, .ref a0), (1, .int x1), (2, .int x2)] := hl
  clear hin
  have hJ48 : ∀ (I : MI) (H : Heap) (locs : List Loc) (ls : Array Slot), w_X7_target_b48 K R a0 x1 x2 Q  I → Rep E K R I n H → va_S (AA E) s.heap H locs → hv ls 4 [(0, .ref a0), (1, .int x1), (2, .int x2)] → W p l e (rmM 2 47 0 0) s m args below meth c H locs 0 0 (MQ below (QcM E (Qi K R n Q)) args s 0 0 (AA E)) (F0 m 48 ls []) := by
    intro  I H locs ls h hR hS hl
    unfold w_X7_target_b48 at h
    refine lv_aload_n hx hb dX7_target_48 rfl (hv_at hl 0 rfl) ?_
    obtain ⟨hf1, h⟩ := h
    refine v_get (T := TX7) (v := .ref (a0 + 1)) C hR 0 kfl_X7_7 rfl inG7 (by decide) rfl (IsModel.k hf1) (rf_of (IsModel.r0 hf1 (I a0 0))) dX7_target_49 ?_
    refine lv_iload_n hx hb dX7_target_52 rfl (hv_at hl 1 rfl) ?_
    refine lv_bipush (v := (16:Int32)) hx hb dX7_target_53 (by decide) ?_
    refine lv_iload_n hx hb dX7_target_55 rfl (hv_at hl 2 rfl) ?_
    refine lv_iadd hx hb dX7_target_56 ?_
    refine v_cSi (As := [.int x1, .int ((16:Int32) + x2)]) C hR hS hl.1.1 ca_X7_ofTarget kml_X7_35 (L_X7_ofTarget E l x1 ((16:Int32) + x2) I _ h) rfl rfl (Nat.le_of_ble_eq_true rfl) ⟨Nat.le_of_ble_eq_true rfl, Nat.le_of_ble_eq_true rfl⟩ ⟨Nat.zero_le _, Nat.zero_le _⟩ dX7_target_57 (fun v3 I2 H locs h hR hS => ?_)
    obtain ⟨hi4, h⟩ := h
    refine w_iald C hR (IsModel.a0 hf1) hi4 (j := (ix v3)) rfl dX7_target_60 ?_
    exact w_ireti C rfl rfl hR hS h dX7_target_61
  have hJ98 : ∀ (z0_98 : Int32) (I : MI) (H : Heap) (locs : List Loc) (ls : Array Slot), w_X7_target_b98 K R a0 x1 x2 Q z0_98 I → Rep E K R I n H → va_S (AA E) s.heap H locs → hv ls 4 [] → W p l e (rmM 2 47 0 0) s m args below meth c H locs 0 0 (MQ below (QcM E (Qi K R n Q)) args s 0 0 (AA E)) (F0 m 98 ls [.int z0_98]) := by
    intro z0_98 I H locs ls h hR hS hl
    unfold w_X7_target_b98 at h
    exact w_ireti C rfl rfl hR hS h dX7_target_98
  unfold w_X7_target at h
  refine lv_iload_n hx hb dX7_target_0 rfl (hv_at hl 1 rfl) ?_
  refine v_cSi (As := [.int x1]) C hR hS hl.1.1 ca_X7_isPort kml_X7_56 (L_X7_isPort E l x1 I _ h) rfl rfl (Nat.le_of_ble_eq_true rfl) ⟨Nat.le_of_ble_eq_true rfl, Nat.le_of_ble_eq_true rfl⟩ ⟨Nat.zero_le _, Nat.zero_le _⟩ dX7_target_1 (fun v6 I5 H locs h hR hS => ?_)
  refine lv_if_ne (tgt := 9) hx hb dX7_target_4 (by decide) (fun c18 => ?_) (fun c18 => ?_)
  · replace h := h.1 c18
    refine lv_iload_n hx hb dX7_target_9 rfl (hv_at hl 2 rfl) ?_
    rcases sw_0_5 x2 with c7 | c7 | c7 | c7 | c7 | c7 | c7
    · replace h := h.1 c7
      refine v_tblIn (tgt := 48) hx hb (v := (0:Int32)) dX7_target_10 c7 (by decide) (by decide) rfl (by decide) ?_
      exact hJ48 I5 _ _ _ h hR hS (hv_sub hl [0, 1, 2] rfl)
    · replace h := h.2.1 c7
      refine v_tblIn (tgt := 48) hx hb (v := (1:Int32)) dX7_target_10 c7 (by decide) (by decide) rfl (by decide) ?_
      exact hJ48 I5 _ _ _ h hR hS (hv_sub hl [0, 1, 2] rfl)
    · replace h := h.2.2.1 c7
      refine v_tblIn (tgt := 48) hx hb (v := (2:Int32)) dX7_target_10 c7 (by decide) (by decide) rfl (by decide) ?_
      exact hJ48 I5 _ _ _ h hR hS (hv_sub hl [0, 1, 2] rfl)
    · replace h := h.2.2.2.1 c7
      refine v_tblIn (tgt := 48) hx hb (v := (3:Int32)) dX7_target_10 c7 (by decide) (by decide) rfl (by decide) ?_
      exact hJ48 I5 _ _ _ h hR hS (hv_sub hl [0, 1, 2] rfl)
    · replace h := h.2.2.2.2.1 c7
      refine v_tblIn (tgt := 62) hx hb (v := (4:Int32)) dX7_target_10 c7 (by decide) (by decide) rfl (by decide) ?_
      refine lv_aload_n hx hb dX7_target_62 rfl (hv_at hl 0 rfl) ?_
      refine lv_iload_n hx hb dX7_target_63 rfl (hv_at hl 1 rfl) ?_
      obtain ⟨hf8, h⟩ := h
      refine v_cVi (As := [.int x1]) C hR hS hl.1.1 ca_X7_doneIn kml_X7_137 (L_X7_doneIn E l a0 x1 I5 _ h) (IsModel.k hf8) rfl rfl rfl rfl (Nat.le_of_ble_eq_true rfl) ⟨Nat.le_of_ble_eq_true rfl, Nat.le_of_ble_eq_true rfl⟩ ⟨Nat.zero_le _, Nat.zero_le _⟩ dX7_target_64 (fun v10 I9 H locs h hR hS => ?_)
      exact w_ireti C rfl rfl hR hS h dX7_target_67
    · replace h := h.2.2.2.2.2.1 c7
      refine v_tblIn (tgt := 68) hx hb (v := (5:Int32)) dX7_target_10 c7 (by decide) (by decide) rfl (by decide) ?_
      refine lv_aload_n hx hb dX7_target_68 rfl (hv_at hl 0 rfl) ?_
      refine lv_iload_n hx hb dX7_target_69 rfl (hv_at hl 1 rfl) ?_
      obtain ⟨hf11, h⟩ := h
      refine v_cVi (As := [.int x1]) C hR hS hl.1.1 ca_X7_answering kml_X7_93 (L_X7_answering E l a0 x1 I5 _ h) (IsModel.k hf11) rfl rfl rfl rfl (Nat.le_of_ble_eq_true rfl) ⟨Nat.le_of_ble_eq_true rfl, Nat.le_of_ble_eq_true rfl⟩ ⟨Nat.zero_le _, Nat.zero_le _⟩ dX7_target_70 (fun v13 I12 H locs h hR hS => ?_)
      refine v_istore_n (lv' := [(3, .int v13), (0, .ref a0), (1, .int x1), (2, .int x2)]) hx hb dX7_target_73 rfl hl (by decide) rfl (fun ls hl => ?_)
      refine lv_iload_n hx hb dX7_target_74 rfl (hv_at hl 0 rfl) ?_
      refine lv_bipush (v := (-5:Int32)) hx hb dX7_target_75 (by decide) ?_
      refine lv_icmp_ne (tgt := 85) hx hb dX7_target_77 (by decide) (fun c17 => ?_) (fun c17 => ?_)
      · replace h := h.1 c17
        refine lv_aload_n hx hb dX7_target_85 rfl (hv_at hl 1 rfl) ?_
        refine v_get (T := TX7) (v := .ref (a0 + 1)) C hR 0 kfl_X7_7 rfl inG7 (by decide) rfl (IsModel.k hf11) (rf_of (IsModel.r0 hf11 (I12 a0 0))) dX7_target_86 ?_
        refine lv_iload_n hx hb dX7_target_89 rfl (hv_at hl 2 rfl) ?_
        refine lv_bipush (v := (20:Int32)) hx hb dX7_target_90 (by decide) ?_
        refine lv_iload_n hx hb dX7_target_92 rfl (hv_at hl 0 rfl) ?_
        refine lv_iadd hx hb dX7_target_93 ?_
        refine v_cSi (As := [.int x1, .int ((20:Int32) + v13)]) C hR hS hl.1.1 ca_X7_ofTarget kml_X7_35 (L_X7_ofTarget E l x1 ((20:Int32) + v13) I12 _ h) rfl rfl (Nat.le_of_ble_eq_true rfl) ⟨Nat.le_of_ble_eq_true rfl, Nat.le_of_ble_eq_true rfl⟩ ⟨Nat.zero_le _, Nat.zero_le _⟩ dX7_target_94 (fun v15 I14 H locs h hR hS => ?_)
        obtain ⟨hi16, h⟩ := h
        refine w_iald C hR (IsModel.a0 hf11) hi16 (j := (ix v15)) rfl dX7_target_97 ?_
        exact hJ98 (I14 (a0 + 1) (ix v15)) I14 _ _ _ h hR hS (hv_sub hl [] rfl)
      · replace h := h.2 c17
        refine lv_bipush (v := (-5:Int32)) hx hb dX7_target_80 (by decide) ?_
        refine lv_goto (tgt := 98) hx hb dX7_target_82 (by decide) ?_
        exact hJ98 (-5:Int32) I12 _ _ _ h hR hS (hv_sub hl [] rfl)
    · replace h := h.2.2.2.2.2.2 c7
      refine lv_tableOut (tgt := 99) hx hb dX7_target_10 c7 (by decide) ?_
      refine lv_bipush (v := (-2:Int32)) hx hb dX7_target_99 (by decide) ?_
      exact w_ireti C rfl rfl hR hS h dX7_target_101
  · replace h := h.2 c18
    refine lv_iconst (v := (-1:Int32)) hx hb dX7_target_7 rfl ?_
    exact w_ireti C rfl rfl hR hS h dX7_target_8
set_option maxHeartbeats 4000000 in
set_option maxRecDepth 100000 in
theorem L_X7_cell (E : Ev) (l : Launch) {K : MK} {R : MR} {n : Nat} (a0 : Nat) (x1 : Int32) (x2 : Int32) (I : MI) (Q : Int32 → MI → Prop) (h : w_X7_cell K R a0 x1 x2 I Q) : MM E l yX7_cell cX7_cell 3 (some Jvm.ClassFile.FieldType.int) 2 42 0 0 [.ref a0, .int x1, .int x2] K R I n (Qi K R n Q) := by
  refine MM.of1 (by decide) RX7 rfl (cR (cI (cI cN))) (Nat.le_of_ble_eq_true rfl) ?_
  intro p e s m args below meth c ls C hin hR hS hl
  have hx := C.1
  have hb := C.2.1
  have hml := C.2.2.1
  have hown := C.2.2.2.1
  have hts := C.2.2.2.2.1
  have hl : hv ls 3 [(0, .ref a0), (1, .int x1), (2, .int x2)] := hl
  clear hin
  have hJ34 : ∀ (z0_34 : Int32) (I : MI) (H : Heap) (locs : List Loc) (ls : Array Slot), w_X7_cell_b34 K R a0 x1 x2 Q z0_34 I → Rep E K R I n H → va_S (AA E) s.heap H locs → hv ls 3 [] → W p l e (rmM 2 42 0 0) s m args below meth c H locs 0 0 (MQ below (QcM E (Qi K R n Q)) args s 0 0 (AA E)) (F0 m 34 ls [.int z0_34]) := by
    intro z0_34 I H locs ls h hR hS hl
    unfold w_X7_cell_b34 at h
    exact w_ireti C rfl rfl hR hS h dX7_cell_34
  unfold w_X7_cell at h
  refine lv_iload_n hx hb dX7_cell_0 rfl (hv_at hl 1 rfl) ?_
  refine v_cSi (As := [.int x1]) C hR hS hl.1.1 ca_X7_isPort kml_X7_56 (L_X7_isPort E l x1 I _ h) rfl rfl (Nat.le_of_ble_eq_true rfl) ⟨Nat.le_of_ble_eq_true rfl, Nat.le_of_ble_eq_true rfl⟩ ⟨Nat.zero_le _, Nat.zero_le _⟩ dX7_cell_1 (fun v2 I1 H locs h hR hS => ?_)
  refine lv_if_ne (tgt := 9) hx hb dX7_cell_4 (by decide) (fun c10 => ?_) (fun c10 => ?_)
  · replace h := h.1 c10
    refine lv_iload_n hx hb dX7_cell_9 rfl (hv_at hl 2 rfl) ?_
    refine lv_iconst (v := (0:Int32)) hx hb dX7_cell_10 rfl ?_
    refine lv_bipush (v := (15:Int32)) hx hb dX7_cell_11 (by decide) ?_
    refine v_cSi (As := [.int x2, .int (0:Int32), .int (15:Int32)]) C hR hS hl.1.1 ca_X7_in kml_X7_38 (L_X7_in E l x2 (0:Int32) (15:Int32) I1 _ h) rfl rfl (Nat.le_of_ble_eq_true rfl) ⟨Nat.le_of_ble_eq_true rfl, Nat.le_of_ble_eq_true rfl⟩ ⟨Nat.zero_le _, Nat.zero_le _⟩ dX7_cell_13 (fun v4 I3 H locs h hR hS => ?_)
    refine lv_if_eq (tgt := 32) hx hb dX7_cell_16 (by decide) (fun c9 => ?_) (fun c9 => ?_)
    · replace h := h.1 c9
      refine lv_bipush (v := (-2:Int32)) hx hb dX7_cell_32 (by decide) ?_
      exact hJ34 (-2:Int32) I3 _ _ _ h hR hS (hv_sub hl [] rfl)
    · replace h := h.2 c9
      refine lv_aload_n hx hb dX7_cell_19 rfl (hv_at hl 0 rfl) ?_
      obtain ⟨hf5, h⟩ := h
      refine v_get (T := TX7) (v := .ref (a0 + 1)) C hR 0 kfl_X7_7 rfl inG7 (by decide) rfl (IsModel.k hf5) (rf_of (IsModel.r0 hf5 (I3 a0 0))) dX7_cell_20 ?_
      refine lv_iload_n hx hb dX7_cell_23 rfl (hv_at hl 1 rfl) ?_
      refine lv_iload_n hx hb dX7_cell_24 rfl (hv_at hl 2 rfl) ?_
      refine v_cSi (As := [.int x1, .int x2]) C hR hS hl.1.1 ca_X7_ofTarget kml_X7_35 (L_X7_ofTarget E l x1 x2 I3 _ h) rfl rfl (Nat.le_of_ble_eq_true rfl) ⟨Nat.le_of_ble_eq_true rfl, Nat.le_of_ble_eq_true rfl⟩ ⟨Nat.zero_le _, Nat.zero_le _⟩ dX7_cell_25 (fun v7 I6 H locs h hR hS => ?_)
      obtain ⟨hi8, h⟩ := h
      refine w_iald C hR (IsModel.a0 hf5) hi8 (j := (ix v7)) rfl dX7_cell_28 ?_
      refine lv_goto (tgt := 34) hx hb dX7_cell_29 (by decide) ?_
      exact hJ34 (I6 (a0 + 1) (ix v7)) I6 _ _ _ h hR hS (hv_sub hl [] rfl)
  · replace h := h.2 c10
    refine lv_iconst (v := (-1:Int32)) hx hb dX7_cell_7 rfl ?_
    exact w_ireti C rfl rfl hR hS h dX7_cell_8
set_option maxHeartbeats 4000000 in
set_option maxRecDepth 100000 in
theorem L_X7_putAside (E : Ev) (l : Launch) {K : MK} {R : MR} {n : Nat} (a0 : Nat) (I : MI) (Q : MI → Prop) (h : w_X7_putAside K R a0 I Q) : MM E l yX7_putAside cX7_putAside 2 none 0 0 0 0 [.ref a0] K R I n (Qv K R n Q) := by
  refine MM.of1 (by decide) RX7 rfl (cR cN) (Nat.le_of_ble_eq_true rfl) ?_
  intro p e s m args below meth c ls C hin hR hS hl
  have hx := C.1
  have hb := C.2.1
  have hml := C.2.2.1
  have hown := C.2.2.2.1
  have hts := C.2.2.2.2.1
  have hl : hv ls 2 [(0, .ref a0)] := hl
  clear hin
  have hJ2 : ∀ (y1_2 : Int32) (I : MI) (H : Heap) (locs : List Loc) (ls : Array Slot), w_X7_putAside_b2 K R a0 Q y1_2 I → Rep E K R I n H → va_S (AA E) s.heap H locs → hv ls 2 [(0, .ref a0), (1, .int y1_2)] → W p l e (rmM 0 0 0 0) s m args below meth c H locs 0 0 (MQ below (QcM E (Qv K R n Q)) args s 0 0 (AA E)) (F0 m 2 ls []) := by
    intro y1_2 I H locs ls h hR hS hl
    obtain ⟨X2, hX2⟩ : ∃ X : Int32 → MI → Prop, ∀ (y1_2 : Int32) (I : MI), X y1_2 I ↔ (∀ (H : Heap) (locs : List Loc) (ls : Array Slot), Rep E K R I n H → va_S (AA E) s.heap H locs → hv ls 2 [(0, .ref a0), (1, .int y1_2)] → W p l e (rmM 0 0 0 0) s m args below meth c H locs 0 0 (MQ below (QcM E (Qv K R n Q)) args s 0 0 (AA E)) (F0 m 2 ls [])) := ⟨fun y1_2 I => ∀ (H : Heap) (locs : List Loc) (ls : Array Slot), Rep E K R I n H → va_S (AA E) s.heap H locs → hv ls 2 [(0, .ref a0), (1, .int y1_2)] → W p l e (rmM 0 0 0 0) s m args below meth c H locs 0 0 (MQ below (QcM E (Qv K R n Q)) args s 0 0 (AA E)) (F0 m 2 ls []), fun _ _ => Iff.rfl⟩
    refine (hX2 y1_2 I).mp (h X2 ?_) H locs ls hR hS hl
    clear h hR hS hl
    clear ls locs H I y1_2
    intro y1_2 I h
    refine (hX2 y1_2 I).mpr ?_
    intro H locs ls hR hS hl
    unfold w_X7_putAside_b2_body at h
    refine lv_iload_n hx hb dX7_putAside_2 rfl (hv_at hl 1 rfl) ?_
    refine lv_sipush (v := (2361:Int32)) hx hb dX7_putAside_3 (by decide) ?_
    refine lv_icmp_ge (tgt := 27) hx hb dX7_putAside_6 (by decide) (fun c5 => ?_) (fun c5 => ?_)
    · replace h := h.1 c5
      exact w_vret C rfl hR hS h dX7_putAside_27
    · replace h := h.2 c5
      refine lv_aload_n hx hb dX7_putAside_9 rfl (hv_at hl 0 rfl) ?_
      obtain ⟨hf1, h⟩ := h
      refine v_get (T := TX7) (v := .ref (a0 + 2)) C hR 1 kfl_X7_13 rfl inG7 (by decide) rfl (IsModel.k hf1) (rf_of (IsModel.r1 hf1 (I a0 1))) dX7_putAside_10 ?_
      refine lv_iload_n hx hb dX7_putAside_13 rfl (hv_at hl 1 rfl) ?_
      refine lv_aload_n hx hb dX7_putAside_14 rfl (hv_at hl 0 rfl) ?_
      refine v_get (T := TX7) (v := .ref (a0 + 1)) C hR 0 kfl_X7_7 rfl inG7 (by decide) rfl (IsModel.k hf1) (rf_of (IsModel.r0 hf1 (I a0 0))) dX7_putAside_15 ?_
      refine lv_iload_n hx hb dX7_putAside_18 rfl (hv_at hl 1 rfl) ?_
      obtain ⟨hi2, h⟩ := h
      refine w_iald C hR (IsModel.a0 hf1) hi2 (j := (ix y1_2)) rfl dX7_putAside_19 ?_
      obtain ⟨hi3, h⟩ := h
      obtain ⟨I4, hI4⟩ := ex_eq (upI I (a0 + 2) (ix y1_2) (I (a0 + 1) (ix y1_2)))
      replace h := h I4 hI4
      refine w_iast C hR hS (IsModel.a1 hf1) hi3 (j := (ix y1_2)) rfl hI4 dX7_putAside_20 (fun H locs hR hS => ?_)
      refine v_iinc (v := y1_2 + (1:Int32)) (k := 1) (lv' := [(1, .int (y1_2 + (1:Int32))), (0, .ref a0)]) hx hb dX7_putAside_21 hl rfl rfl (by decide) rfl (fun ls hl => ?_)
      refine lv_goto (tgt := 2) hx hb dX7_putAside_24 (by decide) ?_
      exact (hX2 (y1_2 + (1:Int32)) I4).mp h _ _ _ hR hS (hv_sub hl [1, 0] rfl)
  unfold w_X7_putAside at h
  refine lv_iconst (v := (0:Int32)) hx hb dX7_putAside_0 rfl ?_
  refine v_istore_n (lv' := [(1, .int (0:Int32)), (0, .ref a0)]) hx hb dX7_putAside_1 rfl hl (by decide) rfl (fun ls hl => ?_)
  exact hJ2 (0:Int32) I _ _ _ h hR hS (hv_sub hl [1, 0] rfl)
set_option maxHeartbeats 4000000 in
set_option maxRecDepth 100000 in
theorem L_X7_putBack (E : Ev) (l : Launch) {K : MK} {R : MR} {n : Nat} (a0 : Nat) (I : MI) (Q : MI → Prop) (h : w_X7_putBack K R a0 I Q) : MM E l yX7_putBack cX7_putBack 2 none 0 0 0 0 [.ref a0] K R I n (Qv K R n Q) := by
  refine MM.of1 (by decide) RX7 rfl (cR cN) (Nat.le_of_ble_eq_true rfl) ?_
  intro p e s m args below meth c ls C hin hR hS hl
  have hx := C.1
  have hb := C.2.1
  have hml := C.2.2.1
  have hown := C.2.2.2.1
  have hts := C.2.2.2.2.1
  have hl : hv ls 2 [(0, .ref a0)] := hl
  clear hin
  have hJ2 : ∀ (y1_2 : Int32) (I : MI) (H : Heap) (locs : List Loc) (ls : Array Slot), w_X7_putBack_b2 K R a0 Q y1_2 I → Rep E K R I n H → va_S (AA E) s.heap H locs → hv ls 2 [(0, .ref a0), (1, .int y1_2)] → W p l e (rmM 0 0 0 0) s m args below meth c H locs 0 0 (MQ below (QcM E (Qv K R n Q)) args s 0 0 (AA E)) (F0 m 2 ls []) := by
    intro y1_2 I H locs ls h hR hS hl
    obtain ⟨X2, hX2⟩ : ∃ X : Int32 → MI → Prop, ∀ (y1_2 : Int32) (I : MI), X y1_2 I ↔ (∀ (H : Heap) (locs : List Loc) (ls : Array Slot), Rep E K R I n H → va_S (AA E) s.heap H locs → hv ls 2 [(0, .ref a0), (1, .int y1_2)] → W p l e (rmM 0 0 0 0) s m args below meth c H locs 0 0 (MQ below (QcM E (Qv K R n Q)) args s 0 0 (AA E)) (F0 m 2 ls [])) := ⟨fun y1_2 I => ∀ (H : Heap) (locs : List Loc) (ls : Array Slot), Rep E K R I n H → va_S (AA E) s.heap H locs → hv ls 2 [(0, .ref a0), (1, .int y1_2)] → W p l e (rmM 0 0 0 0) s m args below meth c H locs 0 0 (MQ below (QcM E (Qv K R n Q)) args s 0 0 (AA E)) (F0 m 2 ls []), fun _ _ => Iff.rfl⟩
    refine (hX2 y1_2 I).mp (h X2 ?_) H locs ls hR hS hl
    clear h hR hS hl
    clear ls locs H I y1_2
    intro y1_2 I h
    refine (hX2 y1_2 I).mpr ?_
    intro H locs ls hR hS hl
    unfold w_X7_putBack_b2_body at h
    refine lv_iload_n hx hb dX7_putBack_2 rfl (hv_at hl 1 rfl) ?_
    refine lv_sipush (v := (2361:Int32)) hx hb dX7_putBack_3 (by decide) ?_
    refine lv_icmp_ge (tgt := 27) hx hb dX7_putBack_6 (by decide) (fun c5 => ?_) (fun c5 => ?_)
    · replace h := h.1 c5
      exact w_vret C rfl hR hS h dX7_putBack_27
    · replace h := h.2 c5
      refine lv_aload_n hx hb dX7_putBack_9 rfl (hv_at hl 0 rfl) ?_
      obtain ⟨hf1, h⟩ := h
      refine v_get (T := TX7) (v := .ref (a0 + 1)) C hR 0 kfl_X7_7 rfl inG7 (by decide) rfl (IsModel.k hf1) (rf_of (IsModel.r0 hf1 (I a0 0))) dX7_putBack_10 ?_
      refine lv_iload_n hx hb dX7_putBack_13 rfl (hv_at hl 1 rfl) ?_
      refine lv_aload_n hx hb dX7_putBack_14 rfl (hv_at hl 0 rfl) ?_
      refine v_get (T := TX7) (v := .ref (a0 + 2)) C hR 1 kfl_X7_13 rfl inG7 (by decide) rfl (IsModel.k hf1) (rf_of (IsModel.r1 hf1 (I a0 1))) dX7_putBack_15 ?_
      refine lv_iload_n hx hb dX7_putBack_18 rfl (hv_at hl 1 rfl) ?_
      obtain ⟨hi2, h⟩ := h
      refine w_iald C hR (IsModel.a1 hf1) hi2 (j := (ix y1_2)) rfl dX7_putBack_19 ?_
      obtain ⟨hi3, h⟩ := h
      obtain ⟨I4, hI4⟩ := ex_eq (upI I (a0 + 1) (ix y1_2) (I (a0 + 2) (ix y1_2)))
      replace h := h I4 hI4
      refine w_iast C hR hS (IsModel.a0 hf1) hi3 (j := (ix y1_2)) rfl hI4 dX7_putBack_20 (fun H locs hR hS => ?_)
      refine v_iinc (v := y1_2 + (1:Int32)) (k := 1) (lv' := [(1, .int (y1_2 + (1:Int32))), (0, .ref a0)]) hx hb dX7_putBack_21 hl rfl rfl (by decide) rfl (fun ls hl => ?_)
      refine lv_goto (tgt := 2) hx hb dX7_putBack_24 (by decide) ?_
      exact (hX2 (y1_2 + (1:Int32)) I4).mp h _ _ _ hR hS (hv_sub hl [1, 0] rfl)
  unfold w_X7_putBack at h
  refine lv_iconst (v := (0:Int32)) hx hb dX7_putBack_0 rfl ?_
  refine v_istore_n (lv' := [(1, .int (0:Int32)), (0, .ref a0)]) hx hb dX7_putBack_1 rfl hl (by decide) rfl (fun ls hl => ?_)
  exact hJ2 (0:Int32) I _ _ _ h hR hS (hv_sub hl [1, 0] rfl)
set_option maxHeartbeats 4000000 in
set_option maxRecDepth 100000 in
theorem L_X7_next (E : Ev) (l : Launch) {K : MK} {R : MR} {n : Nat} (a0 : Nat) (x1 : Int32) (I : MI) (Q : Int32 → MI → Prop) (h : w_X7_next K R a0 x1 I Q) : MM E l yX7_next cX7_next 3 (some Jvm.ClassFile.FieldType.int) 5 115 0 0 [.ref a0, .int x1] K R I n (Qi K R n Q) := by
  refine MM.of1 (by decide) RX7 rfl (cR (cI cN)) (Nat.le_of_ble_eq_true rfl) ?_
  intro p e s m args below meth c ls C hin hR hS hl
  have hx := C.1
  have hb := C.2.1
  have hml := C.2.2.1
  have hown := C.2.2.2.1
  have hts := C.2.2.2.2.1
  have hl : hv ls 3 [(0, .ref a0), (1, .int x1)] := hl
  clear hin
  have hJ37 : ∀ (z0_37 : Int32) (I : MI) (H : Heap) (locs : List Loc) (ls : Array Slot), w_X7_next_b37 K R a0 x1 Q z0_37 I → Rep E K R I n H → va_S (AA E) s.heap H locs → hv ls 3 [] → W p l e (rmM 5 115 0 0) s m args below meth c H locs 0 0 (MQ below (QcM E (Qi K R n Q)) args s 0 0 (AA E)) (F0 m 37 ls [.int z0_37]) := by
    intro z0_37 I H locs ls h hR hS hl
    unfold w_X7_next_b37 at h
    exact w_ireti C rfl rfl hR hS h dX7_next_37
  unfold w_X7_next at h
  refine lv_iload_n hx hb dX7_next_0 rfl (hv_at hl 1 rfl) ?_
  refine lv_iconst (v := (0:Int32)) hx hb dX7_next_1 rfl ?_
  refine lv_iconst (v := (1:Int32)) hx hb dX7_next_2 rfl ?_
  refine v_cSi (As := [.int x1, .int (0:Int32), .int (1:Int32)]) C hR hS hl.1.1 ca_X7_in kml_X7_38 (L_X7_in E l x1 (0:Int32) (1:Int32) I _ h) rfl rfl (Nat.le_of_ble_eq_true rfl) ⟨Nat.le_of_ble_eq_true rfl, Nat.le_of_ble_eq_true rfl⟩ ⟨Nat.zero_le _, Nat.zero_le _⟩ dX7_next_3 (fun v2 I1 H locs h hR hS => ?_)
  refine lv_if_ne (tgt := 12) hx hb dX7_next_6 (by decide) (fun c9 => ?_) (fun c9 => ?_)
  · replace h := h.1 c9
    refine lv_aload_n hx hb dX7_next_12 rfl (hv_at hl 0 rfl) ?_
    obtain ⟨hf3, h⟩ := h
    refine v_cVv (As := []) C hR hS hl.1.1 ca_X7_putAside kml_X7_140 (L_X7_putAside E l a0 I1 _ h) (IsModel.k hf3) rfl rfl rfl rfl (Nat.le_of_ble_eq_true rfl) ⟨Nat.le_of_ble_eq_true rfl, Nat.le_of_ble_eq_true rfl⟩ ⟨Nat.zero_le _, Nat.zero_le _⟩ dX7_next_13 (fun I4 H locs h hR hS => ?_)
    refine lv_aload_n hx hb dX7_next_16 rfl (hv_at hl 0 rfl) ?_
    refine v_cVi (As := []) C hR hS hl.1.1 ca_X7_tick kml_X7_124 (L_X7_tick E l a0 I4 _ h) (IsModel.k hf3) rfl rfl rfl rfl (Nat.le_of_ble_eq_true rfl) ⟨Nat.le_of_ble_eq_true rfl, Nat.le_of_ble_eq_true rfl⟩ ⟨Nat.zero_le _, Nat.zero_le _⟩ dX7_next_17 (fun v6 I5 H locs h hR hS => ?_)
    refine v_istore_n (lv' := [(2, .int v6), (0, .ref a0), (1, .int x1)]) hx hb dX7_next_20 rfl hl (by decide) rfl (fun ls hl => ?_)
    refine lv_aload_n hx hb dX7_next_21 rfl (hv_at hl 1 rfl) ?_
    refine v_cVv (As := []) C hR hS hl.1.1 ca_X7_putBack kml_X7_143 (L_X7_putBack E l a0 I5 _ h) (IsModel.k hf3) rfl rfl rfl rfl (Nat.le_of_ble_eq_true rfl) ⟨Nat.le_of_ble_eq_true rfl, Nat.le_of_ble_eq_true rfl⟩ ⟨Nat.zero_le _, Nat.zero_le _⟩ dX7_next_22 (fun I7 H locs h hR hS => ?_)
    refine lv_iload_n hx hb dX7_next_25 rfl (hv_at hl 2 rfl) ?_
    refine lv_if_ne (tgt := 36) hx hb dX7_next_26 (by decide) (fun c8 => ?_) (fun c8 => ?_)
    · replace h := h.1 c8
      refine lv_iload_n hx hb dX7_next_36 rfl (hv_at hl 0 rfl) ?_
      exact hJ37 v6 I7 _ _ _ h hR hS (hv_sub hl [] rfl)
    · replace h := h.2 c8
      refine lv_aload_n hx hb dX7_next_29 rfl (hv_at hl 1 rfl) ?_
      refine v_get (T := TX7) (v := .int (I7 a0 12)) C hR 12 kfl_X7_106 rfl inG7 (by decide) rfl (IsModel.k hf3) rfl dX7_next_30 ?_
      refine lv_goto (tgt := 37) hx hb dX7_next_33 (by decide) ?_
      exact hJ37 (I7 a0 12) I7 _ _ _ h hR hS (hv_sub hl [] rfl)
  · replace h := h.2 c9
    refine lv_bipush (v := (-2:Int32)) hx hb dX7_next_9 (by decide) ?_
    exact w_ireti C rfl rfl hR hS h dX7_next_11
set_option maxHeartbeats 4000000 in
set_option maxRecDepth 100000 in
theorem L_X7_answeredIn (E : Ev) (l : Launch) {K : MK} {R : MR} {n : Nat} (a0 : Nat) (x1 : Int32) (I : MI) (Q : Int32 → MI → Prop) (h : w_X7_answeredIn K R a0 x1 I Q) : MM E l yX7_answeredIn cX7_answeredIn 4 (some Jvm.ClassFile.FieldType.int) 5 115 0 0 [.ref a0, .int x1] K R I n (Qi K R n Q) := by
  refine MM.of1 (by decide) RX7 rfl (cR (cI cN)) (Nat.le_of_ble_eq_true rfl) ?_
  intro p e s m args below meth c ls C hin hR hS hl
  have hx := C.1
  have hb := C.2.1
  have hml := C.2.2.1
  have hown := C.2.2.2.1
  have hts := C.2.2.2.2.1
  have hl : hv ls 4 [(0, .ref a0), (1, .int x1)] := hl
  clear hin
  have hJ99 : ∀ (z0_99 : Int32) (I : MI) (H : Heap) (locs : List Loc) (ls : Array Slot), w_X7_answeredIn_b99 K R a0 x1 Q z0_99 I → Rep E K R I n H → va_S (AA E) s.heap H locs → hv ls 4 [] → W p l e (rmM 5 115 0 0) s m args below meth c H locs 0 0 (MQ below (QcM E (Qi K R n Q)) args s 0 0 (AA E)) (F0 m 99 ls [.int z0_99]) := by
    intro z0_99 I H locs ls h hR hS hl
    unfold w_X7_answeredIn_b99 at h
    exact w_ireti C rfl rfl hR hS h dX7_answeredIn_99
  have hJ84 : ∀ (y2_84 : Int32) (z0_84 : Int32) (I : MI) (H : Heap) (locs : List Loc) (ls : Array Slot), w_X7_answeredIn_b84 K R a0 x1 Q y2_84 z0_84 I → Rep E K R I n H → va_S (AA E) s.heap H locs → hv ls 4 [(0, .ref a0), (2, .int y2_84)] → W p l e (rmM 5 115 0 0) s m args below meth c H locs 0 0 (MQ below (QcM E (Qi K R n Q)) args s 0 0 (AA E)) (F0 m 84 ls [.int z0_84]) := by
    intro y2_84 z0_84 I H locs ls h hR hS hl
    unfold w_X7_answeredIn_b84 at h
    refine v_istore_n (lv' := [(3, .int z0_84), (0, .ref a0), (2, .int y2_84)]) hx hb dX7_answeredIn_84 rfl hl (by decide) rfl (fun ls hl => ?_)
    refine lv_aload_n hx hb dX7_answeredIn_85 rfl (hv_at hl 1 rfl) ?_
    obtain ⟨hf1, h⟩ := h
    refine v_cVv (As := []) C hR hS hl.1.1 ca_X7_putBack kml_X7_143 (L_X7_putBack E l a0 I _ h) (IsModel.k hf1) rfl rfl rfl rfl (Nat.le_of_ble_eq_true rfl) ⟨Nat.le_of_ble_eq_true rfl, Nat.le_of_ble_eq_true rfl⟩ ⟨Nat.zero_le _, Nat.zero_le _⟩ dX7_answeredIn_86 (fun I2 H locs h hR hS => ?_)
    refine lv_iload_n hx hb dX7_answeredIn_89 rfl (hv_at hl 0 rfl) ?_
    refine lv_if_eq (tgt := 97) hx hb dX7_answeredIn_90 (by decide) (fun c3 => ?_) (fun c3 => ?_)
    · replace h := h.1 c3
      refine lv_bipush (v := (-5:Int32)) hx hb dX7_answeredIn_97 (by decide) ?_
      exact hJ99 (-5:Int32) I2 _ _ _ h hR hS (hv_sub hl [] rfl)
    · replace h := h.2 c3
      refine lv_iload_n hx hb dX7_answeredIn_93 rfl (hv_at hl 2 rfl) ?_
      refine lv_goto (tgt := 99) hx hb dX7_answeredIn_94 (by decide) ?_
      exact hJ99 y2_84 I2 _ _ _ h hR hS (hv_sub hl [] rfl)
  have hJ65 : ∀ (y2_65 : Int32) (I : MI) (H : Heap) (locs : List Loc) (ls : Array Slot), w_X7_answeredIn_b65 K R a0 x1 Q y2_65 I → Rep E K R I n H → va_S (AA E) s.heap H locs → hv ls 4 [(0, .ref a0), (1, .int x1), (2, .int y2_65)] → W p l e (rmM 5 115 0 0) s m args below meth c H locs 0 0 (MQ below (QcM E (Qi K R n Q)) args s 0 0 (AA E)) (F0 m 65 ls []) := by
    intro y2_65 I H locs ls h hR hS hl
    unfold w_X7_answeredIn_b65 at h
    refine lv_aload_n hx hb dX7_answeredIn_65 rfl (hv_at hl 0 rfl) ?_
    obtain ⟨hf4, h⟩ := h
    refine v_get (T := TX7) (v := .ref (a0 + 1)) C hR 0 kfl_X7_7 rfl inG7 (by decide) rfl (IsModel.k hf4) (rf_of (IsModel.r0 hf4 (I a0 0))) dX7_answeredIn_66 ?_
    refine lv_iload_n hx hb dX7_answeredIn_69 rfl (hv_at hl 1 rfl) ?_
    refine lv_iconst (v := (4:Int32)) hx hb dX7_answeredIn_70 rfl ?_
    refine v_cSi (As := [.int x1, .int (4:Int32)]) C hR hS hl.1.1 ca_X7_of kml_X7_59 (L_X7_of E l x1 (4:Int32) I _ h) rfl rfl (Nat.le_of_ble_eq_true rfl) ⟨Nat.le_of_ble_eq_true rfl, Nat.le_of_ble_eq_true rfl⟩ ⟨Nat.zero_le _, Nat.zero_le _⟩ dX7_answeredIn_71 (fun v6 I5 H locs h hR hS => ?_)
    obtain ⟨hi7, h⟩ := h
    refine w_iald C hR (IsModel.a0 hf4) hi7 (j := (ix v6)) rfl dX7_answeredIn_74 ?_
    refine lv_iconst (v := (3:Int32)) hx hb dX7_answeredIn_75 rfl ?_
    refine lv_icmp_ne (tgt := 83) hx hb dX7_answeredIn_76 (by decide) (fun c8 => ?_) (fun c8 => ?_)
    · replace h := h.1 c8
      refine lv_iconst (v := (0:Int32)) hx hb dX7_answeredIn_83 rfl ?_
      exact hJ84 y2_65 (0:Int32) I5 _ _ _ h hR hS (hv_sub hl [0, 2] rfl)
    · replace h := h.2 c8
      refine lv_iconst (v := (1:Int32)) hx hb dX7_answeredIn_79 rfl ?_
      refine lv_goto (tgt := 84) hx hb dX7_answeredIn_80 (by decide) ?_
      exact hJ84 y2_65 (1:Int32) I5 _ _ _ h hR hS (hv_sub hl [0, 2] rfl)
  have hJ33 : ∀ (y2_33 : Int32) (I : MI) (H : Heap) (locs : List Loc) (ls : Array Slot), w_X7_answeredIn_b33 K R a0 x1 Q y2_33 I → Rep E K R I n H → va_S (AA E) s.heap H locs → hv ls 4 [(0, .ref a0), (1, .int x1), (2, .int y2_33)] → W p l e (rmM 5 115 0 0) s m args below meth c H locs 0 0 (MQ below (QcM E (Qi K R n Q)) args s 0 0 (AA E)) (F0 m 33 ls []) := by
    intro y2_33 I H locs ls h hR hS hl
    obtain ⟨X33, hX33⟩ : ∃ X : Int32 → MI → Prop, ∀ (y2_33 : Int32) (I : MI), X y2_33 I ↔ (∀ (H : Heap) (locs : List Loc) (ls : Array Slot), Rep E K R I n H → va_S (AA E) s.heap H locs → hv ls 4 [(0, .ref a0), (1, .int x1), (2, .int y2_33)] → W p l e (rmM 5 115 0 0) s m args below meth c H locs 0 0 (MQ below (QcM E (Qi K R n Q)) args s 0 0 (AA E)) (F0 m 33 ls [])) := ⟨fun y2_33 I => ∀ (H : Heap) (locs : List Loc) (ls : Array Slot), Rep E K R I n H → va_S (AA E) s.heap H locs → hv ls 4 [(0, .ref a0), (1, .int x1), (2, .int y2_33)] → W p l e (rmM 5 115 0 0) s m args below meth c H locs 0 0 (MQ below (QcM E (Qi K R n Q)) args s 0 0 (AA E)) (F0 m 33 ls []), fun _ _ => Iff.rfl⟩
    refine (hX33 y2_33 I).mp (h X33 ?_) H locs ls hR hS hl
    clear h hR hS hl
    clear ls locs H I y2_33
    intro y2_33 I h
    refine (hX33 y2_33 I).mpr ?_
    intro H locs ls hR hS hl
    unfold w_X7_answeredIn_b33_body at h
    refine lv_iload_n hx hb dX7_answeredIn_33 rfl (hv_at hl 2 rfl) ?_
    refine lv_sipush (v := (999:Int32)) hx hb dX7_answeredIn_34 (by decide) ?_
    refine lv_icmp_ge (tgt := 65) hx hb dX7_answeredIn_37 (by decide) (fun c16 => ?_) (fun c16 => ?_)
    · replace h := h.1 c16
      exact hJ65 y2_33 I _ _ _ h hR hS (hv_sub hl [0, 1, 2] rfl)
    · replace h := h.2 c16
      refine lv_aload_n hx hb dX7_answeredIn_40 rfl (hv_at hl 0 rfl) ?_
      obtain ⟨hf9, h⟩ := h
      refine v_get (T := TX7) (v := .ref (a0 + 1)) C hR 0 kfl_X7_7 rfl inG7 (by decide) rfl (IsModel.k hf9) (rf_of (IsModel.r0 hf9 (I a0 0))) dX7_answeredIn_41 ?_
      refine lv_iload_n hx hb dX7_answeredIn_44 rfl (hv_at hl 1 rfl) ?_
      refine lv_iconst (v := (4:Int32)) hx hb dX7_answeredIn_45 rfl ?_
      refine v_cSi (As := [.int x1, .int (4:Int32)]) C hR hS hl.1.1 ca_X7_of kml_X7_59 (L_X7_of E l x1 (4:Int32) I _ h) rfl rfl (Nat.le_of_ble_eq_true rfl) ⟨Nat.le_of_ble_eq_true rfl, Nat.le_of_ble_eq_true rfl⟩ ⟨Nat.zero_le _, Nat.zero_le _⟩ dX7_answeredIn_46 (fun v11 I10 H locs h hR hS => ?_)
      obtain ⟨hi12, h⟩ := h
      refine w_iald C hR (IsModel.a0 hf9) hi12 (j := (ix v11)) rfl dX7_answeredIn_49 ?_
      refine lv_iconst (v := (3:Int32)) hx hb dX7_answeredIn_50 rfl ?_
      refine lv_icmp_eq (tgt := 65) hx hb dX7_answeredIn_51 (by decide) (fun c15 => ?_) (fun c15 => ?_)
      · replace h := h.1 c15
        exact hJ65 y2_33 I10 _ _ _ h hR hS (hv_sub hl [0, 1, 2] rfl)
      · replace h := h.2 c15
        refine lv_aload_n hx hb dX7_answeredIn_54 rfl (hv_at hl 0 rfl) ?_
        refine v_cVi (As := []) C hR hS hl.1.1 ca_X7_tick kml_X7_124 (L_X7_tick E l a0 I10 _ h) (IsModel.k hf9) rfl rfl rfl rfl (Nat.le_of_ble_eq_true rfl) ⟨Nat.le_of_ble_eq_true rfl, Nat.le_of_ble_eq_true rfl⟩ ⟨Nat.zero_le _, Nat.zero_le _⟩ dX7_answeredIn_55 (fun v14 I13 H locs h hR hS => ?_)
        refine v_istore_n (lv' := [(3, .int v14), (0, .ref a0), (1, .int x1), (2, .int y2_33)]) hx hb dX7_answeredIn_58 rfl hl (by decide) rfl (fun ls hl => ?_)
        refine v_iinc (v := y2_33 + (1:Int32)) (k := 3) (lv' := [(2, .int (y2_33 + (1:Int32))), (3, .int v14), (0, .ref a0), (1, .int x1)]) hx hb dX7_answeredIn_59 hl rfl rfl (by decide) rfl (fun ls hl => ?_)
        refine lv_goto (tgt := 33) hx hb dX7_answeredIn_62 (by decide) ?_
        exact (hX33 (y2_33 + (1:Int32)) I13).mp h _ _ _ hR hS (hv_sub hl [2, 3, 0] rfl)
  unfold w_X7_answeredIn at h
  refine lv_aload_n hx hb dX7_answeredIn_0 rfl (hv_at hl 0 rfl) ?_
  refine lv_iload_n hx hb dX7_answeredIn_1 rfl (hv_at hl 1 rfl) ?_
  obtain ⟨hf17, h⟩ := h
  refine v_cVi (As := [.int x1]) C hR hS hl.1.1 ca_X7_isQuestion kml_X7_130 (L_X7_isQuestion E l a0 x1 I _ h) (IsModel.k hf17) rfl rfl rfl rfl (Nat.le_of_ble_eq_true rfl) ⟨Nat.le_of_ble_eq_true rfl, Nat.le_of_ble_eq_true rfl⟩ ⟨Nat.zero_le _, Nat.zero_le _⟩ dX7_answeredIn_2 (fun v19 I18 H locs h hR hS => ?_)
  refine lv_if_ne (tgt := 10) hx hb dX7_answeredIn_5 (by decide) (fun c25 => ?_) (fun c25 => ?_)
  · replace h := h.1 c25
    refine lv_aload_n hx hb dX7_answeredIn_10 rfl (hv_at hl 0 rfl) ?_
    refine v_get (T := TX7) (v := .ref (a0 + 1)) C hR 0 kfl_X7_7 rfl inG7 (by decide) rfl (IsModel.k hf17) (rf_of (IsModel.r0 hf17 (I18 a0 0))) dX7_answeredIn_11 ?_
    refine lv_iload_n hx hb dX7_answeredIn_14 rfl (hv_at hl 1 rfl) ?_
    refine lv_iconst (v := (4:Int32)) hx hb dX7_answeredIn_15 rfl ?_
    refine v_cSi (As := [.int x1, .int (4:Int32)]) C hR hS hl.1.1 ca_X7_of kml_X7_59 (L_X7_of E l x1 (4:Int32) I18 _ h) rfl rfl (Nat.le_of_ble_eq_true rfl) ⟨Nat.le_of_ble_eq_true rfl, Nat.le_of_ble_eq_true rfl⟩ ⟨Nat.zero_le _, Nat.zero_le _⟩ dX7_answeredIn_16 (fun v21 I20 H locs h hR hS => ?_)
    obtain ⟨hi22, h⟩ := h
    refine w_iald C hR (IsModel.a0 hf17) hi22 (j := (ix v21)) rfl dX7_answeredIn_19 ?_
    refine lv_iconst (v := (2:Int32)) hx hb dX7_answeredIn_20 rfl ?_
    refine lv_icmp_le (tgt := 27) hx hb dX7_answeredIn_21 (by decide) (fun c24 => ?_) (fun c24 => ?_)
    · replace h := h.1 c24
      refine lv_aload_n hx hb dX7_answeredIn_27 rfl (hv_at hl 0 rfl) ?_
      refine v_cVv (As := []) C hR hS hl.1.1 ca_X7_putAside kml_X7_140 (L_X7_putAside E l a0 I20 _ h) (IsModel.k hf17) rfl rfl rfl rfl (Nat.le_of_ble_eq_true rfl) ⟨Nat.le_of_ble_eq_true rfl, Nat.le_of_ble_eq_true rfl⟩ ⟨Nat.zero_le _, Nat.zero_le _⟩ dX7_answeredIn_28 (fun I23 H locs h hR hS => ?_)
      refine lv_iconst (v := (0:Int32)) hx hb dX7_answeredIn_31 rfl ?_
      refine v_istore_n (lv' := [(2, .int (0:Int32)), (0, .ref a0), (1, .int x1)]) hx hb dX7_answeredIn_32 rfl hl (by decide) rfl (fun ls hl => ?_)
      exact hJ33 (0:Int32) I23 _ _ _ h hR hS (hv_sub hl [1, 2, 0] rfl)
    · replace h := h.2 c24
      refine lv_bipush (v := (-4:Int32)) hx hb dX7_answeredIn_24 (by decide) ?_
      exact w_ireti C rfl rfl hR hS h dX7_answeredIn_26
  · replace h := h.2 c25
    refine lv_iconst (v := (-1:Int32)) hx hb dX7_answeredIn_8 rfl ?_
    exact w_ireti C rfl rfl hR hS h dX7_answeredIn_9
set_option maxHeartbeats 4000000 in
set_option maxRecDepth 100000 in
theorem L_X7_freeTags (E : Ev) (l : Launch) {K : MK} {R : MR} {n : Nat} (a0 : Nat) (I : MI) (Q : Int32 → MI → Prop) (h : w_X7_freeTags K R a0 I Q) : MM E l yX7_freeTags cX7_freeTags 3 (some Jvm.ClassFile.FieldType.int) 0 0 0 0 [.ref a0] K R I n (Qi K R n Q) := by
  refine MM.of1 (by decide) RX7 rfl (cR cN) (Nat.le_of_ble_eq_true rfl) ?_
  intro p e s m args below meth c ls C hin hR hS hl
  have hx := C.1
  have hb := C.2.1
  have hml := C.2.2.1
  have hown := C.2.2.2.1
  have hts := C.2.2.2.2.1
  have hl : hv ls 3 [(0, .ref a0)] := hl
  clear hin
  have hJ4 : ∀ (y1_4 : Int32) (y2_4 : Int32) (I : MI) (H : Heap) (locs : List Loc) (ls : Array Slot), w_X7_freeTags_b4 K R a0 Q y1_4 y2_4 I → Rep E K R I n H → va_S (AA E) s.heap H locs → hv ls 3 [(0, .ref a0), (1, .int y1_4), (2, .int y2_4)] → W p l e (rmM 0 0 0 0) s m args below meth c H locs 0 0 (MQ below (QcM E (Qi K R n Q)) args s 0 0 (AA E)) (F0 m 4 ls []) := by
    intro y1_4 y2_4 I H locs ls h hR hS hl
    obtain ⟨X4, hX4⟩ : ∃ X : Int32 → Int32 → MI → Prop, ∀ (y1_4 : Int32) (y2_4 : Int32) (I : MI), X y1_4 y2_4 I ↔ (∀ (H : Heap) (locs : List Loc) (ls : Array Slot), Rep E K R I n H → va_S (AA E) s.heap H locs → hv ls 3 [(0, .ref a0), (1, .int y1_4), (2, .int y2_4)] → W p l e (rmM 0 0 0 0) s m args below meth c H locs 0 0 (MQ below (QcM E (Qi K R n Q)) args s 0 0 (AA E)) (F0 m 4 ls [])) := ⟨fun y1_4 y2_4 I => ∀ (H : Heap) (locs : List Loc) (ls : Array Slot), Rep E K R I n H → va_S (AA E) s.heap H locs → hv ls 3 [(0, .ref a0), (1, .int y1_4), (2, .int y2_4)] → W p l e (rmM 0 0 0 0) s m args below meth c H locs 0 0 (MQ below (QcM E (Qi K R n Q)) args s 0 0 (AA E)) (F0 m 4 ls []), fun _ _ _ => Iff.rfl⟩
    refine (hX4 y1_4 y2_4 I).mp (h X4 ?_) H locs ls hR hS hl
    clear h hR hS hl
    clear ls locs H I y1_4 y2_4
    have hJ34 : ∀ (y2_34 : Int32) (z0_34 : Int32) (z1_34 : Int32) (I : MI) (H : Heap) (locs : List Loc) (ls : Array Slot), w_X7_freeTags_b34 K R a0 Q X4 y2_34 z0_34 z1_34 I → Rep E K R I n H → va_S (AA E) s.heap H locs → hv ls 3 [(0, .ref a0), (2, .int y2_34)] → W p l e (rmM 0 0 0 0) s m args below meth c H locs 0 0 (MQ below (QcM E (Qi K R n Q)) args s 0 0 (AA E)) (F0 m 34 ls [.int z0_34, .int z1_34]) := by
      intro y2_34 z0_34 z1_34 I H locs ls h hR hS hl
      unfold w_X7_freeTags_b34 at h
      refine lv_iadd hx hb dX7_freeTags_34 ?_
      refine v_istore_n (lv' := [(1, .int (z1_34 + z0_34)), (0, .ref a0), (2, .int y2_34)]) hx hb dX7_freeTags_35 rfl hl (by decide) rfl (fun ls hl => ?_)
      refine v_iinc (v := y2_34 + (1:Int32)) (k := 2) (lv' := [(2, .int (y2_34 + (1:Int32))), (1, .int (z1_34 + z0_34)), (0, .ref a0)]) hx hb dX7_freeTags_36 hl rfl rfl (by decide) rfl (fun ls hl => ?_)
      refine lv_goto (tgt := 4) hx hb dX7_freeTags_39 (by decide) ?_
      exact (hX4 (z1_34 + z0_34) (y2_34 + (1:Int32)) I).mp h _ _ _ hR hS (hv_sub hl [2, 1, 0] rfl)
    intro y1_4 y2_4 I h
    refine (hX4 y1_4 y2_4 I).mpr ?_
    intro H locs ls hR hS hl
    unfold w_X7_freeTags_b4_body at h
    refine lv_iload_n hx hb dX7_freeTags_4 rfl (hv_at hl 2 rfl) ?_
    refine lv_aload_n hx hb dX7_freeTags_5 rfl (hv_at hl 0 rfl) ?_
    obtain ⟨hf1, h⟩ := h
    refine v_get (T := TX7) (v := .ref (a0 + 1)) C hR 0 kfl_X7_7 rfl inG7 (by decide) rfl (IsModel.k hf1) (rf_of (IsModel.r0 hf1 (I a0 0))) dX7_freeTags_6 ?_
    refine lv_iconst (v := (1:Int32)) hx hb dX7_freeTags_9 rfl ?_
    refine w_iald C hR (IsModel.a0 hf1) (show vp_in (1:Int32) 2361 by unfold vp_in; decide) (j := 1) (by decide) dX7_freeTags_10 ?_
    refine lv_icmp_ge (tgt := 42) hx hb dX7_freeTags_11 (by decide) (fun c4 => ?_) (fun c4 => ?_)
    · replace h := h.1 c4
      refine lv_iload_n hx hb dX7_freeTags_42 rfl (hv_at hl 1 rfl) ?_
      exact w_ireti C rfl rfl hR hS h dX7_freeTags_43
    · replace h := h.2 c4
      refine lv_iload_n hx hb dX7_freeTags_14 rfl (hv_at hl 1 rfl) ?_
      refine lv_aload_n hx hb dX7_freeTags_15 rfl (hv_at hl 0 rfl) ?_
      refine v_get (T := TX7) (v := .ref (a0 + 1)) C hR 0 kfl_X7_7 rfl inG7 (by decide) rfl (IsModel.k hf1) (rf_of (IsModel.r0 hf1 (I a0 0))) dX7_freeTags_16 ?_
      refine lv_bipush (v := (13:Int32)) hx hb dX7_freeTags_19 (by decide) ?_
      refine lv_iload_n hx hb dX7_freeTags_21 rfl (hv_at hl 2 rfl) ?_
      refine lv_iadd hx hb dX7_freeTags_22 ?_
      obtain ⟨hi2, h⟩ := h
      refine w_iald C hR (IsModel.a0 hf1) hi2 (j := (ix ((13:Int32) + y2_4))) rfl dX7_freeTags_23 ?_
      refine lv_bipush (v := (-5:Int32)) hx hb dX7_freeTags_24 (by decide) ?_
      refine lv_icmp_ne (tgt := 33) hx hb dX7_freeTags_26 (by decide) (fun c3 => ?_) (fun c3 => ?_)
      · replace h := h.1 c3
        refine lv_iconst (v := (0:Int32)) hx hb dX7_freeTags_33 rfl ?_
        exact hJ34 y2_4 (0:Int32) y1_4 I _ _ _ h hR hS (hv_sub hl [0, 2] rfl)
      · replace h := h.2 c3
        refine lv_iconst (v := (1:Int32)) hx hb dX7_freeTags_29 rfl ?_
        refine lv_goto (tgt := 34) hx hb dX7_freeTags_30 (by decide) ?_
        exact hJ34 y2_4 (1:Int32) y1_4 I _ _ _ h hR hS (hv_sub hl [0, 2] rfl)
  unfold w_X7_freeTags at h
  refine lv_iconst (v := (0:Int32)) hx hb dX7_freeTags_0 rfl ?_
  refine v_istore_n (lv' := [(1, .int (0:Int32)), (0, .ref a0)]) hx hb dX7_freeTags_1 rfl hl (by decide) rfl (fun ls hl => ?_)
  refine lv_iconst (v := (0:Int32)) hx hb dX7_freeTags_2 rfl ?_
  refine v_istore_n (lv' := [(2, .int (0:Int32)), (1, .int (0:Int32)), (0, .ref a0)]) hx hb dX7_freeTags_3 rfl hl (by decide) rfl (fun ls hl => ?_)
  exact hJ4 (0:Int32) (0:Int32) I _ _ _ h hR hS (hv_sub hl [2, 1, 0] rfl)
set_option maxHeartbeats 4000000 in
set_option maxRecDepth 100000 in
theorem L_X7_count (E : Ev) (l : Launch) {K : MK} {R : MR} {n : Nat} (a0 : Nat) (x1 : Int32) (I : MI) (Q : Int32 → MI → Prop) (h : w_X7_count K R a0 x1 I Q) : MM E l yX7_count cX7_count 2 (some Jvm.ClassFile.FieldType.int) 1 22 0 0 [.ref a0, .int x1] K R I n (Qi K R n Q) := by
  refine MM.of1 (by decide) RX7 rfl (cR (cI cN)) (Nat.le_of_ble_eq_true rfl) ?_
  intro p e s m args below meth c ls C hin hR hS hl
  have hx := C.1
  have hb := C.2.1
  have hml := C.2.2.1
  have hown := C.2.2.2.1
  have hts := C.2.2.2.2.1
  have hl : hv ls 2 [(0, .ref a0), (1, .int x1)] := hl
  clear hin
  have hJ68 : ∀ (I : MI) (H : Heap) (locs : List Loc) (ls : Array Slot), w_X7_count_b68 K R a0 x1 Q  I → Rep E K R I n H → va_S (AA E) s.heap H locs → hv ls 2 [(0, .ref a0), (1, .int x1)] → W p l e (rmM 1 22 0 0) s m args below meth c H locs 0 0 (MQ below (QcM E (Qi K R n Q)) args s 0 0 (AA E)) (F0 m 68 ls []) := by
    intro  I H locs ls h hR hS hl
    unfold w_X7_count_b68 at h
    refine lv_aload_n hx hb dX7_count_68 rfl (hv_at hl 0 rfl) ?_
    obtain ⟨hf1, h⟩ := h
    refine v_get (T := TX7) (v := .ref (a0 + 1)) C hR 0 kfl_X7_7 rfl inG7 (by decide) rfl (IsModel.k hf1) (rf_of (IsModel.r0 hf1 (I a0 0))) dX7_count_69 ?_
    refine lv_iload_n hx hb dX7_count_72 rfl (hv_at hl 1 rfl) ?_
    obtain ⟨hi2, h⟩ := h
    refine w_iald C hR (IsModel.a0 hf1) hi2 (j := (ix x1)) rfl dX7_count_73 ?_
    exact w_ireti C rfl rfl hR hS h dX7_count_74
  have hJ80 : ∀ (I : MI) (H : Heap) (locs : List Loc) (ls : Array Slot), w_X7_count_b80 K R a0 x1 Q  I → Rep E K R I n H → va_S (AA E) s.heap H locs → hv ls 2 [(0, .ref a0), (1, .int x1)] → W p l e (rmM 1 22 0 0) s m args below meth c H locs 0 0 (MQ below (QcM E (Qi K R n Q)) args s 0 0 (AA E)) (F0 m 80 ls []) := by
    intro  I H locs ls h hR hS hl
    unfold w_X7_count_b80 at h
    refine lv_aload_n hx hb dX7_count_80 rfl (hv_at hl 0 rfl) ?_
    obtain ⟨hf3, h⟩ := h
    refine v_get (T := TX7) (v := .ref (a0 + 1)) C hR 0 kfl_X7_7 rfl inG7 (by decide) rfl (IsModel.k hf3) (rf_of (IsModel.r0 hf3 (I a0 0))) dX7_count_81 ?_
    refine lv_bipush (v := (8:Int32)) hx hb dX7_count_84 (by decide) ?_
    refine lv_iload_n hx hb dX7_count_86 rfl (hv_at hl 1 rfl) ?_
    refine lv_iadd hx hb dX7_count_87 ?_
    refine lv_bipush (v := (6:Int32)) hx hb dX7_count_88 (by decide) ?_
    refine lv_isub hx hb dX7_count_90 ?_
    obtain ⟨hi4, h⟩ := h
    refine w_iald C hR (IsModel.a0 hf3) hi4 (j := (ix (((8:Int32) + x1) - (6:Int32)))) rfl dX7_count_91 ?_
    exact w_ireti C rfl rfl hR hS h dX7_count_92
  unfold w_X7_count at h
  refine lv_iload_n hx hb dX7_count_0 rfl (hv_at hl 1 rfl) ?_
  rcases sw_0_12 x1 with c5 | c5 | c5 | c5 | c5 | c5 | c5 | c5 | c5 | c5 | c5 | c5 | c5 | c5
  · replace h := h.1 c5
    refine v_tblIn (tgt := 68) hx hb (v := (0:Int32)) dX7_count_1 c5 (by decide) (by decide) rfl (by decide) ?_
    exact hJ68 I _ _ _ h hR hS (hv_sub hl [0, 1] rfl)
  · replace h := h.2.1 c5
    refine v_tblIn (tgt := 68) hx hb (v := (1:Int32)) dX7_count_1 c5 (by decide) (by decide) rfl (by decide) ?_
    exact hJ68 I _ _ _ h hR hS (hv_sub hl [0, 1] rfl)
  · replace h := h.2.2.1 c5
    refine v_tblIn (tgt := 68) hx hb (v := (2:Int32)) dX7_count_1 c5 (by decide) (by decide) rfl (by decide) ?_
    exact hJ68 I _ _ _ h hR hS (hv_sub hl [0, 1] rfl)
  · replace h := h.2.2.2.1 c5
    refine v_tblIn (tgt := 68) hx hb (v := (3:Int32)) dX7_count_1 c5 (by decide) (by decide) rfl (by decide) ?_
    exact hJ68 I _ _ _ h hR hS (hv_sub hl [0, 1] rfl)
  · replace h := h.2.2.2.2.1 c5
    refine v_tblIn (tgt := 68) hx hb (v := (4:Int32)) dX7_count_1 c5 (by decide) (by decide) rfl (by decide) ?_
    exact hJ68 I _ _ _ h hR hS (hv_sub hl [0, 1] rfl)
  · replace h := h.2.2.2.2.2.1 c5
    refine v_tblIn (tgt := 75) hx hb (v := (5:Int32)) dX7_count_1 c5 (by decide) (by decide) rfl (by decide) ?_
    refine lv_aload_n hx hb dX7_count_75 rfl (hv_at hl 0 rfl) ?_
    obtain ⟨hf6, h⟩ := h
    refine v_cVi (As := []) C hR hS hl.1.1 ca_X7_freeTags kml_X7_146 (L_X7_freeTags E l a0 I _ h) (IsModel.k hf6) rfl rfl rfl rfl (Nat.le_of_ble_eq_true rfl) ⟨Nat.le_of_ble_eq_true rfl, Nat.le_of_ble_eq_true rfl⟩ ⟨Nat.zero_le _, Nat.zero_le _⟩ dX7_count_76 (fun v8 I7 H locs h hR hS => ?_)
    exact w_ireti C rfl rfl hR hS h dX7_count_79
  · replace h := h.2.2.2.2.2.2.1 c5
    refine v_tblIn (tgt := 80) hx hb (v := (6:Int32)) dX7_count_1 c5 (by decide) (by decide) rfl (by decide) ?_
    exact hJ80 I _ _ _ h hR hS (hv_sub hl [0, 1] rfl)
  · replace h := h.2.2.2.2.2.2.2.1 c5
    refine v_tblIn (tgt := 80) hx hb (v := (7:Int32)) dX7_count_1 c5 (by decide) (by decide) rfl (by decide) ?_
    exact hJ80 I _ _ _ h hR hS (hv_sub hl [0, 1] rfl)
  · replace h := h.2.2.2.2.2.2.2.2.1 c5
    refine v_tblIn (tgt := 80) hx hb (v := (8:Int32)) dX7_count_1 c5 (by decide) (by decide) rfl (by decide) ?_
    exact hJ80 I _ _ _ h hR hS (hv_sub hl [0, 1] rfl)
  · replace h := h.2.2.2.2.2.2.2.2.2.1 c5
    refine v_tblIn (tgt := 80) hx hb (v := (9:Int32)) dX7_count_1 c5 (by decide) (by decide) rfl (by decide) ?_
    exact hJ80 I _ _ _ h hR hS (hv_sub hl [0, 1] rfl)
  · replace h := h.2.2.2.2.2.2.2.2.2.2.1 c5
    refine v_tblIn (tgt := 80) hx hb (v := (10:Int32)) dX7_count_1 c5 (by decide) (by decide) rfl (by decide) ?_
    exact hJ80 I _ _ _ h hR hS (hv_sub hl [0, 1] rfl)
  · replace h := h.2.2.2.2.2.2.2.2.2.2.2.1 c5
    refine v_tblIn (tgt := 93) hx hb (v := (11:Int32)) dX7_count_1 c5 (by decide) (by decide) rfl (by decide) ?_
    refine lv_aload_n hx hb dX7_count_93 rfl (hv_at hl 0 rfl) ?_
    obtain ⟨hf9, h⟩ := h
    refine v_get (T := TX7) (v := .int (I a0 3)) C hR 3 kfl_X7_42 rfl inG7 (by decide) rfl (IsModel.k hf9) rfl dX7_count_94 ?_
    exact w_ireti C rfl rfl hR hS h dX7_count_97
  · replace h := h.2.2.2.2.2.2.2.2.2.2.2.2.1 c5
    refine v_tblIn (tgt := 98) hx hb (v := (12:Int32)) dX7_count_1 c5 (by decide) (by decide) rfl (by decide) ?_
    refine lv_aload_n hx hb dX7_count_98 rfl (hv_at hl 0 rfl) ?_
    obtain ⟨hf10, h⟩ := h
    refine v_get (T := TX7) (v := .int (I a0 7)) C hR 7 kfl_X7_72 rfl inG7 (by decide) rfl (IsModel.k hf10) rfl dX7_count_99 ?_
    exact w_ireti C rfl rfl hR hS h dX7_count_102
  · replace h := h.2.2.2.2.2.2.2.2.2.2.2.2.2 c5
    refine lv_tableOut (tgt := 103) hx hb dX7_count_1 c5 (by decide) ?_
    refine lv_bipush (v := (-2:Int32)) hx hb dX7_count_103 (by decide) ?_
    exact w_ireti C rfl rfl hR hS h dX7_count_105
