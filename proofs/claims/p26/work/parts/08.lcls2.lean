set_option maxHeartbeats 4000000 in
set_option maxRecDepth 100000 in
theorem L_X0_targetThatAnswers (E : Ev) (l : Launch) {K : MK} {R : MR} {n : Nat} (a0 : Nat) (I : MI) (Q : Int32 → MI → Prop) (h : w_X0_targetThatAnswers K R a0 I Q) : MM E l yX0_targetThatAnswers cX0_targetThatAnswers 4 (some Jvm.ClassFile.FieldType.int) 3 69 0 0 [.ref a0] K R I n (Qi K R n Q) := by
  refine MM.of1 (by decide) RX0 rfl (cR cN) (Nat.le_of_ble_eq_true rfl) ?_
  intro p e s m args below meth c ls C hin hR hS hl
  have hx := C.1
  have hb := C.2.1
  have hml := C.2.2.1
  have hown := C.2.2.2.1
  have hts := C.2.2.2.2.1
  have hl : hv ls 4 [(0, .ref a0)] := hl
  clear hin
  have hJ2 : ∀ (y1_2 : Int32) (I : MI) (H : Heap) (locs : List Loc) (ls : Array Slot), w_X0_targetThatAnswers_b2 K R a0 Q y1_2 I → Rep E K R I n H → va_S (AA E) s.heap H locs → hv ls 4 [(0, .ref a0), (1, .int y1_2)] → W p l e (rmM 3 69 0 0) s m args below meth c H locs 0 0 (MQ below (QcM E (Qi K R n Q)) args s 0 0 (AA E)) (F0 m 2 ls []) := by
    intro y1_2 I H locs ls h hR hS hl
    obtain ⟨X2, hX2⟩ : ∃ X : Int32 → MI → Prop, ∀ (y1_2 : Int32) (I : MI), X y1_2 I ↔ (∀ (H : Heap) (locs : List Loc) (ls : Array Slot), Rep E K R I n H → va_S (AA E) s.heap H locs → hv ls 4 [(0, .ref a0), (1, .int y1_2)] → W p l e (rmM 3 69 0 0) s m args below meth c H locs 0 0 (MQ below (QcM E (Qi K R n Q)) args s 0 0 (AA E)) (F0 m 2 ls [])) := ⟨fun y1_2 I => ∀ (H : Heap) (locs : List Loc) (ls : Array Slot), Rep E K R I n H → va_S (AA E) s.heap H locs → hv ls 4 [(0, .ref a0), (1, .int y1_2)] → W p l e (rmM 3 69 0 0) s m args below meth c H locs 0 0 (MQ below (QcM E (Qi K R n Q)) args s 0 0 (AA E)) (F0 m 2 ls []), fun _ _ => Iff.rfl⟩
    refine (hX2 y1_2 I).mp (h X2 ?_) H locs ls hR hS hl
    clear h hR hS hl
    clear ls locs H I y1_2
    have hJ38 : ∀ (y1_38 : Int32) (I : MI) (H : Heap) (locs : List Loc) (ls : Array Slot), w_X0_targetThatAnswers_b38 K R a0 Q X2 y1_38 I → Rep E K R I n H → va_S (AA E) s.heap H locs → hv ls 4 [(0, .ref a0), (1, .int y1_38)] → W p l e (rmM 3 69 0 0) s m args below meth c H locs 0 0 (MQ below (QcM E (Qi K R n Q)) args s 0 0 (AA E)) (F0 m 38 ls []) := by
      intro y1_38 I H locs ls h hR hS hl
      unfold w_X0_targetThatAnswers_b38 at h
      refine v_iinc (v := y1_38 + (1:Int32)) (k := 1) (lv' := [(1, .int (y1_38 + (1:Int32))), (0, .ref a0)]) hx hb dX0_targetThatAnswers_38 hl rfl rfl (by decide) rfl (fun ls hl => ?_)
      refine lv_goto (tgt := 2) hx hb dX0_targetThatAnswers_41 (by decide) ?_
      exact (hX2 (y1_38 + (1:Int32)) I).mp h _ _ _ hR hS (hv_sub hl [1, 0] rfl)
    intro y1_2 I h
    refine (hX2 y1_2 I).mpr ?_
    intro H locs ls hR hS hl
    unfold w_X0_targetThatAnswers_b2_body at h
    refine lv_iload_n hx hb dX0_targetThatAnswers_2 rfl (hv_at hl 1 rfl) ?_
    refine lv_iconst (v := (4:Int32)) hx hb dX0_targetThatAnswers_3 rfl ?_
    refine lv_icmp_ge (tgt := 44) hx hb dX0_targetThatAnswers_4 (by decide) (fun c8 => ?_) (fun c8 => ?_)
    · replace h := h.1 c8
      refine lv_bipush (v := (-5:Int32)) hx hb dX0_targetThatAnswers_44 (by decide) ?_
      exact w_ireti C rfl rfl hR hS h dX0_targetThatAnswers_46
    · replace h := h.2 c8
      refine lv_aload_n hx hb dX0_targetThatAnswers_7 rfl (hv_at hl 0 rfl) ?_
      obtain ⟨hf1, h⟩ := h
      refine v_get (T := TX0) (v := .int (I a0 9)) C hR 9 kfl_X0_68 rfl inG0 (by decide) rfl (IsBus.k hf1) rfl dX0_targetThatAnswers_8 ?_
      refine lv_iload_n hx hb dX0_targetThatAnswers_11 rfl (hv_at hl 1 rfl) ?_
      refine lv_iadd hx hb dX0_targetThatAnswers_12 ?_
      refine lv_iconst (v := (4:Int32)) hx hb dX0_targetThatAnswers_13 rfl ?_
      refine lv_irem hx hb dX0_targetThatAnswers_14 (by decide) ?_
      refine v_istore_n (lv' := [(2, .int (((I a0 9) + y1_2) - ((I a0 9) + y1_2) / (4:Int32) * (4:Int32))), (0, .ref a0), (1, .int y1_2)]) hx hb dX0_targetThatAnswers_15 rfl hl (by decide) rfl (fun ls hl => ?_)
      refine lv_aload_n hx hb dX0_targetThatAnswers_16 rfl (hv_at hl 1 rfl) ?_
      refine lv_iload_n hx hb dX0_targetThatAnswers_17 rfl (hv_at hl 0 rfl) ?_
      refine v_cVo (As := [.int (((I a0 9) + y1_2) - ((I a0 9) + y1_2) / (4:Int32) * (4:Int32))]) C hR hS hl.1.1 ca_X0_targetAt kml_X0_176 (L_X0_targetAt E l a0 (((I a0 9) + y1_2) - ((I a0 9) + y1_2) / (4:Int32) * (4:Int32)) I _ h) (IsBus.k hf1) rfl rfl rfl rfl (Nat.le_of_ble_eq_true rfl) ⟨Nat.le_of_ble_eq_true rfl, Nat.le_of_ble_eq_true rfl⟩ ⟨Nat.zero_le _, Nat.zero_le _⟩ dX0_targetThatAnswers_18 (fun o3 I2 H locs h hR hS => ?_)
      refine v_astore_n (o := o3) (lv' := [(3, va_rf o3), (2, .int (((I a0 9) + y1_2) - ((I a0 9) + y1_2) / (4:Int32) * (4:Int32))), (0, .ref a0), (1, .int y1_2)]) hx hb dX0_targetThatAnswers_21 rfl hl (by decide) rfl (fun ls hl => ?_)
      refine v_aload_n hx hb dX0_targetThatAnswers_22 rfl (hv_at hl 0 rfl) ?_
      refine v_ifnull (tgt := 38) hx hb dX0_targetThatAnswers_23 (by decide) (fun e_o3 => ?_) (fun r4 e_o3 => ?_)
      · replace h := h.1 e_o3
        have hl : hv ls 4 [(3, .null), (2, .int (((I a0 9) + y1_2) - ((I a0 9) + y1_2) / (4:Int32) * (4:Int32))), (0, .ref a0), (1, .int y1_2)] := by (try rw [e_o3] at hl); exact hl
        try rw [e_o3]
        exact hJ38 y1_2 I2 _ _ _ h hR hS (hv_sub hl [2, 3] rfl)
      · replace h := h.2 r4 e_o3
        have hl : hv ls 4 [(3, .ref r4), (2, .int (((I a0 9) + y1_2) - ((I a0 9) + y1_2) / (4:Int32) * (4:Int32))), (0, .ref a0), (1, .int y1_2)] := by (try rw [e_o3] at hl); exact hl
        try rw [e_o3]
        refine lv_aload_n hx hb dX0_targetThatAnswers_26 rfl (hv_at hl 2 rfl) ?_
        refine lv_aload_n hx hb dX0_targetThatAnswers_27 rfl (hv_at hl 0 rfl) ?_
        refine v_cVi (As := [.ref r4]) C hR hS hl.1.1 ca_X0_placeOfAnswer kml_X0_180 (L_X0_placeOfAnswer E l a0 (some r4) I2 _ h) (IsBus.k hf1) rfl rfl rfl rfl (Nat.le_of_ble_eq_true rfl) ⟨Nat.le_of_ble_eq_true rfl, Nat.le_of_ble_eq_true rfl⟩ ⟨Nat.zero_le _, Nat.zero_le _⟩ dX0_targetThatAnswers_28 (fun v6 I5 H locs h hR hS => ?_)
        refine lv_bipush (v := (-5:Int32)) hx hb dX0_targetThatAnswers_31 (by decide) ?_
        refine lv_icmp_eq (tgt := 38) hx hb dX0_targetThatAnswers_33 (by decide) (fun c7 => ?_) (fun c7 => ?_)
        · replace h := h.1 c7
          exact hJ38 y1_2 I5 _ _ _ h hR hS (hv_sub hl [2, 3] rfl)
        · replace h := h.2 c7
          refine lv_iload_n hx hb dX0_targetThatAnswers_36 rfl (hv_at hl 1 rfl) ?_
          exact w_ireti C rfl rfl hR hS h dX0_targetThatAnswers_37
  unfold w_X0_targetThatAnswers at h
  refine lv_iconst (v := (0:Int32)) hx hb dX0_targetThatAnswers_0 rfl ?_
  refine v_istore_n (lv' := [(1, .int (0:Int32)), (0, .ref a0)]) hx hb dX0_targetThatAnswers_1 rfl hl (by decide) rfl (fun ls hl => ?_)
  exact hJ2 (0:Int32) I _ _ _ h hR hS (hv_sub hl [1, 0] rfl)
set_option maxHeartbeats 4000000 in
set_option maxRecDepth 100000 in
theorem L_X0_lowestFreeTag (E : Ev) (l : Launch) {K : MK} {R : MR} {n : Nat} (a0 : Nat) (I : MI) (Q : Int32 → MI → Prop) (h : w_X0_lowestFreeTag K R a0 I Q) : MM E l yX0_lowestFreeTag cX0_lowestFreeTag 2 (some Jvm.ClassFile.FieldType.int) 0 0 0 0 [.ref a0] K R I n (Qi K R n Q) := by
  refine MM.of1 (by decide) RX0 rfl (cR cN) (Nat.le_of_ble_eq_true rfl) ?_
  intro p e s m args below meth c ls C hin hR hS hl
  have hx := C.1
  have hb := C.2.1
  have hml := C.2.2.1
  have hown := C.2.2.2.1
  have hts := C.2.2.2.2.1
  have hl : hv ls 2 [(0, .ref a0)] := hl
  clear hin
  have hJ37 : ∀ (I : MI) (H : Heap) (locs : List Loc) (ls : Array Slot), w_X0_lowestFreeTag_b37 K R a0 Q  I → Rep E K R I n H → va_S (AA E) s.heap H locs → hv ls 2 [] → W p l e (rmM 0 0 0 0) s m args below meth c H locs 0 0 (MQ below (QcM E (Qi K R n Q)) args s 0 0 (AA E)) (F0 m 37 ls []) := by
    intro  I H locs ls h hR hS hl
    unfold w_X0_lowestFreeTag_b37 at h
    refine lv_bipush (v := (-5:Int32)) hx hb dX0_lowestFreeTag_37 (by decide) ?_
    exact w_ireti C rfl rfl hR hS h dX0_lowestFreeTag_39
  have hJ2 : ∀ (y1_2 : Int32) (I : MI) (H : Heap) (locs : List Loc) (ls : Array Slot), w_X0_lowestFreeTag_b2 K R a0 Q y1_2 I → Rep E K R I n H → va_S (AA E) s.heap H locs → hv ls 2 [(0, .ref a0), (1, .int y1_2)] → W p l e (rmM 0 0 0 0) s m args below meth c H locs 0 0 (MQ below (QcM E (Qi K R n Q)) args s 0 0 (AA E)) (F0 m 2 ls []) := by
    intro y1_2 I H locs ls h hR hS hl
    obtain ⟨X2, hX2⟩ : ∃ X : Int32 → MI → Prop, ∀ (y1_2 : Int32) (I : MI), X y1_2 I ↔ (∀ (H : Heap) (locs : List Loc) (ls : Array Slot), Rep E K R I n H → va_S (AA E) s.heap H locs → hv ls 2 [(0, .ref a0), (1, .int y1_2)] → W p l e (rmM 0 0 0 0) s m args below meth c H locs 0 0 (MQ below (QcM E (Qi K R n Q)) args s 0 0 (AA E)) (F0 m 2 ls [])) := ⟨fun y1_2 I => ∀ (H : Heap) (locs : List Loc) (ls : Array Slot), Rep E K R I n H → va_S (AA E) s.heap H locs → hv ls 2 [(0, .ref a0), (1, .int y1_2)] → W p l e (rmM 0 0 0 0) s m args below meth c H locs 0 0 (MQ below (QcM E (Qi K R n Q)) args s 0 0 (AA E)) (F0 m 2 ls []), fun _ _ => Iff.rfl⟩
    refine (hX2 y1_2 I).mp (h X2 ?_) H locs ls hR hS hl
    clear h hR hS hl
    clear ls locs H I y1_2
    intro y1_2 I h
    refine (hX2 y1_2 I).mpr ?_
    intro H locs ls hR hS hl
    unfold w_X0_lowestFreeTag_b2_body at h
    refine lv_iload_n hx hb dX0_lowestFreeTag_2 rfl (hv_at hl 1 rfl) ?_
    refine lv_aload_n hx hb dX0_lowestFreeTag_3 rfl (hv_at hl 0 rfl) ?_
    obtain ⟨hf1, h⟩ := h
    refine v_get (T := TX0) (v := .ref (a0 + 1)) C hR 0 kfl_X0_9 rfl inG0 (by decide) rfl (IsBus.k hf1) (rf_of (IsBus.r0 hf1 (I a0 0))) dX0_lowestFreeTag_4 ?_
    refine lv_iconst (v := (0:Int32)) hx hb dX0_lowestFreeTag_7 rfl ?_
    refine w_iald C hR (IsBus.a0 hf1) (show vp_in (0:Int32) 3 by unfold vp_in; decide) (j := 0) (by decide) dX0_lowestFreeTag_8 ?_
    refine lv_icmp_ge (tgt := 37) hx hb dX0_lowestFreeTag_9 (by decide) (fun c5 => ?_) (fun c5 => ?_)
    · replace h := h.1 c5
      exact hJ37 I _ _ _ h hR hS (hv_sub hl [] rfl)
    · replace h := h.2 c5
      refine lv_iload_n hx hb dX0_lowestFreeTag_12 rfl (hv_at hl 1 rfl) ?_
      refine lv_bipush (v := (8:Int32)) hx hb dX0_lowestFreeTag_13 (by decide) ?_
      refine lv_icmp_ge (tgt := 37) hx hb dX0_lowestFreeTag_15 (by decide) (fun c4 => ?_) (fun c4 => ?_)
      · replace h := h.1 c4
        exact hJ37 I _ _ _ h hR hS (hv_sub hl [] rfl)
      · replace h := h.2 c4
        refine lv_aload_n hx hb dX0_lowestFreeTag_18 rfl (hv_at hl 0 rfl) ?_
        refine v_get (T := TX0) (v := .ref (a0 + 2)) C hR 1 kfl_X0_15 rfl inG0 (by decide) rfl (IsBus.k hf1) (rf_of (IsBus.r1 hf1 (I a0 1))) dX0_lowestFreeTag_19 ?_
        refine lv_iload_n hx hb dX0_lowestFreeTag_22 rfl (hv_at hl 1 rfl) ?_
        obtain ⟨hi2, h⟩ := h
        refine w_iald C hR (IsBus.a1 hf1) hi2 (j := (ix y1_2)) rfl dX0_lowestFreeTag_23 ?_
        refine lv_bipush (v := (-5:Int32)) hx hb dX0_lowestFreeTag_24 (by decide) ?_
        refine lv_icmp_ne (tgt := 31) hx hb dX0_lowestFreeTag_26 (by decide) (fun c3 => ?_) (fun c3 => ?_)
        · replace h := h.1 c3
          refine v_iinc (v := y1_2 + (1:Int32)) (k := 1) (lv' := [(1, .int (y1_2 + (1:Int32))), (0, .ref a0)]) hx hb dX0_lowestFreeTag_31 hl rfl rfl (by decide) rfl (fun ls hl => ?_)
          refine lv_goto (tgt := 2) hx hb dX0_lowestFreeTag_34 (by decide) ?_
          exact (hX2 (y1_2 + (1:Int32)) I).mp h _ _ _ hR hS (hv_sub hl [1, 0] rfl)
        · replace h := h.2 c3
          refine lv_iload_n hx hb dX0_lowestFreeTag_29 rfl (hv_at hl 1 rfl) ?_
          exact w_ireti C rfl rfl hR hS h dX0_lowestFreeTag_30
  unfold w_X0_lowestFreeTag at h
  refine lv_iconst (v := (0:Int32)) hx hb dX0_lowestFreeTag_0 rfl ?_
  refine v_istore_n (lv' := [(1, .int (0:Int32)), (0, .ref a0)]) hx hb dX0_lowestFreeTag_1 rfl hl (by decide) rfl (fun ls hl => ?_)
  exact hJ2 (0:Int32) I _ _ _ h hR hS (hv_sub hl [1, 0] rfl)
set_option maxHeartbeats 4000000 in
set_option maxRecDepth 100000 in
theorem L_X0_maySend (E : Ev) (l : Launch) {K : MK} {R : MR} {n : Nat} (a0 : Nat) (o1 : Option Nat) (I : MI) (Q : Int32 → MI → Prop) (h : w_X0_maySend K R a0 o1 I Q) : MM E l yX0_maySend cX0_maySend 2 (some Jvm.ClassFile.FieldType.boolean) 0 0 0 0 [.ref a0, va_rf o1] K R I n (Qi K R n Q) := by
  refine MM.of1 (by decide) RX0 rfl (cR (cO cN)) (Nat.le_of_ble_eq_true rfl) ?_
  intro p e s m args below meth c ls C hin hR hS hl
  have hx := C.1
  have hb := C.2.1
  have hml := C.2.2.1
  have hown := C.2.2.2.1
  have hts := C.2.2.2.2.1
  have hl : hv ls 2 [(0, .ref a0), (1, va_rf o1)] := hl
  clear hin
  have hJ37 : ∀ (z0_37 : Int32) (I : MI) (H : Heap) (locs : List Loc) (ls : Array Slot), w_X0_maySend_b37 K R a0 o1 Q z0_37 I → Rep E K R I n H → va_S (AA E) s.heap H locs → hv ls 2 [] → W p l e (rmM 0 0 0 0) s m args below meth c H locs 0 0 (MQ below (QcM E (Qi K R n Q)) args s 0 0 (AA E)) (F0 m 37 ls [.int z0_37]) := by
    intro z0_37 I H locs ls h hR hS hl
    unfold w_X0_maySend_b37 at h
    obtain ⟨hb1, h⟩ := h
    exact w_ireti C rfl (bz_nar hb1) hR hS h dX0_maySend_37
  have hJ36 : ∀ (I : MI) (H : Heap) (locs : List Loc) (ls : Array Slot), w_X0_maySend_b36 K R a0 o1 Q  I → Rep E K R I n H → va_S (AA E) s.heap H locs → hv ls 2 [] → W p l e (rmM 0 0 0 0) s m args below meth c H locs 0 0 (MQ below (QcM E (Qi K R n Q)) args s 0 0 (AA E)) (F0 m 36 ls []) := by
    intro  I H locs ls h hR hS hl
    unfold w_X0_maySend_b36 at h
    refine lv_iconst (v := (0:Int32)) hx hb dX0_maySend_36 rfl ?_
    exact hJ37 (0:Int32) I _ _ _ h hR hS (hv_sub hl [] rfl)
  unfold w_X0_maySend at h
  refine v_aload_n hx hb dX0_maySend_0 rfl (hv_at hl 1 rfl) ?_
  obtain ⟨r2, e_o1, h⟩ := h
  have hl : hv ls 2 [(0, .ref a0), (1, .ref r2)] := by (try rw [e_o1] at hl); exact hl
  try rw [e_o1]
  obtain ⟨hf3, h⟩ := h
  refine v_get (T := TX2) (v := .ref (r2 + 1)) C hR 0 kfl_X0_98 rfl inG2 (by decide) rfl (IsMaster.k hf3) (rf_of (IsMaster.r0 hf3 (I r2 0))) dX0_maySend_1 ?_
  refine v_get (T := TX1) (v := .int (I (r2 + 1) 1)) C hR 1 kfl_X0_108 rfl inG1 (by decide) rfl (IsLine.k (IsMaster.o0 hf3)) rfl dX0_maySend_4 ?_
  refine lv_if_le (tgt := 36) hx hb dX0_maySend_7 (by decide) (fun c7 => ?_) (fun c7 => ?_)
  · replace h := h.1 c7
    exact hJ36 I _ _ _ h hR hS (hv_sub hl [] rfl)
  · replace h := h.2 c7
    refine lv_aload_n hx hb dX0_maySend_10 rfl (hv_at hl 0 rfl) ?_
    obtain ⟨hf4, h⟩ := h
    refine v_get (T := TX0) (v := .int (I a0 6)) C hR 6 kfl_X0_62 rfl inG0 (by decide) rfl (IsBus.k hf4) rfl dX0_maySend_11 ?_
    refine lv_aload_n hx hb dX0_maySend_14 rfl (hv_at hl 1 rfl) ?_
    refine v_get (T := TX2) (v := .int (I r2 4)) C hR 4 kfl_X0_205 rfl inG2 (by decide) rfl (IsMaster.k hf3) rfl dX0_maySend_15 ?_
    refine lv_icmp_lt (tgt := 36) hx hb dX0_maySend_18 (by decide) (fun c6 => ?_) (fun c6 => ?_)
    · replace h := h.1 c6
      exact hJ36 I _ _ _ h hR hS (hv_sub hl [] rfl)
    · replace h := h.2 c6
      refine lv_aload_n hx hb dX0_maySend_21 rfl (hv_at hl 1 rfl) ?_
      refine v_get (T := TX2) (v := .int (I r2 2)) C hR 2 kfl_X0_208 rfl inG2 (by decide) rfl (IsMaster.k hf3) rfl dX0_maySend_22 ?_
      refine lv_aload_n hx hb dX0_maySend_25 rfl (hv_at hl 1 rfl) ?_
      refine v_get (T := TX2) (v := .int (I r2 1)) C hR 1 kfl_X0_211 rfl inG2 (by decide) rfl (IsMaster.k hf3) rfl dX0_maySend_26 ?_
      refine lv_icmp_ge (tgt := 36) hx hb dX0_maySend_29 (by decide) (fun c5 => ?_) (fun c5 => ?_)
      · replace h := h.1 c5
        exact hJ36 I _ _ _ h hR hS (hv_sub hl [] rfl)
      · replace h := h.2 c5
        refine lv_iconst (v := (1:Int32)) hx hb dX0_maySend_32 rfl ?_
        refine lv_goto (tgt := 37) hx hb dX0_maySend_33 (by decide) ?_
        exact hJ37 (1:Int32) I _ _ _ h hR hS (hv_sub hl [] rfl)
set_option maxHeartbeats 4000000 in
set_option maxRecDepth 100000 in
theorem L_X0_isOutOfPatience (E : Ev) (l : Launch) {K : MK} {R : MR} {n : Nat} (a0 : Nat) (o1 : Option Nat) (I : MI) (Q : Int32 → MI → Prop) (h : w_X0_isOutOfPatience K R a0 o1 I Q) : MM E l yX0_isOutOfPatience cX0_isOutOfPatience 2 (some Jvm.ClassFile.FieldType.boolean) 0 0 0 0 [.ref a0, va_rf o1] K R I n (Qi K R n Q) := by
  refine MM.of1 (by decide) RX0 rfl (cR (cO cN)) (Nat.le_of_ble_eq_true rfl) ?_
  intro p e s m args below meth c ls C hin hR hS hl
  have hx := C.1
  have hb := C.2.1
  have hml := C.2.2.1
  have hown := C.2.2.2.1
  have hts := C.2.2.2.2.1
  have hl : hv ls 2 [(0, .ref a0), (1, va_rf o1)] := hl
  clear hin
  have hJ18 : ∀ (z0_18 : Int32) (I : MI) (H : Heap) (locs : List Loc) (ls : Array Slot), w_X0_isOutOfPatience_b18 K R a0 o1 Q z0_18 I → Rep E K R I n H → va_S (AA E) s.heap H locs → hv ls 2 [] → W p l e (rmM 0 0 0 0) s m args below meth c H locs 0 0 (MQ below (QcM E (Qi K R n Q)) args s 0 0 (AA E)) (F0 m 18 ls [.int z0_18]) := by
    intro z0_18 I H locs ls h hR hS hl
    unfold w_X0_isOutOfPatience_b18 at h
    obtain ⟨hb1, h⟩ := h
    exact w_ireti C rfl (bz_nar hb1) hR hS h dX0_isOutOfPatience_18
  unfold w_X0_isOutOfPatience at h
  refine v_aload_n hx hb dX0_isOutOfPatience_0 rfl (hv_at hl 1 rfl) ?_
  obtain ⟨r2, e_o1, h⟩ := h
  have hl : hv ls 2 [(0, .ref a0), (1, .ref r2)] := by (try rw [e_o1] at hl); exact hl
  try rw [e_o1]
  obtain ⟨hf3, h⟩ := h
  refine v_get (T := TX2) (v := .int (I r2 5)) C hR 5 kfl_X0_118 rfl inG2 (by decide) rfl (IsMaster.k hf3) rfl dX0_isOutOfPatience_1 ?_
  refine lv_aload_n hx hb dX0_isOutOfPatience_4 rfl (hv_at hl 0 rfl) ?_
  obtain ⟨hf4, h⟩ := h
  refine v_get (T := TX0) (v := .ref (a0 + 1)) C hR 0 kfl_X0_9 rfl inG0 (by decide) rfl (IsBus.k hf4) (rf_of (IsBus.r0 hf4 (I a0 0))) dX0_isOutOfPatience_5 ?_
  refine lv_iconst (v := (2:Int32)) hx hb dX0_isOutOfPatience_8 rfl ?_
  refine w_iald C hR (IsBus.a0 hf4) (show vp_in (2:Int32) 3 by unfold vp_in; decide) (j := 2) (by decide) dX0_isOutOfPatience_9 ?_
  refine lv_icmp_lt (tgt := 17) hx hb dX0_isOutOfPatience_10 (by decide) (fun c5 => ?_) (fun c5 => ?_)
  · replace h := h.1 c5
    refine lv_iconst (v := (0:Int32)) hx hb dX0_isOutOfPatience_17 rfl ?_
    exact hJ18 (0:Int32) I _ _ _ h hR hS (hv_sub hl [] rfl)
  · replace h := h.2 c5
    refine lv_iconst (v := (1:Int32)) hx hb dX0_isOutOfPatience_13 rfl ?_
    refine lv_goto (tgt := 18) hx hb dX0_isOutOfPatience_14 (by decide) ?_
    exact hJ18 (1:Int32) I _ _ _ h hR hS (hv_sub hl [] rfl)
set_option maxHeartbeats 4000000 in
set_option maxRecDepth 100000 in
theorem L_X0_masterThatWaitedTooLong (E : Ev) (l : Launch) {K : MK} {R : MR} {n : Nat} (a0 : Nat) (I : MI) (Q : Int32 → MI → Prop) (h : w_X0_masterThatWaitedTooLong K R a0 I Q) : MM E l yX0_masterThatWaitedTooLong cX0_masterThatWaitedTooLong 5 (some Jvm.ClassFile.FieldType.int) 2 42 0 0 [.ref a0] K R I n (Qi K R n Q) := by
  refine MM.of1 (by decide) RX0 rfl (cR cN) (Nat.le_of_ble_eq_true rfl) ?_
  intro p e s m args below meth c ls C hin hR hS hl
  have hx := C.1
  have hb := C.2.1
  have hml := C.2.2.1
  have hown := C.2.2.2.1
  have hts := C.2.2.2.2.1
  have hl : hv ls 5 [(0, .ref a0)] := hl
  clear hin
  have hJ7 : ∀ (y1_7 : Int32) (y2_7 : Int32) (y3_7 : Int32) (I : MI) (H : Heap) (locs : List Loc) (ls : Array Slot), w_X0_masterThatWaitedTooLong_b7 K R a0 Q y1_7 y2_7 y3_7 I → Rep E K R I n H → va_S (AA E) s.heap H locs → hv ls 5 [(0, .ref a0), (1, .int y1_7), (2, .int y2_7), (3, .int y3_7)] → W p l e (rmM 2 42 0 0) s m args below meth c H locs 0 0 (MQ below (QcM E (Qi K R n Q)) args s 0 0 (AA E)) (F0 m 7 ls []) := by
    intro y1_7 y2_7 y3_7 I H locs ls h hR hS hl
    obtain ⟨X7, hX7⟩ : ∃ X : Int32 → Int32 → Int32 → MI → Prop, ∀ (y1_7 : Int32) (y2_7 : Int32) (y3_7 : Int32) (I : MI), X y1_7 y2_7 y3_7 I ↔ (∀ (H : Heap) (locs : List Loc) (ls : Array Slot), Rep E K R I n H → va_S (AA E) s.heap H locs → hv ls 5 [(0, .ref a0), (1, .int y1_7), (2, .int y2_7), (3, .int y3_7)] → W p l e (rmM 2 42 0 0) s m args below meth c H locs 0 0 (MQ below (QcM E (Qi K R n Q)) args s 0 0 (AA E)) (F0 m 7 ls [])) := ⟨fun y1_7 y2_7 y3_7 I => ∀ (H : Heap) (locs : List Loc) (ls : Array Slot), Rep E K R I n H → va_S (AA E) s.heap H locs → hv ls 5 [(0, .ref a0), (1, .int y1_7), (2, .int y2_7), (3, .int y3_7)] → W p l e (rmM 2 42 0 0) s m args below meth c H locs 0 0 (MQ below (QcM E (Qi K R n Q)) args s 0 0 (AA E)) (F0 m 7 ls []), fun _ _ _ _ => Iff.rfl⟩
    refine (hX7 y1_7 y2_7 y3_7 I).mp (h X7 ?_) H locs ls hR hS hl
    clear h hR hS hl
    clear ls locs H I y1_7 y2_7 y3_7
    have hJ65 : ∀ (y1_65 : Int32) (y2_65 : Int32) (y3_65 : Int32) (I : MI) (H : Heap) (locs : List Loc) (ls : Array Slot), w_X0_masterThatWaitedTooLong_b65 K R a0 Q X7 y1_65 y2_65 y3_65 I → Rep E K R I n H → va_S (AA E) s.heap H locs → hv ls 5 [(0, .ref a0), (1, .int y1_65), (2, .int y2_65), (3, .int y3_65)] → W p l e (rmM 2 42 0 0) s m args below meth c H locs 0 0 (MQ below (QcM E (Qi K R n Q)) args s 0 0 (AA E)) (F0 m 65 ls []) := by
      intro y1_65 y2_65 y3_65 I H locs ls h hR hS hl
      unfold w_X0_masterThatWaitedTooLong_b65 at h
      refine v_iinc (v := y3_65 + (1:Int32)) (k := 3) (lv' := [(3, .int (y3_65 + (1:Int32))), (0, .ref a0), (1, .int y1_65), (2, .int y2_65)]) hx hb dX0_masterThatWaitedTooLong_65 hl rfl rfl (by decide) rfl (fun ls hl => ?_)
      refine lv_goto (tgt := 7) hx hb dX0_masterThatWaitedTooLong_68 (by decide) ?_
      exact (hX7 y1_65 y2_65 (y3_65 + (1:Int32)) I).mp h _ _ _ hR hS (hv_sub hl [1, 2, 3, 0] rfl)
    have hJ57 : ∀ (y3_57 : Int32) (y4_57 : Option Nat) (I : MI) (H : Heap) (locs : List Loc) (ls : Array Slot), w_X0_masterThatWaitedTooLong_b57 K R a0 Q X7 y3_57 y4_57 I → Rep E K R I n H → va_S (AA E) s.heap H locs → hv ls 5 [(0, .ref a0), (3, .int y3_57), (4, va_rf y4_57)] → W p l e (rmM 2 42 0 0) s m args below meth c H locs 0 0 (MQ below (QcM E (Qi K R n Q)) args s 0 0 (AA E)) (F0 m 57 ls []) := by
      intro y3_57 y4_57 I H locs ls h hR hS hl
      unfold w_X0_masterThatWaitedTooLong_b57 at h
      refine lv_iload_n hx hb dX0_masterThatWaitedTooLong_57 rfl (hv_at hl 1 rfl) ?_
      refine v_istore_n (lv' := [(1, .int y3_57), (0, .ref a0), (3, .int y3_57), (4, va_rf y4_57)]) hx hb dX0_masterThatWaitedTooLong_58 rfl hl (by decide) rfl (fun ls hl => ?_)
      refine v_aload hx hb dX0_masterThatWaitedTooLong_59 (hv_at hl 3 rfl) ?_
      obtain ⟨r1, e_y4_57, h⟩ := h
      have hl : hv ls 5 [(1, .int y3_57), (0, .ref a0), (3, .int y3_57), (4, .ref r1)] := by (try rw [e_y4_57] at hl); exact hl
      try rw [e_y4_57]
      obtain ⟨hf2, h⟩ := h
      refine v_get (T := TX2) (v := .int (I r1 5)) C hR 5 kfl_X0_118 rfl inG2 (by decide) rfl (IsMaster.k hf2) rfl dX0_masterThatWaitedTooLong_61 ?_
      refine v_istore_n (lv' := [(2, .int (I r1 5)), (1, .int y3_57), (0, .ref a0), (3, .int y3_57), (4, .ref r1)]) hx hb dX0_masterThatWaitedTooLong_64 rfl hl (by decide) rfl (fun ls hl => ?_)
      exact hJ65 y3_57 (I r1 5) y3_57 I _ _ _ h hR hS (hv_sub hl [2, 1, 0, 3] rfl)
    intro y1_7 y2_7 y3_7 I h
    refine (hX7 y1_7 y2_7 y3_7 I).mpr ?_
    intro H locs ls hR hS hl
    unfold w_X0_masterThatWaitedTooLong_b7_body at h
    refine lv_iload_n hx hb dX0_masterThatWaitedTooLong_7 rfl (hv_at hl 3 rfl) ?_
    refine lv_iconst (v := (4:Int32)) hx hb dX0_masterThatWaitedTooLong_8 rfl ?_
    refine lv_icmp_ge (tgt := 71) hx hb dX0_masterThatWaitedTooLong_9 (by decide) (fun c16 => ?_) (fun c16 => ?_)
    · replace h := h.1 c16
      refine lv_iload_n hx hb dX0_masterThatWaitedTooLong_71 rfl (hv_at hl 1 rfl) ?_
      exact w_ireti C rfl rfl hR hS h dX0_masterThatWaitedTooLong_72
    · replace h := h.2 c16
      refine lv_aload_n hx hb dX0_masterThatWaitedTooLong_12 rfl (hv_at hl 0 rfl) ?_
      refine lv_iload_n hx hb dX0_masterThatWaitedTooLong_13 rfl (hv_at hl 3 rfl) ?_
      obtain ⟨hf3, h⟩ := h
      refine v_cVo (As := [.int y3_7]) C hR hS hl.1.1 ca_X0_masterAt kml_X0_90 (L_X0_masterAt E l a0 y3_7 I _ h) (IsBus.k hf3) rfl rfl rfl rfl (Nat.le_of_ble_eq_true rfl) ⟨Nat.le_of_ble_eq_true rfl, Nat.le_of_ble_eq_true rfl⟩ ⟨Nat.zero_le _, Nat.zero_le _⟩ dX0_masterThatWaitedTooLong_14 (fun o5 I4 H locs h hR hS => ?_)
      refine v_astore (o := o5) (lv' := [(4, va_rf o5), (0, .ref a0), (1, .int y1_7), (2, .int y2_7), (3, .int y3_7)]) hx hb dX0_masterThatWaitedTooLong_17 hl (by decide) rfl (fun ls hl => ?_)
      refine v_aload hx hb dX0_masterThatWaitedTooLong_19 (hv_at hl 0 rfl) ?_
      refine v_ifnull (tgt := 65) hx hb dX0_masterThatWaitedTooLong_21 (by decide) (fun e_o5 => ?_) (fun r6 e_o5 => ?_)
      · replace h := h.1 e_o5
        have hl : hv ls 5 [(4, .null), (0, .ref a0), (1, .int y1_7), (2, .int y2_7), (3, .int y3_7)] := by (try rw [e_o5] at hl); exact hl
        try rw [e_o5]
        exact hJ65 y1_7 y2_7 y3_7 I4 _ _ _ h hR hS (hv_sub hl [1, 2, 3, 4] rfl)
      · replace h := h.2 r6 e_o5
        have hl : hv ls 5 [(4, .ref r6), (0, .ref a0), (1, .int y1_7), (2, .int y2_7), (3, .int y3_7)] := by (try rw [e_o5] at hl); exact hl
        try rw [e_o5]
        refine lv_aload_n hx hb dX0_masterThatWaitedTooLong_24 rfl (hv_at hl 1 rfl) ?_
        refine lv_aload hx hb dX0_masterThatWaitedTooLong_25 (hv_at hl 0 rfl) ?_
        refine v_cVi (As := [.ref r6]) C hR hS hl.1.1 ca_X0_maySend kml_X0_198 (L_X0_maySend E l a0 (some r6) I4 _ h) (IsBus.k hf3) rfl rfl rfl rfl (Nat.le_of_ble_eq_true rfl) ⟨Nat.le_of_ble_eq_true rfl, Nat.le_of_ble_eq_true rfl⟩ ⟨Nat.zero_le _, Nat.zero_le _⟩ dX0_masterThatWaitedTooLong_27 (fun v8 I7 H locs h hR hS => ?_)
        refine lv_if_eq (tgt := 65) hx hb dX0_masterThatWaitedTooLong_30 (by decide) (fun c15 => ?_) (fun c15 => ?_)
        · replace h := h.1 c15
          exact hJ65 y1_7 y2_7 y3_7 I7 _ _ _ h hR hS (hv_sub hl [1, 2, 3, 4] rfl)
        · replace h := h.2 c15
          refine lv_aload_n hx hb dX0_masterThatWaitedTooLong_33 rfl (hv_at hl 1 rfl) ?_
          refine lv_aload hx hb dX0_masterThatWaitedTooLong_34 (hv_at hl 0 rfl) ?_
          refine v_cVi (As := [.ref r6]) C hR hS hl.1.1 ca_X0_isOutOfPatience kml_X0_202 (L_X0_isOutOfPatience E l a0 (some r6) I7 _ h) (IsBus.k hf3) rfl rfl rfl rfl (Nat.le_of_ble_eq_true rfl) ⟨Nat.le_of_ble_eq_true rfl, Nat.le_of_ble_eq_true rfl⟩ ⟨Nat.zero_le _, Nat.zero_le _⟩ dX0_masterThatWaitedTooLong_36 (fun v10 I9 H locs h hR hS => ?_)
          refine lv_if_eq (tgt := 65) hx hb dX0_masterThatWaitedTooLong_39 (by decide) (fun c14 => ?_) (fun c14 => ?_)
          · replace h := h.1 c14
            exact hJ65 y1_7 y2_7 y3_7 I9 _ _ _ h hR hS (hv_sub hl [1, 2, 3, 4] rfl)
          · replace h := h.2 c14
            refine lv_iload_n hx hb dX0_masterThatWaitedTooLong_42 rfl (hv_at hl 2 rfl) ?_
            refine lv_bipush (v := (-5:Int32)) hx hb dX0_masterThatWaitedTooLong_43 (by decide) ?_
            refine lv_icmp_eq (tgt := 57) hx hb dX0_masterThatWaitedTooLong_45 (by decide) (fun c13 => ?_) (fun c13 => ?_)
            · replace h := h.1 c13
              exact hJ57 y3_7 (some r6) I9 _ _ _ h hR hS (hv_sub hl [1, 4, 0] rfl)
            · replace h := h.2 c13
              refine lv_aload hx hb dX0_masterThatWaitedTooLong_48 (hv_at hl 0 rfl) ?_
              obtain ⟨hf11, h⟩ := h
              refine v_get (T := TX2) (v := .int (I9 r6 5)) C hR 5 kfl_X0_118 rfl inG2 (by decide) rfl (IsMaster.k hf11) rfl dX0_masterThatWaitedTooLong_50 ?_
              refine lv_iload_n hx hb dX0_masterThatWaitedTooLong_53 rfl (hv_at hl 3 rfl) ?_
              refine lv_icmp_le (tgt := 65) hx hb dX0_masterThatWaitedTooLong_54 (by decide) (fun c12 => ?_) (fun c12 => ?_)
              · replace h := h.1 c12
                exact hJ65 y1_7 y2_7 y3_7 I9 _ _ _ h hR hS (hv_sub hl [1, 2, 3, 4] rfl)
              · replace h := h.2 c12
                exact hJ57 y3_7 (some r6) I9 _ _ _ h hR hS (hv_sub hl [1, 4, 0] rfl)
  unfold w_X0_masterThatWaitedTooLong at h
  refine lv_bipush (v := (-5:Int32)) hx hb dX0_masterThatWaitedTooLong_0 (by decide) ?_
  refine v_istore_n (lv' := [(1, .int (-5:Int32)), (0, .ref a0)]) hx hb dX0_masterThatWaitedTooLong_2 rfl hl (by decide) rfl (fun ls hl => ?_)
  refine lv_iconst (v := (0:Int32)) hx hb dX0_masterThatWaitedTooLong_3 rfl ?_
  refine v_istore_n (lv' := [(2, .int (0:Int32)), (1, .int (-5:Int32)), (0, .ref a0)]) hx hb dX0_masterThatWaitedTooLong_4 rfl hl (by decide) rfl (fun ls hl => ?_)
  refine lv_iconst (v := (0:Int32)) hx hb dX0_masterThatWaitedTooLong_5 rfl ?_
  refine v_istore_n (lv' := [(3, .int (0:Int32)), (2, .int (0:Int32)), (1, .int (-5:Int32)), (0, .ref a0)]) hx hb dX0_masterThatWaitedTooLong_6 rfl hl (by decide) rfl (fun ls hl => ?_)
  exact hJ7 (-5:Int32) (0:Int32) (0:Int32) I _ _ _ h hR hS (hv_sub hl [3, 2, 1, 0] rfl)
set_option maxHeartbeats 4000000 in
set_option maxRecDepth 100000 in
theorem L_X0_masterThatSends (E : Ev) (l : Launch) {K : MK} {R : MR} {n : Nat} (a0 : Nat) (I : MI) (Q : Int32 → MI → Prop) (h : w_X0_masterThatSends K R a0 I Q) : MM E l yX0_masterThatSends cX0_masterThatSends 5 (some Jvm.ClassFile.FieldType.int) 3 66 0 0 [.ref a0] K R I n (Qi K R n Q) := by
  refine MM.of1 (by decide) RX0 rfl (cR cN) (Nat.le_of_ble_eq_true rfl) ?_
  intro p e s m args below meth c ls C hin hR hS hl
  have hx := C.1
  have hb := C.2.1
  have hml := C.2.2.1
  have hown := C.2.2.2.1
  have hts := C.2.2.2.2.1
  have hl : hv ls 5 [(0, .ref a0)] := hl
  clear hin
  have hJ27 : ∀ (y2_27 : Int32) (I : MI) (H : Heap) (locs : List Loc) (ls : Array Slot), w_X0_masterThatSends_b27 K R a0 Q y2_27 I → Rep E K R I n H → va_S (AA E) s.heap H locs → hv ls 5 [(0, .ref a0), (2, .int y2_27)] → W p l e (rmM 3 66 0 0) s m args below meth c H locs 0 0 (MQ below (QcM E (Qi K R n Q)) args s 0 0 (AA E)) (F0 m 27 ls []) := by
    intro y2_27 I H locs ls h hR hS hl
    obtain ⟨X27, hX27⟩ : ∃ X : Int32 → MI → Prop, ∀ (y2_27 : Int32) (I : MI), X y2_27 I ↔ (∀ (H : Heap) (locs : List Loc) (ls : Array Slot), Rep E K R I n H → va_S (AA E) s.heap H locs → hv ls 5 [(0, .ref a0), (2, .int y2_27)] → W p l e (rmM 3 66 0 0) s m args below meth c H locs 0 0 (MQ below (QcM E (Qi K R n Q)) args s 0 0 (AA E)) (F0 m 27 ls [])) := ⟨fun y2_27 I => ∀ (H : Heap) (locs : List Loc) (ls : Array Slot), Rep E K R I n H → va_S (AA E) s.heap H locs → hv ls 5 [(0, .ref a0), (2, .int y2_27)] → W p l e (rmM 3 66 0 0) s m args below meth c H locs 0 0 (MQ below (QcM E (Qi K R n Q)) args s 0 0 (AA E)) (F0 m 27 ls []), fun _ _ => Iff.rfl⟩
    refine (hX27 y2_27 I).mp (h X27 ?_) H locs ls hR hS hl
    clear h hR hS hl
    clear ls locs H I y2_27
    have hJ64 : ∀ (y2_64 : Int32) (I : MI) (H : Heap) (locs : List Loc) (ls : Array Slot), w_X0_masterThatSends_b64 K R a0 Q X27 y2_64 I → Rep E K R I n H → va_S (AA E) s.heap H locs → hv ls 5 [(0, .ref a0), (2, .int y2_64)] → W p l e (rmM 3 66 0 0) s m args below meth c H locs 0 0 (MQ below (QcM E (Qi K R n Q)) args s 0 0 (AA E)) (F0 m 64 ls []) := by
      intro y2_64 I H locs ls h hR hS hl
      unfold w_X0_masterThatSends_b64 at h
      refine v_iinc (v := y2_64 + (1:Int32)) (k := 1) (lv' := [(2, .int (y2_64 + (1:Int32))), (0, .ref a0)]) hx hb dX0_masterThatSends_64 hl rfl rfl (by decide) rfl (fun ls hl => ?_)
      refine lv_goto (tgt := 27) hx hb dX0_masterThatSends_67 (by decide) ?_
      exact (hX27 (y2_64 + (1:Int32)) I).mp h _ _ _ hR hS (hv_sub hl [1, 0] rfl)
    intro y2_27 I h
    refine (hX27 y2_27 I).mpr ?_
    intro H locs ls hR hS hl
    unfold w_X0_masterThatSends_b27_body at h
    refine lv_iload_n hx hb dX0_masterThatSends_27 rfl (hv_at hl 1 rfl) ?_
    refine lv_iconst (v := (4:Int32)) hx hb dX0_masterThatSends_28 rfl ?_
    refine lv_icmp_ge (tgt := 70) hx hb dX0_masterThatSends_29 (by decide) (fun c8 => ?_) (fun c8 => ?_)
    · replace h := h.1 c8
      refine lv_bipush (v := (-5:Int32)) hx hb dX0_masterThatSends_70 (by decide) ?_
      exact w_ireti C rfl rfl hR hS h dX0_masterThatSends_72
    · replace h := h.2 c8
      refine lv_aload_n hx hb dX0_masterThatSends_32 rfl (hv_at hl 0 rfl) ?_
      obtain ⟨hf1, h⟩ := h
      refine v_get (T := TX0) (v := .int (I a0 8)) C hR 8 kfl_X0_65 rfl inG0 (by decide) rfl (IsBus.k hf1) rfl dX0_masterThatSends_33 ?_
      refine lv_iload_n hx hb dX0_masterThatSends_36 rfl (hv_at hl 1 rfl) ?_
      refine lv_iadd hx hb dX0_masterThatSends_37 ?_
      refine lv_iconst (v := (4:Int32)) hx hb dX0_masterThatSends_38 rfl ?_
      refine lv_irem hx hb dX0_masterThatSends_39 (by decide) ?_
      refine v_istore_n (lv' := [(3, .int (((I a0 8) + y2_27) - ((I a0 8) + y2_27) / (4:Int32) * (4:Int32))), (0, .ref a0), (2, .int y2_27)]) hx hb dX0_masterThatSends_40 rfl hl (by decide) rfl (fun ls hl => ?_)
      refine lv_aload_n hx hb dX0_masterThatSends_41 rfl (hv_at hl 1 rfl) ?_
      refine lv_iload_n hx hb dX0_masterThatSends_42 rfl (hv_at hl 0 rfl) ?_
      refine v_cVo (As := [.int (((I a0 8) + y2_27) - ((I a0 8) + y2_27) / (4:Int32) * (4:Int32))]) C hR hS hl.1.1 ca_X0_masterAt kml_X0_90 (L_X0_masterAt E l a0 (((I a0 8) + y2_27) - ((I a0 8) + y2_27) / (4:Int32) * (4:Int32)) I _ h) (IsBus.k hf1) rfl rfl rfl rfl (Nat.le_of_ble_eq_true rfl) ⟨Nat.le_of_ble_eq_true rfl, Nat.le_of_ble_eq_true rfl⟩ ⟨Nat.zero_le _, Nat.zero_le _⟩ dX0_masterThatSends_43 (fun o3 I2 H locs h hR hS => ?_)
      refine v_astore (o := o3) (lv' := [(4, va_rf o3), (3, .int (((I a0 8) + y2_27) - ((I a0 8) + y2_27) / (4:Int32) * (4:Int32))), (0, .ref a0), (2, .int y2_27)]) hx hb dX0_masterThatSends_46 hl (by decide) rfl (fun ls hl => ?_)
      refine v_aload hx hb dX0_masterThatSends_48 (hv_at hl 0 rfl) ?_
      refine v_ifnull (tgt := 64) hx hb dX0_masterThatSends_50 (by decide) (fun e_o3 => ?_) (fun r4 e_o3 => ?_)
      · replace h := h.1 e_o3
        have hl : hv ls 5 [(4, .null), (3, .int (((I a0 8) + y2_27) - ((I a0 8) + y2_27) / (4:Int32) * (4:Int32))), (0, .ref a0), (2, .int y2_27)] := by (try rw [e_o3] at hl); exact hl
        try rw [e_o3]
        exact hJ64 y2_27 I2 _ _ _ h hR hS (hv_sub hl [2, 3] rfl)
      · replace h := h.2 r4 e_o3
        have hl : hv ls 5 [(4, .ref r4), (3, .int (((I a0 8) + y2_27) - ((I a0 8) + y2_27) / (4:Int32) * (4:Int32))), (0, .ref a0), (2, .int y2_27)] := by (try rw [e_o3] at hl); exact hl
        try rw [e_o3]
        refine lv_aload_n hx hb dX0_masterThatSends_53 rfl (hv_at hl 2 rfl) ?_
        refine lv_aload hx hb dX0_masterThatSends_54 (hv_at hl 0 rfl) ?_
        refine v_cVi (As := [.ref r4]) C hR hS hl.1.1 ca_X0_maySend kml_X0_198 (L_X0_maySend E l a0 (some r4) I2 _ h) (IsBus.k hf1) rfl rfl rfl rfl (Nat.le_of_ble_eq_true rfl) ⟨Nat.le_of_ble_eq_true rfl, Nat.le_of_ble_eq_true rfl⟩ ⟨Nat.zero_le _, Nat.zero_le _⟩ dX0_masterThatSends_56 (fun v6 I5 H locs h hR hS => ?_)
        refine lv_if_eq (tgt := 64) hx hb dX0_masterThatSends_59 (by decide) (fun c7 => ?_) (fun c7 => ?_)
        · replace h := h.1 c7
          exact hJ64 y2_27 I5 _ _ _ h hR hS (hv_sub hl [2, 3] rfl)
        · replace h := h.2 c7
          refine lv_iload_n hx hb dX0_masterThatSends_62 rfl (hv_at hl 1 rfl) ?_
          exact w_ireti C rfl rfl hR hS h dX0_masterThatSends_63
  unfold w_X0_masterThatSends at h
  refine lv_aload_n hx hb dX0_masterThatSends_0 rfl (hv_at hl 0 rfl) ?_
  obtain ⟨hf9, h⟩ := h
  refine v_cVi (As := []) C hR hS hl.1.1 ca_X0_lowestFreeTag kml_X0_192 (L_X0_lowestFreeTag E l a0 I _ h) (IsBus.k hf9) rfl rfl rfl rfl (Nat.le_of_ble_eq_true rfl) ⟨Nat.le_of_ble_eq_true rfl, Nat.le_of_ble_eq_true rfl⟩ ⟨Nat.zero_le _, Nat.zero_le _⟩ dX0_masterThatSends_1 (fun v11 I10 H locs h hR hS => ?_)
  refine lv_bipush (v := (-5:Int32)) hx hb dX0_masterThatSends_4 (by decide) ?_
  refine lv_icmp_ne (tgt := 12) hx hb dX0_masterThatSends_6 (by decide) (fun c15 => ?_) (fun c15 => ?_)
  · replace h := h.1 c15
    refine lv_aload_n hx hb dX0_masterThatSends_12 rfl (hv_at hl 0 rfl) ?_
    refine v_cVi (As := []) C hR hS hl.1.1 ca_X0_masterThatWaitedTooLong kml_X0_195 (L_X0_masterThatWaitedTooLong E l a0 I10 _ h) (IsBus.k hf9) rfl rfl rfl rfl (Nat.le_of_ble_eq_true rfl) ⟨Nat.le_of_ble_eq_true rfl, Nat.le_of_ble_eq_true rfl⟩ ⟨Nat.zero_le _, Nat.zero_le _⟩ dX0_masterThatSends_13 (fun v13 I12 H locs h hR hS => ?_)
    refine v_istore_n (lv' := [(1, .int v13), (0, .ref a0)]) hx hb dX0_masterThatSends_16 rfl hl (by decide) rfl (fun ls hl => ?_)
    refine lv_iload_n hx hb dX0_masterThatSends_17 rfl (hv_at hl 0 rfl) ?_
    refine lv_bipush (v := (-5:Int32)) hx hb dX0_masterThatSends_18 (by decide) ?_
    refine lv_icmp_eq (tgt := 25) hx hb dX0_masterThatSends_20 (by decide) (fun c14 => ?_) (fun c14 => ?_)
    · replace h := h.1 c14
      refine lv_iconst (v := (0:Int32)) hx hb dX0_masterThatSends_25 rfl ?_
      refine v_istore_n (lv' := [(2, .int (0:Int32)), (1, .int v13), (0, .ref a0)]) hx hb dX0_masterThatSends_26 rfl hl (by decide) rfl (fun ls hl => ?_)
      exact hJ27 (0:Int32) I12 _ _ _ h hR hS (hv_sub hl [2, 0] rfl)
    · replace h := h.2 c14
      refine lv_iload_n hx hb dX0_masterThatSends_23 rfl (hv_at hl 0 rfl) ?_
      exact w_ireti C rfl rfl hR hS h dX0_masterThatSends_24
  · replace h := h.2 c15
    refine lv_bipush (v := (-5:Int32)) hx hb dX0_masterThatSends_9 (by decide) ?_
    exact w_ireti C rfl rfl hR hS h dX0_masterThatSends_11
set_option maxHeartbeats 4000000 in
set_option maxRecDepth 100000 in
theorem L_X0_prefersAnswer (E : Ev) (l : Launch) {K : MK} {R : MR} {n : Nat} (a0 : Nat) (I : MI) (Q : Int32 → MI → Prop) (h : w_X0_prefersAnswer K R a0 I Q) : MM E l yX0_prefersAnswer cX0_prefersAnswer 2 (some Jvm.ClassFile.FieldType.boolean) 0 0 0 0 [.ref a0] K R I n (Qi K R n Q) := by
  refine MM.of1 (by decide) RX0 rfl (cR cN) (Nat.le_of_ble_eq_true rfl) ?_
  intro p e s m args below meth c ls C hin hR hS hl
  have hx := C.1
  have hb := C.2.1
  have hml := C.2.2.1
  have hown := C.2.2.2.1
  have hts := C.2.2.2.2.1
  have hl : hv ls 2 [(0, .ref a0)] := hl
  clear hin
  have hJ25 : ∀ (z0_25 : Int32) (I : MI) (H : Heap) (locs : List Loc) (ls : Array Slot), w_X0_prefersAnswer_b25 K R a0 Q z0_25 I → Rep E K R I n H → va_S (AA E) s.heap H locs → hv ls 2 [] → W p l e (rmM 0 0 0 0) s m args below meth c H locs 0 0 (MQ below (QcM E (Qi K R n Q)) args s 0 0 (AA E)) (F0 m 25 ls [.int z0_25]) := by
    intro z0_25 I H locs ls h hR hS hl
    unfold w_X0_prefersAnswer_b25 at h
    obtain ⟨hb1, h⟩ := h
    exact w_ireti C rfl (bz_nar hb1) hR hS h dX0_prefersAnswer_25
  have hJ16 : ∀ (y1_16 : Int32) (I : MI) (H : Heap) (locs : List Loc) (ls : Array Slot), w_X0_prefersAnswer_b16 K R a0 Q y1_16 I → Rep E K R I n H → va_S (AA E) s.heap H locs → hv ls 2 [(1, .int y1_16)] → W p l e (rmM 0 0 0 0) s m args below meth c H locs 0 0 (MQ below (QcM E (Qi K R n Q)) args s 0 0 (AA E)) (F0 m 16 ls []) := by
    intro y1_16 I H locs ls h hR hS hl
    unfold w_X0_prefersAnswer_b16 at h
    refine lv_iload_n hx hb dX0_prefersAnswer_16 rfl (hv_at hl 0 rfl) ?_
    refine lv_if_ne (tgt := 24) hx hb dX0_prefersAnswer_17 (by decide) (fun c2 => ?_) (fun c2 => ?_)
    · replace h := h.1 c2
      refine lv_iconst (v := (0:Int32)) hx hb dX0_prefersAnswer_24 rfl ?_
      exact hJ25 (0:Int32) I _ _ _ h hR hS (hv_sub hl [] rfl)
    · replace h := h.2 c2
      refine lv_iconst (v := (1:Int32)) hx hb dX0_prefersAnswer_20 rfl ?_
      refine lv_goto (tgt := 25) hx hb dX0_prefersAnswer_21 (by decide) ?_
      exact hJ25 (1:Int32) I _ _ _ h hR hS (hv_sub hl [] rfl)
  have hJ46 : ∀ (z0_46 : Int32) (I : MI) (H : Heap) (locs : List Loc) (ls : Array Slot), w_X0_prefersAnswer_b46 K R a0 Q z0_46 I → Rep E K R I n H → va_S (AA E) s.heap H locs → hv ls 2 [] → W p l e (rmM 0 0 0 0) s m args below meth c H locs 0 0 (MQ below (QcM E (Qi K R n Q)) args s 0 0 (AA E)) (F0 m 46 ls [.int z0_46]) := by
    intro z0_46 I H locs ls h hR hS hl
    unfold w_X0_prefersAnswer_b46 at h
    obtain ⟨hb3, h⟩ := h
    exact w_ireti C rfl (bz_nar hb3) hR hS h dX0_prefersAnswer_46
  have hJ41 : ∀ (I : MI) (H : Heap) (locs : List Loc) (ls : Array Slot), w_X0_prefersAnswer_b41 K R a0 Q  I → Rep E K R I n H → va_S (AA E) s.heap H locs → hv ls 2 [] → W p l e (rmM 0 0 0 0) s m args below meth c H locs 0 0 (MQ below (QcM E (Qi K R n Q)) args s 0 0 (AA E)) (F0 m 41 ls []) := by
    intro  I H locs ls h hR hS hl
    unfold w_X0_prefersAnswer_b41 at h
    refine lv_iconst (v := (1:Int32)) hx hb dX0_prefersAnswer_41 rfl ?_
    refine lv_goto (tgt := 46) hx hb dX0_prefersAnswer_42 (by decide) ?_
    exact hJ46 (1:Int32) I _ _ _ h hR hS (hv_sub hl [] rfl)
  unfold w_X0_prefersAnswer at h
  refine lv_aload_n hx hb dX0_prefersAnswer_0 rfl (hv_at hl 0 rfl) ?_
  obtain ⟨hf4, h⟩ := h
  refine v_get (T := TX0) (v := .ref (a0 + 1)) C hR 0 kfl_X0_9 rfl inG0 (by decide) rfl (IsBus.k hf4) (rf_of (IsBus.r0 hf4 (I a0 0))) dX0_prefersAnswer_1 ?_
  refine lv_iconst (v := (1:Int32)) hx hb dX0_prefersAnswer_4 rfl ?_
  refine w_iald C hR (IsBus.a0 hf4) (show vp_in (1:Int32) 3 by unfold vp_in; decide) (j := 1) (by decide) dX0_prefersAnswer_5 ?_
  refine v_istore_n (lv' := [(1, .int (I (a0 + 1) 1)), (0, .ref a0)]) hx hb dX0_prefersAnswer_6 rfl hl (by decide) rfl (fun ls hl => ?_)
  refine lv_iload_n hx hb dX0_prefersAnswer_7 rfl (hv_at hl 0 rfl) ?_
  refine lv_if_eq (tgt := 16) hx hb dX0_prefersAnswer_8 (by decide) (fun c8 => ?_) (fun c8 => ?_)
  · replace h := h.1 c8
    exact hJ16 (I (a0 + 1) 1) I _ _ _ h hR hS (hv_sub hl [0] rfl)
  · replace h := h.2 c8
    refine lv_iload_n hx hb dX0_prefersAnswer_11 rfl (hv_at hl 0 rfl) ?_
    refine lv_iconst (v := (1:Int32)) hx hb dX0_prefersAnswer_12 rfl ?_
    refine lv_icmp_ne (tgt := 26) hx hb dX0_prefersAnswer_13 (by decide) (fun c7 => ?_) (fun c7 => ?_)
    · replace h := h.1 c7
      refine lv_aload_n hx hb dX0_prefersAnswer_26 rfl (hv_at hl 1 rfl) ?_
      refine v_get (T := TX0) (v := .int (I a0 7)) C hR 7 kfl_X0_36 rfl inG0 (by decide) rfl (IsBus.k hf4) rfl dX0_prefersAnswer_27 ?_
      refine lv_if_eq (tgt := 41) hx hb dX0_prefersAnswer_30 (by decide) (fun c6 => ?_) (fun c6 => ?_)
      · replace h := h.1 c6
        exact hJ41 I _ _ _ h hR hS (hv_sub hl [] rfl)
      · replace h := h.2 c6
        refine lv_aload_n hx hb dX0_prefersAnswer_33 rfl (hv_at hl 1 rfl) ?_
        refine v_get (T := TX0) (v := .int (I a0 7)) C hR 7 kfl_X0_36 rfl inG0 (by decide) rfl (IsBus.k hf4) rfl dX0_prefersAnswer_34 ?_
        refine lv_iconst (v := (2:Int32)) hx hb dX0_prefersAnswer_37 rfl ?_
        refine lv_icmp_ne (tgt := 45) hx hb dX0_prefersAnswer_38 (by decide) (fun c5 => ?_) (fun c5 => ?_)
        · replace h := h.1 c5
          refine lv_iconst (v := (0:Int32)) hx hb dX0_prefersAnswer_45 rfl ?_
          exact hJ46 (0:Int32) I _ _ _ h hR hS (hv_sub hl [] rfl)
        · replace h := h.2 c5
          exact hJ41 I _ _ _ h hR hS (hv_sub hl [] rfl)
    · replace h := h.2 c7
      exact hJ16 (I (a0 + 1) 1) I _ _ _ h hR hS (hv_sub hl [0] rfl)
set_option maxHeartbeats 4000000 in
set_option maxRecDepth 100000 in
theorem L_X0_takeTagBack (E : Ev) (l : Launch) {K : MK} {R : MR} {n : Nat} (a0 : Nat) (o1 : Option Nat) (I : MI) (Q : MI → Prop) (h : w_X0_takeTagBack K R a0 o1 I Q) : MM E l yX0_takeTagBack cX0_takeTagBack 2 none 1 21 0 0 [.ref a0, va_rf o1] K R I n (Qv K R n Q) := by
  refine MM.of1 (by decide) RX0 rfl (cR (cO cN)) (Nat.le_of_ble_eq_true rfl) ?_
  intro p e s m args below meth c ls C hin hR hS hl
  have hx := C.1
  have hb := C.2.1
  have hml := C.2.2.1
  have hown := C.2.2.2.1
  have hts := C.2.2.2.2.1
  have hl : hv ls 2 [(0, .ref a0), (1, va_rf o1)] := hl
  clear hin
  have hJ23 : ∀ (I : MI) (H : Heap) (locs : List Loc) (ls : Array Slot), w_X0_takeTagBack_b23 K R a0 o1 Q  I → Rep E K R I n H → va_S (AA E) s.heap H locs → hv ls 2 [(1, va_rf o1)] → W p l e (rmM 1 21 0 0) s m args below meth c H locs 0 0 (MQ below (QcM E (Qv K R n Q)) args s 0 0 (AA E)) (F0 m 23 ls []) := by
    intro  I H locs ls h hR hS hl
    unfold w_X0_takeTagBack_b23 at h
    refine v_aload_n hx hb dX0_takeTagBack_23 rfl (hv_at hl 0 rfl) ?_
    refine lv_bipush (v := (-5:Int32)) hx hb dX0_takeTagBack_24 (by decide) ?_
    obtain ⟨r1, e_o1, h⟩ := h
    have hl : hv ls 2 [(1, .ref r1)] := by (try rw [e_o1] at hl); exact hl
    try rw [e_o1]
    obtain ⟨hf2, h⟩ := h
    obtain ⟨I3, hI3⟩ := ex_eq (upI I r1 5 (-5:Int32))
    replace h := h I3 hI3
    refine v_put (T := TX3) (ty := .int) C hR hS 5 kfl_X0_232 rfl inG3 tyX3 tyX3_ok nmX3 (by decide) rfl hf2 rfl (tyX3_ok 5 (by decide)) rfl rfl (fl_i_3_5 _ _ _) (Nat.le_of_ble_eq_true rfl) hI3 dX0_takeTagBack_26 (fun H locs hR hS => ?_)
    exact w_vret C rfl hR hS h dX0_takeTagBack_29
  unfold w_X0_takeTagBack at h
  refine v_aload_n hx hb dX0_takeTagBack_0 rfl (hv_at hl 1 rfl) ?_
  obtain ⟨r4, e_o1, h⟩ := h
  have hl : hv ls 2 [(0, .ref a0), (1, .ref r4)] := by (try rw [e_o1] at hl); exact hl
  try rw [e_o1]
  obtain ⟨hf5, h⟩ := h
  refine v_get (T := TX3) (v := .int (I r4 5)) C hR 5 kfl_X0_232 rfl inG3 (by decide) rfl hf5 rfl dX0_takeTagBack_1 ?_
  refine lv_bipush (v := (8:Int32)) hx hb dX0_takeTagBack_4 (by decide) ?_
  refine v_cNi (As := [.int (I r4 5), .int (8:Int32)]) C hR hS hl.1.1 ca_X6_isIndex knm_X0_86 (L_X6_isIndex E l (I r4 5) (8:Int32) I _ h) rfl rfl (Nat.le_of_ble_eq_true rfl) ⟨Nat.le_of_ble_eq_true rfl, Nat.le_of_ble_eq_true rfl⟩ ⟨Nat.zero_le _, Nat.zero_le _⟩ dX0_takeTagBack_6 (fun v7 I6 H locs h hR hS => ?_)
  refine lv_if_eq (tgt := 23) hx hb dX0_takeTagBack_9 (by decide) (fun c11 => ?_) (fun c11 => ?_)
  · replace h := h.1 c11
    exact hJ23 I6 _ _ _ h hR hS (hv_sub hl [1] (by rw [e_o1]; rfl))
  · replace h := h.2 c11
    refine lv_aload_n hx hb dX0_takeTagBack_12 rfl (hv_at hl 0 rfl) ?_
    obtain ⟨hf8, h⟩ := h
    refine v_get (T := TX0) (v := .ref (a0 + 2)) C hR 1 kfl_X0_15 rfl inG0 (by decide) rfl (IsBus.k hf8) (rf_of (IsBus.r1 hf8 (I6 a0 1))) dX0_takeTagBack_13 ?_
    refine lv_aload_n hx hb dX0_takeTagBack_16 rfl (hv_at hl 1 rfl) ?_
    refine v_get (T := TX3) (v := .int (I6 r4 5)) C hR 5 kfl_X0_232 rfl inG3 (by decide) rfl hf5 rfl dX0_takeTagBack_17 ?_
    refine lv_bipush (v := (-5:Int32)) hx hb dX0_takeTagBack_20 (by decide) ?_
    obtain ⟨hi9, h⟩ := h
    obtain ⟨I10, hI10⟩ := ex_eq (upI I6 (a0 + 2) (ix (I6 r4 5)) (-5:Int32))
    replace h := h I10 hI10
    refine w_iast C hR hS (IsBus.a1 hf8) hi9 (j := (ix (I6 r4 5))) rfl hI10 dX0_takeTagBack_22 (fun H locs hR hS => ?_)
    exact hJ23 I10 _ _ _ h hR hS (hv_sub hl [1] (by rw [e_o1]; rfl))
set_option maxHeartbeats 4000000 in
set_option maxRecDepth 100000 in
theorem L_X0_noteAnswer (E : Ev) (l : Launch) {K : MK} {R : MR} {n : Nat} (a0 : Nat) (o1 : Option Nat) (x2 : Int32) (I : MI) (Q : MI → Prop) (h : w_X0_noteAnswer K R a0 o1 x2 I Q) : MM E l yX0_noteAnswer cX0_noteAnswer 3 none 1 21 0 0 [.ref a0, va_rf o1, .int x2] K R I n (Qv K R n Q) := by
  refine MM.of1 (by decide) RX0 rfl (cR (cO (cI cN))) (Nat.le_of_ble_eq_true rfl) ?_
  intro p e s m args below meth c ls C hin hR hS hl
  have hx := C.1
  have hb := C.2.1
  have hml := C.2.2.1
  have hown := C.2.2.2.1
  have hts := C.2.2.2.2.1
  have hl : hv ls 3 [(0, .ref a0), (1, va_rf o1), (2, .int x2)] := hl
  clear hin
  unfold w_X0_noteAnswer at h
  refine v_aload_n hx hb dX0_noteAnswer_0 rfl (hv_at hl 1 rfl) ?_
  refine v_ifnonnull (tgt := 5) hx hb dX0_noteAnswer_1 (by decide) (fun e_o1 => ?_) (fun r1 e_o1 => ?_)
  · replace h := h.1 e_o1
    have hl : hv ls 3 [(0, .ref a0), (1, .null), (2, .int x2)] := by (try rw [e_o1] at hl); exact hl
    try rw [e_o1]
    exact w_vret C rfl hR hS h dX0_noteAnswer_4
  · replace h := h.2 r1 e_o1
    have hl : hv ls 3 [(0, .ref a0), (1, .ref r1), (2, .int x2)] := by (try rw [e_o1] at hl); exact hl
    try rw [e_o1]
    refine lv_aload_n hx hb dX0_noteAnswer_5 rfl (hv_at hl 1 rfl) ?_
    refine lv_dup hx hb dX0_noteAnswer_6 rfl ?_
    obtain ⟨hf2, h⟩ := h
    refine v_get (T := TX2) (v := .int (I r1 2)) C hR 2 kfl_X0_208 rfl inG2 (by decide) rfl (IsMaster.k hf2) rfl dX0_noteAnswer_7 ?_
    refine lv_iconst (v := (1:Int32)) hx hb dX0_noteAnswer_10 rfl ?_
    refine lv_isub hx hb dX0_noteAnswer_11 ?_
    obtain ⟨I3, hI3⟩ := ex_eq (upI I r1 2 ((I r1 2) - (1:Int32)))
    replace h := h I3 hI3
    refine v_put (T := TX2) (ty := .int) C hR hS 2 kfl_X0_208 rfl inG2 tyX2 tyX2_ok nmX2 (by decide) rfl (IsMaster.k hf2) rfl (tyX2_ok 2 (by decide)) rfl rfl (fl_i_2_2 _ _ _) (Nat.le_of_ble_eq_true rfl) hI3 dX0_noteAnswer_12 (fun H locs hR hS => ?_)
    refine lv_aload_n hx hb dX0_noteAnswer_15 rfl (hv_at hl 1 rfl) ?_
    refine lv_dup hx hb dX0_noteAnswer_16 rfl ?_
    refine v_get (T := TX2) (v := .int (I3 r1 6)) C hR 6 kfl_X0_248 rfl inG2 (by decide) rfl (IsMaster.k hf2) rfl dX0_noteAnswer_17 ?_
    refine lv_iconst (v := (1:Int32)) hx hb dX0_noteAnswer_20 rfl ?_
    refine lv_iadd hx hb dX0_noteAnswer_21 ?_
    obtain ⟨I4, hI4⟩ := ex_eq (upI I3 r1 6 ((I3 r1 6) + (1:Int32)))
    replace h := h I4 hI4
    refine v_put (T := TX2) (ty := .int) C hR hS 6 kfl_X0_248 rfl inG2 tyX2 tyX2_ok nmX2 (by decide) rfl (IsMaster.k hf2) rfl (tyX2_ok 6 (by decide)) rfl rfl (fl_i_2_6 _ _ _) (Nat.le_of_ble_eq_true rfl) hI4 dX0_noteAnswer_22 (fun H locs hR hS => ?_)
    refine lv_aload_n hx hb dX0_noteAnswer_25 rfl (hv_at hl 1 rfl) ?_
    refine lv_aload_n hx hb dX0_noteAnswer_26 rfl (hv_at hl 1 rfl) ?_
    refine v_get (T := TX2) (v := .int (I4 r1 7)) C hR 7 kfl_X0_251 rfl inG2 (by decide) rfl (IsMaster.k hf2) rfl dX0_noteAnswer_27 ?_
    refine lv_iload_n hx hb dX0_noteAnswer_30 rfl (hv_at hl 2 rfl) ?_
    refine va_mmax hx hb (hml.trans hl.1.1.symm) hown (hts _ kml_X0_254) (hts _ kst_Lib_Math_max_name) (hts _ kin_Math) (hts _ kco_Lib_Math_max_name) (Nat.le_of_ble_eq_true rfl) (Nat.le_of_ble_eq_true rfl) (Nat.zero_le _) (Nat.zero_le _) dX0_noteAnswer_31 ?_
    obtain ⟨I5, hI5⟩ := ex_eq (upI I4 r1 7 (if (I4 r1 7) < x2 then x2 else (I4 r1 7)))
    replace h := h I5 hI5
    refine v_put (T := TX2) (ty := .int) C hR hS 7 kfl_X0_251 rfl inG2 tyX2 tyX2_ok nmX2 (by decide) rfl (IsMaster.k hf2) rfl (tyX2_ok 7 (by decide)) rfl rfl (fl_i_2_7 _ _ _) (Nat.le_of_ble_eq_true rfl) hI5 dX0_noteAnswer_34 (fun H locs hR hS => ?_)
    exact w_vret C rfl hR hS h dX0_noteAnswer_37
set_option maxHeartbeats 4000000 in
set_option maxRecDepth 100000 in
theorem L_X0_sendAnswerOf (E : Ev) (l : Launch) {K : MK} {R : MR} {n : Nat} (a0 : Nat) (x1 : Int32) (I : MI) (Q : Int32 → MI → Prop) (h : w_X0_sendAnswerOf K R a0 x1 I Q) : MM E l yX0_sendAnswerOf cX0_sendAnswerOf 6 (some Jvm.ClassFile.FieldType.int) 3 69 0 0 [.ref a0, .int x1] K R I n (Qi K R n Q) := by
  refine MM.of1 (by decide) RX0 rfl (cR (cI cN)) (Nat.le_of_ble_eq_true rfl) ?_
  intro p e s m args below meth c ls C hin hR hS hl
  have hx := C.1
  have hb := C.2.1
  have hml := C.2.2.1
  have hown := C.2.2.2.1
  have hts := C.2.2.2.2.1
  have hl : hv ls 6 [(0, .ref a0), (1, .int x1)] := hl
  clear hin
  have hJ79 : ∀ (y2_79 : Option Nat) (y3_79 : Int32) (y4_79 : Int32) (y5_79 : Option Nat) (I : MI) (H : Heap) (locs : List Loc) (ls : Array Slot), w_X0_sendAnswerOf_b79 K R a0 x1 Q y2_79 y3_79 y4_79 y5_79 I → Rep E K R I n H → va_S (AA E) s.heap H locs → hv ls 6 [(0, .ref a0), (2, va_rf y2_79), (3, .int y3_79), (4, .int y4_79), (5, va_rf y5_79)] → W p l e (rmM 3 69 0 0) s m args below meth c H locs 0 0 (MQ below (QcM E (Qi K R n Q)) args s 0 0 (AA E)) (F0 m 79 ls []) := by
    intro y2_79 y3_79 y4_79 y5_79 I H locs ls h hR hS hl
    unfold w_X0_sendAnswerOf_b79 at h
    refine v_aload_n hx hb dX0_sendAnswerOf_79 rfl (hv_at hl 1 rfl) ?_
    obtain ⟨r1, e_y2_79, h⟩ := h
    have hl : hv ls 6 [(0, .ref a0), (2, .ref r1), (3, .int y3_79), (4, .int y4_79), (5, va_rf y5_79)] := by (try rw [e_y2_79] at hl); exact hl
    try rw [e_y2_79]
    obtain ⟨hf2, h⟩ := h
    refine v_get (T := TX5) (v := .ref (r1 + 3)) C hR 2 kfl_X0_128 rfl inG5 (by decide) rfl (IsTarget.k hf2) (rf_of (IsTarget.r2 hf2 (I r1 2))) dX0_sendAnswerOf_80 ?_
    refine lv_iload_n hx hb dX0_sendAnswerOf_83 rfl (hv_at hl 2 rfl) ?_
    refine v_cVv (As := [.int y3_79]) C hR hS hl.1.1 ca_X1_removeAt kml_X0_115 (L_X1_removeAt E l (r1 + 3) y3_79 I _ h) (IsLine.k (IsTarget.o2 hf2)) rfl rfl rfl rfl (Nat.le_of_ble_eq_true rfl) ⟨Nat.le_of_ble_eq_true rfl, Nat.le_of_ble_eq_true rfl⟩ ⟨Nat.zero_le _, Nat.zero_le _⟩ dX0_sendAnswerOf_84 (fun I3 H locs h hR hS => ?_)
    refine lv_aload_n hx hb dX0_sendAnswerOf_87 rfl (hv_at hl 0 rfl) ?_
    refine v_aload hx hb dX0_sendAnswerOf_88 (hv_at hl 4 rfl) ?_
    obtain ⟨hf4, h⟩ := h
    refine v_cVv (As := [va_rf y5_79]) C hR hS hl.1.1 ca_X0_takeTagBack kml_X0_235 (L_X0_takeTagBack E l a0 y5_79 I3 _ h) (IsBus.k hf4) rfl rfl rfl rfl (Nat.le_of_ble_eq_true rfl) ⟨Nat.le_of_ble_eq_true rfl, Nat.le_of_ble_eq_true rfl⟩ ⟨Nat.zero_le _, Nat.zero_le _⟩ dX0_sendAnswerOf_90 (fun I5 H locs h hR hS => ?_)
    refine v_aload hx hb dX0_sendAnswerOf_93 (hv_at hl 4 rfl) ?_
    refine lv_iconst (v := (3:Int32)) hx hb dX0_sendAnswerOf_95 rfl ?_
    obtain ⟨r6, e_y5_79, h⟩ := h
    have hl : hv ls 6 [(0, .ref a0), (2, .ref r1), (3, .int y3_79), (4, .int y4_79), (5, .ref r6)] := by (try rw [e_y5_79] at hl); exact hl
    try rw [e_y5_79]
    obtain ⟨hf7, h⟩ := h
    obtain ⟨I8, hI8⟩ := ex_eq (upI I5 r6 4 (3:Int32))
    replace h := h I8 hI8
    refine v_put (T := TX3) (ty := .int) C hR hS 4 kfl_X0_125 rfl inG3 tyX3 tyX3_ok nmX3 (by decide) rfl hf7 rfl (tyX3_ok 4 (by decide)) rfl rfl (fl_i_3_4 _ _ _) (Nat.le_of_ble_eq_true rfl) hI8 dX0_sendAnswerOf_96 (fun H locs hR hS => ?_)
    refine lv_aload hx hb dX0_sendAnswerOf_99 (hv_at hl 4 rfl) ?_
    refine lv_aload_n hx hb dX0_sendAnswerOf_101 rfl (hv_at hl 0 rfl) ?_
    refine v_get (T := TX0) (v := .int (I8 a0 6)) C hR 6 kfl_X0_62 rfl inG0 (by decide) rfl (IsBus.k hf4) rfl dX0_sendAnswerOf_102 ?_
    refine lv_aload hx hb dX0_sendAnswerOf_105 (hv_at hl 4 rfl) ?_
    refine v_get (T := TX3) (v := .int (I8 r6 7)) C hR 7 kfl_X0_238 rfl inG3 (by decide) rfl hf7 rfl dX0_sendAnswerOf_107 ?_
    refine lv_isub hx hb dX0_sendAnswerOf_110 ?_
    obtain ⟨I9, hI9⟩ := ex_eq (upI I8 r6 9 ((I8 a0 6) - (I8 r6 7)))
    replace h := h I9 hI9
    refine v_put (T := TX3) (ty := .int) C hR hS 9 kfl_X0_241 rfl inG3 tyX3 tyX3_ok nmX3 (by decide) rfl hf7 rfl (tyX3_ok 9 (by decide)) rfl rfl (fl_i_3_9 _ _ _) (Nat.le_of_ble_eq_true rfl) hI9 dX0_sendAnswerOf_111 (fun H locs hR hS => ?_)
    refine lv_aload_n hx hb dX0_sendAnswerOf_114 rfl (hv_at hl 0 rfl) ?_
    refine lv_aload_n hx hb dX0_sendAnswerOf_115 rfl (hv_at hl 0 rfl) ?_
    refine lv_aload hx hb dX0_sendAnswerOf_116 (hv_at hl 4 rfl) ?_
    refine v_get (T := TX3) (v := .int (I9 r6 0)) C hR 0 kfl_X0_138 rfl inG3 (by decide) rfl hf7 rfl dX0_sendAnswerOf_118 ?_
    refine v_cVo (As := [.int (I9 r6 0)]) C hR hS hl.1.1 ca_X0_masterAt kml_X0_90 (L_X0_masterAt E l a0 (I9 r6 0) I9 _ h) (IsBus.k hf4) rfl rfl rfl rfl (Nat.le_of_ble_eq_true rfl) ⟨Nat.le_of_ble_eq_true rfl, Nat.le_of_ble_eq_true rfl⟩ ⟨Nat.zero_le _, Nat.zero_le _⟩ dX0_sendAnswerOf_121 (fun o11 I10 H locs h hR hS => ?_)
    refine lv_aload hx hb dX0_sendAnswerOf_124 (hv_at hl 4 rfl) ?_
    refine v_get (T := TX3) (v := .int (I10 r6 9)) C hR 9 kfl_X0_241 rfl inG3 (by decide) rfl hf7 rfl dX0_sendAnswerOf_126 ?_
    refine v_cVv (As := [va_rf o11, .int (I10 r6 9)]) C hR hS hl.1.1 ca_X0_noteAnswer kml_X0_244 (L_X0_noteAnswer E l a0 o11 (I10 r6 9) I10 _ h) (IsBus.k hf4) rfl rfl rfl rfl (Nat.le_of_ble_eq_true rfl) ⟨Nat.le_of_ble_eq_true rfl, Nat.le_of_ble_eq_true rfl⟩ ⟨Nat.zero_le _, Nat.zero_le _⟩ dX0_sendAnswerOf_129 (fun I12 H locs h hR hS => ?_)
    refine lv_aload_n hx hb dX0_sendAnswerOf_132 rfl (hv_at hl 0 rfl) ?_
    refine lv_dup hx hb dX0_sendAnswerOf_133 rfl ?_
    refine v_get (T := TX0) (v := .int (I12 a0 10)) C hR 10 kfl_X0_71 rfl inG0 (by decide) rfl (IsBus.k hf4) rfl dX0_sendAnswerOf_134 ?_
    refine lv_iconst (v := (1:Int32)) hx hb dX0_sendAnswerOf_137 rfl ?_
    refine lv_iadd hx hb dX0_sendAnswerOf_138 ?_
    obtain ⟨I13, hI13⟩ := ex_eq (upI I12 a0 10 ((I12 a0 10) + (1:Int32)))
    replace h := h I13 hI13
    refine v_put (T := TX0) (ty := .int) C hR hS 10 kfl_X0_71 rfl inG0 tyX0 tyX0_ok nmX0 (by decide) rfl (IsBus.k hf4) rfl (tyX0_ok 10 (by decide)) rfl rfl (fl_i_0_10 _ _ _) (Nat.le_of_ble_eq_true rfl) hI13 dX0_sendAnswerOf_139 (fun H locs hR hS => ?_)
    refine lv_aload_n hx hb dX0_sendAnswerOf_142 rfl (hv_at hl 0 rfl) ?_
    refine lv_iconst (v := (1:Int32)) hx hb dX0_sendAnswerOf_143 rfl ?_
    obtain ⟨I14, hI14⟩ := ex_eq (upI I13 a0 7 (1:Int32))
    replace h := h I14 hI14
    refine v_put (T := TX0) (ty := .int) C hR hS 7 kfl_X0_36 rfl inG0 tyX0 tyX0_ok nmX0 (by decide) rfl (IsBus.k hf4) rfl (tyX0_ok 7 (by decide)) rfl rfl (fl_i_0_7 _ _ _) (Nat.le_of_ble_eq_true rfl) hI14 dX0_sendAnswerOf_144 (fun H locs hR hS => ?_)
    refine lv_iload hx hb dX0_sendAnswerOf_147 (hv_at hl 3 rfl) ?_
    exact w_ireti C rfl rfl hR hS h dX0_sendAnswerOf_149
  have hJ38 : ∀ (y2_38 : Option Nat) (y3_38 : Int32) (z0_38 : Int32) (I : MI) (H : Heap) (locs : List Loc) (ls : Array Slot), w_X0_sendAnswerOf_b38 K R a0 x1 Q y2_38 y3_38 z0_38 I → Rep E K R I n H → va_S (AA E) s.heap H locs → hv ls 6 [(0, .ref a0), (1, .int x1), (2, va_rf y2_38), (3, .int y3_38)] → W p l e (rmM 3 69 0 0) s m args below meth c H locs 0 0 (MQ below (QcM E (Qi K R n Q)) args s 0 0 (AA E)) (F0 m 38 ls [.int z0_38]) := by
    intro y2_38 y3_38 z0_38 I H locs ls h hR hS hl
    unfold w_X0_sendAnswerOf_b38 at h
    refine v_istore (lv' := [(4, .int z0_38), (0, .ref a0), (1, .int x1), (2, va_rf y2_38), (3, .int y3_38)]) hx hb dX0_sendAnswerOf_38 hl (by decide) rfl (fun ls hl => ?_)
    refine lv_aload_n hx hb dX0_sendAnswerOf_40 rfl (hv_at hl 1 rfl) ?_
    refine lv_iload hx hb dX0_sendAnswerOf_41 (hv_at hl 0 rfl) ?_
    obtain ⟨hf15, h⟩ := h
    refine v_cVo (As := [.int z0_38]) C hR hS hl.1.1 ca_X0_questionAt kml_X0_121 (L_X0_questionAt E l a0 z0_38 I _ h) (IsBus.k hf15) rfl rfl rfl rfl (Nat.le_of_ble_eq_true rfl) ⟨Nat.le_of_ble_eq_true rfl, Nat.le_of_ble_eq_true rfl⟩ ⟨Nat.zero_le _, Nat.zero_le _⟩ dX0_sendAnswerOf_43 (fun o17 I16 H locs h hR hS => ?_)
    refine v_astore (o := o17) (lv' := [(5, va_rf o17), (4, .int z0_38), (0, .ref a0), (1, .int x1), (2, va_rf y2_38), (3, .int y3_38)]) hx hb dX0_sendAnswerOf_46 hl (by decide) rfl (fun ls hl => ?_)
    refine v_aload hx hb dX0_sendAnswerOf_48 (hv_at hl 0 rfl) ?_
    refine v_ifnonnull (tgt := 56) hx hb dX0_sendAnswerOf_50 (by decide) (fun e_o17 => ?_) (fun r18 e_o17 => ?_)
    · replace h := h.1 e_o17
      have hl : hv ls 6 [(5, .null), (4, .int z0_38), (0, .ref a0), (1, .int x1), (2, va_rf y2_38), (3, .int y3_38)] := by (try rw [e_o17] at hl); exact hl
      try rw [e_o17]
      refine lv_bipush (v := (-5:Int32)) hx hb dX0_sendAnswerOf_53 (by decide) ?_
      exact w_ireti C rfl rfl hR hS h dX0_sendAnswerOf_55
    · replace h := h.2 r18 e_o17
      have hl : hv ls 6 [(5, .ref r18), (4, .int z0_38), (0, .ref a0), (1, .int x1), (2, va_rf y2_38), (3, .int y3_38)] := by (try rw [e_o17] at hl); exact hl
      try rw [e_o17]
      refine lv_aload_n hx hb dX0_sendAnswerOf_56 rfl (hv_at hl 2 rfl) ?_
      refine lv_iload_n hx hb dX0_sendAnswerOf_57 rfl (hv_at hl 3 rfl) ?_
      refine lv_iconst (v := (1:Int32)) hx hb dX0_sendAnswerOf_58 rfl ?_
      refine lv_iadd hx hb dX0_sendAnswerOf_59 ?_
      refine lv_iconst (v := (4:Int32)) hx hb dX0_sendAnswerOf_60 rfl ?_
      refine lv_irem hx hb dX0_sendAnswerOf_61 (by decide) ?_
      obtain ⟨I19, hI19⟩ := ex_eq (upI I16 a0 9 ((x1 + (1:Int32)) - (x1 + (1:Int32)) / (4:Int32) * (4:Int32)))
      replace h := h I19 hI19
      refine v_put (T := TX0) (ty := .int) C hR hS 9 kfl_X0_68 rfl inG0 tyX0 tyX0_ok nmX0 (by decide) rfl (IsBus.k hf15) rfl (tyX0_ok 9 (by decide)) rfl rfl (fl_i_0_9 _ _ _) (Nat.le_of_ble_eq_true rfl) hI19 dX0_sendAnswerOf_62 (fun H locs hR hS => ?_)
      refine lv_iload_n hx hb dX0_sendAnswerOf_65 rfl (hv_at hl 5 rfl) ?_
      refine lv_if_le (tgt := 79) hx hb dX0_sendAnswerOf_66 (by decide) (fun c21 => ?_) (fun c21 => ?_)
      · replace h := h.1 c21
        exact hJ79 y2_38 y3_38 z0_38 (some r18) I19 _ _ _ h hR hS (hv_sub hl [2, 4, 5, 1, 0] rfl)
      · replace h := h.2 c21
        refine lv_aload_n hx hb dX0_sendAnswerOf_69 rfl (hv_at hl 2 rfl) ?_
        refine lv_dup hx hb dX0_sendAnswerOf_70 rfl ?_
        refine v_get (T := TX0) (v := .int (I19 a0 14)) C hR 14 kfl_X0_83 rfl inG0 (by decide) rfl (IsBus.k hf15) rfl dX0_sendAnswerOf_71 ?_
        refine lv_iconst (v := (1:Int32)) hx hb dX0_sendAnswerOf_74 rfl ?_
        refine lv_iadd hx hb dX0_sendAnswerOf_75 ?_
        obtain ⟨I20, hI20⟩ := ex_eq (upI I19 a0 14 ((I19 a0 14) + (1:Int32)))
        replace h := h I20 hI20
        refine v_put (T := TX0) (ty := .int) C hR hS 14 kfl_X0_83 rfl inG0 tyX0 tyX0_ok nmX0 (by decide) rfl (IsBus.k hf15) rfl (tyX0_ok 14 (by decide)) rfl rfl (fl_i_0_14 _ _ _) (Nat.le_of_ble_eq_true rfl) hI20 dX0_sendAnswerOf_76 (fun H locs hR hS => ?_)
        exact hJ79 y2_38 y3_38 z0_38 (some r18) I20 _ _ _ h hR hS (hv_sub hl [2, 4, 5, 1, 0] rfl)
  have hJ20 : ∀ (y2_20 : Option Nat) (z0_20 : Int32) (I : MI) (H : Heap) (locs : List Loc) (ls : Array Slot), w_X0_sendAnswerOf_b20 K R a0 x1 Q y2_20 z0_20 I → Rep E K R I n H → va_S (AA E) s.heap H locs → hv ls 6 [(0, .ref a0), (1, .int x1), (2, va_rf y2_20)] → W p l e (rmM 3 69 0 0) s m args below meth c H locs 0 0 (MQ below (QcM E (Qi K R n Q)) args s 0 0 (AA E)) (F0 m 20 ls [.int z0_20]) := by
    intro y2_20 z0_20 I H locs ls h hR hS hl
    unfold w_X0_sendAnswerOf_b20 at h
    refine v_istore_n (lv' := [(3, .int z0_20), (0, .ref a0), (1, .int x1), (2, va_rf y2_20)]) hx hb dX0_sendAnswerOf_20 rfl hl (by decide) rfl (fun ls hl => ?_)
    refine v_aload_n hx hb dX0_sendAnswerOf_21 rfl (hv_at hl 3 rfl) ?_
    refine v_ifnonnull (tgt := 30) hx hb dX0_sendAnswerOf_22 (by decide) (fun e_y2_20 => ?_) (fun r22 e_y2_20 => ?_)
    · replace h := h.1 e_y2_20
      have hl : hv ls 6 [(3, .int z0_20), (0, .ref a0), (1, .int x1), (2, .null)] := by (try rw [e_y2_20] at hl); exact hl
      try rw [e_y2_20]
      refine lv_bipush (v := (-5:Int32)) hx hb dX0_sendAnswerOf_25 (by decide) ?_
      refine lv_goto (tgt := 38) hx hb dX0_sendAnswerOf_27 (by decide) ?_
      exact hJ38 none z0_20 (-5:Int32) I _ _ _ h hR hS (hv_sub hl [1, 2, 3, 0] rfl)
    · replace h := h.2 r22 e_y2_20
      have hl : hv ls 6 [(3, .int z0_20), (0, .ref a0), (1, .int x1), (2, .ref r22)] := by (try rw [e_y2_20] at hl); exact hl
      try rw [e_y2_20]
      refine lv_aload_n hx hb dX0_sendAnswerOf_30 rfl (hv_at hl 3 rfl) ?_
      obtain ⟨hf23, h⟩ := h
      refine v_get (T := TX5) (v := .ref (r22 + 3)) C hR 2 kfl_X0_128 rfl inG5 (by decide) rfl (IsTarget.k hf23) (rf_of (IsTarget.r2 hf23 (I r22 2))) dX0_sendAnswerOf_31 ?_
      refine lv_iload_n hx hb dX0_sendAnswerOf_34 rfl (hv_at hl 0 rfl) ?_
      refine v_cVi (As := [.int z0_20]) C hR hS hl.1.1 ca_X1_at kml_X0_111 (L_X1_at E l (r22 + 3) z0_20 I _ h) (IsLine.k (IsTarget.o2 hf23)) rfl rfl rfl rfl (Nat.le_of_ble_eq_true rfl) ⟨Nat.le_of_ble_eq_true rfl, Nat.le_of_ble_eq_true rfl⟩ ⟨Nat.zero_le _, Nat.zero_le _⟩ dX0_sendAnswerOf_35 (fun v25 I24 H locs h hR hS => ?_)
      exact hJ38 (some r22) z0_20 v25 I24 _ _ _ h hR hS (hv_sub hl [1, 2, 3, 0] rfl)
  unfold w_X0_sendAnswerOf at h
  refine lv_aload_n hx hb dX0_sendAnswerOf_0 rfl (hv_at hl 0 rfl) ?_
  refine lv_iload_n hx hb dX0_sendAnswerOf_1 rfl (hv_at hl 1 rfl) ?_
  obtain ⟨hf26, h⟩ := h
  refine v_cVo (As := [.int x1]) C hR hS hl.1.1 ca_X0_targetAt kml_X0_176 (L_X0_targetAt E l a0 x1 I _ h) (IsBus.k hf26) rfl rfl rfl rfl (Nat.le_of_ble_eq_true rfl) ⟨Nat.le_of_ble_eq_true rfl, Nat.le_of_ble_eq_true rfl⟩ ⟨Nat.zero_le _, Nat.zero_le _⟩ dX0_sendAnswerOf_2 (fun o28 I27 H locs h hR hS => ?_)
  refine v_astore_n (o := o28) (lv' := [(2, va_rf o28), (0, .ref a0), (1, .int x1)]) hx hb dX0_sendAnswerOf_5 rfl hl (by decide) rfl (fun ls hl => ?_)
  refine v_aload_n hx hb dX0_sendAnswerOf_6 rfl (hv_at hl 0 rfl) ?_
  refine v_ifnonnull (tgt := 15) hx hb dX0_sendAnswerOf_7 (by decide) (fun e_o28 => ?_) (fun r29 e_o28 => ?_)
  · replace h := h.1 e_o28
    have hl : hv ls 6 [(2, .null), (0, .ref a0), (1, .int x1)] := by (try rw [e_o28] at hl); exact hl
    try rw [e_o28]
    refine lv_bipush (v := (-5:Int32)) hx hb dX0_sendAnswerOf_10 (by decide) ?_
    refine lv_goto (tgt := 20) hx hb dX0_sendAnswerOf_12 (by decide) ?_
    exact hJ20 none (-5:Int32) I27 _ _ _ h hR hS (hv_sub hl [1, 2, 0] rfl)
  · replace h := h.2 r29 e_o28
    have hl : hv ls 6 [(2, .ref r29), (0, .ref a0), (1, .int x1)] := by (try rw [e_o28] at hl); exact hl
    try rw [e_o28]
    refine lv_aload_n hx hb dX0_sendAnswerOf_15 rfl (hv_at hl 1 rfl) ?_
    refine lv_aload_n hx hb dX0_sendAnswerOf_16 rfl (hv_at hl 0 rfl) ?_
    refine v_cVi (As := [.ref r29]) C hR hS hl.1.1 ca_X0_placeOfAnswer kml_X0_180 (L_X0_placeOfAnswer E l a0 (some r29) I27 _ h) (IsBus.k hf26) rfl rfl rfl rfl (Nat.le_of_ble_eq_true rfl) ⟨Nat.le_of_ble_eq_true rfl, Nat.le_of_ble_eq_true rfl⟩ ⟨Nat.zero_le _, Nat.zero_le _⟩ dX0_sendAnswerOf_17 (fun v31 I30 H locs h hR hS => ?_)
    exact hJ20 (some r29) v31 I30 _ _ _ h hR hS (hv_sub hl [1, 2, 0] rfl)
set_option maxHeartbeats 4000000 in
set_option maxRecDepth 100000 in
theorem L_X5_isFull (E : Ev) (l : Launch) {K : MK} {R : MR} {n : Nat} (a0 : Nat) (I : MI) (Q : Int32 → MI → Prop) (h : w_X5_isFull K R a0 I Q) : MM E l yX5_isFull cX5_isFull 1 (some Jvm.ClassFile.FieldType.boolean) 0 0 0 0 [.ref a0] K R I n (Qi K R n Q) := by
  refine MM.of1 (by decide) RX5 rfl (cR cN) (Nat.le_of_ble_eq_true rfl) ?_
  intro p e s m args below meth c ls C hin hR hS hl
  have hx := C.1
  have hb := C.2.1
  have hml := C.2.2.1
  have hown := C.2.2.2.1
  have hts := C.2.2.2.2.1
  have hl : hv ls 1 [(0, .ref a0)] := hl
  clear hin
  have hJ21 : ∀ (z0_21 : Int32) (I : MI) (H : Heap) (locs : List Loc) (ls : Array Slot), w_X5_isFull_b21 K R a0 Q z0_21 I → Rep E K R I n H → va_S (AA E) s.heap H locs → hv ls 1 [] → W p l e (rmM 0 0 0 0) s m args below meth c H locs 0 0 (MQ below (QcM E (Qi K R n Q)) args s 0 0 (AA E)) (F0 m 21 ls [.int z0_21]) := by
    intro z0_21 I H locs ls h hR hS hl
    unfold w_X5_isFull_b21 at h
    obtain ⟨hb1, h⟩ := h
    exact w_ireti C rfl (bz_nar hb1) hR hS h dX5_isFull_21
  unfold w_X5_isFull at h
  refine lv_aload_n hx hb dX5_isFull_0 rfl (hv_at hl 0 rfl) ?_
  obtain ⟨hf2, h⟩ := h
  refine v_get (T := TX5) (v := .ref (a0 + 3)) C hR 2 kfl_X5_21 rfl inG5 (by decide) rfl (IsTarget.k hf2) (rf_of (IsTarget.r2 hf2 (I a0 2))) dX5_isFull_1 ?_
  refine v_get (T := TX1) (v := .int (I (a0 + 3) 1)) C hR 1 kfl_X5_25 rfl inG1 (by decide) rfl (IsLine.k (IsTarget.o2 hf2)) rfl dX5_isFull_4 ?_
  refine lv_aload_n hx hb dX5_isFull_7 rfl (hv_at hl 0 rfl) ?_
  refine v_get (T := TX5) (v := .ref (a0 + 2)) C hR 1 kfl_X5_15 rfl inG5 (by decide) rfl (IsTarget.k hf2) (rf_of (IsTarget.r1 hf2 (I a0 1))) dX5_isFull_8 ?_
  refine lv_iconst (v := (0:Int32)) hx hb dX5_isFull_11 rfl ?_
  refine w_iald C hR (IsTarget.a1 hf2) (show vp_in (0:Int32) 3 by unfold vp_in; decide) (j := 0) (by decide) dX5_isFull_12 ?_
  refine lv_icmp_lt (tgt := 20) hx hb dX5_isFull_13 (by decide) (fun c3 => ?_) (fun c3 => ?_)
  · replace h := h.1 c3
    refine lv_iconst (v := (0:Int32)) hx hb dX5_isFull_20 rfl ?_
    exact hJ21 (0:Int32) I _ _ _ h hR hS (hv_sub hl [] rfl)
  · replace h := h.2 c3
    refine lv_iconst (v := (1:Int32)) hx hb dX5_isFull_16 rfl ?_
    refine lv_goto (tgt := 21) hx hb dX5_isFull_17 (by decide) ?_
    exact hJ21 (1:Int32) I _ _ _ h hR hS (hv_sub hl [] rfl)
set_option maxHeartbeats 4000000 in
set_option maxRecDepth 100000 in
theorem L_X0_refuse (E : Ev) (l : Launch) {K : MK} {R : MR} {n : Nat} (a0 : Nat) (o1 : Option Nat) (o2 : Option Nat) (I : MI) (Q : MI → Prop) (h : w_X0_refuse K R a0 o1 o2 I Q) : MM E l yX0_refuse cX0_refuse 4 none 0 0 0 0 [.ref a0, va_rf o1, va_rf o2] K R I n (Qv K R n Q) := by
  refine MM.of1 (by decide) RX0 rfl (cR (cO (cO cN))) (Nat.le_of_ble_eq_true rfl) ?_
  intro p e s m args below meth c ls C hin hR hS hl
  have hx := C.1
  have hb := C.2.1
  have hml := C.2.2.1
  have hown := C.2.2.2.1
  have hts := C.2.2.2.2.1
  have hl : hv ls 4 [(0, .ref a0), (1, va_rf o1), (2, va_rf o2)] := hl
  clear hin
  have hJ39 : ∀ (z0_39 : Int32) (I : MI) (H : Heap) (locs : List Loc) (ls : Array Slot), w_X0_refuse_b39 K R a0 o1 o2 Q z0_39 I → Rep E K R I n H → va_S (AA E) s.heap H locs → hv ls 4 [(0, .ref a0), (1, va_rf o1)] → W p l e (rmM 0 0 0 0) s m args below meth c H locs 0 0 (MQ below (QcM E (Qv K R n Q)) args s 0 0 (AA E)) (F0 m 39 ls [.int z0_39]) := by
    intro z0_39 I H locs ls h hR hS hl
    unfold w_X0_refuse_b39 at h
    refine v_istore_n (lv' := [(3, .int z0_39), (0, .ref a0), (1, va_rf o1)]) hx hb dX0_refuse_39 rfl hl (by decide) rfl (fun ls hl => ?_)
    refine v_aload_n hx hb dX0_refuse_40 rfl (hv_at hl 2 rfl) ?_
    refine lv_aload_n hx hb dX0_refuse_41 rfl (hv_at hl 1 rfl) ?_
    obtain ⟨hf1, h⟩ := h
    refine v_get (T := TX0) (v := .int (I a0 6)) C hR 6 kfl_X0_62 rfl inG0 (by decide) rfl (IsBus.k hf1) rfl dX0_refuse_42 ?_
    refine lv_iconst (v := (1:Int32)) hx hb dX0_refuse_45 rfl ?_
    refine lv_iadd hx hb dX0_refuse_46 ?_
    refine lv_iload_n hx hb dX0_refuse_47 rfl (hv_at hl 0 rfl) ?_
    refine lv_iadd hx hb dX0_refuse_48 ?_
    obtain ⟨r2, e_o1, h⟩ := h
    have hl : hv ls 4 [(3, .int z0_39), (0, .ref a0), (1, .ref r2)] := by (try rw [e_o1] at hl); exact hl
    try rw [e_o1]
    obtain ⟨hf3, h⟩ := h
    obtain ⟨I4, hI4⟩ := ex_eq (upI I r2 4 (((I a0 6) + (1:Int32)) + z0_39))
    replace h := h I4 hI4
    refine v_put (T := TX2) (ty := .int) C hR hS 4 kfl_X0_205 rfl inG2 tyX2 tyX2_ok nmX2 (by decide) rfl (IsMaster.k hf3) rfl (tyX2_ok 4 (by decide)) rfl rfl (fl_i_2_4 _ _ _) (Nat.le_of_ble_eq_true rfl) hI4 dX0_refuse_49 (fun H locs hR hS => ?_)
    refine lv_aload_n hx hb dX0_refuse_52 rfl (hv_at hl 1 rfl) ?_
    refine lv_dup hx hb dX0_refuse_53 rfl ?_
    refine v_get (T := TX0) (v := .int (I4 a0 12)) C hR 12 kfl_X0_77 rfl inG0 (by decide) rfl (IsBus.k hf1) rfl dX0_refuse_54 ?_
    refine lv_iconst (v := (1:Int32)) hx hb dX0_refuse_57 rfl ?_
    refine lv_iadd hx hb dX0_refuse_58 ?_
    obtain ⟨I5, hI5⟩ := ex_eq (upI I4 a0 12 ((I4 a0 12) + (1:Int32)))
    replace h := h I5 hI5
    refine v_put (T := TX0) (ty := .int) C hR hS 12 kfl_X0_77 rfl inG0 tyX0 tyX0_ok nmX0 (by decide) rfl (IsBus.k hf1) rfl (tyX0_ok 12 (by decide)) rfl rfl (fl_i_0_12 _ _ _) (Nat.le_of_ble_eq_true rfl) hI5 dX0_refuse_59 (fun H locs hR hS => ?_)
    refine lv_aload_n hx hb dX0_refuse_62 rfl (hv_at hl 1 rfl) ?_
    refine lv_iconst (v := (2:Int32)) hx hb dX0_refuse_63 rfl ?_
    obtain ⟨I6, hI6⟩ := ex_eq (upI I5 a0 7 (2:Int32))
    replace h := h I6 hI6
    refine v_put (T := TX0) (ty := .int) C hR hS 7 kfl_X0_36 rfl inG0 tyX0 tyX0_ok nmX0 (by decide) rfl (IsBus.k hf1) rfl (tyX0_ok 7 (by decide)) rfl rfl (fl_i_0_7 _ _ _) (Nat.le_of_ble_eq_true rfl) hI6 dX0_refuse_64 (fun H locs hR hS => ?_)
    exact w_vret C rfl hR hS h dX0_refuse_67
  unfold w_X0_refuse at h
  refine v_aload_n hx hb dX0_refuse_0 rfl (hv_at hl 2 rfl) ?_
  refine lv_dup hx hb dX0_refuse_1 (cat_rf _) ?_
  obtain ⟨r7, e_o2, h⟩ := h
  have hl : hv ls 4 [(0, .ref a0), (1, va_rf o1), (2, .ref r7)] := by (try rw [e_o2] at hl); exact hl
  try rw [e_o2]
  obtain ⟨hf8, h⟩ := h
  refine v_get (T := TX3) (v := .int (I r7 10)) C hR 10 kfl_X0_228 rfl inG3 (by decide) rfl hf8 rfl dX0_refuse_2 ?_
  refine lv_iconst (v := (1:Int32)) hx hb dX0_refuse_5 rfl ?_
  refine lv_iadd hx hb dX0_refuse_6 ?_
  obtain ⟨I9, hI9⟩ := ex_eq (upI I r7 10 ((I r7 10) + (1:Int32)))
  replace h := h I9 hI9
  refine v_put (T := TX3) (ty := .int) C hR hS 10 kfl_X0_228 rfl inG3 tyX3 tyX3_ok nmX3 (by decide) rfl hf8 rfl (tyX3_ok 10 (by decide)) rfl rfl (fl_i_3_10 _ _ _) (Nat.le_of_ble_eq_true rfl) hI9 dX0_refuse_7 (fun H locs hR hS => ?_)
  refine v_aload_n hx hb dX0_refuse_10 rfl (hv_at hl 1 rfl) ?_
  refine lv_dup hx hb dX0_refuse_11 (cat_rf _) ?_
  obtain ⟨r10, e_o1, h⟩ := h
  have hl : hv ls 4 [(0, .ref a0), (1, .ref r10), (2, .ref r7)] := by (try rw [e_o1] at hl); exact hl
  try rw [e_o1]
  obtain ⟨hf11, h⟩ := h
  refine v_get (T := TX2) (v := .int (I9 r10 3)) C hR 3 kfl_X0_231 rfl inG2 (by decide) rfl (IsMaster.k hf11) rfl dX0_refuse_12 ?_
  refine lv_iconst (v := (1:Int32)) hx hb dX0_refuse_15 rfl ?_
  refine lv_iadd hx hb dX0_refuse_16 ?_
  obtain ⟨I12, hI12⟩ := ex_eq (upI I9 r10 3 ((I9 r10 3) + (1:Int32)))
  replace h := h I12 hI12
  refine v_put (T := TX2) (ty := .int) C hR hS 3 kfl_X0_231 rfl inG2 tyX2 tyX2_ok nmX2 (by decide) rfl (IsMaster.k hf11) rfl (tyX2_ok 3 (by decide)) rfl rfl (fl_i_2_3 _ _ _) (Nat.le_of_ble_eq_true rfl) hI12 dX0_refuse_17 (fun H locs hR hS => ?_)
  refine lv_aload_n hx hb dX0_refuse_20 rfl (hv_at hl 1 rfl) ?_
  refine v_get (T := TX2) (v := .int (I12 r10 3)) C hR 3 kfl_X0_231 rfl inG2 (by decide) rfl (IsMaster.k hf11) rfl dX0_refuse_21 ?_
  refine lv_iconst (v := (4:Int32)) hx hb dX0_refuse_24 rfl ?_
  refine lv_icmp_lt (tgt := 33) hx hb dX0_refuse_25 (by decide) (fun c13 => ?_) (fun c13 => ?_)
  · replace h := h.1 c13
    refine lv_iconst (v := (1:Int32)) hx hb dX0_refuse_33 rfl ?_
    refine lv_aload_n hx hb dX0_refuse_34 rfl (hv_at hl 1 rfl) ?_
    refine v_get (T := TX2) (v := .int (I12 r10 3)) C hR 3 kfl_X0_231 rfl inG2 (by decide) rfl (IsMaster.k hf11) rfl dX0_refuse_35 ?_
    refine lv_ishl hx hb dX0_refuse_38 ?_
    exact hJ39 ((1:Int32) <<< ((I12 r10 3) &&& 31)) I12 _ _ _ h hR hS (hv_sub hl [0, 1] (by rw [e_o1]; rfl))
  · replace h := h.2 c13
    refine lv_bipush (v := (16:Int32)) hx hb dX0_refuse_28 (by decide) ?_
    refine lv_goto (tgt := 39) hx hb dX0_refuse_30 (by decide) ?_
    exact hJ39 (16:Int32) I12 _ _ _ h hR hS (hv_sub hl [0, 1] (by rw [e_o1]; rfl))
set_option maxHeartbeats 4000000 in
set_option maxRecDepth 100000 in
theorem L_X0_letIn (E : Ev) (l : Launch) {K : MK} {R : MR} {n : Nat} (a0 : Nat) (o1 : Option Nat) (o2 : Option Nat) (x3 : Int32) (I : MI) (Q : MI → Prop) (h : w_X0_letIn K R a0 o1 o2 x3 I Q) : MM E l yX0_letIn cX0_letIn 6 none 2 43 0 0 [.ref a0, va_rf o1, va_rf o2, .int x3] K R I n (Qv K R n Q) := by
  refine MM.of1 (by decide) RX0 rfl (cR (cO (cO (cI cN)))) (Nat.le_of_ble_eq_true rfl) ?_
  intro p e s m args below meth c ls C hin hR hS hl
  have hx := C.1
  have hb := C.2.1
  have hml := C.2.2.1
  have hown := C.2.2.2.1
  have hts := C.2.2.2.2.1
  have hl : hv ls 6 [(0, .ref a0), (1, va_rf o1), (2, va_rf o2), (3, .int x3)] := hl
  clear hin
  have hJ28 : ∀ (I : MI) (H : Heap) (locs : List Loc) (ls : Array Slot), w_X0_letIn_b28 K R a0 o1 o2 x3 Q  I → Rep E K R I n H → va_S (AA E) s.heap H locs → hv ls 6 [] → W p l e (rmM 2 43 0 0) s m args below meth c H locs 0 0 (MQ below (QcM E (Qv K R n Q)) args s 0 0 (AA E)) (F0 m 28 ls []) := by
    intro  I H locs ls h hR hS hl
    unfold w_X0_letIn_b28 at h
    exact w_vret C rfl hR hS h dX0_letIn_28
  unfold w_X0_letIn at h
  refine lv_aload_n hx hb dX0_letIn_0 rfl (hv_at hl 0 rfl) ?_
  refine lv_iload_n hx hb dX0_letIn_1 rfl (hv_at hl 3 rfl) ?_
  obtain ⟨hf1, h⟩ := h
  refine v_cVo (As := [.int x3]) C hR hS hl.1.1 ca_X0_questionAt kml_X0_121 (L_X0_questionAt E l a0 x3 I _ h) (IsBus.k hf1) rfl rfl rfl rfl (Nat.le_of_ble_eq_true rfl) ⟨Nat.le_of_ble_eq_true rfl, Nat.le_of_ble_eq_true rfl⟩ ⟨Nat.zero_le _, Nat.zero_le _⟩ dX0_letIn_2 (fun o3 I2 H locs h hR hS => ?_)
  refine v_astore (o := o3) (lv' := [(4, va_rf o3), (0, .ref a0), (1, va_rf o1), (2, va_rf o2), (3, .int x3)]) hx hb dX0_letIn_5 hl (by decide) rfl (fun ls hl => ?_)
  refine lv_aload_n hx hb dX0_letIn_7 rfl (hv_at hl 1 rfl) ?_
  refine v_cVi (As := []) C hR hS hl.1.1 ca_X0_lowestFreeTag kml_X0_192 (L_X0_lowestFreeTag E l a0 I2 _ h) (IsBus.k hf1) rfl rfl rfl rfl (Nat.le_of_ble_eq_true rfl) ⟨Nat.le_of_ble_eq_true rfl, Nat.le_of_ble_eq_true rfl⟩ ⟨Nat.zero_le _, Nat.zero_le _⟩ dX0_letIn_8 (fun v5 I4 H locs h hR hS => ?_)
  refine v_istore (lv' := [(5, .int v5), (4, va_rf o3), (0, .ref a0), (1, va_rf o1), (2, va_rf o2), (3, .int x3)]) hx hb dX0_letIn_11 hl (by decide) rfl (fun ls hl => ?_)
  refine v_aload hx hb dX0_letIn_13 (hv_at hl 1 rfl) ?_
  refine v_ifnull (tgt := 28) hx hb dX0_letIn_15 (by decide) (fun e_o3 => ?_) (fun r6 e_o3 => ?_)
  · replace h := h.1 e_o3
    have hl : hv ls 6 [(5, .int v5), (4, .null), (0, .ref a0), (1, va_rf o1), (2, va_rf o2), (3, .int x3)] := by (try rw [e_o3] at hl); exact hl
    try rw [e_o3]
    exact hJ28 I4 _ _ _ h hR hS (hv_sub hl [] rfl)
  · replace h := h.2 r6 e_o3
    have hl : hv ls 6 [(5, .int v5), (4, .ref r6), (0, .ref a0), (1, va_rf o1), (2, va_rf o2), (3, .int x3)] := by (try rw [e_o3] at hl); exact hl
    try rw [e_o3]
    refine lv_iload hx hb dX0_letIn_18 (hv_at hl 0 rfl) ?_
    refine lv_bipush (v := (8:Int32)) hx hb dX0_letIn_20 (by decide) ?_
    refine v_cNi (As := [.int v5, .int (8:Int32)]) C hR hS hl.1.1 ca_X6_isIndex knm_X0_86 (L_X6_isIndex E l v5 (8:Int32) I4 _ h) rfl rfl (Nat.le_of_ble_eq_true rfl) ⟨Nat.le_of_ble_eq_true rfl, Nat.le_of_ble_eq_true rfl⟩ ⟨Nat.zero_le _, Nat.zero_le _⟩ dX0_letIn_22 (fun v8 I7 H locs h hR hS => ?_)
    refine lv_if_ne (tgt := 29) hx hb dX0_letIn_25 (by decide) (fun c25 => ?_) (fun c25 => ?_)
    · replace h := h.1 c25
      refine v_aload_n hx hb dX0_letIn_29 rfl (hv_at hl 3 rfl) ?_
      obtain ⟨r9, e_o1, h⟩ := h
      have hl : hv ls 6 [(5, .int v5), (4, .ref r6), (0, .ref a0), (1, .ref r9), (2, va_rf o2), (3, .int x3)] := by (try rw [e_o1] at hl); exact hl
      try rw [e_o1]
      obtain ⟨hf10, h⟩ := h
      refine v_get (T := TX2) (v := .ref (r9 + 1)) C hR 0 kfl_X0_98 rfl inG2 (by decide) rfl (IsMaster.k hf10) (rf_of (IsMaster.r0 hf10 (I7 r9 0))) dX0_letIn_30 ?_
      refine lv_iconst (v := (0:Int32)) hx hb dX0_letIn_33 rfl ?_
      refine v_cVv (As := [.int (0:Int32)]) C hR hS hl.1.1 ca_X1_removeAt kml_X0_115 (L_X1_removeAt E l (r9 + 1) (0:Int32) I7 _ h) (IsLine.k (IsMaster.o0 hf10)) rfl rfl rfl rfl (Nat.le_of_ble_eq_true rfl) ⟨Nat.le_of_ble_eq_true rfl, Nat.le_of_ble_eq_true rfl⟩ ⟨Nat.zero_le _, Nat.zero_le _⟩ dX0_letIn_34 (fun I11 H locs h hR hS => ?_)
      refine lv_aload_n hx hb dX0_letIn_37 rfl (hv_at hl 3 rfl) ?_
      refine lv_iconst (v := (0:Int32)) hx hb dX0_letIn_38 rfl ?_
      obtain ⟨I12, hI12⟩ := ex_eq (upI I11 r9 3 (0:Int32))
      replace h := h I12 hI12
      refine v_put (T := TX2) (ty := .int) C hR hS 3 kfl_X0_231 rfl inG2 tyX2 tyX2_ok nmX2 (by decide) rfl (IsMaster.k hf10) rfl (tyX2_ok 3 (by decide)) rfl rfl (fl_i_2_3 _ _ _) (Nat.le_of_ble_eq_true rfl) hI12 dX0_letIn_39 (fun H locs hR hS => ?_)
      refine lv_aload_n hx hb dX0_letIn_42 rfl (hv_at hl 3 rfl) ?_
      refine lv_dup hx hb dX0_letIn_43 rfl ?_
      refine v_get (T := TX2) (v := .int (I12 r9 2)) C hR 2 kfl_X0_208 rfl inG2 (by decide) rfl (IsMaster.k hf10) rfl dX0_letIn_44 ?_
      refine lv_iconst (v := (1:Int32)) hx hb dX0_letIn_47 rfl ?_
      refine lv_iadd hx hb dX0_letIn_48 ?_
      obtain ⟨I13, hI13⟩ := ex_eq (upI I12 r9 2 ((I12 r9 2) + (1:Int32)))
      replace h := h I13 hI13
      refine v_put (T := TX2) (ty := .int) C hR hS 2 kfl_X0_208 rfl inG2 tyX2 tyX2_ok nmX2 (by decide) rfl (IsMaster.k hf10) rfl (tyX2_ok 2 (by decide)) rfl rfl (fl_i_2_2 _ _ _) (Nat.le_of_ble_eq_true rfl) hI13 dX0_letIn_49 (fun H locs hR hS => ?_)
      refine lv_aload_n hx hb dX0_letIn_52 rfl (hv_at hl 2 rfl) ?_
      refine v_get (T := TX0) (v := .ref (a0 + 2)) C hR 1 kfl_X0_15 rfl inG0 (by decide) rfl (IsBus.k hf1) (rf_of (IsBus.r1 hf1 (I13 a0 1))) dX0_letIn_53 ?_
      refine lv_iload hx hb dX0_letIn_56 (hv_at hl 0 rfl) ?_
      refine lv_iload_n hx hb dX0_letIn_58 rfl (hv_at hl 5 rfl) ?_
      obtain ⟨hi14, h⟩ := h
      obtain ⟨I15, hI15⟩ := ex_eq (upI I13 (a0 + 2) (ix v5) x3)
      replace h := h I15 hI15
      refine w_iast C hR hS (IsBus.a1 hf1) hi14 (j := (ix v5)) rfl hI15 dX0_letIn_59 (fun H locs hR hS => ?_)
      refine lv_aload hx hb dX0_letIn_60 (hv_at hl 1 rfl) ?_
      refine lv_iload hx hb dX0_letIn_62 (hv_at hl 0 rfl) ?_
      obtain ⟨hf16, h⟩ := h
      obtain ⟨I17, hI17⟩ := ex_eq (upI I15 r6 5 v5)
      replace h := h I17 hI17
      refine v_put (T := TX3) (ty := .int) C hR hS 5 kfl_X0_232 rfl inG3 tyX3 tyX3_ok nmX3 (by decide) rfl hf16 rfl (tyX3_ok 5 (by decide)) rfl rfl (fl_i_3_5 _ _ _) (Nat.le_of_ble_eq_true rfl) hI17 dX0_letIn_64 (fun H locs hR hS => ?_)
      refine lv_aload hx hb dX0_letIn_67 (hv_at hl 1 rfl) ?_
      refine lv_iconst (v := (1:Int32)) hx hb dX0_letIn_69 rfl ?_
      obtain ⟨I18, hI18⟩ := ex_eq (upI I17 r6 4 (1:Int32))
      replace h := h I18 hI18
      refine v_put (T := TX3) (ty := .int) C hR hS 4 kfl_X0_125 rfl inG3 tyX3 tyX3_ok nmX3 (by decide) rfl hf16 rfl (tyX3_ok 4 (by decide)) rfl rfl (fl_i_3_4 _ _ _) (Nat.le_of_ble_eq_true rfl) hI18 dX0_letIn_70 (fun H locs hR hS => ?_)
      refine lv_aload hx hb dX0_letIn_73 (hv_at hl 1 rfl) ?_
      refine lv_aload_n hx hb dX0_letIn_75 rfl (hv_at hl 2 rfl) ?_
      refine v_get (T := TX0) (v := .int (I18 a0 6)) C hR 6 kfl_X0_62 rfl inG0 (by decide) rfl (IsBus.k hf1) rfl dX0_letIn_76 ?_
      refine v_aload_n hx hb dX0_letIn_79 rfl (hv_at hl 4 rfl) ?_
      obtain ⟨r19, e_o2, h⟩ := h
      have hl : hv ls 6 [(5, .int v5), (4, .ref r6), (0, .ref a0), (1, .ref r9), (2, .ref r19), (3, .int x3)] := by (try rw [e_o2] at hl); exact hl
      try rw [e_o2]
      obtain ⟨hf20, h⟩ := h
      refine v_get (T := TX5) (v := .ref (r19 + 2)) C hR 1 kfl_X0_184 rfl inG5 (by decide) rfl (IsTarget.k hf20) (rf_of (IsTarget.r1 hf20 (I18 r19 1))) dX0_letIn_80 ?_
      refine lv_iconst (v := (1:Int32)) hx hb dX0_letIn_83 rfl ?_
      refine w_iald C hR (IsTarget.a1 hf20) (show vp_in (1:Int32) 3 by unfold vp_in; decide) (j := 1) (by decide) dX0_letIn_84 ?_
      refine lv_iadd hx hb dX0_letIn_85 ?_
      refine lv_aload hx hb dX0_letIn_86 (hv_at hl 1 rfl) ?_
      refine v_get (T := TX3) (v := .int (I18 r6 2)) C hR 2 kfl_X0_147 rfl inG3 (by decide) rfl hf16 rfl dX0_letIn_88 ?_
      refine lv_iconst (v := (4:Int32)) hx hb dX0_letIn_91 rfl ?_
      refine lv_irem hx hb dX0_letIn_92 (by decide) ?_
      refine lv_iadd hx hb dX0_letIn_93 ?_
      obtain ⟨I21, hI21⟩ := ex_eq (upI I18 r6 8 (((I18 a0 6) + (I18 (r19 + 2) 1)) + ((I18 r6 2) - (I18 r6 2) / (4:Int32) * (4:Int32))))
      replace h := h I21 hI21
      refine v_put (T := TX3) (ty := .int) C hR hS 8 kfl_X0_144 rfl inG3 tyX3 tyX3_ok nmX3 (by decide) rfl hf16 rfl (tyX3_ok 8 (by decide)) rfl rfl (fl_i_3_8 _ _ _) (Nat.le_of_ble_eq_true rfl) hI21 dX0_letIn_94 (fun H locs hR hS => ?_)
      refine lv_aload_n hx hb dX0_letIn_97 rfl (hv_at hl 4 rfl) ?_
      refine v_get (T := TX5) (v := .ref (r19 + 3)) C hR 2 kfl_X0_128 rfl inG5 (by decide) rfl (IsTarget.k hf20) (rf_of (IsTarget.r2 hf20 (I21 r19 2))) dX0_letIn_98 ?_
      refine lv_iload_n hx hb dX0_letIn_101 rfl (hv_at hl 5 rfl) ?_
      refine v_cVv (As := [.int x3]) C hR hS hl.1.1 ca_X1_append kml_X0_102 (L_X1_append E l (r19 + 3) x3 I21 _ h) (IsLine.k (IsTarget.o2 hf20)) rfl rfl rfl rfl (Nat.le_of_ble_eq_true rfl) ⟨Nat.le_of_ble_eq_true rfl, Nat.le_of_ble_eq_true rfl⟩ ⟨Nat.zero_le _, Nat.zero_le _⟩ dX0_letIn_102 (fun I22 H locs h hR hS => ?_)
      refine lv_aload_n hx hb dX0_letIn_105 rfl (hv_at hl 2 rfl) ?_
      refine lv_dup hx hb dX0_letIn_106 rfl ?_
      refine v_get (T := TX0) (v := .int (I22 a0 11)) C hR 11 kfl_X0_74 rfl inG0 (by decide) rfl (IsBus.k hf1) rfl dX0_letIn_107 ?_
      refine lv_iconst (v := (1:Int32)) hx hb dX0_letIn_110 rfl ?_
      refine lv_iadd hx hb dX0_letIn_111 ?_
      obtain ⟨I23, hI23⟩ := ex_eq (upI I22 a0 11 ((I22 a0 11) + (1:Int32)))
      replace h := h I23 hI23
      refine v_put (T := TX0) (ty := .int) C hR hS 11 kfl_X0_74 rfl inG0 tyX0 tyX0_ok nmX0 (by decide) rfl (IsBus.k hf1) rfl (tyX0_ok 11 (by decide)) rfl rfl (fl_i_0_11 _ _ _) (Nat.le_of_ble_eq_true rfl) hI23 dX0_letIn_112 (fun H locs hR hS => ?_)
      refine lv_aload_n hx hb dX0_letIn_115 rfl (hv_at hl 2 rfl) ?_
      refine lv_iconst (v := (0:Int32)) hx hb dX0_letIn_116 rfl ?_
      obtain ⟨I24, hI24⟩ := ex_eq (upI I23 a0 7 (0:Int32))
      replace h := h I24 hI24
      refine v_put (T := TX0) (ty := .int) C hR hS 7 kfl_X0_36 rfl inG0 tyX0 tyX0_ok nmX0 (by decide) rfl (IsBus.k hf1) rfl (tyX0_ok 7 (by decide)) rfl rfl (fl_i_0_7 _ _ _) (Nat.le_of_ble_eq_true rfl) hI24 dX0_letIn_117 (fun H locs hR hS => ?_)
      exact w_vret C rfl hR hS h dX0_letIn_120
    · replace h := h.2 c25
      exact hJ28 I7 _ _ _ h hR hS (hv_sub hl [] rfl)
set_option maxHeartbeats 4000000 in
set_option maxRecDepth 100000 in
theorem L_X0_sendQuestionOf (E : Ev) (l : Launch) {K : MK} {R : MR} {n : Nat} (a0 : Nat) (x1 : Int32) (I : MI) (Q : Int32 → MI → Prop) (h : w_X0_sendQuestionOf K R a0 x1 I Q) : MM E l yX0_sendQuestionOf cX0_sendQuestionOf 6 (some Jvm.ClassFile.FieldType.int) 3 68 0 0 [.ref a0, .int x1] K R I n (Qi K R n Q) := by
  refine MM.of1 (by decide) RX0 rfl (cR (cI cN)) (Nat.le_of_ble_eq_true rfl) ?_
  intro p e s m args below meth c ls C hin hR hS hl
  have hx := C.1
  have hb := C.2.1
  have hml := C.2.2.1
  have hown := C.2.2.2.1
  have hts := C.2.2.2.2.1
  have hl : hv ls 6 [(0, .ref a0), (1, .int x1)] := hl
  clear hin
  have hJ94 : ∀ (y3_94 : Int32) (I : MI) (H : Heap) (locs : List Loc) (ls : Array Slot), w_X0_sendQuestionOf_b94 K R a0 x1 Q y3_94 I → Rep E K R I n H → va_S (AA E) s.heap H locs → hv ls 6 [(3, .int y3_94)] → W p l e (rmM 3 68 0 0) s m args below meth c H locs 0 0 (MQ below (QcM E (Qi K R n Q)) args s 0 0 (AA E)) (F0 m 94 ls []) := by
    intro y3_94 I H locs ls h hR hS hl
    unfold w_X0_sendQuestionOf_b94 at h
    refine lv_iload_n hx hb dX0_sendQuestionOf_94 rfl (hv_at hl 0 rfl) ?_
    exact w_ireti C rfl rfl hR hS h dX0_sendQuestionOf_95
  have hJ49 : ∀ (y2_49 : Option Nat) (y3_49 : Int32) (y4_49 : Option Nat) (z0_49 : Option Nat) (I : MI) (H : Heap) (locs : List Loc) (ls : Array Slot), w_X0_sendQuestionOf_b49 K R a0 x1 Q y2_49 y3_49 y4_49 z0_49 I → Rep E K R I n H → va_S (AA E) s.heap H locs → hv ls 6 [(0, .ref a0), (1, .int x1), (2, va_rf y2_49), (3, .int y3_49), (4, va_rf y4_49)] → W p l e (rmM 3 68 0 0) s m args below meth c H locs 0 0 (MQ below (QcM E (Qi K R n Q)) args s 0 0 (AA E)) (F0 m 49 ls [va_rf z0_49]) := by
    intro y2_49 y3_49 y4_49 z0_49 I H locs ls h hR hS hl
    unfold w_X0_sendQuestionOf_b49 at h
    refine v_astore (o := z0_49) (lv' := [(5, va_rf z0_49), (0, .ref a0), (1, .int x1), (2, va_rf y2_49), (3, .int y3_49), (4, va_rf y4_49)]) hx hb dX0_sendQuestionOf_49 hl (by decide) rfl (fun ls hl => ?_)
    refine v_aload hx hb dX0_sendQuestionOf_51 (hv_at hl 0 rfl) ?_
    refine v_ifnonnull (tgt := 59) hx hb dX0_sendQuestionOf_53 (by decide) (fun e_z0_49 => ?_) (fun r1 e_z0_49 => ?_)
    · replace h := h.1 e_z0_49
      have hl : hv ls 6 [(5, .null), (0, .ref a0), (1, .int x1), (2, va_rf y2_49), (3, .int y3_49), (4, va_rf y4_49)] := by (try rw [e_z0_49] at hl); exact hl
      try rw [e_z0_49]
      refine lv_bipush (v := (-5:Int32)) hx hb dX0_sendQuestionOf_56 (by decide) ?_
      exact w_ireti C rfl rfl hR hS h dX0_sendQuestionOf_58
    · replace h := h.2 r1 e_z0_49
      have hl : hv ls 6 [(5, .ref r1), (0, .ref a0), (1, .int x1), (2, va_rf y2_49), (3, .int y3_49), (4, va_rf y4_49)] := by (try rw [e_z0_49] at hl); exact hl
      try rw [e_z0_49]
      refine lv_aload_n hx hb dX0_sendQuestionOf_59 rfl (hv_at hl 1 rfl) ?_
      refine lv_iload_n hx hb dX0_sendQuestionOf_60 rfl (hv_at hl 2 rfl) ?_
      refine lv_iconst (v := (1:Int32)) hx hb dX0_sendQuestionOf_61 rfl ?_
      refine lv_iadd hx hb dX0_sendQuestionOf_62 ?_
      refine lv_iconst (v := (4:Int32)) hx hb dX0_sendQuestionOf_63 rfl ?_
      refine lv_irem hx hb dX0_sendQuestionOf_64 (by decide) ?_
      obtain ⟨hf2, h⟩ := h
      obtain ⟨I3, hI3⟩ := ex_eq (upI I a0 8 ((x1 + (1:Int32)) - (x1 + (1:Int32)) / (4:Int32) * (4:Int32)))
      replace h := h I3 hI3
      refine v_put (T := TX0) (ty := .int) C hR hS 8 kfl_X0_65 rfl inG0 tyX0 tyX0_ok nmX0 (by decide) rfl (IsBus.k hf2) rfl (tyX0_ok 8 (by decide)) rfl rfl (fl_i_0_8 _ _ _) (Nat.le_of_ble_eq_true rfl) hI3 dX0_sendQuestionOf_65 (fun H locs hR hS => ?_)
      refine lv_aload hx hb dX0_sendQuestionOf_68 (hv_at hl 0 rfl) ?_
      obtain ⟨hf4, h⟩ := h
      refine v_cVi (As := []) C hR hS hl.1.1 ca_X5_isFull kml_X0_217 (L_X5_isFull E l r1 I3 _ h) (IsTarget.k hf4) rfl rfl rfl rfl (Nat.le_of_ble_eq_true rfl) ⟨Nat.le_of_ble_eq_true rfl, Nat.le_of_ble_eq_true rfl⟩ ⟨Nat.zero_le _, Nat.zero_le _⟩ dX0_sendQuestionOf_70 (fun v6 I5 H locs h hR hS => ?_)
      refine lv_if_eq (tgt := 86) hx hb dX0_sendQuestionOf_73 (by decide) (fun c9 => ?_) (fun c9 => ?_)
      · replace h := h.1 c9
        refine lv_aload_n hx hb dX0_sendQuestionOf_86 rfl (hv_at hl 1 rfl) ?_
        refine v_aload_n hx hb dX0_sendQuestionOf_87 rfl (hv_at hl 3 rfl) ?_
        refine lv_aload hx hb dX0_sendQuestionOf_88 (hv_at hl 0 rfl) ?_
        refine lv_iload_n hx hb dX0_sendQuestionOf_90 rfl (hv_at hl 4 rfl) ?_
        refine v_cVv (As := [va_rf y2_49, .ref r1, .int y3_49]) C hR hS hl.1.1 ca_X0_letIn kml_X0_224 (L_X0_letIn E l a0 y2_49 (some r1) y3_49 I5 _ h) (IsBus.k hf2) rfl rfl rfl rfl (Nat.le_of_ble_eq_true rfl) ⟨Nat.le_of_ble_eq_true rfl, Nat.le_of_ble_eq_true rfl⟩ ⟨Nat.zero_le _, Nat.zero_le _⟩ dX0_sendQuestionOf_91 (fun I7 H locs h hR hS => ?_)
        exact hJ94 y3_49 I7 _ _ _ h hR hS (hv_sub hl [4] rfl)
      · replace h := h.2 c9
        refine lv_aload_n hx hb dX0_sendQuestionOf_76 rfl (hv_at hl 1 rfl) ?_
        refine v_aload_n hx hb dX0_sendQuestionOf_77 rfl (hv_at hl 3 rfl) ?_
        refine v_aload hx hb dX0_sendQuestionOf_78 (hv_at hl 5 rfl) ?_
        refine v_cVv (As := [va_rf y2_49, va_rf y4_49]) C hR hS hl.1.1 ca_X0_refuse kml_X0_220 (L_X0_refuse E l a0 y2_49 y4_49 I5 _ h) (IsBus.k hf2) rfl rfl rfl rfl (Nat.le_of_ble_eq_true rfl) ⟨Nat.le_of_ble_eq_true rfl, Nat.le_of_ble_eq_true rfl⟩ ⟨Nat.zero_le _, Nat.zero_le _⟩ dX0_sendQuestionOf_80 (fun I8 H locs h hR hS => ?_)
        refine lv_goto (tgt := 94) hx hb dX0_sendQuestionOf_83 (by decide) ?_
        exact hJ94 y3_49 I8 _ _ _ h hR hS (hv_sub hl [4] rfl)
  have hJ23 : ∀ (y2_23 : Option Nat) (z0_23 : Int32) (I : MI) (H : Heap) (locs : List Loc) (ls : Array Slot), w_X0_sendQuestionOf_b23 K R a0 x1 Q y2_23 z0_23 I → Rep E K R I n H → va_S (AA E) s.heap H locs → hv ls 6 [(0, .ref a0), (1, .int x1), (2, va_rf y2_23)] → W p l e (rmM 3 68 0 0) s m args below meth c H locs 0 0 (MQ below (QcM E (Qi K R n Q)) args s 0 0 (AA E)) (F0 m 23 ls [.int z0_23]) := by
    intro y2_23 z0_23 I H locs ls h hR hS hl
    unfold w_X0_sendQuestionOf_b23 at h
    refine v_istore_n (lv' := [(3, .int z0_23), (0, .ref a0), (1, .int x1), (2, va_rf y2_23)]) hx hb dX0_sendQuestionOf_23 rfl hl (by decide) rfl (fun ls hl => ?_)
    refine lv_aload_n hx hb dX0_sendQuestionOf_24 rfl (hv_at hl 1 rfl) ?_
    refine lv_iload_n hx hb dX0_sendQuestionOf_25 rfl (hv_at hl 0 rfl) ?_
    obtain ⟨hf10, h⟩ := h
    refine v_cVo (As := [.int z0_23]) C hR hS hl.1.1 ca_X0_questionAt kml_X0_121 (L_X0_questionAt E l a0 z0_23 I _ h) (IsBus.k hf10) rfl rfl rfl rfl (Nat.le_of_ble_eq_true rfl) ⟨Nat.le_of_ble_eq_true rfl, Nat.le_of_ble_eq_true rfl⟩ ⟨Nat.zero_le _, Nat.zero_le _⟩ dX0_sendQuestionOf_26 (fun o12 I11 H locs h hR hS => ?_)
    refine v_astore (o := o12) (lv' := [(4, va_rf o12), (3, .int z0_23), (0, .ref a0), (1, .int x1), (2, va_rf y2_23)]) hx hb dX0_sendQuestionOf_29 hl (by decide) rfl (fun ls hl => ?_)
    refine v_aload hx hb dX0_sendQuestionOf_31 (hv_at hl 0 rfl) ?_
    refine v_ifnonnull (tgt := 40) hx hb dX0_sendQuestionOf_33 (by decide) (fun e_o12 => ?_) (fun r13 e_o12 => ?_)
    · replace h := h.1 e_o12
      have hl : hv ls 6 [(4, .null), (3, .int z0_23), (0, .ref a0), (1, .int x1), (2, va_rf y2_23)] := by (try rw [e_o12] at hl); exact hl
      try rw [e_o12]
      refine lv_null hx hb dX0_sendQuestionOf_36 ?_
      refine lv_goto (tgt := 49) hx hb dX0_sendQuestionOf_37 (by decide) ?_
      exact hJ49 y2_23 z0_23 none none I11 _ _ _ h hR hS (hv_sub hl [2, 3, 4, 1, 0] rfl)
    · replace h := h.2 r13 e_o12
      have hl : hv ls 6 [(4, .ref r13), (3, .int z0_23), (0, .ref a0), (1, .int x1), (2, va_rf y2_23)] := by (try rw [e_o12] at hl); exact hl
      try rw [e_o12]
      refine lv_aload_n hx hb dX0_sendQuestionOf_40 rfl (hv_at hl 2 rfl) ?_
      refine lv_aload hx hb dX0_sendQuestionOf_41 (hv_at hl 0 rfl) ?_
      obtain ⟨hf14, h⟩ := h
      refine v_get (T := TX3) (v := .int (I11 r13 1)) C hR 1 kfl_X0_214 rfl inG3 (by decide) rfl hf14 rfl dX0_sendQuestionOf_43 ?_
      refine v_cVo (As := [.int (I11 r13 1)]) C hR hS hl.1.1 ca_X0_targetAt kml_X0_176 (L_X0_targetAt E l a0 (I11 r13 1) I11 _ h) (IsBus.k hf10) rfl rfl rfl rfl (Nat.le_of_ble_eq_true rfl) ⟨Nat.le_of_ble_eq_true rfl, Nat.le_of_ble_eq_true rfl⟩ ⟨Nat.zero_le _, Nat.zero_le _⟩ dX0_sendQuestionOf_46 (fun o16 I15 H locs h hR hS => ?_)
      exact hJ49 y2_23 z0_23 (some r13) o16 I15 _ _ _ h hR hS (hv_sub hl [2, 3, 4, 1, 0] rfl)
  unfold w_X0_sendQuestionOf at h
  refine lv_aload_n hx hb dX0_sendQuestionOf_0 rfl (hv_at hl 0 rfl) ?_
  refine lv_iload_n hx hb dX0_sendQuestionOf_1 rfl (hv_at hl 1 rfl) ?_
  obtain ⟨hf17, h⟩ := h
  refine v_cVo (As := [.int x1]) C hR hS hl.1.1 ca_X0_masterAt kml_X0_90 (L_X0_masterAt E l a0 x1 I _ h) (IsBus.k hf17) rfl rfl rfl rfl (Nat.le_of_ble_eq_true rfl) ⟨Nat.le_of_ble_eq_true rfl, Nat.le_of_ble_eq_true rfl⟩ ⟨Nat.zero_le _, Nat.zero_le _⟩ dX0_sendQuestionOf_2 (fun o19 I18 H locs h hR hS => ?_)
  refine v_astore_n (o := o19) (lv' := [(2, va_rf o19), (0, .ref a0), (1, .int x1)]) hx hb dX0_sendQuestionOf_5 rfl hl (by decide) rfl (fun ls hl => ?_)
  refine v_aload_n hx hb dX0_sendQuestionOf_6 rfl (hv_at hl 0 rfl) ?_
  refine v_ifnonnull (tgt := 15) hx hb dX0_sendQuestionOf_7 (by decide) (fun e_o19 => ?_) (fun r20 e_o19 => ?_)
  · replace h := h.1 e_o19
    have hl : hv ls 6 [(2, .null), (0, .ref a0), (1, .int x1)] := by (try rw [e_o19] at hl); exact hl
    try rw [e_o19]
    refine lv_bipush (v := (-5:Int32)) hx hb dX0_sendQuestionOf_10 (by decide) ?_
    refine lv_goto (tgt := 23) hx hb dX0_sendQuestionOf_12 (by decide) ?_
    exact hJ23 none (-5:Int32) I18 _ _ _ h hR hS (hv_sub hl [1, 2, 0] rfl)
  · replace h := h.2 r20 e_o19
    have hl : hv ls 6 [(2, .ref r20), (0, .ref a0), (1, .int x1)] := by (try rw [e_o19] at hl); exact hl
    try rw [e_o19]
    refine lv_aload_n hx hb dX0_sendQuestionOf_15 rfl (hv_at hl 0 rfl) ?_
    obtain ⟨hf21, h⟩ := h
    refine v_get (T := TX2) (v := .ref (r20 + 1)) C hR 0 kfl_X0_98 rfl inG2 (by decide) rfl (IsMaster.k hf21) (rf_of (IsMaster.r0 hf21 (I18 r20 0))) dX0_sendQuestionOf_16 ?_
    refine lv_iconst (v := (0:Int32)) hx hb dX0_sendQuestionOf_19 rfl ?_
    refine v_cVi (As := [.int (0:Int32)]) C hR hS hl.1.1 ca_X1_at kml_X0_111 (L_X1_at E l (r20 + 1) (0:Int32) I18 _ h) (IsLine.k (IsMaster.o0 hf21)) rfl rfl rfl rfl (Nat.le_of_ble_eq_true rfl) ⟨Nat.le_of_ble_eq_true rfl, Nat.le_of_ble_eq_true rfl⟩ ⟨Nat.zero_le _, Nat.zero_le _⟩ dX0_sendQuestionOf_20 (fun v23 I22 H locs h hR hS => ?_)
    exact hJ23 (some r20) v23 I22 _ _ _ h hR hS (hv_sub hl [1, 2, 0] rfl)
