set_option maxHeartbeats 4000000 in
set_option maxRecDepth 100000 in
theorem L_X6_hasRoomForText (E : Ev) (l : Launch) {K : MK} {R : MR} {n : Nat} (a0 : Nat) (I : MI) (Q : Int32 → MI → Prop) (h : w_X6_hasRoomForText K R a0 I Q) : MM E l yX6_hasRoomForText cX6_hasRoomForText 3 (some Jvm.ClassFile.FieldType.boolean) 2 42 0 0 [.ref a0] K R I n (Qi K R n Q) := by
  refine MM.of1 (by decide) RX6 rfl (cR cN) (Nat.le_of_ble_eq_true rfl) ?_
  intro p e s m args below meth c ls C hin hR hS hl
  have hx := C.1
  have hb := C.2.1
  have hml := C.2.2.1
  have hown := C.2.2.2.1
  have hts := C.2.2.2.2.1
  have hl : hv ls 3 [(0, .ref a0)] := hl
  clear hin
  have hJ64 : ∀ (I : MI) (H : Heap) (locs : List Loc) (ls : Array Slot), w_X6_hasRoomForText_b64 K R a0 Q  I → Rep E K R I n H → va_S (AA E) s.heap H locs → hv ls 3 [] → W p l e (rmM 2 42 0 0) s m args below meth c H locs 0 0 (MQ below (QcM E (Qi K R n Q)) args s 0 0 (AA E)) (F0 m 64 ls []) := by
    intro  I H locs ls h hR hS hl
    unfold w_X6_hasRoomForText_b64 at h
    refine lv_iconst (v := (0:Int32)) hx hb dX6_hasRoomForText_64 rfl ?_
    exact w_ireti C rfl rfl hR hS h dX6_hasRoomForText_65
  have hJ25 : ∀ (y1_25 : Int32) (I : MI) (H : Heap) (locs : List Loc) (ls : Array Slot), w_X6_hasRoomForText_b25 K R a0 Q y1_25 I → Rep E K R I n H → va_S (AA E) s.heap H locs → hv ls 3 [(0, .ref a0), (1, .int y1_25)] → W p l e (rmM 2 42 0 0) s m args below meth c H locs 0 0 (MQ below (QcM E (Qi K R n Q)) args s 0 0 (AA E)) (F0 m 25 ls []) := by
    intro y1_25 I H locs ls h hR hS hl
    obtain ⟨X25, hX25⟩ : ∃ X : Int32 → MI → Prop, ∀ (y1_25 : Int32) (I : MI), X y1_25 I ↔ (∀ (H : Heap) (locs : List Loc) (ls : Array Slot), Rep E K R I n H → va_S (AA E) s.heap H locs → hv ls 3 [(0, .ref a0), (1, .int y1_25)] → W p l e (rmM 2 42 0 0) s m args below meth c H locs 0 0 (MQ below (QcM E (Qi K R n Q)) args s 0 0 (AA E)) (F0 m 25 ls [])) := ⟨fun y1_25 I => ∀ (H : Heap) (locs : List Loc) (ls : Array Slot), Rep E K R I n H → va_S (AA E) s.heap H locs → hv ls 3 [(0, .ref a0), (1, .int y1_25)] → W p l e (rmM 2 42 0 0) s m args below meth c H locs 0 0 (MQ below (QcM E (Qi K R n Q)) args s 0 0 (AA E)) (F0 m 25 ls []), fun _ _ => Iff.rfl⟩
    refine (hX25 y1_25 I).mp (h X25 ?_) H locs ls hR hS hl
    clear h hR hS hl
    clear ls locs H I y1_25
    intro y1_25 I h
    refine (hX25 y1_25 I).mpr ?_
    intro H locs ls hR hS hl
    unfold w_X6_hasRoomForText_b25_body at h
    refine lv_iload_n hx hb dX6_hasRoomForText_25 rfl (hv_at hl 1 rfl) ?_
    refine lv_iconst (v := (4:Int32)) hx hb dX6_hasRoomForText_26 rfl ?_
    refine lv_icmp_ge (tgt := 72) hx hb dX6_hasRoomForText_27 (by decide) (fun c9 => ?_) (fun c9 => ?_)
    · replace h := h.1 c9
      refine lv_iconst (v := (1:Int32)) hx hb dX6_hasRoomForText_72 rfl ?_
      exact w_ireti C rfl rfl hR hS h dX6_hasRoomForText_73
    · replace h := h.2 c9
      refine lv_aload_n hx hb dX6_hasRoomForText_30 rfl (hv_at hl 0 rfl) ?_
      obtain ⟨hf1, h⟩ := h
      refine v_get (T := TX6) (v := .ref (a0 + 1)) C hR 0 kfl_X6_10 rfl inG6 (by decide) rfl (IsTag.k hf1) (rf_of (IsTag.r0 hf1 (I a0 0))) dX6_hasRoomForText_31 ?_
      refine lv_iload_n hx hb dX6_hasRoomForText_34 rfl (hv_at hl 1 rfl) ?_
      refine v_cVo (As := [.int y1_25]) C hR hS hl.1.1 ca_X0_masterAt kml_X6_58 (L_X0_masterAt E l (a0 + 1) y1_25 I _ h) (IsBus.k (IsTag.o0 hf1)) rfl rfl rfl rfl (Nat.le_of_ble_eq_true rfl) ⟨Nat.le_of_ble_eq_true rfl, Nat.le_of_ble_eq_true rfl⟩ ⟨Nat.zero_le _, Nat.zero_le _⟩ dX6_hasRoomForText_35 (fun o3 I2 H locs h hR hS => ?_)
      refine v_astore_n (o := o3) (lv' := [(2, va_rf o3), (0, .ref a0), (1, .int y1_25)]) hx hb dX6_hasRoomForText_38 rfl hl (by decide) rfl (fun ls hl => ?_)
      refine v_aload_n hx hb dX6_hasRoomForText_39 rfl (hv_at hl 0 rfl) ?_
      refine v_ifnull (tgt := 64) hx hb dX6_hasRoomForText_40 (by decide) (fun e_o3 => ?_) (fun r4 e_o3 => ?_)
      · replace h := h.1 e_o3
        have hl : hv ls 3 [(2, .null), (0, .ref a0), (1, .int y1_25)] := by (try rw [e_o3] at hl); exact hl
        try rw [e_o3]
        exact hJ64 I2 _ _ _ h hR hS (hv_sub hl [] rfl)
      · replace h := h.2 r4 e_o3
        have hl : hv ls 3 [(2, .ref r4), (0, .ref a0), (1, .int y1_25)] := by (try rw [e_o3] at hl); exact hl
        try rw [e_o3]
        refine lv_aload_n hx hb dX6_hasRoomForText_43 rfl (hv_at hl 0 rfl) ?_
        obtain ⟨hf5, h⟩ := h
        refine v_get (T := TX2) (v := .ref (r4 + 1)) C hR 0 kfl_X6_121 rfl inG2 (by decide) rfl (IsMaster.k hf5) (rf_of (IsMaster.r0 hf5 (I2 r4 0))) dX6_hasRoomForText_44 ?_
        refine v_get (T := TX1) (v := .int (I2 (r4 + 1) 1)) C hR 1 kfl_X6_125 rfl inG1 (by decide) rfl (IsLine.k (IsMaster.o0 hf5)) rfl dX6_hasRoomForText_47 ?_
        refine lv_aload_n hx hb dX6_hasRoomForText_50 rfl (hv_at hl 1 rfl) ?_
        refine v_get (T := TX6) (v := .ref (a0 + 716)) C hR 6 kfl_X6_29 rfl inG6 (by decide) rfl (IsTag.k hf1) (rf_of (IsTag.r6 hf1 (I2 a0 6))) dX6_hasRoomForText_51 ?_
        refine lv_iload_n hx hb dX6_hasRoomForText_54 rfl (hv_at hl 2 rfl) ?_
        refine v_cVi (As := [.int y1_25]) C hR hS hl.1.1 ca_X4_foundOf kml_X6_239 (L_X4_foundOf E l (a0 + 716) y1_25 I2 _ h) (IsText.k (IsTag.o6 hf1)) rfl rfl rfl rfl (Nat.le_of_ble_eq_true rfl) ⟨Nat.le_of_ble_eq_true rfl, Nat.le_of_ble_eq_true rfl⟩ ⟨Nat.zero_le _, Nat.zero_le _⟩ dX6_hasRoomForText_55 (fun v7 I6 H locs h hR hS => ?_)
        refine lv_iadd hx hb dX6_hasRoomForText_58 ?_
        refine lv_bipush (v := (6:Int32)) hx hb dX6_hasRoomForText_59 (by decide) ?_
        refine lv_icmp_le (tgt := 66) hx hb dX6_hasRoomForText_61 (by decide) (fun c8 => ?_) (fun c8 => ?_)
        · replace h := h.1 c8
          refine v_iinc (v := y1_25 + (1:Int32)) (k := 2) (lv' := [(1, .int (y1_25 + (1:Int32))), (2, .ref r4), (0, .ref a0)]) hx hb dX6_hasRoomForText_66 hl rfl rfl (by decide) rfl (fun ls hl => ?_)
          refine lv_goto (tgt := 25) hx hb dX6_hasRoomForText_69 (by decide) ?_
          exact (hX25 (y1_25 + (1:Int32)) I6).mp h _ _ _ hR hS (hv_sub hl [2, 0] rfl)
        · replace h := h.2 c8
          exact hJ64 I6 _ _ _ h hR hS (hv_sub hl [] rfl)
  unfold w_X6_hasRoomForText at h
  refine lv_aload_n hx hb dX6_hasRoomForText_0 rfl (hv_at hl 0 rfl) ?_
  obtain ⟨hf10, h⟩ := h
  refine v_get (T := TX6) (v := .ref (a0 + 1)) C hR 0 kfl_X6_10 rfl inG6 (by decide) rfl (IsTag.k hf10) (rf_of (IsTag.r0 hf10 (I a0 0))) dX6_hasRoomForText_1 ?_
  refine v_get (T := TX0) (v := .int (I (a0 + 1) 5)) C hR 5 kfl_X6_218 rfl inG0 (by decide) rfl (IsBus.k (IsTag.o0 hf10)) rfl dX6_hasRoomForText_4 ?_
  refine lv_aload_n hx hb dX6_hasRoomForText_7 rfl (hv_at hl 0 rfl) ?_
  refine v_get (T := TX6) (v := .ref (a0 + 716)) C hR 6 kfl_X6_29 rfl inG6 (by decide) rfl (IsTag.k hf10) (rf_of (IsTag.r6 hf10 (I a0 6))) dX6_hasRoomForText_8 ?_
  refine v_get (T := TX4) (v := .int (I (a0 + 716) 3)) C hR 3 kfl_X6_97 rfl inG4 (by decide) rfl (IsText.k (IsTag.o6 hf10)) rfl dX6_hasRoomForText_11 ?_
  refine lv_iadd hx hb dX6_hasRoomForText_14 ?_
  refine lv_sipush (v := (200:Int32)) hx hb dX6_hasRoomForText_15 (by decide) ?_
  refine lv_icmp_le (tgt := 23) hx hb dX6_hasRoomForText_18 (by decide) (fun c11 => ?_) (fun c11 => ?_)
  · replace h := h.1 c11
    refine lv_iconst (v := (0:Int32)) hx hb dX6_hasRoomForText_23 rfl ?_
    refine v_istore_n (lv' := [(1, .int (0:Int32)), (0, .ref a0)]) hx hb dX6_hasRoomForText_24 rfl hl (by decide) rfl (fun ls hl => ?_)
    exact hJ25 (0:Int32) I _ _ _ h hR hS (hv_sub hl [1, 0] rfl)
  · replace h := h.2 c11
    refine lv_iconst (v := (0:Int32)) hx hb dX6_hasRoomForText_21 rfl ?_
    exact w_ireti C rfl rfl hR hS h dX6_hasRoomForText_22
set_option maxHeartbeats 4000000 in
set_option maxRecDepth 100000 in
theorem L_X4_questionAt (E : Ev) (l : Launch) {K : MK} {R : MR} {n : Nat} (a0 : Nat) (x1 : Int32) (I : MI) (Q : Option Nat → MI → Prop) (h : w_X4_questionAt K R a0 x1 I Q) : MM E l yX4_questionAt cX4_questionAt 2 (some (Jvm.ClassFile.FieldType.object "TagBus$Question")) 1 21 0 0 [.ref a0, .int x1] K R I n (Qo K R n Q) := by
  refine MM.of1 (by decide) RX4 rfl (cR (cI cN)) (Nat.le_of_ble_eq_true rfl) ?_
  intro p e s m args below meth c ls C hin hR hS hl
  have hx := C.1
  have hb := C.2.1
  have hml := C.2.2.1
  have hown := C.2.2.2.1
  have hts := C.2.2.2.2.1
  have hl : hv ls 2 [(0, .ref a0), (1, .int x1)] := hl
  clear hin
  have hJ30 : ∀ (z0_30 : Option Nat) (I : MI) (H : Heap) (locs : List Loc) (ls : Array Slot), w_X4_questionAt_b30 K R a0 x1 Q z0_30 I → Rep E K R I n H → va_S (AA E) s.heap H locs → hv ls 2 [] → W p l e (rmM 1 21 0 0) s m args below meth c H locs 0 0 (MQ below (QcM E (Qo K R n Q)) args s 0 0 (AA E)) (F0 m 30 ls [va_rf z0_30]) := by
    intro z0_30 I H locs ls h hR hS hl
    unfold w_X4_questionAt_b30 at h
    exact w_aret (o := z0_30) C rfl hR hS h dX4_questionAt_30
  have hJ29 : ∀ (I : MI) (H : Heap) (locs : List Loc) (ls : Array Slot), w_X4_questionAt_b29 K R a0 x1 Q  I → Rep E K R I n H → va_S (AA E) s.heap H locs → hv ls 2 [] → W p l e (rmM 1 21 0 0) s m args below meth c H locs 0 0 (MQ below (QcM E (Qo K R n Q)) args s 0 0 (AA E)) (F0 m 29 ls []) := by
    intro  I H locs ls h hR hS hl
    unfold w_X4_questionAt_b29 at h
    refine lv_null hx hb dX4_questionAt_29 ?_
    exact hJ30 none I _ _ _ h hR hS (hv_sub hl [] rfl)
  unfold w_X4_questionAt at h
  refine lv_iload_n hx hb dX4_questionAt_0 rfl (hv_at hl 1 rfl) ?_
  refine lv_aload_n hx hb dX4_questionAt_1 rfl (hv_at hl 0 rfl) ?_
  obtain ⟨hf1, h⟩ := h
  refine v_get (T := TX4) (v := .int (I a0 3)) C hR 3 kfl_X4_30 rfl inG4 (by decide) rfl (IsText.k hf1) rfl dX4_questionAt_2 ?_
  refine v_cNi (As := [.int x1, .int (I a0 3)]) C hR hS hl.1.1 ca_X6_isIndex knm_X4_26 (L_X6_isIndex E l x1 (I a0 3) I _ h) rfl rfl (Nat.le_of_ble_eq_true rfl) ⟨Nat.le_of_ble_eq_true rfl, Nat.le_of_ble_eq_true rfl⟩ ⟨Nat.zero_le _, Nat.zero_le _⟩ dX4_questionAt_5 (fun v3 I2 H locs h hR hS => ?_)
  refine lv_if_eq (tgt := 29) hx hb dX4_questionAt_8 (by decide) (fun c8 => ?_) (fun c8 => ?_)
  · replace h := h.1 c8
    exact hJ29 I2 _ _ _ h hR hS (hv_sub hl [] rfl)
  · replace h := h.2 c8
    refine lv_iload_n hx hb dX4_questionAt_11 rfl (hv_at hl 1 rfl) ?_
    refine lv_bipush (v := (10:Int32)) hx hb dX4_questionAt_12 (by decide) ?_
    refine v_cNi (As := [.int x1, .int (10:Int32)]) C hR hS hl.1.1 ca_X6_isIndex knm_X4_26 (L_X6_isIndex E l x1 (10:Int32) I2 _ h) rfl rfl (Nat.le_of_ble_eq_true rfl) ⟨Nat.le_of_ble_eq_true rfl, Nat.le_of_ble_eq_true rfl⟩ ⟨Nat.zero_le _, Nat.zero_le _⟩ dX4_questionAt_14 (fun v5 I4 H locs h hR hS => ?_)
    refine lv_if_eq (tgt := 29) hx hb dX4_questionAt_17 (by decide) (fun c7 => ?_) (fun c7 => ?_)
    · replace h := h.1 c7
      exact hJ29 I4 _ _ _ h hR hS (hv_sub hl [] rfl)
    · replace h := h.2 c7
      refine lv_aload_n hx hb dX4_questionAt_20 rfl (hv_at hl 0 rfl) ?_
      refine v_get (T := TX4) (v := .ref (a0 + 2)) C hR 2 kfl_X4_17 rfl inG4 (by decide) rfl (IsText.k hf1) (rf_of (IsText.r2 hf1 (I4 a0 2))) dX4_questionAt_21 ?_
      refine lv_iload_n hx hb dX4_questionAt_24 rfl (hv_at hl 1 rfl) ?_
      obtain ⟨hi6, h⟩ := h
      refine w_aald C hR (w := a0 + 3 + (ix x1)) (IsText.a2 hf1) (by decide) rfl rfl hi6 (j := (ix x1)) rfl (IsText.e2 hf1 (vp_lt hi6) _) dX4_questionAt_25 ?_
      refine lv_goto (tgt := 30) hx hb dX4_questionAt_26 (by decide) ?_
      exact hJ30 (some (a0 + 3 + (ix x1))) I4 _ _ _ h hR hS (hv_sub hl [] rfl)
set_option maxHeartbeats 4000000 in
set_option maxRecDepth 100000 in
theorem L_X6_ask (E : Ev) (l : Launch) {K : MK} {R : MR} {n : Nat} (a0 : Nat) (I : MI) (Q : Int32 → MI → Prop) (h : w_X6_ask K R a0 I Q) : MM E l yX6_ask cX6_ask 4 (some Jvm.ClassFile.FieldType.int) 5 113 0 0 [.ref a0] K R I n (Qi K R n Q) := by
  refine MM.of1 (by decide) RX6 rfl (cR cN) (Nat.le_of_ble_eq_true rfl) ?_
  intro p e s m args below meth c ls C hin hR hS hl
  have hx := C.1
  have hb := C.2.1
  have hml := C.2.2.1
  have hown := C.2.2.2.1
  have hts := C.2.2.2.2.1
  have hl : hv ls 4 [(0, .ref a0)] := hl
  clear hin
  have hJ35 : ∀ (y2_35 : Int32) (I : MI) (H : Heap) (locs : List Loc) (ls : Array Slot), w_X6_ask_b35 K R a0 Q y2_35 I → Rep E K R I n H → va_S (AA E) s.heap H locs → hv ls 4 [(0, .ref a0), (2, .int y2_35)] → W p l e (rmM 5 113 0 0) s m args below meth c H locs 0 0 (MQ below (QcM E (Qi K R n Q)) args s 0 0 (AA E)) (F0 m 35 ls []) := by
    intro y2_35 I H locs ls h hR hS hl
    obtain ⟨X35, hX35⟩ : ∃ X : Int32 → MI → Prop, ∀ (y2_35 : Int32) (I : MI), X y2_35 I ↔ (∀ (H : Heap) (locs : List Loc) (ls : Array Slot), Rep E K R I n H → va_S (AA E) s.heap H locs → hv ls 4 [(0, .ref a0), (2, .int y2_35)] → W p l e (rmM 5 113 0 0) s m args below meth c H locs 0 0 (MQ below (QcM E (Qi K R n Q)) args s 0 0 (AA E)) (F0 m 35 ls [])) := ⟨fun y2_35 I => ∀ (H : Heap) (locs : List Loc) (ls : Array Slot), Rep E K R I n H → va_S (AA E) s.heap H locs → hv ls 4 [(0, .ref a0), (2, .int y2_35)] → W p l e (rmM 5 113 0 0) s m args below meth c H locs 0 0 (MQ below (QcM E (Qi K R n Q)) args s 0 0 (AA E)) (F0 m 35 ls []), fun _ _ => Iff.rfl⟩
    refine (hX35 y2_35 I).mp (h X35 ?_) H locs ls hR hS hl
    clear h hR hS hl
    clear ls locs H I y2_35
    have hJ83 : ∀ (y2_83 : Int32) (I : MI) (H : Heap) (locs : List Loc) (ls : Array Slot), w_X6_ask_b83 K R a0 Q X35 y2_83 I → Rep E K R I n H → va_S (AA E) s.heap H locs → hv ls 4 [(0, .ref a0), (2, .int y2_83)] → W p l e (rmM 5 113 0 0) s m args below meth c H locs 0 0 (MQ below (QcM E (Qi K R n Q)) args s 0 0 (AA E)) (F0 m 83 ls []) := by
      intro y2_83 I H locs ls h hR hS hl
      unfold w_X6_ask_b83 at h
      refine v_iinc (v := y2_83 + (1:Int32)) (k := 1) (lv' := [(2, .int (y2_83 + (1:Int32))), (0, .ref a0)]) hx hb dX6_ask_83 hl rfl rfl (by decide) rfl (fun ls hl => ?_)
      refine lv_goto (tgt := 35) hx hb dX6_ask_86 (by decide) ?_
      exact (hX35 (y2_83 + (1:Int32)) I).mp h _ _ _ hR hS (hv_sub hl [1, 0] rfl)
    intro y2_35 I h
    refine (hX35 y2_35 I).mpr ?_
    intro H locs ls hR hS hl
    unfold w_X6_ask_b35_body at h
    refine lv_iload_n hx hb dX6_ask_35 rfl (hv_at hl 1 rfl) ?_
    refine lv_aload_n hx hb dX6_ask_36 rfl (hv_at hl 0 rfl) ?_
    obtain ⟨hf1, h⟩ := h
    refine v_get (T := TX6) (v := .ref (a0 + 716)) C hR 6 kfl_X6_29 rfl inG6 (by decide) rfl (IsTag.k hf1) (rf_of (IsTag.r6 hf1 (I a0 6))) dX6_ask_37 ?_
    refine v_get (T := TX4) (v := .int (I (a0 + 716) 3)) C hR 3 kfl_X6_97 rfl inG4 (by decide) rfl (IsText.k (IsTag.o6 hf1)) rfl dX6_ask_40 ?_
    refine lv_icmp_ge (tgt := 89) hx hb dX6_ask_43 (by decide) (fun c8 => ?_) (fun c8 => ?_)
    · replace h := h.1 c8
      refine lv_aload_n hx hb dX6_ask_89 rfl (hv_at hl 0 rfl) ?_
      refine v_get (T := TX6) (v := .ref (a0 + 716)) C hR 6 kfl_X6_29 rfl inG6 (by decide) rfl (IsTag.k hf1) (rf_of (IsTag.r6 hf1 (I a0 6))) dX6_ask_90 ?_
      refine v_get (T := TX4) (v := .int (I (a0 + 716) 3)) C hR 3 kfl_X6_97 rfl inG4 (by decide) rfl (IsText.k (IsTag.o6 hf1)) rfl dX6_ask_93 ?_
      exact w_ireti C rfl rfl hR hS h dX6_ask_96
    · replace h := h.2 c8
      refine lv_aload_n hx hb dX6_ask_46 rfl (hv_at hl 0 rfl) ?_
      refine v_get (T := TX6) (v := .ref (a0 + 716)) C hR 6 kfl_X6_29 rfl inG6 (by decide) rfl (IsTag.k hf1) (rf_of (IsTag.r6 hf1 (I a0 6))) dX6_ask_47 ?_
      refine lv_iload_n hx hb dX6_ask_50 rfl (hv_at hl 1 rfl) ?_
      refine v_cVo (As := [.int y2_35]) C hR hS hl.1.1 ca_X4_questionAt kml_X6_100 (L_X4_questionAt E l (a0 + 716) y2_35 I _ h) (IsText.k (IsTag.o6 hf1)) rfl rfl rfl rfl (Nat.le_of_ble_eq_true rfl) ⟨Nat.le_of_ble_eq_true rfl, Nat.le_of_ble_eq_true rfl⟩ ⟨Nat.zero_le _, Nat.zero_le _⟩ dX6_ask_51 (fun o3 I2 H locs h hR hS => ?_)
      refine v_astore_n (o := o3) (lv' := [(3, va_rf o3), (0, .ref a0), (2, .int y2_35)]) hx hb dX6_ask_54 rfl hl (by decide) rfl (fun ls hl => ?_)
      refine v_aload_n hx hb dX6_ask_55 rfl (hv_at hl 0 rfl) ?_
      refine v_ifnull (tgt := 83) hx hb dX6_ask_56 (by decide) (fun e_o3 => ?_) (fun r4 e_o3 => ?_)
      · replace h := h.1 e_o3
        have hl : hv ls 4 [(3, .null), (0, .ref a0), (2, .int y2_35)] := by (try rw [e_o3] at hl); exact hl
        try rw [e_o3]
        exact hJ83 y2_35 I2 _ _ _ h hR hS (hv_sub hl [1, 2] rfl)
      · replace h := h.2 r4 e_o3
        have hl : hv ls 4 [(3, .ref r4), (0, .ref a0), (2, .int y2_35)] := by (try rw [e_o3] at hl); exact hl
        try rw [e_o3]
        refine lv_aload_n hx hb dX6_ask_59 rfl (hv_at hl 1 rfl) ?_
        refine v_get (T := TX6) (v := .ref (a0 + 1)) C hR 0 kfl_X6_10 rfl inG6 (by decide) rfl (IsTag.k hf1) (rf_of (IsTag.r0 hf1 (I2 a0 0))) dX6_ask_60 ?_
        refine lv_aload_n hx hb dX6_ask_63 rfl (hv_at hl 0 rfl) ?_
        obtain ⟨hf5, h⟩ := h
        refine v_get (T := TX3) (v := .int (I2 r4 0)) C hR 0 kfl_X6_104 rfl inG3 (by decide) rfl hf5 rfl dX6_ask_64 ?_
        refine lv_aload_n hx hb dX6_ask_67 rfl (hv_at hl 0 rfl) ?_
        refine v_get (T := TX3) (v := .int (I2 r4 1)) C hR 1 kfl_X6_109 rfl inG3 (by decide) rfl hf5 rfl dX6_ask_68 ?_
        refine lv_aload_n hx hb dX6_ask_71 rfl (hv_at hl 0 rfl) ?_
        refine v_get (T := TX3) (v := .int (I2 r4 2)) C hR 2 kfl_X6_112 rfl inG3 (by decide) rfl hf5 rfl dX6_ask_72 ?_
        refine lv_aload_n hx hb dX6_ask_75 rfl (hv_at hl 0 rfl) ?_
        refine v_get (T := TX3) (v := .int (I2 r4 3)) C hR 3 kfl_X6_115 rfl inG3 (by decide) rfl hf5 rfl dX6_ask_76 ?_
        refine v_cVi (As := [.int (I2 r4 0), .int (I2 r4 1), .int (I2 r4 2), .int (I2 r4 3)]) C hR hS hl.1.1 ca_X0_put kml_X6_118 (L_X0_put E l (a0 + 1) (I2 r4 0) (I2 r4 1) (I2 r4 2) (I2 r4 3) I2 _ h) (IsBus.k (IsTag.o0 hf1)) rfl rfl rfl rfl (Nat.le_of_ble_eq_true rfl) ⟨Nat.le_of_ble_eq_true rfl, Nat.le_of_ble_eq_true rfl⟩ ⟨Nat.zero_le _, Nat.zero_le _⟩ dX6_ask_79 (fun v7 I6 H locs h hR hS => ?_)
        refine lv_pop hx hb dX6_ask_82 rfl ?_
        exact hJ83 y2_35 I6 _ _ _ h hR hS (hv_sub hl [1, 2] rfl)
  unfold w_X6_ask at h
  refine lv_aload_n hx hb dX6_ask_0 rfl (hv_at hl 0 rfl) ?_
  obtain ⟨hf9, h⟩ := h
  refine v_get (T := TX6) (v := .ref (a0 + 716)) C hR 6 kfl_X6_29 rfl inG6 (by decide) rfl (IsTag.k hf9) (rf_of (IsTag.r6 hf9 (I a0 6))) dX6_ask_1 ?_
  refine v_cVi (As := []) C hR hS hl.1.1 ca_X4_findFault kml_X6_90 (L_X4_findFault E l (a0 + 716) I _ h) (IsText.k (IsTag.o6 hf9)) rfl rfl rfl rfl (Nat.le_of_ble_eq_true rfl) ⟨Nat.le_of_ble_eq_true rfl, Nat.le_of_ble_eq_true rfl⟩ ⟨Nat.zero_le _, Nat.zero_le _⟩ dX6_ask_4 (fun v11 I10 H locs h hR hS => ?_)
  refine v_istore_n (lv' := [(1, .int v11), (0, .ref a0)]) hx hb dX6_ask_7 rfl hl (by decide) rfl (fun ls hl => ?_)
  refine lv_iload_n hx hb dX6_ask_8 rfl (hv_at hl 0 rfl) ?_
  refine lv_bipush (v := (-5:Int32)) hx hb dX6_ask_9 (by decide) ?_
  refine lv_icmp_eq (tgt := 19) hx hb dX6_ask_11 (by decide) (fun c16 => ?_) (fun c16 => ?_)
  · replace h := h.1 c16
    refine lv_aload_n hx hb dX6_ask_19 rfl (hv_at hl 1 rfl) ?_
    refine v_cVi (As := []) C hR hS hl.1.1 ca_X6_hasRoomForText kml_X6_93 (L_X6_hasRoomForText E l a0 I10 _ h) (IsTag.k hf9) rfl rfl rfl rfl (Nat.le_of_ble_eq_true rfl) ⟨Nat.le_of_ble_eq_true rfl, Nat.le_of_ble_eq_true rfl⟩ ⟨Nat.zero_le _, Nat.zero_le _⟩ dX6_ask_20 (fun v13 I12 H locs h hR hS => ?_)
    refine lv_if_ne (tgt := 29) hx hb dX6_ask_23 (by decide) (fun c15 => ?_) (fun c15 => ?_)
    · replace h := h.1 c15
      refine lv_aload_n hx hb dX6_ask_29 rfl (hv_at hl 1 rfl) ?_
      refine v_cVv (As := []) C hR hS hl.1.1 ca_X6_record kml_X6_55 (L_X6_record E l a0 I12 _ h) (IsTag.k hf9) rfl rfl rfl rfl (Nat.le_of_ble_eq_true rfl) ⟨Nat.le_of_ble_eq_true rfl, Nat.le_of_ble_eq_true rfl⟩ ⟨Nat.zero_le _, Nat.zero_le _⟩ dX6_ask_30 (fun I14 H locs h hR hS => ?_)
      refine lv_iconst (v := (0:Int32)) hx hb dX6_ask_33 rfl ?_
      refine v_istore_n (lv' := [(2, .int (0:Int32)), (1, .int v11), (0, .ref a0)]) hx hb dX6_ask_34 rfl hl (by decide) rfl (fun ls hl => ?_)
      exact hJ35 (0:Int32) I14 _ _ _ h hR hS (hv_sub hl [2, 0] rfl)
    · replace h := h.2 c15
      refine lv_bipush (v := (-3:Int32)) hx hb dX6_ask_26 (by decide) ?_
      exact w_ireti C rfl rfl hR hS h dX6_ask_28
  · replace h := h.2 c16
    refine lv_bipush (v := (-100:Int32)) hx hb dX6_ask_14 (by decide) ?_
    refine lv_iload_n hx hb dX6_ask_16 rfl (hv_at hl 0 rfl) ?_
    refine lv_isub hx hb dX6_ask_17 ?_
    exact w_ireti C rfl rfl hR hS h dX6_ask_18
set_option maxHeartbeats 4000000 in
set_option maxRecDepth 100000 in
theorem L_X1_at (E : Ev) (l : Launch) {K : MK} {R : MR} {n : Nat} (a0 : Nat) (x1 : Int32) (I : MI) (Q : Int32 → MI → Prop) (h : w_X1_at K R a0 x1 I Q) : MM E l yX1_at cX1_at 2 (some Jvm.ClassFile.FieldType.int) 1 21 0 0 [.ref a0, .int x1] K R I n (Qi K R n Q) := by
  refine MM.of1 (by decide) RX1 rfl (cR (cI cN)) (Nat.le_of_ble_eq_true rfl) ?_
  intro p e s m args below meth c ls C hin hR hS hl
  have hx := C.1
  have hb := C.2.1
  have hml := C.2.2.1
  have hown := C.2.2.2.1
  have hts := C.2.2.2.2.1
  have hl : hv ls 2 [(0, .ref a0), (1, .int x1)] := hl
  clear hin
  have hJ31 : ∀ (z0_31 : Int32) (I : MI) (H : Heap) (locs : List Loc) (ls : Array Slot), w_X1_at_b31 K R a0 x1 Q z0_31 I → Rep E K R I n H → va_S (AA E) s.heap H locs → hv ls 2 [] → W p l e (rmM 1 21 0 0) s m args below meth c H locs 0 0 (MQ below (QcM E (Qi K R n Q)) args s 0 0 (AA E)) (F0 m 31 ls [.int z0_31]) := by
    intro z0_31 I H locs ls h hR hS hl
    unfold w_X1_at_b31 at h
    exact w_ireti C rfl rfl hR hS h dX1_at_31
  have hJ29 : ∀ (I : MI) (H : Heap) (locs : List Loc) (ls : Array Slot), w_X1_at_b29 K R a0 x1 Q  I → Rep E K R I n H → va_S (AA E) s.heap H locs → hv ls 2 [] → W p l e (rmM 1 21 0 0) s m args below meth c H locs 0 0 (MQ below (QcM E (Qi K R n Q)) args s 0 0 (AA E)) (F0 m 29 ls []) := by
    intro  I H locs ls h hR hS hl
    unfold w_X1_at_b29 at h
    refine lv_bipush (v := (-5:Int32)) hx hb dX1_at_29 (by decide) ?_
    exact hJ31 (-5:Int32) I _ _ _ h hR hS (hv_sub hl [] rfl)
  unfold w_X1_at at h
  refine lv_iload_n hx hb dX1_at_0 rfl (hv_at hl 1 rfl) ?_
  refine lv_aload_n hx hb dX1_at_1 rfl (hv_at hl 0 rfl) ?_
  obtain ⟨hf1, h⟩ := h
  refine v_get (T := TX1) (v := .int (I a0 1)) C hR 1 kfl_X1_15 rfl inG1 (by decide) rfl (IsLine.k hf1) rfl dX1_at_2 ?_
  refine v_cNi (As := [.int x1, .int (I a0 1)]) C hR hS hl.1.1 ca_X6_isIndex knm_X1_19 (L_X6_isIndex E l x1 (I a0 1) I _ h) rfl rfl (Nat.le_of_ble_eq_true rfl) ⟨Nat.le_of_ble_eq_true rfl, Nat.le_of_ble_eq_true rfl⟩ ⟨Nat.zero_le _, Nat.zero_le _⟩ dX1_at_5 (fun v3 I2 H locs h hR hS => ?_)
  refine lv_if_eq (tgt := 29) hx hb dX1_at_8 (by decide) (fun c8 => ?_) (fun c8 => ?_)
  · replace h := h.1 c8
    exact hJ29 I2 _ _ _ h hR hS (hv_sub hl [] rfl)
  · replace h := h.2 c8
    refine lv_iload_n hx hb dX1_at_11 rfl (hv_at hl 1 rfl) ?_
    refine lv_bipush (v := (6:Int32)) hx hb dX1_at_12 (by decide) ?_
    refine v_cNi (As := [.int x1, .int (6:Int32)]) C hR hS hl.1.1 ca_X6_isIndex knm_X1_19 (L_X6_isIndex E l x1 (6:Int32) I2 _ h) rfl rfl (Nat.le_of_ble_eq_true rfl) ⟨Nat.le_of_ble_eq_true rfl, Nat.le_of_ble_eq_true rfl⟩ ⟨Nat.zero_le _, Nat.zero_le _⟩ dX1_at_14 (fun v5 I4 H locs h hR hS => ?_)
    refine lv_if_eq (tgt := 29) hx hb dX1_at_17 (by decide) (fun c7 => ?_) (fun c7 => ?_)
    · replace h := h.1 c7
      exact hJ29 I4 _ _ _ h hR hS (hv_sub hl [] rfl)
    · replace h := h.2 c7
      refine lv_aload_n hx hb dX1_at_20 rfl (hv_at hl 0 rfl) ?_
      refine v_get (T := TX1) (v := .ref (a0 + 1)) C hR 0 kfl_X1_9 rfl inG1 (by decide) rfl (IsLine.k hf1) (rf_of (IsLine.r0 hf1 (I4 a0 0))) dX1_at_21 ?_
      refine lv_iload_n hx hb dX1_at_24 rfl (hv_at hl 1 rfl) ?_
      obtain ⟨hi6, h⟩ := h
      refine w_iald C hR (IsLine.a0 hf1) hi6 (j := (ix x1)) rfl dX1_at_25 ?_
      refine lv_goto (tgt := 31) hx hb dX1_at_26 (by decide) ?_
      exact hJ31 (I4 (a0 + 1) (ix x1)) I4 _ _ _ h hR hS (hv_sub hl [] rfl)
set_option maxHeartbeats 4000000 in
set_option maxRecDepth 100000 in
theorem L_X1_removeAt (E : Ev) (l : Launch) {K : MK} {R : MR} {n : Nat} (a0 : Nat) (x1 : Int32) (I : MI) (Q : MI → Prop) (h : w_X1_removeAt K R a0 x1 I Q) : MM E l yX1_removeAt cX1_removeAt 3 none 1 21 0 0 [.ref a0, .int x1] K R I n (Qv K R n Q) := by
  refine MM.of1 (by decide) RX1 rfl (cR (cI cN)) (Nat.le_of_ble_eq_true rfl) ?_
  intro p e s m args below meth c ls C hin hR hS hl
  have hx := C.1
  have hb := C.2.1
  have hml := C.2.2.1
  have hown := C.2.2.2.1
  have hts := C.2.2.2.2.1
  have hl : hv ls 3 [(0, .ref a0), (1, .int x1)] := hl
  clear hin
  have hJ50 : ∀ (I : MI) (H : Heap) (locs : List Loc) (ls : Array Slot), w_X1_removeAt_b50 K R a0 x1 Q  I → Rep E K R I n H → va_S (AA E) s.heap H locs → hv ls 3 [(0, .ref a0)] → W p l e (rmM 1 21 0 0) s m args below meth c H locs 0 0 (MQ below (QcM E (Qv K R n Q)) args s 0 0 (AA E)) (F0 m 50 ls []) := by
    intro  I H locs ls h hR hS hl
    unfold w_X1_removeAt_b50 at h
    refine lv_aload_n hx hb dX1_removeAt_50 rfl (hv_at hl 0 rfl) ?_
    refine lv_dup hx hb dX1_removeAt_51 rfl ?_
    obtain ⟨hf1, h⟩ := h
    refine v_get (T := TX1) (v := .int (I a0 1)) C hR 1 kfl_X1_15 rfl inG1 (by decide) rfl (IsLine.k hf1) rfl dX1_removeAt_52 ?_
    refine lv_iconst (v := (1:Int32)) hx hb dX1_removeAt_55 rfl ?_
    refine lv_isub hx hb dX1_removeAt_56 ?_
    obtain ⟨I2, hI2⟩ := ex_eq (upI I a0 1 ((I a0 1) - (1:Int32)))
    replace h := h I2 hI2
    refine v_put (T := TX1) (ty := .int) C hR hS 1 kfl_X1_15 rfl inG1 tyX1 tyX1_ok nmX1 (by decide) rfl (IsLine.k hf1) rfl (tyX1_ok 1 (by decide)) rfl rfl (fl_i_1_1 _ _ _) (Nat.le_of_ble_eq_true rfl) hI2 dX1_removeAt_57 (fun H locs hR hS => ?_)
    exact w_vret C rfl hR hS h dX1_removeAt_60
  have hJ16 : ∀ (y2_16 : Int32) (I : MI) (H : Heap) (locs : List Loc) (ls : Array Slot), w_X1_removeAt_b16 K R a0 x1 Q y2_16 I → Rep E K R I n H → va_S (AA E) s.heap H locs → hv ls 3 [(0, .ref a0), (2, .int y2_16)] → W p l e (rmM 1 21 0 0) s m args below meth c H locs 0 0 (MQ below (QcM E (Qv K R n Q)) args s 0 0 (AA E)) (F0 m 16 ls []) := by
    intro y2_16 I H locs ls h hR hS hl
    obtain ⟨X16, hX16⟩ : ∃ X : Int32 → MI → Prop, ∀ (y2_16 : Int32) (I : MI), X y2_16 I ↔ (∀ (H : Heap) (locs : List Loc) (ls : Array Slot), Rep E K R I n H → va_S (AA E) s.heap H locs → hv ls 3 [(0, .ref a0), (2, .int y2_16)] → W p l e (rmM 1 21 0 0) s m args below meth c H locs 0 0 (MQ below (QcM E (Qv K R n Q)) args s 0 0 (AA E)) (F0 m 16 ls [])) := ⟨fun y2_16 I => ∀ (H : Heap) (locs : List Loc) (ls : Array Slot), Rep E K R I n H → va_S (AA E) s.heap H locs → hv ls 3 [(0, .ref a0), (2, .int y2_16)] → W p l e (rmM 1 21 0 0) s m args below meth c H locs 0 0 (MQ below (QcM E (Qv K R n Q)) args s 0 0 (AA E)) (F0 m 16 ls []), fun _ _ => Iff.rfl⟩
    refine (hX16 y2_16 I).mp (h X16 ?_) H locs ls hR hS hl
    clear h hR hS hl
    clear ls locs H I y2_16
    intro y2_16 I h
    refine (hX16 y2_16 I).mpr ?_
    intro H locs ls hR hS hl
    unfold w_X1_removeAt_b16_body at h
    refine lv_iload_n hx hb dX1_removeAt_16 rfl (hv_at hl 1 rfl) ?_
    refine lv_aload_n hx hb dX1_removeAt_17 rfl (hv_at hl 0 rfl) ?_
    obtain ⟨hf3, h⟩ := h
    refine v_get (T := TX1) (v := .int (I a0 1)) C hR 1 kfl_X1_15 rfl inG1 (by decide) rfl (IsLine.k hf3) rfl dX1_removeAt_18 ?_
    refine lv_icmp_ge (tgt := 50) hx hb dX1_removeAt_21 (by decide) (fun c8 => ?_) (fun c8 => ?_)
    · replace h := h.1 c8
      exact hJ50 I _ _ _ h hR hS (hv_sub hl [0] rfl)
    · replace h := h.2 c8
      refine lv_iload_n hx hb dX1_removeAt_24 rfl (hv_at hl 1 rfl) ?_
      refine lv_bipush (v := (6:Int32)) hx hb dX1_removeAt_25 (by decide) ?_
      refine lv_icmp_ge (tgt := 50) hx hb dX1_removeAt_27 (by decide) (fun c7 => ?_) (fun c7 => ?_)
      · replace h := h.1 c7
        exact hJ50 I _ _ _ h hR hS (hv_sub hl [0] rfl)
      · replace h := h.2 c7
        refine lv_aload_n hx hb dX1_removeAt_30 rfl (hv_at hl 0 rfl) ?_
        refine v_get (T := TX1) (v := .ref (a0 + 1)) C hR 0 kfl_X1_9 rfl inG1 (by decide) rfl (IsLine.k hf3) (rf_of (IsLine.r0 hf3 (I a0 0))) dX1_removeAt_31 ?_
        refine lv_iload_n hx hb dX1_removeAt_34 rfl (hv_at hl 1 rfl) ?_
        refine lv_iconst (v := (1:Int32)) hx hb dX1_removeAt_35 rfl ?_
        refine lv_isub hx hb dX1_removeAt_36 ?_
        refine lv_aload_n hx hb dX1_removeAt_37 rfl (hv_at hl 0 rfl) ?_
        refine v_get (T := TX1) (v := .ref (a0 + 1)) C hR 0 kfl_X1_9 rfl inG1 (by decide) rfl (IsLine.k hf3) (rf_of (IsLine.r0 hf3 (I a0 0))) dX1_removeAt_38 ?_
        refine lv_iload_n hx hb dX1_removeAt_41 rfl (hv_at hl 1 rfl) ?_
        obtain ⟨hi4, h⟩ := h
        refine w_iald C hR (IsLine.a0 hf3) hi4 (j := (ix y2_16)) rfl dX1_removeAt_42 ?_
        obtain ⟨hi5, h⟩ := h
        obtain ⟨I6, hI6⟩ := ex_eq (upI I (a0 + 1) (ix (y2_16 - (1:Int32))) (I (a0 + 1) (ix y2_16)))
        replace h := h I6 hI6
        refine w_iast C hR hS (IsLine.a0 hf3) hi5 (j := (ix (y2_16 - (1:Int32)))) rfl hI6 dX1_removeAt_43 (fun H locs hR hS => ?_)
        refine v_iinc (v := y2_16 + (1:Int32)) (k := 1) (lv' := [(2, .int (y2_16 + (1:Int32))), (0, .ref a0)]) hx hb dX1_removeAt_44 hl rfl rfl (by decide) rfl (fun ls hl => ?_)
        refine lv_goto (tgt := 16) hx hb dX1_removeAt_47 (by decide) ?_
        exact (hX16 (y2_16 + (1:Int32)) I6).mp h _ _ _ hR hS (hv_sub hl [1, 0] rfl)
  unfold w_X1_removeAt at h
  refine lv_iload_n hx hb dX1_removeAt_0 rfl (hv_at hl 1 rfl) ?_
  refine lv_aload_n hx hb dX1_removeAt_1 rfl (hv_at hl 0 rfl) ?_
  obtain ⟨hf9, h⟩ := h
  refine v_get (T := TX1) (v := .int (I a0 1)) C hR 1 kfl_X1_15 rfl inG1 (by decide) rfl (IsLine.k hf9) rfl dX1_removeAt_2 ?_
  refine v_cNi (As := [.int x1, .int (I a0 1)]) C hR hS hl.1.1 ca_X6_isIndex knm_X1_19 (L_X6_isIndex E l x1 (I a0 1) I _ h) rfl rfl (Nat.le_of_ble_eq_true rfl) ⟨Nat.le_of_ble_eq_true rfl, Nat.le_of_ble_eq_true rfl⟩ ⟨Nat.zero_le _, Nat.zero_le _⟩ dX1_removeAt_5 (fun v11 I10 H locs h hR hS => ?_)
  refine lv_if_ne (tgt := 12) hx hb dX1_removeAt_8 (by decide) (fun c12 => ?_) (fun c12 => ?_)
  · replace h := h.1 c12
    refine lv_iload_n hx hb dX1_removeAt_12 rfl (hv_at hl 1 rfl) ?_
    refine lv_iconst (v := (1:Int32)) hx hb dX1_removeAt_13 rfl ?_
    refine lv_iadd hx hb dX1_removeAt_14 ?_
    refine v_istore_n (lv' := [(2, .int (x1 + (1:Int32))), (0, .ref a0), (1, .int x1)]) hx hb dX1_removeAt_15 rfl hl (by decide) rfl (fun ls hl => ?_)
    exact hJ16 (x1 + (1:Int32)) I10 _ _ _ h hR hS (hv_sub hl [1, 0] rfl)
  · replace h := h.2 c12
    exact w_vret C rfl hR hS h dX1_removeAt_11
set_option maxHeartbeats 4000000 in
set_option maxRecDepth 100000 in
theorem L_X0_questionAt (E : Ev) (l : Launch) {K : MK} {R : MR} {n : Nat} (a0 : Nat) (x1 : Int32) (I : MI) (Q : Option Nat → MI → Prop) (h : w_X0_questionAt K R a0 x1 I Q) : MM E l yX0_questionAt cX0_questionAt 2 (some (Jvm.ClassFile.FieldType.object "TagBus$Question")) 1 21 0 0 [.ref a0, .int x1] K R I n (Qo K R n Q) := by
  refine MM.of1 (by decide) RX0 rfl (cR (cI cN)) (Nat.le_of_ble_eq_true rfl) ?_
  intro p e s m args below meth c ls C hin hR hS hl
  have hx := C.1
  have hb := C.2.1
  have hml := C.2.2.1
  have hown := C.2.2.2.1
  have hts := C.2.2.2.2.1
  have hl : hv ls 2 [(0, .ref a0), (1, .int x1)] := hl
  clear hin
  have hJ31 : ∀ (z0_31 : Option Nat) (I : MI) (H : Heap) (locs : List Loc) (ls : Array Slot), w_X0_questionAt_b31 K R a0 x1 Q z0_31 I → Rep E K R I n H → va_S (AA E) s.heap H locs → hv ls 2 [] → W p l e (rmM 1 21 0 0) s m args below meth c H locs 0 0 (MQ below (QcM E (Qo K R n Q)) args s 0 0 (AA E)) (F0 m 31 ls [va_rf z0_31]) := by
    intro z0_31 I H locs ls h hR hS hl
    unfold w_X0_questionAt_b31 at h
    exact w_aret (o := z0_31) C rfl hR hS h dX0_questionAt_31
  have hJ30 : ∀ (I : MI) (H : Heap) (locs : List Loc) (ls : Array Slot), w_X0_questionAt_b30 K R a0 x1 Q  I → Rep E K R I n H → va_S (AA E) s.heap H locs → hv ls 2 [] → W p l e (rmM 1 21 0 0) s m args below meth c H locs 0 0 (MQ below (QcM E (Qo K R n Q)) args s 0 0 (AA E)) (F0 m 30 ls []) := by
    intro  I H locs ls h hR hS hl
    unfold w_X0_questionAt_b30 at h
    refine lv_null hx hb dX0_questionAt_30 ?_
    exact hJ31 none I _ _ _ h hR hS (hv_sub hl [] rfl)
  unfold w_X0_questionAt at h
  refine lv_iload_n hx hb dX0_questionAt_0 rfl (hv_at hl 1 rfl) ?_
  refine lv_aload_n hx hb dX0_questionAt_1 rfl (hv_at hl 0 rfl) ?_
  obtain ⟨hf1, h⟩ := h
  refine v_get (T := TX0) (v := .int (I a0 5)) C hR 5 kfl_X0_56 rfl inG0 (by decide) rfl (IsBus.k hf1) rfl dX0_questionAt_2 ?_
  refine v_cNi (As := [.int x1, .int (I a0 5)]) C hR hS hl.1.1 ca_X6_isIndex knm_X0_86 (L_X6_isIndex E l x1 (I a0 5) I _ h) rfl rfl (Nat.le_of_ble_eq_true rfl) ⟨Nat.le_of_ble_eq_true rfl, Nat.le_of_ble_eq_true rfl⟩ ⟨Nat.zero_le _, Nat.zero_le _⟩ dX0_questionAt_5 (fun v3 I2 H locs h hR hS => ?_)
  refine lv_if_eq (tgt := 30) hx hb dX0_questionAt_8 (by decide) (fun c8 => ?_) (fun c8 => ?_)
  · replace h := h.1 c8
    exact hJ30 I2 _ _ _ h hR hS (hv_sub hl [] rfl)
  · replace h := h.2 c8
    refine lv_iload_n hx hb dX0_questionAt_11 rfl (hv_at hl 1 rfl) ?_
    refine lv_sipush (v := (200:Int32)) hx hb dX0_questionAt_12 (by decide) ?_
    refine v_cNi (As := [.int x1, .int (200:Int32)]) C hR hS hl.1.1 ca_X6_isIndex knm_X0_86 (L_X6_isIndex E l x1 (200:Int32) I2 _ h) rfl rfl (Nat.le_of_ble_eq_true rfl) ⟨Nat.le_of_ble_eq_true rfl, Nat.le_of_ble_eq_true rfl⟩ ⟨Nat.zero_le _, Nat.zero_le _⟩ dX0_questionAt_15 (fun v5 I4 H locs h hR hS => ?_)
    refine lv_if_eq (tgt := 30) hx hb dX0_questionAt_18 (by decide) (fun c7 => ?_) (fun c7 => ?_)
    · replace h := h.1 c7
      exact hJ30 I4 _ _ _ h hR hS (hv_sub hl [] rfl)
    · replace h := h.2 c7
      refine lv_aload_n hx hb dX0_questionAt_21 rfl (hv_at hl 0 rfl) ?_
      refine v_get (T := TX0) (v := .ref (a0 + 5)) C hR 4 kfl_X0_32 rfl inG0 (by decide) rfl (IsBus.k hf1) (rf_of (IsBus.r4 hf1 (I4 a0 4))) dX0_questionAt_22 ?_
      refine lv_iload_n hx hb dX0_questionAt_25 rfl (hv_at hl 1 rfl) ?_
      obtain ⟨hi6, h⟩ := h
      refine w_aald C hR (w := a0 + 38 + (ix x1)) (IsBus.a4 hf1) (by decide) rfl rfl hi6 (j := (ix x1)) rfl (IsBus.e4 hf1 (vp_lt hi6) _) dX0_questionAt_26 ?_
      refine lv_goto (tgt := 31) hx hb dX0_questionAt_27 (by decide) ?_
      exact hJ31 (some (a0 + 38 + (ix x1))) I4 _ _ _ h hR hS (hv_sub hl [] rfl)
set_option maxHeartbeats 4000000 in
set_option maxRecDepth 100000 in
theorem L_X0_takeLastOf (E : Ev) (l : Launch) {K : MK} {R : MR} {n : Nat} (a0 : Nat) (o1 : Option Nat) (I : MI) (Q : Int32 → MI → Prop) (h : w_X0_takeLastOf K R a0 o1 I Q) : MM E l yX0_takeLastOf cX0_takeLastOf 5 (some Jvm.ClassFile.FieldType.int) 2 43 0 0 [.ref a0, va_rf o1] K R I n (Qi K R n Q) := by
  refine MM.of1 (by decide) RX0 rfl (cR (cO cN)) (Nat.le_of_ble_eq_true rfl) ?_
  intro p e s m args below meth c ls C hin hR hS hl
  have hx := C.1
  have hb := C.2.1
  have hml := C.2.2.1
  have hown := C.2.2.2.1
  have hts := C.2.2.2.2.1
  have hl : hv ls 5 [(0, .ref a0), (1, va_rf o1)] := hl
  clear hin
  have hJ60 : ∀ (y3_60 : Int32) (I : MI) (H : Heap) (locs : List Loc) (ls : Array Slot), w_X0_takeLastOf_b60 K R a0 o1 Q y3_60 I → Rep E K R I n H → va_S (AA E) s.heap H locs → hv ls 5 [(3, .int y3_60)] → W p l e (rmM 2 43 0 0) s m args below meth c H locs 0 0 (MQ below (QcM E (Qi K R n Q)) args s 0 0 (AA E)) (F0 m 60 ls []) := by
    intro y3_60 I H locs ls h hR hS hl
    unfold w_X0_takeLastOf_b60 at h
    refine lv_iload_n hx hb dX0_takeLastOf_60 rfl (hv_at hl 0 rfl) ?_
    exact w_ireti C rfl rfl hR hS h dX0_takeLastOf_61
  have hJ42 : ∀ (y3_42 : Int32) (I : MI) (H : Heap) (locs : List Loc) (ls : Array Slot), w_X0_takeLastOf_b42 K R a0 o1 Q y3_42 I → Rep E K R I n H → va_S (AA E) s.heap H locs → hv ls 5 [(0, .ref a0), (3, .int y3_42)] → W p l e (rmM 2 43 0 0) s m args below meth c H locs 0 0 (MQ below (QcM E (Qi K R n Q)) args s 0 0 (AA E)) (F0 m 42 ls []) := by
    intro y3_42 I H locs ls h hR hS hl
    unfold w_X0_takeLastOf_b42 at h
    refine lv_aload_n hx hb dX0_takeLastOf_42 rfl (hv_at hl 0 rfl) ?_
    refine lv_iload_n hx hb dX0_takeLastOf_43 rfl (hv_at hl 1 rfl) ?_
    obtain ⟨hf1, h⟩ := h
    refine v_cVo (As := [.int y3_42]) C hR hS hl.1.1 ca_X0_questionAt kml_X0_121 (L_X0_questionAt E l a0 y3_42 I _ h) (IsBus.k hf1) rfl rfl rfl rfl (Nat.le_of_ble_eq_true rfl) ⟨Nat.le_of_ble_eq_true rfl, Nat.le_of_ble_eq_true rfl⟩ ⟨Nat.zero_le _, Nat.zero_le _⟩ dX0_takeLastOf_44 (fun o3 I2 H locs h hR hS => ?_)
    refine v_astore (o := o3) (lv' := [(4, va_rf o3), (0, .ref a0), (3, .int y3_42)]) hx hb dX0_takeLastOf_47 hl (by decide) rfl (fun ls hl => ?_)
    refine v_aload hx hb dX0_takeLastOf_49 (hv_at hl 0 rfl) ?_
    refine v_ifnull (tgt := 60) hx hb dX0_takeLastOf_51 (by decide) (fun e_o3 => ?_) (fun r4 e_o3 => ?_)
    · replace h := h.1 e_o3
      have hl : hv ls 5 [(4, .null), (0, .ref a0), (3, .int y3_42)] := by (try rw [e_o3] at hl); exact hl
      try rw [e_o3]
      exact hJ60 y3_42 I2 _ _ _ h hR hS (hv_sub hl [2] rfl)
    · replace h := h.2 r4 e_o3
      have hl : hv ls 5 [(4, .ref r4), (0, .ref a0), (3, .int y3_42)] := by (try rw [e_o3] at hl); exact hl
      try rw [e_o3]
      refine lv_aload hx hb dX0_takeLastOf_54 (hv_at hl 0 rfl) ?_
      refine lv_iconst (v := (4:Int32)) hx hb dX0_takeLastOf_56 rfl ?_
      obtain ⟨hf5, h⟩ := h
      obtain ⟨I6, hI6⟩ := ex_eq (upI I2 r4 4 (4:Int32))
      replace h := h I6 hI6
      refine v_put (T := TX3) (ty := .int) C hR hS 4 kfl_X0_125 rfl inG3 tyX3 tyX3_ok nmX3 (by decide) rfl hf5 rfl (tyX3_ok 4 (by decide)) rfl rfl (fl_i_3_4 _ _ _) (Nat.le_of_ble_eq_true rfl) hI6 dX0_takeLastOf_57 (fun H locs hR hS => ?_)
      exact hJ60 y3_42 I6 _ _ _ h hR hS (hv_sub hl [2] rfl)
  unfold w_X0_takeLastOf at h
  refine v_aload_n hx hb dX0_takeLastOf_0 rfl (hv_at hl 1 rfl) ?_
  obtain ⟨r7, e_o1, h⟩ := h
  have hl : hv ls 5 [(0, .ref a0), (1, .ref r7)] := by (try rw [e_o1] at hl); exact hl
  try rw [e_o1]
  obtain ⟨hf8, h⟩ := h
  refine v_get (T := TX2) (v := .ref (r7 + 1)) C hR 0 kfl_X0_98 rfl inG2 (by decide) rfl (IsMaster.k hf8) (rf_of (IsMaster.r0 hf8 (I r7 0))) dX0_takeLastOf_1 ?_
  refine v_get (T := TX1) (v := .int (I (r7 + 1) 1)) C hR 1 kfl_X0_108 rfl inG1 (by decide) rfl (IsLine.k (IsMaster.o0 hf8)) rfl dX0_takeLastOf_4 ?_
  refine lv_iconst (v := (1:Int32)) hx hb dX0_takeLastOf_7 rfl ?_
  refine lv_isub hx hb dX0_takeLastOf_8 ?_
  refine v_istore_n (lv' := [(2, .int ((I (r7 + 1) 1) - (1:Int32))), (0, .ref a0), (1, .ref r7)]) hx hb dX0_takeLastOf_9 rfl hl (by decide) rfl (fun ls hl => ?_)
  refine lv_aload_n hx hb dX0_takeLastOf_10 rfl (hv_at hl 2 rfl) ?_
  refine v_get (T := TX2) (v := .ref (r7 + 1)) C hR 0 kfl_X0_98 rfl inG2 (by decide) rfl (IsMaster.k hf8) (rf_of (IsMaster.r0 hf8 (I r7 0))) dX0_takeLastOf_11 ?_
  refine lv_iload_n hx hb dX0_takeLastOf_14 rfl (hv_at hl 0 rfl) ?_
  refine v_cVi (As := [.int ((I (r7 + 1) 1) - (1:Int32))]) C hR hS hl.1.1 ca_X1_at kml_X0_111 (L_X1_at E l (r7 + 1) ((I (r7 + 1) 1) - (1:Int32)) I _ h) (IsLine.k (IsMaster.o0 hf8)) rfl rfl rfl rfl (Nat.le_of_ble_eq_true rfl) ⟨Nat.le_of_ble_eq_true rfl, Nat.le_of_ble_eq_true rfl⟩ ⟨Nat.zero_le _, Nat.zero_le _⟩ dX0_takeLastOf_15 (fun v10 I9 H locs h hR hS => ?_)
  refine v_istore_n (lv' := [(3, .int v10), (2, .int ((I (r7 + 1) 1) - (1:Int32))), (0, .ref a0), (1, .ref r7)]) hx hb dX0_takeLastOf_18 rfl hl (by decide) rfl (fun ls hl => ?_)
  refine lv_aload_n hx hb dX0_takeLastOf_19 rfl (hv_at hl 3 rfl) ?_
  refine v_get (T := TX2) (v := .ref (r7 + 1)) C hR 0 kfl_X0_98 rfl inG2 (by decide) rfl (IsMaster.k hf8) (rf_of (IsMaster.r0 hf8 (I9 r7 0))) dX0_takeLastOf_20 ?_
  refine lv_iload_n hx hb dX0_takeLastOf_23 rfl (hv_at hl 1 rfl) ?_
  refine v_cVv (As := [.int ((I (r7 + 1) 1) - (1:Int32))]) C hR hS hl.1.1 ca_X1_removeAt kml_X0_115 (L_X1_removeAt E l (r7 + 1) ((I (r7 + 1) 1) - (1:Int32)) I9 _ h) (IsLine.k (IsMaster.o0 hf8)) rfl rfl rfl rfl (Nat.le_of_ble_eq_true rfl) ⟨Nat.le_of_ble_eq_true rfl, Nat.le_of_ble_eq_true rfl⟩ ⟨Nat.zero_le _, Nat.zero_le _⟩ dX0_takeLastOf_24 (fun I11 H locs h hR hS => ?_)
  refine lv_aload_n hx hb dX0_takeLastOf_27 rfl (hv_at hl 3 rfl) ?_
  refine v_get (T := TX2) (v := .ref (r7 + 1)) C hR 0 kfl_X0_98 rfl inG2 (by decide) rfl (IsMaster.k hf8) (rf_of (IsMaster.r0 hf8 (I11 r7 0))) dX0_takeLastOf_28 ?_
  refine v_get (T := TX1) (v := .int (I11 (r7 + 1) 1)) C hR 1 kfl_X0_108 rfl inG1 (by decide) rfl (IsLine.k (IsMaster.o0 hf8)) rfl dX0_takeLastOf_31 ?_
  refine lv_if_ne (tgt := 42) hx hb dX0_takeLastOf_34 (by decide) (fun c13 => ?_) (fun c13 => ?_)
  · replace h := h.1 c13
    exact hJ42 v10 I11 _ _ _ h hR hS (hv_sub hl [2, 0] rfl)
  · replace h := h.2 c13
    refine lv_aload_n hx hb dX0_takeLastOf_37 rfl (hv_at hl 3 rfl) ?_
    refine lv_iconst (v := (0:Int32)) hx hb dX0_takeLastOf_38 rfl ?_
    obtain ⟨I12, hI12⟩ := ex_eq (upI I11 r7 5 (0:Int32))
    replace h := h I12 hI12
    refine v_put (T := TX2) (ty := .int) C hR hS 5 kfl_X0_118 rfl inG2 tyX2 tyX2_ok nmX2 (by decide) rfl (IsMaster.k hf8) rfl (tyX2_ok 5 (by decide)) rfl rfl (fl_i_2_5 _ _ _) (Nat.le_of_ble_eq_true rfl) hI12 dX0_takeLastOf_39 (fun H locs hR hS => ?_)
    exact hJ42 v10 I12 _ _ _ h hR hS (hv_sub hl [2, 0] rfl)
set_option maxHeartbeats 4000000 in
set_option maxRecDepth 100000 in
theorem L_X6_withdraw (E : Ev) (l : Launch) {K : MK} {R : MR} {n : Nat} (a0 : Nat) (x1 : Int32) (I : MI) (Q : Int32 → MI → Prop) (h : w_X6_withdraw K R a0 x1 I Q) : MM E l yX6_withdraw cX6_withdraw 3 (some Jvm.ClassFile.FieldType.int) 5 112 0 0 [.ref a0, .int x1] K R I n (Qi K R n Q) := by
  refine MM.of1 (by decide) RX6 rfl (cR (cI cN)) (Nat.le_of_ble_eq_true rfl) ?_
  intro p e s m args below meth c ls C hin hR hS hl
  have hx := C.1
  have hb := C.2.1
  have hml := C.2.2.1
  have hown := C.2.2.2.1
  have hts := C.2.2.2.2.1
  have hl : hv ls 3 [(0, .ref a0), (1, .int x1)] := hl
  clear hin
  unfold w_X6_withdraw at h
  refine lv_aload_n hx hb dX6_withdraw_0 rfl (hv_at hl 0 rfl) ?_
  obtain ⟨hf1, h⟩ := h
  refine v_get (T := TX6) (v := .ref (a0 + 1)) C hR 0 kfl_X6_10 rfl inG6 (by decide) rfl (IsTag.k hf1) (rf_of (IsTag.r0 hf1 (I a0 0))) dX6_withdraw_1 ?_
  refine lv_iload_n hx hb dX6_withdraw_4 rfl (hv_at hl 1 rfl) ?_
  refine v_cVo (As := [.int x1]) C hR hS hl.1.1 ca_X0_masterAt kml_X6_58 (L_X0_masterAt E l (a0 + 1) x1 I _ h) (IsBus.k (IsTag.o0 hf1)) rfl rfl rfl rfl (Nat.le_of_ble_eq_true rfl) ⟨Nat.le_of_ble_eq_true rfl, Nat.le_of_ble_eq_true rfl⟩ ⟨Nat.zero_le _, Nat.zero_le _⟩ dX6_withdraw_5 (fun o3 I2 H locs h hR hS => ?_)
  refine v_astore_n (o := o3) (lv' := [(2, va_rf o3), (0, .ref a0), (1, .int x1)]) hx hb dX6_withdraw_8 rfl hl (by decide) rfl (fun ls hl => ?_)
  refine v_aload_n hx hb dX6_withdraw_9 rfl (hv_at hl 0 rfl) ?_
  refine v_ifnonnull (tgt := 15) hx hb dX6_withdraw_10 (by decide) (fun e_o3 => ?_) (fun r4 e_o3 => ?_)
  · replace h := h.1 e_o3
    have hl : hv ls 3 [(2, .null), (0, .ref a0), (1, .int x1)] := by (try rw [e_o3] at hl); exact hl
    try rw [e_o3]
    refine lv_iconst (v := (-1:Int32)) hx hb dX6_withdraw_13 rfl ?_
    exact w_ireti C rfl rfl hR hS h dX6_withdraw_14
  · replace h := h.2 r4 e_o3
    have hl : hv ls 3 [(2, .ref r4), (0, .ref a0), (1, .int x1)] := by (try rw [e_o3] at hl); exact hl
    try rw [e_o3]
    refine lv_aload_n hx hb dX6_withdraw_15 rfl (hv_at hl 0 rfl) ?_
    obtain ⟨hf5, h⟩ := h
    refine v_get (T := TX2) (v := .ref (r4 + 1)) C hR 0 kfl_X6_121 rfl inG2 (by decide) rfl (IsMaster.k hf5) (rf_of (IsMaster.r0 hf5 (I2 r4 0))) dX6_withdraw_16 ?_
    refine v_get (T := TX1) (v := .int (I2 (r4 + 1) 1)) C hR 1 kfl_X6_125 rfl inG1 (by decide) rfl (IsLine.k (IsMaster.o0 hf5)) rfl dX6_withdraw_19 ?_
    refine lv_if_ne (tgt := 28) hx hb dX6_withdraw_22 (by decide) (fun c9 => ?_) (fun c9 => ?_)
    · replace h := h.1 c9
      refine lv_aload_n hx hb dX6_withdraw_28 rfl (hv_at hl 1 rfl) ?_
      refine v_cVv (As := []) C hR hS hl.1.1 ca_X6_record kml_X6_55 (L_X6_record E l a0 I2 _ h) (IsTag.k hf1) rfl rfl rfl rfl (Nat.le_of_ble_eq_true rfl) ⟨Nat.le_of_ble_eq_true rfl, Nat.le_of_ble_eq_true rfl⟩ ⟨Nat.zero_le _, Nat.zero_le _⟩ dX6_withdraw_29 (fun I6 H locs h hR hS => ?_)
      refine lv_aload_n hx hb dX6_withdraw_32 rfl (hv_at hl 1 rfl) ?_
      refine v_get (T := TX6) (v := .ref (a0 + 1)) C hR 0 kfl_X6_10 rfl inG6 (by decide) rfl (IsTag.k hf1) (rf_of (IsTag.r0 hf1 (I6 a0 0))) dX6_withdraw_33 ?_
      refine lv_aload_n hx hb dX6_withdraw_36 rfl (hv_at hl 0 rfl) ?_
      refine v_cVi (As := [.ref r4]) C hR hS hl.1.1 ca_X0_takeLastOf kml_X6_130 (L_X0_takeLastOf E l (a0 + 1) (some r4) I6 _ h) (IsBus.k (IsTag.o0 hf1)) rfl rfl rfl rfl (Nat.le_of_ble_eq_true rfl) ⟨Nat.le_of_ble_eq_true rfl, Nat.le_of_ble_eq_true rfl⟩ ⟨Nat.zero_le _, Nat.zero_le _⟩ dX6_withdraw_37 (fun v8 I7 H locs h hR hS => ?_)
      exact w_ireti C rfl rfl hR hS h dX6_withdraw_40
    · replace h := h.2 c9
      refine lv_bipush (v := (-5:Int32)) hx hb dX6_withdraw_25 (by decide) ?_
      exact w_ireti C rfl rfl hR hS h dX6_withdraw_27
set_option maxHeartbeats 4000000 in
set_option maxRecDepth 100000 in
theorem L_X5_useCell (E : Ev) (l : Launch) {K : MK} {R : MR} {n : Nat} (a0 : Nat) (x1 : Int32) (x2 : Int32) (I : MI) (Q : Int32 → MI → Prop) (h : w_X5_useCell K R a0 x1 x2 I Q) : MM E l yX5_useCell cX5_useCell 4 (some Jvm.ClassFile.FieldType.int) 1 21 0 0 [.ref a0, .int x1, .int x2] K R I n (Qi K R n Q) := by
  refine MM.of1 (by decide) RX5 rfl (cR (cI (cI cN))) (Nat.le_of_ble_eq_true rfl) ?_
  intro p e s m args below meth c ls C hin hR hS hl
  have hx := C.1
  have hb := C.2.1
  have hml := C.2.2.1
  have hown := C.2.2.2.1
  have hts := C.2.2.2.2.1
  have hl : hv ls 4 [(0, .ref a0), (1, .int x1), (2, .int x2)] := hl
  clear hin
  have hJ32 : ∀ (y3_32 : Int32) (I : MI) (H : Heap) (locs : List Loc) (ls : Array Slot), w_X5_useCell_b32 K R a0 x1 x2 Q y3_32 I → Rep E K R I n H → va_S (AA E) s.heap H locs → hv ls 4 [(3, .int y3_32)] → W p l e (rmM 1 21 0 0) s m args below meth c H locs 0 0 (MQ below (QcM E (Qi K R n Q)) args s 0 0 (AA E)) (F0 m 32 ls []) := by
    intro y3_32 I H locs ls h hR hS hl
    unfold w_X5_useCell_b32 at h
    refine lv_iload_n hx hb dX5_useCell_32 rfl (hv_at hl 0 rfl) ?_
    exact w_ireti C rfl rfl hR hS h dX5_useCell_33
  unfold w_X5_useCell at h
  refine lv_iload_n hx hb dX5_useCell_0 rfl (hv_at hl 1 rfl) ?_
  refine lv_bipush (v := (16:Int32)) hx hb dX5_useCell_1 (by decide) ?_
  refine v_cNi (As := [.int x1, .int (16:Int32)]) C hR hS hl.1.1 ca_X6_isIndex knm_X5_29 (L_X6_isIndex E l x1 (16:Int32) I _ h) rfl rfl (Nat.le_of_ble_eq_true rfl) ⟨Nat.le_of_ble_eq_true rfl, Nat.le_of_ble_eq_true rfl⟩ ⟨Nat.zero_le _, Nat.zero_le _⟩ dX5_useCell_3 (fun v2 I1 H locs h hR hS => ?_)
  refine lv_if_ne (tgt := 12) hx hb dX5_useCell_6 (by decide) (fun c8 => ?_) (fun c8 => ?_)
  · replace h := h.1 c8
    refine lv_aload_n hx hb dX5_useCell_12 rfl (hv_at hl 0 rfl) ?_
    obtain ⟨hf3, h⟩ := h
    refine v_get (T := TX5) (v := .ref (a0 + 1)) C hR 0 kfl_X5_9 rfl inG5 (by decide) rfl (IsTarget.k hf3) (rf_of (IsTarget.r0 hf3 (I1 a0 0))) dX5_useCell_13 ?_
    refine lv_iload_n hx hb dX5_useCell_16 rfl (hv_at hl 1 rfl) ?_
    obtain ⟨hi4, h⟩ := h
    refine w_iald C hR (IsTarget.a0 hf3) hi4 (j := (ix x1)) rfl dX5_useCell_17 ?_
    refine v_istore_n (lv' := [(3, .int (I1 (a0 + 1) (ix x1))), (0, .ref a0), (1, .int x1), (2, .int x2)]) hx hb dX5_useCell_18 rfl hl (by decide) rfl (fun ls hl => ?_)
    refine lv_iload_n hx hb dX5_useCell_19 rfl (hv_at hl 3 rfl) ?_
    refine lv_bipush (v := (-5:Int32)) hx hb dX5_useCell_20 (by decide) ?_
    refine lv_icmp_eq (tgt := 32) hx hb dX5_useCell_22 (by decide) (fun c7 => ?_) (fun c7 => ?_)
    · replace h := h.1 c7
      exact hJ32 (I1 (a0 + 1) (ix x1)) I1 _ _ _ h hR hS (hv_sub hl [0] rfl)
    · replace h := h.2 c7
      refine lv_aload_n hx hb dX5_useCell_25 rfl (hv_at hl 1 rfl) ?_
      refine v_get (T := TX5) (v := .ref (a0 + 1)) C hR 0 kfl_X5_9 rfl inG5 (by decide) rfl (IsTarget.k hf3) (rf_of (IsTarget.r0 hf3 (I1 a0 0))) dX5_useCell_26 ?_
      refine lv_iload_n hx hb dX5_useCell_29 rfl (hv_at hl 2 rfl) ?_
      refine lv_iload_n hx hb dX5_useCell_30 rfl (hv_at hl 3 rfl) ?_
      obtain ⟨hi5, h⟩ := h
      obtain ⟨I6, hI6⟩ := ex_eq (upI I1 (a0 + 1) (ix x1) x2)
      replace h := h I6 hI6
      refine w_iast C hR hS (IsTarget.a0 hf3) hi5 (j := (ix x1)) rfl hI6 dX5_useCell_31 (fun H locs hR hS => ?_)
      exact hJ32 (I1 (a0 + 1) (ix x1)) I6 _ _ _ h hR hS (hv_sub hl [0] rfl)
  · replace h := h.2 c8
    refine lv_bipush (v := (-5:Int32)) hx hb dX5_useCell_9 (by decide) ?_
    exact w_ireti C rfl rfl hR hS h dX5_useCell_11
set_option maxHeartbeats 4000000 in
set_option maxRecDepth 100000 in
theorem L_X0_finishQuestions (E : Ev) (l : Launch) {K : MK} {R : MR} {n : Nat} (a0 : Nat) (I : MI) (Q : MI → Prop) (h : w_X0_finishQuestions K R a0 I Q) : MM E l yX0_finishQuestions cX0_finishQuestions 7 none 2 44 0 0 [.ref a0] K R I n (Qv K R n Q) := by
  refine MM.of1 (by decide) RX0 rfl (cR cN) (Nat.le_of_ble_eq_true rfl) ?_
  intro p e s m args below meth c ls C hin hR hS hl
  have hx := C.1
  have hb := C.2.1
  have hml := C.2.2.1
  have hown := C.2.2.2.1
  have hts := C.2.2.2.2.1
  have hl : hv ls 7 [(0, .ref a0)] := hl
  clear hin
  have hJ10 : ∀ (y2_10 : Int32) (y3_10 : Int32) (I : MI) (H : Heap) (locs : List Loc) (ls : Array Slot), w_X0_finishQuestions_b10 K R a0 Q y2_10 y3_10 I → Rep E K R I n H → va_S (AA E) s.heap H locs → hv ls 7 [(0, .ref a0), (1, .ref (a0 + 4)), (2, .int y2_10), (3, .int y3_10)] → W p l e (rmM 2 44 0 0) s m args below meth c H locs 0 0 (MQ below (QcM E (Qv K R n Q)) args s 0 0 (AA E)) (F0 m 10 ls []) := by
    intro y2_10 y3_10 I H locs ls h hR hS hl
    obtain ⟨X10, hX10⟩ : ∃ X : Int32 → Int32 → MI → Prop, ∀ (y2_10 : Int32) (y3_10 : Int32) (I : MI), X y2_10 y3_10 I ↔ (∀ (H : Heap) (locs : List Loc) (ls : Array Slot), Rep E K R I n H → va_S (AA E) s.heap H locs → hv ls 7 [(0, .ref a0), (1, .ref (a0 + 4)), (2, .int y2_10), (3, .int y3_10)] → W p l e (rmM 2 44 0 0) s m args below meth c H locs 0 0 (MQ below (QcM E (Qv K R n Q)) args s 0 0 (AA E)) (F0 m 10 ls [])) := ⟨fun y2_10 y3_10 I => ∀ (H : Heap) (locs : List Loc) (ls : Array Slot), Rep E K R I n H → va_S (AA E) s.heap H locs → hv ls 7 [(0, .ref a0), (1, .ref (a0 + 4)), (2, .int y2_10), (3, .int y3_10)] → W p l e (rmM 2 44 0 0) s m args below meth c H locs 0 0 (MQ below (QcM E (Qv K R n Q)) args s 0 0 (AA E)) (F0 m 10 ls []), fun _ _ _ => Iff.rfl⟩
    refine (hX10 y2_10 y3_10 I).mp (h X10 ?_) H locs ls hR hS hl
    clear h hR hS hl
    clear ls locs H I y2_10 y3_10
    have hJ23 : ∀ (y2_23 : Int32) (y3_23 : Int32) (y4_23 : Nat) (y5_23 : Int32) (I : MI) (H : Heap) (locs : List Loc) (ls : Array Slot), w_X0_finishQuestions_b23 K R a0 Q X10 y2_23 y3_23 y4_23 y5_23 I → Rep E K R I n H → va_S (AA E) s.heap H locs → hv ls 7 [(0, .ref a0), (1, .ref (a0 + 4)), (2, .int y2_23), (3, .int y3_23), (4, .ref y4_23), (5, .int y5_23)] → W p l e (rmM 2 44 0 0) s m args below meth c H locs 0 0 (MQ below (QcM E (Qv K R n Q)) args s 0 0 (AA E)) (F0 m 23 ls []) := by
      intro y2_23 y3_23 y4_23 y5_23 I H locs ls h hR hS hl
      obtain ⟨X23, hX23⟩ : ∃ X : Int32 → Int32 → Nat → Int32 → MI → Prop, ∀ (y2_23 : Int32) (y3_23 : Int32) (y4_23 : Nat) (y5_23 : Int32) (I : MI), X y2_23 y3_23 y4_23 y5_23 I ↔ (∀ (H : Heap) (locs : List Loc) (ls : Array Slot), Rep E K R I n H → va_S (AA E) s.heap H locs → hv ls 7 [(0, .ref a0), (1, .ref (a0 + 4)), (2, .int y2_23), (3, .int y3_23), (4, .ref y4_23), (5, .int y5_23)] → W p l e (rmM 2 44 0 0) s m args below meth c H locs 0 0 (MQ below (QcM E (Qv K R n Q)) args s 0 0 (AA E)) (F0 m 23 ls [])) := ⟨fun y2_23 y3_23 y4_23 y5_23 I => ∀ (H : Heap) (locs : List Loc) (ls : Array Slot), Rep E K R I n H → va_S (AA E) s.heap H locs → hv ls 7 [(0, .ref a0), (1, .ref (a0 + 4)), (2, .int y2_23), (3, .int y3_23), (4, .ref y4_23), (5, .int y5_23)] → W p l e (rmM 2 44 0 0) s m args below meth c H locs 0 0 (MQ below (QcM E (Qv K R n Q)) args s 0 0 (AA E)) (F0 m 23 ls []), fun _ _ _ _ _ => Iff.rfl⟩
      refine (hX23 y2_23 y3_23 y4_23 y5_23 I).mp (h X23 ?_) H locs ls hR hS hl
      clear h hR hS hl
      clear ls locs H I y2_23 y3_23 y4_23 y5_23
      have hJ104 : ∀ (y2_104 : Int32) (y3_104 : Int32) (y4_104 : Nat) (y5_104 : Int32) (I : MI) (H : Heap) (locs : List Loc) (ls : Array Slot), w_X0_finishQuestions_b104 K R a0 Q X10 X23 y2_104 y3_104 y4_104 y5_104 I → Rep E K R I n H → va_S (AA E) s.heap H locs → hv ls 7 [(0, .ref a0), (1, .ref (a0 + 4)), (2, .int y2_104), (3, .int y3_104), (4, .ref y4_104), (5, .int y5_104)] → W p l e (rmM 2 44 0 0) s m args below meth c H locs 0 0 (MQ below (QcM E (Qv K R n Q)) args s 0 0 (AA E)) (F0 m 104 ls []) := by
        intro y2_104 y3_104 y4_104 y5_104 I H locs ls h hR hS hl
        unfold w_X0_finishQuestions_b104 at h
        refine v_iinc (v := y5_104 + (1:Int32)) (k := 5) (lv' := [(5, .int (y5_104 + (1:Int32))), (0, .ref a0), (1, .ref (a0 + 4)), (2, .int y2_104), (3, .int y3_104), (4, .ref y4_104)]) hx hb dX0_finishQuestions_104 hl rfl rfl (by decide) rfl (fun ls hl => ?_)
        refine lv_goto (tgt := 23) hx hb dX0_finishQuestions_107 (by decide) ?_
        exact (hX23 y2_104 y3_104 y4_104 (y5_104 + (1:Int32)) I).mp h _ _ _ hR hS (hv_sub hl [1, 2, 3, 4, 5, 0] rfl)
      intro y2_23 y3_23 y4_23 y5_23 I h
      refine (hX23 y2_23 y3_23 y4_23 y5_23 I).mpr ?_
      intro H locs ls hR hS hl
      unfold w_X0_finishQuestions_b23_body at h
      refine lv_iload hx hb dX0_finishQuestions_23 (hv_at hl 5 rfl) ?_
      refine lv_aload hx hb dX0_finishQuestions_25 (hv_at hl 4 rfl) ?_
      obtain ⟨hf1, h⟩ := h
      refine v_get (T := TX5) (v := .ref (y4_23 + 3)) C hR 2 kfl_X0_128 rfl inG5 (by decide) rfl (IsTarget.k hf1) (rf_of (IsTarget.r2 hf1 (I y4_23 2))) dX0_finishQuestions_27 ?_
      refine v_get (T := TX1) (v := .int (I (y4_23 + 3) 1)) C hR 1 kfl_X0_108 rfl inG1 (by decide) rfl (IsLine.k (IsTarget.o2 hf1)) rfl dX0_finishQuestions_30 ?_
      refine lv_icmp_ge (tgt := 110) hx hb dX0_finishQuestions_33 (by decide) (fun c15 => ?_) (fun c15 => ?_)
      · replace h := h.1 c15
        refine v_iinc (v := y3_23 + (1:Int32)) (k := 3) (lv' := [(3, .int (y3_23 + (1:Int32))), (0, .ref a0), (1, .ref (a0 + 4)), (2, .int y2_23), (4, .ref y4_23), (5, .int y5_23)]) hx hb dX0_finishQuestions_110 hl rfl rfl (by decide) rfl (fun ls hl => ?_)
        refine lv_goto (tgt := 10) hx hb dX0_finishQuestions_113 (by decide) ?_
        exact (hX10 y2_23 (y3_23 + (1:Int32)) I).mp h _ _ _ hR hS (hv_sub hl [1, 2, 3, 0] rfl)
      · replace h := h.2 c15
        refine lv_aload_n hx hb dX0_finishQuestions_36 rfl (hv_at hl 0 rfl) ?_
        refine lv_aload hx hb dX0_finishQuestions_37 (hv_at hl 4 rfl) ?_
        refine v_get (T := TX5) (v := .ref (y4_23 + 3)) C hR 2 kfl_X0_128 rfl inG5 (by decide) rfl (IsTarget.k hf1) (rf_of (IsTarget.r2 hf1 (I y4_23 2))) dX0_finishQuestions_39 ?_
        refine lv_iload hx hb dX0_finishQuestions_42 (hv_at hl 5 rfl) ?_
        refine v_cVi (As := [.int y5_23]) C hR hS hl.1.1 ca_X1_at kml_X0_111 (L_X1_at E l (y4_23 + 3) y5_23 I _ h) (IsLine.k (IsTarget.o2 hf1)) rfl rfl rfl rfl (Nat.le_of_ble_eq_true rfl) ⟨Nat.le_of_ble_eq_true rfl, Nat.le_of_ble_eq_true rfl⟩ ⟨Nat.zero_le _, Nat.zero_le _⟩ dX0_finishQuestions_44 (fun v3 I2 H locs h hR hS => ?_)
        obtain ⟨hf4, h⟩ := h
        refine v_cVo (As := [.int v3]) C hR hS hl.1.1 ca_X0_questionAt kml_X0_121 (L_X0_questionAt E l a0 v3 I2 _ h) (IsBus.k hf4) rfl rfl rfl rfl (Nat.le_of_ble_eq_true rfl) ⟨Nat.le_of_ble_eq_true rfl, Nat.le_of_ble_eq_true rfl⟩ ⟨Nat.zero_le _, Nat.zero_le _⟩ dX0_finishQuestions_47 (fun o6 I5 H locs h hR hS => ?_)
        refine v_astore (o := o6) (lv' := [(6, va_rf o6), (0, .ref a0), (1, .ref (a0 + 4)), (2, .int y2_23), (3, .int y3_23), (4, .ref y4_23), (5, .int y5_23)]) hx hb dX0_finishQuestions_50 hl (by decide) rfl (fun ls hl => ?_)
        refine v_aload hx hb dX0_finishQuestions_52 (hv_at hl 0 rfl) ?_
        refine v_ifnull (tgt := 104) hx hb dX0_finishQuestions_54 (by decide) (fun e_o6 => ?_) (fun r7 e_o6 => ?_)
        · replace h := h.1 e_o6
          have hl : hv ls 7 [(6, .null), (0, .ref a0), (1, .ref (a0 + 4)), (2, .int y2_23), (3, .int y3_23), (4, .ref y4_23), (5, .int y5_23)] := by (try rw [e_o6] at hl); exact hl
          try rw [e_o6]
          exact hJ104 y2_23 y3_23 y4_23 y5_23 I5 _ _ _ h hR hS (hv_sub hl [1, 2, 3, 4, 5, 6] rfl)
        · replace h := h.2 r7 e_o6
          have hl : hv ls 7 [(6, .ref r7), (0, .ref a0), (1, .ref (a0 + 4)), (2, .int y2_23), (3, .int y3_23), (4, .ref y4_23), (5, .int y5_23)] := by (try rw [e_o6] at hl); exact hl
          try rw [e_o6]
          refine lv_aload hx hb dX0_finishQuestions_57 (hv_at hl 0 rfl) ?_
          obtain ⟨hf8, h⟩ := h
          refine v_get (T := TX3) (v := .int (I5 r7 4)) C hR 4 kfl_X0_125 rfl inG3 (by decide) rfl hf8 rfl dX0_finishQuestions_59 ?_
          refine lv_iconst (v := (1:Int32)) hx hb dX0_finishQuestions_62 rfl ?_
          refine lv_icmp_ne (tgt := 104) hx hb dX0_finishQuestions_63 (by decide) (fun c14 => ?_) (fun c14 => ?_)
          · replace h := h.1 c14
            exact hJ104 y2_23 y3_23 y4_23 y5_23 I5 _ _ _ h hR hS (hv_sub hl [1, 2, 3, 4, 5, 6] rfl)
          · replace h := h.2 c14
            refine lv_aload hx hb dX0_finishQuestions_66 (hv_at hl 0 rfl) ?_
            refine v_get (T := TX3) (v := .int (I5 r7 8)) C hR 8 kfl_X0_144 rfl inG3 (by decide) rfl hf8 rfl dX0_finishQuestions_68 ?_
            refine lv_aload_n hx hb dX0_finishQuestions_71 rfl (hv_at hl 1 rfl) ?_
            refine v_get (T := TX0) (v := .int (I5 a0 6)) C hR 6 kfl_X0_62 rfl inG0 (by decide) rfl (IsBus.k hf4) rfl dX0_finishQuestions_72 ?_
            refine lv_icmp_ne (tgt := 104) hx hb dX0_finishQuestions_75 (by decide) (fun c13 => ?_) (fun c13 => ?_)
            · replace h := h.1 c13
              exact hJ104 y2_23 y3_23 y4_23 y5_23 I5 _ _ _ h hR hS (hv_sub hl [1, 2, 3, 4, 5, 6] rfl)
            · replace h := h.2 c13
              refine lv_aload hx hb dX0_finishQuestions_78 (hv_at hl 0 rfl) ?_
              refine lv_aload hx hb dX0_finishQuestions_80 (hv_at hl 5 rfl) ?_
              refine lv_aload hx hb dX0_finishQuestions_82 (hv_at hl 0 rfl) ?_
              refine v_get (T := TX3) (v := .int (I5 r7 2)) C hR 2 kfl_X0_147 rfl inG3 (by decide) rfl hf8 rfl dX0_finishQuestions_84 ?_
              refine lv_aload hx hb dX0_finishQuestions_87 (hv_at hl 0 rfl) ?_
              refine v_get (T := TX3) (v := .int (I5 r7 3)) C hR 3 kfl_X0_150 rfl inG3 (by decide) rfl hf8 rfl dX0_finishQuestions_89 ?_
              refine v_cVi (As := [.int (I5 r7 2), .int (I5 r7 3)]) C hR hS hl.1.1 ca_X5_useCell kml_X0_153 (L_X5_useCell E l y4_23 (I5 r7 2) (I5 r7 3) I5 _ h) (IsTarget.k hf1) rfl rfl rfl rfl (Nat.le_of_ble_eq_true rfl) ⟨Nat.le_of_ble_eq_true rfl, Nat.le_of_ble_eq_true rfl⟩ ⟨Nat.zero_le _, Nat.zero_le _⟩ dX0_finishQuestions_92 (fun v10 I9 H locs h hR hS => ?_)
              obtain ⟨I11, hI11⟩ := ex_eq (upI I9 r7 6 v10)
              replace h := h I11 hI11
              refine v_put (T := TX3) (ty := .int) C hR hS 6 kfl_X0_157 rfl inG3 tyX3 tyX3_ok nmX3 (by decide) rfl hf8 rfl (tyX3_ok 6 (by decide)) rfl rfl (fl_i_3_6 _ _ _) (Nat.le_of_ble_eq_true rfl) hI11 dX0_finishQuestions_95 (fun H locs hR hS => ?_)
              refine lv_aload hx hb dX0_finishQuestions_98 (hv_at hl 0 rfl) ?_
              refine lv_iconst (v := (2:Int32)) hx hb dX0_finishQuestions_100 rfl ?_
              obtain ⟨I12, hI12⟩ := ex_eq (upI I11 r7 4 (2:Int32))
              replace h := h I12 hI12
              refine v_put (T := TX3) (ty := .int) C hR hS 4 kfl_X0_125 rfl inG3 tyX3 tyX3_ok nmX3 (by decide) rfl hf8 rfl (tyX3_ok 4 (by decide)) rfl rfl (fl_i_3_4 _ _ _) (Nat.le_of_ble_eq_true rfl) hI12 dX0_finishQuestions_101 (fun H locs hR hS => ?_)
              exact hJ104 y2_23 y3_23 y4_23 y5_23 I12 _ _ _ h hR hS (hv_sub hl [1, 2, 3, 4, 5, 6] rfl)
    intro y2_10 y3_10 I h
    refine (hX10 y2_10 y3_10 I).mpr ?_
    intro H locs ls hR hS hl
    unfold w_X0_finishQuestions_b10_body at h
    refine lv_iload_n hx hb dX0_finishQuestions_10 rfl (hv_at hl 3 rfl) ?_
    refine lv_iload_n hx hb dX0_finishQuestions_11 rfl (hv_at hl 2 rfl) ?_
    refine lv_icmp_ge (tgt := 116) hx hb dX0_finishQuestions_12 (by decide) (fun c18 => ?_) (fun c18 => ?_)
    · replace h := h.1 c18
      exact w_vret C rfl hR hS h dX0_finishQuestions_116
    · replace h := h.2 c18
      refine lv_aload_n hx hb dX0_finishQuestions_15 rfl (hv_at hl 1 rfl) ?_
      refine lv_iload_n hx hb dX0_finishQuestions_16 rfl (hv_at hl 3 rfl) ?_
      obtain ⟨hf17, h⟩ := h
      obtain ⟨hi16, h⟩ := h
      refine w_aald C hR (w := a0 + 18 + 5 * (ix y3_10)) (IsBus.a3 hf17) (by decide) rfl rfl hi16 (j := (ix y3_10)) rfl (IsBus.e3 hf17 (vp_lt hi16) _) dX0_finishQuestions_17 ?_
      refine v_astore (o := (some (a0 + 18 + 5 * (ix y3_10)))) (lv' := [(4, .ref (a0 + 18 + 5 * (ix y3_10))), (0, .ref a0), (1, .ref (a0 + 4)), (2, .int y2_10), (3, .int y3_10)]) hx hb dX0_finishQuestions_18 hl (by decide) rfl (fun ls hl => ?_)
      refine lv_iconst (v := (0:Int32)) hx hb dX0_finishQuestions_20 rfl ?_
      refine v_istore (lv' := [(5, .int (0:Int32)), (4, .ref (a0 + 18 + 5 * (ix y3_10))), (0, .ref a0), (1, .ref (a0 + 4)), (2, .int y2_10), (3, .int y3_10)]) hx hb dX0_finishQuestions_21 hl (by decide) rfl (fun ls hl => ?_)
      exact hJ23 y2_10 y3_10 (a0 + 18 + 5 * (ix y3_10)) (0:Int32) I _ _ _ h hR hS (hv_sub hl [2, 3, 4, 5, 1, 0] rfl)
  unfold w_X0_finishQuestions at h
  refine lv_aload_n hx hb dX0_finishQuestions_0 rfl (hv_at hl 0 rfl) ?_
  obtain ⟨hf19, h⟩ := h
  refine v_get (T := TX0) (v := .ref (a0 + 4)) C hR 3 kfl_X0_26 rfl inG0 (by decide) rfl (IsBus.k hf19) (rf_of (IsBus.r3 hf19 (I a0 3))) dX0_finishQuestions_1 ?_
  refine v_astore_n (o := (some (a0 + 4))) (lv' := [(1, .ref (a0 + 4)), (0, .ref a0)]) hx hb dX0_finishQuestions_4 rfl hl (by decide) rfl (fun ls hl => ?_)
  refine lv_aload_n hx hb dX0_finishQuestions_5 rfl (hv_at hl 0 rfl) ?_
  refine v_alen C hR (IsBus.a3 hf19) (by decide) (v := (4:Int32)) rfl dX0_finishQuestions_6 ?_
  refine v_istore_n (lv' := [(2, .int (4:Int32)), (1, .ref (a0 + 4)), (0, .ref a0)]) hx hb dX0_finishQuestions_7 rfl hl (by decide) rfl (fun ls hl => ?_)
  refine lv_iconst (v := (0:Int32)) hx hb dX0_finishQuestions_8 rfl ?_
  refine v_istore_n (lv' := [(3, .int (0:Int32)), (2, .int (4:Int32)), (1, .ref (a0 + 4)), (0, .ref a0)]) hx hb dX0_finishQuestions_9 rfl hl (by decide) rfl (fun ls hl => ?_)
  exact hJ10 (4:Int32) (0:Int32) I _ _ _ h hR hS (hv_sub hl [3, 2, 1, 0] rfl)
set_option maxHeartbeats 4000000 in
set_option maxRecDepth 100000 in
theorem L_X0_placeOfAnswer (E : Ev) (l : Launch) {K : MK} {R : MR} {n : Nat} (a0 : Nat) (o1 : Option Nat) (I : MI) (Q : Int32 → MI → Prop) (h : w_X0_placeOfAnswer K R a0 o1 I Q) : MM E l yX0_placeOfAnswer cX0_placeOfAnswer 8 (some Jvm.ClassFile.FieldType.int) 2 42 0 0 [.ref a0, va_rf o1] K R I n (Qi K R n Q) := by
  refine MM.of1 (by decide) RX0 rfl (cR (cO cN)) (Nat.le_of_ble_eq_true rfl) ?_
  intro p e s m args below meth c ls C hin hR hS hl
  have hx := C.1
  have hb := C.2.1
  have hml := C.2.2.1
  have hown := C.2.2.2.1
  have hts := C.2.2.2.2.1
  have hl : hv ls 8 [(0, .ref a0), (1, va_rf o1)] := hl
  clear hin
  have hJ51 : ∀ (y3_51 : Int32) (y4_51 : Int32) (y5_51 : Int32) (y6_51 : Int32) (I : MI) (H : Heap) (locs : List Loc) (ls : Array Slot), w_X0_placeOfAnswer_b51 K R a0 o1 Q y3_51 y4_51 y5_51 y6_51 I → Rep E K R I n H → va_S (AA E) s.heap H locs → hv ls 8 [(0, .ref a0), (1, va_rf o1), (3, .int y3_51), (4, .int y4_51), (5, .int y5_51), (6, .int y6_51)] → W p l e (rmM 2 42 0 0) s m args below meth c H locs 0 0 (MQ below (QcM E (Qi K R n Q)) args s 0 0 (AA E)) (F0 m 51 ls []) := by
    intro y3_51 y4_51 y5_51 y6_51 I H locs ls h hR hS hl
    obtain ⟨X51, hX51⟩ : ∃ X : Int32 → Int32 → Int32 → Int32 → MI → Prop, ∀ (y3_51 : Int32) (y4_51 : Int32) (y5_51 : Int32) (y6_51 : Int32) (I : MI), X y3_51 y4_51 y5_51 y6_51 I ↔ (∀ (H : Heap) (locs : List Loc) (ls : Array Slot), Rep E K R I n H → va_S (AA E) s.heap H locs → hv ls 8 [(0, .ref a0), (1, va_rf o1), (3, .int y3_51), (4, .int y4_51), (5, .int y5_51), (6, .int y6_51)] → W p l e (rmM 2 42 0 0) s m args below meth c H locs 0 0 (MQ below (QcM E (Qi K R n Q)) args s 0 0 (AA E)) (F0 m 51 ls [])) := ⟨fun y3_51 y4_51 y5_51 y6_51 I => ∀ (H : Heap) (locs : List Loc) (ls : Array Slot), Rep E K R I n H → va_S (AA E) s.heap H locs → hv ls 8 [(0, .ref a0), (1, va_rf o1), (3, .int y3_51), (4, .int y4_51), (5, .int y5_51), (6, .int y6_51)] → W p l e (rmM 2 42 0 0) s m args below meth c H locs 0 0 (MQ below (QcM E (Qi K R n Q)) args s 0 0 (AA E)) (F0 m 51 ls []), fun _ _ _ _ _ => Iff.rfl⟩
    refine (hX51 y3_51 y4_51 y5_51 y6_51 I).mp (h X51 ?_) H locs ls hR hS hl
    clear h hR hS hl
    clear ls locs H I y3_51 y4_51 y5_51 y6_51
    have hJ114 : ∀ (y3_114 : Int32) (y4_114 : Int32) (y5_114 : Int32) (y6_114 : Int32) (I : MI) (H : Heap) (locs : List Loc) (ls : Array Slot), w_X0_placeOfAnswer_b114 K R a0 o1 Q X51 y3_114 y4_114 y5_114 y6_114 I → Rep E K R I n H → va_S (AA E) s.heap H locs → hv ls 8 [(0, .ref a0), (1, va_rf o1), (3, .int y3_114), (4, .int y4_114), (5, .int y5_114), (6, .int y6_114)] → W p l e (rmM 2 42 0 0) s m args below meth c H locs 0 0 (MQ below (QcM E (Qi K R n Q)) args s 0 0 (AA E)) (F0 m 114 ls []) := by
      intro y3_114 y4_114 y5_114 y6_114 I H locs ls h hR hS hl
      unfold w_X0_placeOfAnswer_b114 at h
      refine v_iinc (v := y6_114 + (1:Int32)) (k := 5) (lv' := [(6, .int (y6_114 + (1:Int32))), (0, .ref a0), (1, va_rf o1), (3, .int y3_114), (4, .int y4_114), (5, .int y5_114)]) hx hb dX0_placeOfAnswer_114 hl rfl rfl (by decide) rfl (fun ls hl => ?_)
      refine lv_goto (tgt := 51) hx hb dX0_placeOfAnswer_117 (by decide) ?_
      exact (hX51 y3_114 y4_114 y5_114 (y6_114 + (1:Int32)) I).mp h _ _ _ hR hS (hv_sub hl [1, 2, 3, 4, 5, 0] rfl)
    have hJ103 : ∀ (y3_103 : Int32) (y6_103 : Int32) (y7_103 : Option Nat) (I : MI) (H : Heap) (locs : List Loc) (ls : Array Slot), w_X0_placeOfAnswer_b103 K R a0 o1 Q X51 y3_103 y6_103 y7_103 I → Rep E K R I n H → va_S (AA E) s.heap H locs → hv ls 8 [(0, .ref a0), (1, va_rf o1), (3, .int y3_103), (6, .int y6_103), (7, va_rf y7_103)] → W p l e (rmM 2 42 0 0) s m args below meth c H locs 0 0 (MQ below (QcM E (Qi K R n Q)) args s 0 0 (AA E)) (F0 m 103 ls []) := by
      intro y3_103 y6_103 y7_103 I H locs ls h hR hS hl
      unfold w_X0_placeOfAnswer_b103 at h
      refine lv_iload hx hb dX0_placeOfAnswer_103 (hv_at hl 3 rfl) ?_
      refine v_istore (lv' := [(4, .int y6_103), (0, .ref a0), (1, va_rf o1), (3, .int y3_103), (6, .int y6_103), (7, va_rf y7_103)]) hx hb dX0_placeOfAnswer_105 hl (by decide) rfl (fun ls hl => ?_)
      refine v_aload hx hb dX0_placeOfAnswer_107 (hv_at hl 5 rfl) ?_
      obtain ⟨r1, e_y7_103, h⟩ := h
      have hl : hv ls 8 [(4, .int y6_103), (0, .ref a0), (1, va_rf o1), (3, .int y3_103), (6, .int y6_103), (7, .ref r1)] := by (try rw [e_y7_103] at hl); exact hl
      try rw [e_y7_103]
      obtain ⟨hf2, h⟩ := h
      refine v_get (T := TX3) (v := .int (I r1 8)) C hR 8 kfl_X0_144 rfl inG3 (by decide) rfl hf2 rfl dX0_placeOfAnswer_109 ?_
      refine v_istore (lv' := [(5, .int (I r1 8)), (4, .int y6_103), (0, .ref a0), (1, va_rf o1), (3, .int y3_103), (6, .int y6_103), (7, .ref r1)]) hx hb dX0_placeOfAnswer_112 hl (by decide) rfl (fun ls hl => ?_)
      exact hJ114 y3_103 y6_103 (I r1 8) y6_103 I _ _ _ h hR hS (hv_sub hl [2, 3, 4, 1, 0, 5] rfl)
    intro y3_51 y4_51 y5_51 y6_51 I h
    refine (hX51 y3_51 y4_51 y5_51 y6_51 I).mpr ?_
    intro H locs ls hR hS hl
    unfold w_X0_placeOfAnswer_b51_body at h
    refine lv_iload hx hb dX0_placeOfAnswer_51 (hv_at hl 5 rfl) ?_
    refine lv_iload_n hx hb dX0_placeOfAnswer_53 rfl (hv_at hl 2 rfl) ?_
    refine lv_icmp_ge (tgt := 120) hx hb dX0_placeOfAnswer_54 (by decide) (fun c15 => ?_) (fun c15 => ?_)
    · replace h := h.1 c15
      refine lv_iload hx hb dX0_placeOfAnswer_120 (hv_at hl 3 rfl) ?_
      exact w_ireti C rfl rfl hR hS h dX0_placeOfAnswer_122
    · replace h := h.2 c15
      refine lv_aload_n hx hb dX0_placeOfAnswer_57 rfl (hv_at hl 0 rfl) ?_
      refine v_aload_n hx hb dX0_placeOfAnswer_58 rfl (hv_at hl 1 rfl) ?_
      obtain ⟨r3, e_o1, h⟩ := h
      have hl : hv ls 8 [(0, .ref a0), (1, .ref r3), (3, .int y3_51), (4, .int y4_51), (5, .int y5_51), (6, .int y6_51)] := by (try rw [e_o1] at hl); exact hl
      try rw [e_o1]
      obtain ⟨hf4, h⟩ := h
      refine v_get (T := TX5) (v := .ref (r3 + 3)) C hR 2 kfl_X0_128 rfl inG5 (by decide) rfl (IsTarget.k hf4) (rf_of (IsTarget.r2 hf4 (I r3 2))) dX0_placeOfAnswer_59 ?_
      refine lv_iload hx hb dX0_placeOfAnswer_62 (hv_at hl 5 rfl) ?_
      refine v_cVi (As := [.int y6_51]) C hR hS hl.1.1 ca_X1_at kml_X0_111 (L_X1_at E l (r3 + 3) y6_51 I _ h) (IsLine.k (IsTarget.o2 hf4)) rfl rfl rfl rfl (Nat.le_of_ble_eq_true rfl) ⟨Nat.le_of_ble_eq_true rfl, Nat.le_of_ble_eq_true rfl⟩ ⟨Nat.zero_le _, Nat.zero_le _⟩ dX0_placeOfAnswer_64 (fun v6 I5 H locs h hR hS => ?_)
      obtain ⟨hf7, h⟩ := h
      refine v_cVo (As := [.int v6]) C hR hS hl.1.1 ca_X0_questionAt kml_X0_121 (L_X0_questionAt E l a0 v6 I5 _ h) (IsBus.k hf7) rfl rfl rfl rfl (Nat.le_of_ble_eq_true rfl) ⟨Nat.le_of_ble_eq_true rfl, Nat.le_of_ble_eq_true rfl⟩ ⟨Nat.zero_le _, Nat.zero_le _⟩ dX0_placeOfAnswer_67 (fun o9 I8 H locs h hR hS => ?_)
      refine v_astore (o := o9) (lv' := [(7, va_rf o9), (0, .ref a0), (1, .ref r3), (3, .int y3_51), (4, .int y4_51), (5, .int y5_51), (6, .int y6_51)]) hx hb dX0_placeOfAnswer_70 hl (by decide) rfl (fun ls hl => ?_)
      refine v_aload hx hb dX0_placeOfAnswer_72 (hv_at hl 0 rfl) ?_
      refine v_ifnull (tgt := 114) hx hb dX0_placeOfAnswer_74 (by decide) (fun e_o9 => ?_) (fun r10 e_o9 => ?_)
      · replace h := h.1 e_o9
        have hl : hv ls 8 [(7, .null), (0, .ref a0), (1, .ref r3), (3, .int y3_51), (4, .int y4_51), (5, .int y5_51), (6, .int y6_51)] := by (try rw [e_o9] at hl); exact hl
        try rw [e_o9]
        exact hJ114 y3_51 y4_51 y5_51 y6_51 I8 _ _ _ h hR hS (hv_sub hl [1, 2, 3, 4, 5, 6] (by rw [e_o1]; rfl))
      · replace h := h.2 r10 e_o9
        have hl : hv ls 8 [(7, .ref r10), (0, .ref a0), (1, .ref r3), (3, .int y3_51), (4, .int y4_51), (5, .int y5_51), (6, .int y6_51)] := by (try rw [e_o9] at hl); exact hl
        try rw [e_o9]
        refine lv_aload hx hb dX0_placeOfAnswer_77 (hv_at hl 0 rfl) ?_
        obtain ⟨hf11, h⟩ := h
        refine v_get (T := TX3) (v := .int (I8 r10 4)) C hR 4 kfl_X0_125 rfl inG3 (by decide) rfl hf11 rfl dX0_placeOfAnswer_79 ?_
        refine lv_iconst (v := (2:Int32)) hx hb dX0_placeOfAnswer_82 rfl ?_
        refine lv_icmp_ne (tgt := 114) hx hb dX0_placeOfAnswer_83 (by decide) (fun c14 => ?_) (fun c14 => ?_)
        · replace h := h.1 c14
          exact hJ114 y3_51 y4_51 y5_51 y6_51 I8 _ _ _ h hR hS (hv_sub hl [1, 2, 3, 4, 5, 6] (by rw [e_o1]; rfl))
        · replace h := h.2 c14
          refine lv_iload hx hb dX0_placeOfAnswer_86 (hv_at hl 4 rfl) ?_
          refine lv_bipush (v := (-5:Int32)) hx hb dX0_placeOfAnswer_88 (by decide) ?_
          refine lv_icmp_eq (tgt := 103) hx hb dX0_placeOfAnswer_90 (by decide) (fun c13 => ?_) (fun c13 => ?_)
          · replace h := h.1 c13
            exact hJ103 y3_51 y6_51 (some r10) I8 _ _ _ h hR hS (hv_sub hl [1, 2, 3, 6, 0] (by rw [e_o1]; rfl))
          · replace h := h.2 c13
            refine lv_aload hx hb dX0_placeOfAnswer_93 (hv_at hl 0 rfl) ?_
            refine v_get (T := TX3) (v := .int (I8 r10 8)) C hR 8 kfl_X0_144 rfl inG3 (by decide) rfl hf11 rfl dX0_placeOfAnswer_95 ?_
            refine lv_iload hx hb dX0_placeOfAnswer_98 (hv_at hl 5 rfl) ?_
            refine lv_icmp_ge (tgt := 114) hx hb dX0_placeOfAnswer_100 (by decide) (fun c12 => ?_) (fun c12 => ?_)
            · replace h := h.1 c12
              exact hJ114 y3_51 y4_51 y5_51 y6_51 I8 _ _ _ h hR hS (hv_sub hl [1, 2, 3, 4, 5, 6] (by rw [e_o1]; rfl))
            · replace h := h.2 c12
              exact hJ103 y3_51 y6_51 (some r10) I8 _ _ _ h hR hS (hv_sub hl [1, 2, 3, 6, 0] (by rw [e_o1]; rfl))
  have hJ40 : ∀ (z0_40 : Int32) (I : MI) (H : Heap) (locs : List Loc) (ls : Array Slot), w_X0_placeOfAnswer_b40 K R a0 o1 Q z0_40 I → Rep E K R I n H → va_S (AA E) s.heap H locs → hv ls 8 [(0, .ref a0), (1, va_rf o1)] → W p l e (rmM 2 42 0 0) s m args below meth c H locs 0 0 (MQ below (QcM E (Qi K R n Q)) args s 0 0 (AA E)) (F0 m 40 ls [.int z0_40]) := by
    intro z0_40 I H locs ls h hR hS hl
    unfold w_X0_placeOfAnswer_b40 at h
    refine v_istore_n (lv' := [(3, .int z0_40), (0, .ref a0), (1, va_rf o1)]) hx hb dX0_placeOfAnswer_40 rfl hl (by decide) rfl (fun ls hl => ?_)
    refine lv_bipush (v := (-5:Int32)) hx hb dX0_placeOfAnswer_41 (by decide) ?_
    refine v_istore (lv' := [(4, .int (-5:Int32)), (3, .int z0_40), (0, .ref a0), (1, va_rf o1)]) hx hb dX0_placeOfAnswer_43 hl (by decide) rfl (fun ls hl => ?_)
    refine lv_iconst (v := (0:Int32)) hx hb dX0_placeOfAnswer_45 rfl ?_
    refine v_istore (lv' := [(5, .int (0:Int32)), (4, .int (-5:Int32)), (3, .int z0_40), (0, .ref a0), (1, va_rf o1)]) hx hb dX0_placeOfAnswer_46 hl (by decide) rfl (fun ls hl => ?_)
    refine lv_iconst (v := (0:Int32)) hx hb dX0_placeOfAnswer_48 rfl ?_
    refine v_istore (lv' := [(6, .int (0:Int32)), (5, .int (0:Int32)), (4, .int (-5:Int32)), (3, .int z0_40), (0, .ref a0), (1, va_rf o1)]) hx hb dX0_placeOfAnswer_49 hl (by decide) rfl (fun ls hl => ?_)
    exact hJ51 z0_40 (-5:Int32) (0:Int32) (0:Int32) I _ _ _ h hR hS (hv_sub hl [4, 5, 3, 2, 1, 0] rfl)
  have hJ14 : ∀ (z0_14 : Int32) (I : MI) (H : Heap) (locs : List Loc) (ls : Array Slot), w_X0_placeOfAnswer_b14 K R a0 o1 Q z0_14 I → Rep E K R I n H → va_S (AA E) s.heap H locs → hv ls 8 [(0, .ref a0), (1, va_rf o1)] → W p l e (rmM 2 42 0 0) s m args below meth c H locs 0 0 (MQ below (QcM E (Qi K R n Q)) args s 0 0 (AA E)) (F0 m 14 ls [.int z0_14]) := by
    intro z0_14 I H locs ls h hR hS hl
    unfold w_X0_placeOfAnswer_b14 at h
    refine v_istore_n (lv' := [(2, .int z0_14), (0, .ref a0), (1, va_rf o1)]) hx hb dX0_placeOfAnswer_14 rfl hl (by decide) rfl (fun ls hl => ?_)
    refine lv_iload_n hx hb dX0_placeOfAnswer_15 rfl (hv_at hl 0 rfl) ?_
    refine lv_if_eq (tgt := 33) hx hb dX0_placeOfAnswer_16 (by decide) (fun c20 => ?_) (fun c20 => ?_)
    · replace h := h.1 c20
      refine v_aload_n hx hb dX0_placeOfAnswer_33 rfl (hv_at hl 2 rfl) ?_
      obtain ⟨r16, e_o1, h⟩ := h
      have hl : hv ls 8 [(2, .int z0_14), (0, .ref a0), (1, .ref r16)] := by (try rw [e_o1] at hl); exact hl
      try rw [e_o1]
      obtain ⟨hf17, h⟩ := h
      refine v_get (T := TX5) (v := .ref (r16 + 3)) C hR 2 kfl_X0_128 rfl inG5 (by decide) rfl (IsTarget.k hf17) (rf_of (IsTarget.r2 hf17 (I r16 2))) dX0_placeOfAnswer_34 ?_
      refine v_get (T := TX1) (v := .int (I (r16 + 3) 1)) C hR 1 kfl_X0_108 rfl inG1 (by decide) rfl (IsLine.k (IsTarget.o2 hf17)) rfl dX0_placeOfAnswer_37 ?_
      exact hJ40 (I (r16 + 3) 1) I _ _ _ h hR hS (hv_sub hl [1, 2] (by rw [e_o1]; rfl))
    · replace h := h.2 c20
      refine lv_iconst (v := (1:Int32)) hx hb dX0_placeOfAnswer_19 rfl ?_
      refine v_aload_n hx hb dX0_placeOfAnswer_20 rfl (hv_at hl 2 rfl) ?_
      obtain ⟨r18, e_o1, h⟩ := h
      have hl : hv ls 8 [(2, .int z0_14), (0, .ref a0), (1, .ref r18)] := by (try rw [e_o1] at hl); exact hl
      try rw [e_o1]
      obtain ⟨hf19, h⟩ := h
      refine v_get (T := TX5) (v := .ref (r18 + 3)) C hR 2 kfl_X0_128 rfl inG5 (by decide) rfl (IsTarget.k hf19) (rf_of (IsTarget.r2 hf19 (I r18 2))) dX0_placeOfAnswer_21 ?_
      refine v_get (T := TX1) (v := .int (I (r18 + 3) 1)) C hR 1 kfl_X0_108 rfl inG1 (by decide) rfl (IsLine.k (IsTarget.o2 hf19)) rfl dX0_placeOfAnswer_24 ?_
      refine va_mmin hx hb (hml.trans hl.1.1.symm) hown (hts _ kml_X0_187) (hts _ kst_Lib_Math_min_name) (hts _ kin_Math) (hts _ kco_Lib_Math_min_name) (Nat.le_of_ble_eq_true rfl) (Nat.le_of_ble_eq_true rfl) (Nat.zero_le _) (Nat.zero_le _) dX0_placeOfAnswer_27 ?_
      refine lv_goto (tgt := 40) hx hb dX0_placeOfAnswer_30 (by decide) ?_
      exact hJ40 (if (I (r18 + 3) 1) < (1:Int32) then (I (r18 + 3) 1) else (1:Int32)) I _ _ _ h hR hS (hv_sub hl [1, 2] (by rw [e_o1]; rfl))
  unfold w_X0_placeOfAnswer at h
  refine v_aload_n hx hb dX0_placeOfAnswer_0 rfl (hv_at hl 1 rfl) ?_
  obtain ⟨r21, e_o1, h⟩ := h
  have hl : hv ls 8 [(0, .ref a0), (1, .ref r21)] := by (try rw [e_o1] at hl); exact hl
  try rw [e_o1]
  obtain ⟨hf22, h⟩ := h
  refine v_get (T := TX5) (v := .ref (r21 + 2)) C hR 1 kfl_X0_184 rfl inG5 (by decide) rfl (IsTarget.k hf22) (rf_of (IsTarget.r1 hf22 (I r21 1))) dX0_placeOfAnswer_1 ?_
  refine lv_iconst (v := (2:Int32)) hx hb dX0_placeOfAnswer_4 rfl ?_
  refine w_iald C hR (IsTarget.a1 hf22) (show vp_in (2:Int32) 3 by unfold vp_in; decide) (j := 2) (by decide) dX0_placeOfAnswer_5 ?_
  refine lv_if_ne (tgt := 13) hx hb dX0_placeOfAnswer_6 (by decide) (fun c23 => ?_) (fun c23 => ?_)
  · replace h := h.1 c23
    refine lv_iconst (v := (0:Int32)) hx hb dX0_placeOfAnswer_13 rfl ?_
    exact hJ14 (0:Int32) I _ _ _ h hR hS (hv_sub hl [0, 1] (by rw [e_o1]; rfl))
  · replace h := h.2 c23
    refine lv_iconst (v := (1:Int32)) hx hb dX0_placeOfAnswer_9 rfl ?_
    refine lv_goto (tgt := 14) hx hb dX0_placeOfAnswer_10 (by decide) ?_
    exact hJ14 (1:Int32) I _ _ _ h hR hS (hv_sub hl [0, 1] (by rw [e_o1]; rfl))
set_option maxHeartbeats 4000000 in
set_option maxRecDepth 100000 in
theorem L_X0_targetThatAnswers (E : Ev) (l : Launch) {K : MK} {R : MR} {n : Nat} (a0 : Nat) (I : MI) (Q : Int32 → MI → Prop) (h : w_X0_targetThatAnswers K R a0 I Q) : MM E l yX0_targetThatAnswers cX0_targetThatAnswers 4 (some Jvm.ClassFile.FieldType.int) 3 69 0 0 [.ref a0] K R I n (Qi K R n Q) := by
  refine MM.of1 (by decide) RX0 rfl (cR cN) (Nat.le_of_ble_eq_true rfl) ?_
  intro p e s m args below meth c ls C hin hR hS hl
  have hx := C.1
  have hb := C.2.1
  have hml := C.2.2.1
  have hown := C.2.2.2.1
  have hts := C.2.2.2.2.1
  have hl : hv ls 4 [(0, .ref a0)] := hl
  clear hin
  have hJ2 : ∀ (y1_2 : Int32) (I : MI) (H : Heap) (locs : List Loc) (ls : Array Slot), w_X0_targetThatAnswers_b2 K R a0 Q y1_2 I → Rep E K R I n H → va_S (AA E) s.heap H locs → hv ls 4 [(0, .ref a0), (1, .int y1_2)] → W p l e (rmM 3 69 0 0) s m args below meth c H locs 0 0 (MQ below (QcM E (Qi K R n Q)) args s 0 0 (AA E)) (F0 m 2 ls []) := by
    intro y1_2 I H locs ls h hR hS hl
    obtain ⟨X2, hX2⟩ : ∃ X : Int32 → MI → Prop, ∀ (y1_2 : Int32) (I : MI), X y1_2 I ↔ (∀ (H : Heap) (locs : List Loc) (ls : Array Slot), Rep E K R I n H → va_S (AA E) s.heap H locs → hv ls 4 [(0, .ref a0), (1, .int y1_2)] → W p l e (rmM 3 69 0 0) s m args below meth c H locs 0 0 (MQ below (QcM E (Qi K R n Q)) args s 0 0 (AA E)) (F0 m 2 ls [])) := ⟨fun y1_2 I => ∀ (H : Heap) (locs : List Loc) (ls : Array Slot), Rep E K R I n H → va_S (AA E) s.heap H locs → hv ls 4 [(0, .ref a0), (1, .int y1_2)] → W p l e (rmM 3 69 0 0) s m args below meth c H locs 0 0 (MQ below (QcM E (Qi K R n Q)) args s 0 0 (AA E)) (F0 m 2 ls []), fun _ _ => Iff.rfl⟩
    refine (hX2 y1_2 I).mp (h X2 ?_) H locs ls hR hS hl
    clear h hR hS hl
    clear ls locs H I y1_2
    have hJ38 : ∀ (y1_38 : Int32) (I : MI) (H : Heap) (locs : List Loc) (ls : Array Slot), w_X0_targetThatAnswers_b38 K R a0 Q X2 y1_38 I → Rep E K R I n H → va_S (AA E) s.heap H locs → hv ls 4 [(0, .ref a0), (1, .int y1_38)] → W p l e (rmM 3 69 0 0) s m args below meth c H locs 0 0 (MQ below (QcM E (Qi K R n Q)) args s 0 0 (AA E)) (F0 m 38 ls []) := by
      intro y1_38 I H locs ls h hR hS hl
      unfold w_X0_targetThatAnswers_b38 at h
      refine v_iinc (v := y1_38 + (1:Int32)) (k := 1) (lv' := [(1, .int (y1_38 + (1:Int32))), (0, .ref a0)]) hx hb dX0_targetThatAnswers_38 hl rfl rfl (by decide) rfl (fun ls hl => ?_)
      refine lv_goto (tgt := 2) hx hb dX0_targetThatAnswers_41 (by decide) ?_
      exact (hX2 (y1_38 + (1:Int32)) I).mp h _ _ _ hR hS (hv_sub hl [1, 0] rfl)
    intro y1_2 I h
    refine (hX2 y1_2 I).mpr ?_
    intro H locs ls hR hS hl
    unfold w_X0_targetThatAnswers_b2_body at h
    refine lv_iload_n hx hb dX0_targetThatAnswers_2 rfl (hv_at hl 1 rfl) ?_
    refine lv_iconst (v := (4:Int32)) hx hb dX0_targetThatAnswers_3 rfl ?_
    refine lv_icmp_ge (tgt := 44) hx hb dX0_targetThatAnswers_4 (by decide) (fun c8 => ?_) (fun c8 => ?_)
    · replace h := h.1 c8
      refine lv_bipush (v := (-5:Int32)) hx hb dX0_targetThatAnswers_44 (by decide) ?_
      exact w_ireti C rfl rfl hR hS h dX0_targetThatAnswers_46
    · replace h := h.2 c8
      refine lv_aload_n hx hb dX0_targetThatAnswers_7 rfl (hv_at hl 0 rfl) ?_
      obtain ⟨hf1, h⟩ := h
      refine v_get (T := TX0) (v := .int (I a0 9)) C hR 9 kfl_X0_68 rfl inG0 (by decide) rfl (IsBus.k hf1) rfl dX0_targetThatAnswers_8 ?_
      refine lv_iload_n hx hb dX0_targetThatAnswers_11 rfl (hv_at hl 1 rfl) ?_
      refine lv_iadd hx hb dX0_targetThatAnswers_12 ?_
      refine lv_iconst (v := (4:Int32)) hx hb dX0_targetThatAnswers_13 rfl ?_
      refine lv_irem hx hb dX0_targetThatAnswers_14 (by decide) ?_
      refine v_istore_n (lv' := [(2, .int (((I a0 9) + y1_2) - ((I a0 9) + y1_2) / (4:Int32) * (4:Int32))), (0, .ref a0), (1, .int y1_2)]) hx hb dX0_targetThatAnswers_15 rfl hl (by decide) rfl (fun ls hl => ?_)
      refine lv_aload_n hx hb dX0_targetThatAnswers_16 rfl (hv_at hl 1 rfl) ?_
      refine lv_iload_n hx hb dX0_targetThatAnswers_17 rfl (hv_at hl 0 rfl) ?_
      refine v_cVo (As := [.int (((I a0 9) + y1_2) - ((I a0 9) + y1_2) / (4:Int32) * (4:Int32))]) C hR hS hl.1.1 ca_X0_targetAt kml_X0_176 (L_X0_targetAt E l a0 (((I a0 9) + y1_2) - ((I a0 9) + y1_2) / (4:Int32) * (4:Int32)) I _ h) (IsBus.k hf1) rfl rfl rfl rfl (Nat.le_of_ble_eq_true rfl) ⟨Nat.le_of_ble_eq_true rfl, Nat.le_of_ble_eq_true rfl⟩ ⟨Nat.zero_le _, Nat.zero_le _⟩ dX0_targetThatAnswers_18 (fun o3 I2 H locs h hR hS => ?_)
      refine v_astore_n (o := o3) (lv' := [(3, va_rf o3), (2, .int (((I a0 9) + y1_2) - ((I a0 9) + y1_2) / (4:Int32) * (4:Int32))), (0, .ref a0), (1, .int y1_2)]) hx hb dX0_targetThatAnswers_21 rfl hl (by decide) rfl (fun ls hl => ?_)
      refine v_aload_n hx hb dX0_targetThatAnswers_22 rfl (hv_at hl 0 rfl) ?_
      refine v_ifnull (tgt := 38) hx hb dX0_targetThatAnswers_23 (by decide) (fun e_o3 => ?_) (fun r4 e_o3 => ?_)
      · replace h := h.1 e_o3
        have hl : hv ls 4 [(3, .null), (2, .int (((I a0 9) + y1_2) - ((I a0 9) + y1_2) / (4:Int32) * (4:Int32))), (0, .ref a0), (1, .int y1_2)] := by (try rw [e_o3] at hl); exact hl
        try rw [e_o3]
        exact hJ38 y1_2 I2 _ _ _ h hR hS (hv_sub hl [2, 3] rfl)
      · replace h := h.2 r4 e_o3
        have hl : hv ls 4 [(3, .ref r4), (2, .int (((I a0 9) + y1_2) - ((I a0 9) + y1_2) / (4:Int32) * (4:Int32))), (0, .ref a0), (1, .int y1_2)] := by (try rw [e_o3] at hl); exact hl
        try rw [e_o3]
        refine lv_aload_n hx hb dX0_targetThatAnswers_26 rfl (hv_at hl 2 rfl) ?_
        refine lv_aload_n hx hb dX0_targetThatAnswers_27 rfl (hv_at hl 0 rfl) ?_
        refine v_cVi (As := [.ref r4]) C hR hS hl.1.1 ca_X0_placeOfAnswer kml_X0_180 (L_X0_placeOfAnswer E l a0 (some r4) I2 _ h) (IsBus.k hf1) rfl rfl rfl rfl (Nat.le_of_ble_eq_true rfl) ⟨Nat.le_of_ble_eq_true rfl, Nat.le_of_ble_eq_true rfl⟩ ⟨Nat.zero_le _, Nat.zero_le _⟩ dX0_targetThatAnswers_28 (fun v6 I5 H locs h hR hS => ?_)
        refine lv_bipush (v := (-5:Int32)) hx hb dX0_targetThatAnswers_31 (by decide) ?_
        refine lv_icmp_eq (tgt := 38) hx hb dX0_targetThatAnswers_33 (by decide) (fun c7 => ?_) (fun c7 => ?_)
        · replace h := h.1 c7
          exact hJ38 y1_2 I5 _ _ _ h hR hS (hv_sub hl [2, 3] rfl)
        · replace h := h.2 c7
          refine lv_iload_n hx hb dX0_targetThatAnswers_36 rfl (hv_at hl 1 rfl) ?_
          exact w_ireti C rfl rfl hR hS h dX0_targetThatAnswers_37
  unfold w_X0_targetThatAnswers at h
  refine lv_iconst (v := (0:Int32)) hx hb dX0_targetThatAnswers_0 rfl ?_
  refine v_istore_n (lv' := [(1, .int (0:Int32)), (0, .ref a0)]) hx hb dX0_targetThatAnswers_1 rfl hl (by decide) rfl (fun ls hl => ?_)
  exact hJ2 (0:Int32) I _ _ _ h hR hS (hv_sub hl [1, 0] rfl)
set_option maxHeartbeats 4000000 in
set_option maxRecDepth 100000 in
theorem L_X0_lowestFreeTag (E : Ev) (l : Launch) {K : MK} {R : MR} {n : Nat} (a0 : Nat) (I : MI) (Q : Int32 → MI → Prop) (h : w_X0_lowestFreeTag K R a0 I Q) : MM E l yX0_lowestFreeTag cX0_lowestFreeTag 2 (some Jvm.ClassFile.FieldType.int) 0 0 0 0 [.ref a0] K R I n (Qi K R n Q) := by
  refine MM.of1 (by decide) RX0 rfl (cR cN) (Nat.le_of_ble_eq_true rfl) ?_
  intro p e s m args below meth c ls C hin hR hS hl
  have hx := C.1
  have hb := C.2.1
  have hml := C.2.2.1
  have hown := C.2.2.2.1
  have hts := C.2.2.2.2.1
  have hl : hv ls 2 [(0, .ref a0)] := hl
  clear hin
  have hJ37 : ∀ (I : MI) (H : Heap) (locs : List Loc) (ls : Array Slot), w_X0_lowestFreeTag_b37 K R a0 Q  I → Rep E K R I n H → va_S (AA E) s.heap H locs → hv ls 2 [] → W p l e (rmM 0 0 0 0) s m args below meth c H locs 0 0 (MQ below (QcM E (Qi K R n Q)) args s 0 0 (AA E)) (F0 m 37 ls []) := by
    intro  I H locs ls h hR hS hl
    unfold w_X0_lowestFreeTag_b37 at h
    refine lv_bipush (v := (-5:Int32)) hx hb dX0_lowestFreeTag_37 (by decide) ?_
    exact w_ireti C rfl rfl hR hS h dX0_lowestFreeTag_39
  have hJ2 : ∀ (y1_2 : Int32) (I : MI) (H : Heap) (locs : List Loc) (ls : Array Slot), w_X0_lowestFreeTag_b2 K R a0 Q y1_2 I → Rep E K R I n H → va_S (AA E) s.heap H locs → hv ls 2 [(0, .ref a0), (1, .int y1_2)] → W p l e (rmM 0 0 0 0) s m args below meth c H locs 0 0 (MQ below (QcM E (Qi K R n Q)) args s 0 0 (AA E)) (F0 m 2 ls []) := by
    intro y1_2 I H locs ls h hR hS hl
    obtain ⟨X2, hX2⟩ : ∃ X : Int32 → MI → Prop, ∀ (y1_2 : Int32) (I : MI), X y1_2 I ↔ (∀ (H : Heap) (locs : List Loc) (ls : Array Slot), Rep E K R I n H → va_S (AA E) s.heap H locs → hv ls 2 [(0, .ref a0), (1, .int y1_2)] → W p l e (rmM 0 0 0 0) s m args below meth c H locs 0 0 (MQ below (QcM E (Qi K R n Q)) args s 0 0 (AA E)) (F0 m 2 ls [])) := ⟨fun y1_2 I => ∀ (H : Heap) (locs : List Loc) (ls : Array Slot), Rep E K R I n H → va_S (AA E) s.heap H locs → hv ls 2 [(0, .ref a0), (1, .int y1_2)] → W p l e (rmM 0 0 0 0) s m args below meth c H locs 0 0 (MQ below (QcM E (Qi K R n Q)) args s 0 0 (AA E)) (F0 m 2 ls []), fun _ _ => Iff.rfl⟩
    refine (hX2 y1_2 I).mp (h X2 ?_) H locs ls hR hS hl
    clear h hR hS hl
    clear ls locs H I y1_2
    intro y1_2 I h
    refine (hX2 y1_2 I).mpr ?_
    intro H locs ls hR hS hl
    unfold w_X0_lowestFreeTag_b2_body at h
    refine lv_iload_n hx hb dX0_lowestFreeTag_2 rfl (hv_at hl 1 rfl) ?_
    refine lv_aload_n hx hb dX0_lowestFreeTag_3 rfl (hv_at hl 0 rfl) ?_
    obtain ⟨hf1, h⟩ := h
    refine v_get (T := TX0) (v := .ref (a0 + 1)) C hR 0 kfl_X0_9 rfl inG0 (by decide) rfl (IsBus.k hf1) (rf_of (IsBus.r0 hf1 (I a0 0))) dX0_lowestFreeTag_4 ?_
    refine lv_iconst (v := (0:Int32)) hx hb dX0_lowestFreeTag_7 rfl ?_
    refine w_iald C hR (IsBus.a0 hf1) (show vp_in (0:Int32) 3 by unfold vp_in; decide) (j := 0) (by decide) dX0_lowestFreeTag_8 ?_
    refine lv_icmp_ge (tgt := 37) hx hb dX0_lowestFreeTag_9 (by decide) (fun c5 => ?_) (fun c5 => ?_)
    · replace h := h.1 c5
      exact hJ37 I _ _ _ h hR hS (hv_sub hl [] rfl)
    · replace h := h.2 c5
      refine lv_iload_n hx hb dX0_lowestFreeTag_12 rfl (hv_at hl 1 rfl) ?_
      refine lv_bipush (v := (8:Int32)) hx hb dX0_lowestFreeTag_13 (by decide) ?_
      refine lv_icmp_ge (tgt := 37) hx hb dX0_lowestFreeTag_15 (by decide) (fun c4 => ?_) (fun c4 => ?_)
      · replace h := h.1 c4
        exact hJ37 I _ _ _ h hR hS (hv_sub hl [] rfl)
      · replace h := h.2 c4
        refine lv_aload_n hx hb dX0_lowestFreeTag_18 rfl (hv_at hl 0 rfl) ?_
        refine v_get (T := TX0) (v := .ref (a0 + 2)) C hR 1 kfl_X0_15 rfl inG0 (by decide) rfl (IsBus.k hf1) (rf_of (IsBus.r1 hf1 (I a0 1))) dX0_lowestFreeTag_19 ?_
        refine lv_iload_n hx hb dX0_lowestFreeTag_22 rfl (hv_at hl 1 rfl) ?_
        obtain ⟨hi2, h⟩ := h
        refine w_iald C hR (IsBus.a1 hf1) hi2 (j := (ix y1_2)) rfl dX0_lowestFreeTag_23 ?_
        refine lv_bipush (v := (-5:Int32)) hx hb dX0_lowestFreeTag_24 (by decide) ?_
        refine lv_icmp_ne (tgt := 31) hx hb dX0_lowestFreeTag_26 (by decide) (fun c3 => ?_) (fun c3 => ?_)
        · replace h := h.1 c3
          refine v_iinc (v := y1_2 + (1:Int32)) (k := 1) (lv' := [(1, .int (y1_2 + (1:Int32))), (0, .ref a0)]) hx hb dX0_lowestFreeTag_31 hl rfl rfl (by decide) rfl (fun ls hl => ?_)
          refine lv_goto (tgt := 2) hx hb dX0_lowestFreeTag_34 (by decide) ?_
          exact (hX2 (y1_2 + (1:Int32)) I).mp h _ _ _ hR hS (hv_sub hl [1, 0] rfl)
        · replace h := h.2 c3
          refine lv_iload_n hx hb dX0_lowestFreeTag_29 rfl (hv_at hl 1 rfl) ?_
          exact w_ireti C rfl rfl hR hS h dX0_lowestFreeTag_30
  unfold w_X0_lowestFreeTag at h
  refine lv_iconst (v := (0:Int32)) hx hb dX0_lowestFreeTag_0 rfl ?_
  refine v_istore_n (lv' := [(1, .int (0:Int32)), (0, .ref a0)]) hx hb dX0_lowestFreeTag_1 rfl hl (by decide) rfl (fun ls hl => ?_)
  exact hJ2 (0:Int32) I _ _ _ h hR hS (hv_sub hl [1, 0] rfl)
set_option maxHeartbeats 4000000 in
set_option maxRecDepth 100000 in
theorem L_X0_maySend (E : Ev) (l : Launch) {K : MK} {R : MR} {n : Nat} (a0 : Nat) (o1 : Option Nat) (I : MI) (Q : Int32 → MI → Prop) (h : w_X0_maySend K R a0 o1 I Q) : MM E l yX0_maySend cX0_maySend 2 (some Jvm.ClassFile.FieldType.boolean) 0 0 0 0 [.ref a0, va_rf o1] K R I n (Qi K R n Q) := by
  refine MM.of1 (by decide) RX0 rfl (cR (cO cN)) (Nat.le_of_ble_eq_true rfl) ?_
  intro p e s m args below meth c ls C hin hR hS hl
  have hx := C.1
  have hb := C.2.1
  have hml := C.2.2.1
  have hown := C.2.2.2.1
  have hts := C.2.2.2.2.1
  have hl : hv ls 2 [(0, .ref a0), (1, va_rf o1)] := hl
  clear hin
  have hJ37 : ∀ (z0_37 : Int32) (I : MI) (H : Heap) (locs : List Loc) (ls : Array Slot), w_X0_maySend_b37 K R a0 o1 Q z0_37 I → Rep E K R I n H → va_S (AA E) s.heap H locs → hv ls 2 [] → W p l e (rmM 0 0 0 0) s m args below meth c H locs 0 0 (MQ below (QcM E (Qi K R n Q)) args s 0 0 (AA E)) (F0 m 37 ls [.int z0_37]) := by
    intro z0_37 I H locs ls h hR hS hl
    unfold w_X0_maySend_b37 at h
    obtain ⟨hb1, h⟩ := h
    exact w_ireti C rfl (bz_nar hb1) hR hS h dX0_maySend_37
  have hJ36 : ∀ (I : MI) (H : Heap) (locs : List Loc) (ls : Array Slot), w_X0_maySend_b36 K R a0 o1 Q  I → Rep E K R I n H → va_S (AA E) s.heap H locs → hv ls 2 [] → W p l e (rmM 0 0 0 0) s m args below meth c H locs 0 0 (MQ below (QcM E (Qi K R n Q)) args s 0 0 (AA E)) (F0 m 36 ls []) := by
    intro  I H locs ls h hR hS hl
    unfold w_X0_maySend_b36 at h
    refine lv_iconst (v := (0:Int32)) hx hb dX0_maySend_36 rfl ?_
    exact hJ37 (0:Int32) I _ _ _ h hR hS (hv_sub hl [] rfl)
  unfold w_X0_maySend at h
  refine v_aload_n hx hb dX0_maySend_0 rfl (hv_at hl 1 rfl) ?_
  obtain ⟨r2, e_o1, h⟩ := h
  have hl : hv ls 2 [(0, .ref a0), (1, .ref r2)] := by (try rw [e_o1] at hl); exact hl
  try rw [e_o1]
  obtain ⟨hf3, h⟩ := h
  refine v_get (T := TX2) (v := .ref (r2 + 1)) C hR 0 kfl_X0_98 rfl inG2 (by decide) rfl (IsMaster.k hf3) (rf_of (IsMaster.r0 hf3 (I r2 0))) dX0_maySend_1 ?_
  refine v_get (T := TX1) (v := .int (I (r2 + 1) 1)) C hR 1 kfl_X0_108 rfl inG1 (by decide) rfl (IsLine.k (IsMaster.o0 hf3)) rfl dX0_maySend_4 ?_
  refine lv_if_le (tgt := 36) hx hb dX0_maySend_7 (by decide) (fun c7 => ?_) (fun c7 => ?_)
  · replace h := h.1 c7
    exact hJ36 I _ _ _ h hR hS (hv_sub hl [] rfl)
  · replace h := h.2 c7
    refine lv_aload_n hx hb dX0_maySend_10 rfl (hv_at hl 0 rfl) ?_
    obtain ⟨hf4, h⟩ := h
    refine v_get (T := TX0) (v := .int (I a0 6)) C hR 6 kfl_X0_62 rfl inG0 (by decide) rfl (IsBus.k hf4) rfl dX0_maySend_11 ?_
    refine lv_aload_n hx hb dX0_maySend_14 rfl (hv_at hl 1 rfl) ?_
    refine v_get (T := TX2) (v := .int (I r2 4)) C hR 4 kfl_X0_205 rfl inG2 (by decide) rfl (IsMaster.k hf3) rfl dX0_maySend_15 ?_
    refine lv_icmp_lt (tgt := 36) hx hb dX0_maySend_18 (by decide) (fun c6 => ?_) (fun c6 => ?_)
    · replace h := h.1 c6
      exact hJ36 I _ _ _ h hR hS (hv_sub hl [] rfl)
    · replace h := h.2 c6
      refine lv_aload_n hx hb dX0_maySend_21 rfl (hv_at hl 1 rfl) ?_
      refine v_get (T := TX2) (v := .int (I r2 2)) C hR 2 kfl_X0_208 rfl inG2 (by decide) rfl (IsMaster.k hf3) rfl dX0_maySend_22 ?_
      refine lv_aload_n hx hb dX0_maySend_25 rfl (hv_at hl 1 rfl) ?_
      refine v_get (T := TX2) (v := .int (I r2 1)) C hR 1 kfl_X0_211 rfl inG2 (by decide) rfl (IsMaster.k hf3) rfl dX0_maySend_26 ?_
      refine lv_icmp_ge (tgt := 36) hx hb dX0_maySend_29 (by decide) (fun c5 => ?_) (fun c5 => ?_)
      · replace h := h.1 c5
        exact hJ36 I _ _ _ h hR hS (hv_sub hl [] rfl)
      · replace h := h.2 c5
        refine lv_iconst (v := (1:Int32)) hx hb dX0_maySend_32 rfl ?_
        refine lv_goto (tgt := 37) hx hb dX0_maySend_33 (by decide) ?_
        exact hJ37 (1:Int32) I _ _ _ h hR hS (hv_sub hl [] rfl)
set_option maxHeartbeats 4000000 in
set_option maxRecDepth 100000 in
theorem L_X0_isOutOfPatience (E : Ev) (l : Launch) {K : MK} {R : MR} {n : Nat} (a0 : Nat) (o1 : Option Nat) (I : MI) (Q : Int32 → MI → Prop) (h : w_X0_isOutOfPatience K R a0 o1 I Q) : MM E l yX0_isOutOfPatience cX0_isOutOfPatience 2 (some Jvm.ClassFile.FieldType.boolean) 0 0 0 0 [.ref a0, va_rf o1] K R I n (Qi K R n Q) := by
  refine MM.of1 (by decide) RX0 rfl (cR (cO cN)) (Nat.le_of_ble_eq_true rfl) ?_
  intro p e s m args below meth c ls C hin hR hS hl
  have hx := C.1
  have hb := C.2.1
  have hml := C.2.2.1
  have hown := C.2.2.2.1
  have hts := C.2.2.2.2.1
  have hl : hv ls 2 [(0, .ref a0), (1, va_rf o1)] := hl
  clear hin
  have hJ18 : ∀ (z0_18 : Int32) (I : MI) (H : Heap) (locs : List Loc) (ls : Array Slot), w_X0_isOutOfPatience_b18 K R a0 o1 Q z0_18 I → Rep E K R I n H → va_S (AA E) s.heap H locs → hv ls 2 [] → W p l e (rmM 0 0 0 0) s m args below meth c H locs 0 0 (MQ below (QcM E (Qi K R n Q)) args s 0 0 (AA E)) (F0 m 18 ls [.int z0_18]) := by
    intro z0_18 I H locs ls h hR hS hl
    unfold w_X0_isOutOfPatience_b18 at h
    obtain ⟨hb1, h⟩ := h
    exact w_ireti C rfl (bz_nar hb1) hR hS h dX0_isOutOfPatience_18
  unfold w_X0_isOutOfPatience at h
  refine v_aload_n hx hb dX0_isOutOfPatience_0 rfl (hv_at hl 1 rfl) ?_
  obtain ⟨r2, e_o1, h⟩ := h
  have hl : hv ls 2 [(0, .ref a0), (1, .ref r2)] := by (try rw [e_o1] at hl); exact hl
  try rw [e_o1]
  obtain ⟨hf3, h⟩ := h
  refine v_get (T := TX2) (v := .int (I r2 5)) C hR 5 kfl_X0_118 rfl inG2 (by decide) rfl (IsMaster.k hf3) rfl dX0_isOutOfPatience_1 ?_
  refine lv_aload_n hx hb dX0_isOutOfPatience_4 rfl (hv_at hl 0 rfl) ?_
  obtain ⟨hf4, h⟩ := h
  refine v_get (T := TX0) (v := .ref (a0 + 1)) C hR 0 kfl_X0_9 rfl inG0 (by decide) rfl (IsBus.k hf4) (rf_of (IsBus.r0 hf4 (I a0 0))) dX0_isOutOfPatience_5 ?_
  refine lv_iconst (v := (2:Int32)) hx hb dX0_isOutOfPatience_8 rfl ?_
  refine w_iald C hR (IsBus.a0 hf4) (show vp_in (2:Int32) 3 by unfold vp_in; decide) (j := 2) (by decide) dX0_isOutOfPatience_9 ?_
  refine lv_icmp_lt (tgt := 17) hx hb dX0_isOutOfPatience_10 (by decide) (fun c5 => ?_) (fun c5 => ?_)
  · replace h := h.1 c5
    refine lv_iconst (v := (0:Int32)) hx hb dX0_isOutOfPatience_17 rfl ?_
    exact hJ18 (0:Int32) I _ _ _ h hR hS (hv_sub hl [] rfl)
  · replace h := h.2 c5
    refine lv_iconst (v := (1:Int32)) hx hb dX0_isOutOfPatience_13 rfl ?_
    refine lv_goto (tgt := 18) hx hb dX0_isOutOfPatience_14 (by decide) ?_
    exact hJ18 (1:Int32) I _ _ _ h hR hS (hv_sub hl [] rfl)
set_option maxHeartbeats 4000000 in
set_option maxRecDepth 100000 in
theorem L_X0_masterThatWaitedTooLong (E : Ev) (l : Launch) {K : MK} {R : MR} {n : Nat} (a0 : Nat) (I : MI) (Q : Int32 → MI → Prop) (h : w_X0_masterThatWaitedTooLong K R a0 I Q) : MM E l yX0_masterThatWaitedTooLong cX0_masterThatWaitedTooLong 5 (some Jvm.ClassFile.FieldType.int) 2 42 0 0 [.ref a0] K R I n (Qi K R n Q) := by
  refine MM.of1 (by decide) RX0 rfl (cR cN) (Nat.le_of_ble_eq_true rfl) ?_
  intro p e s m args below meth c ls C hin hR hS hl
  have hx := C.1
  have hb := C.2.1
  have hml := C.2.2.1
  have hown := C.2.2.2.1
  have hts := C.2.2.2.2.1
  have hl : hv ls 5 [(0, .ref a0)] := hl
  clear hin
  have hJ7 : ∀ (y1_7 : Int32) (y2_7 : Int32) (y3_7 : Int32) (I : MI) (H : Heap) (locs : List Loc) (ls : Array Slot), w_X0_masterThatWaitedTooLong_b7 K R a0 Q y1_7 y2_7 y3_7 I → Rep E K R I n H → va_S (AA E) s.heap H locs → hv ls 5 [(0, .ref a0), (1, .int y1_7), (2, .int y2_7), (3, .int y3_7)] → W p l e (rmM 2 42 0 0) s m args below meth c H locs 0 0 (MQ below (QcM E (Qi K R n Q)) args s 0 0 (AA E)) (F0 m 7 ls []) := by
    intro y1_7 y2_7 y3_7 I H locs ls h hR hS hl
    obtain ⟨X7, hX7⟩ : ∃ X : Int32 → Int32 → Int32 → MI → Prop, ∀ (y1_7 : Int32) (y2_7 : Int32) (y3_7 : Int32) (I : MI), X y1_7 y2_7 y3_7 I ↔ (∀ (H : Heap) (locs : List Loc) (ls : Array Slot), Rep E K R I n H → va_S (AA E) s.heap H locs → hv ls 5 [(0, .ref a0), (1, .int y1_7), (2, .int y2_7), (3, .int y3_7)] → W p l e (rmM 2 42 0 0) s m args below meth c H locs 0 0 (MQ below (QcM E (Qi K R n Q)) args s 0 0 (AA E)) (F0 m 7 ls [])) := ⟨fun y1_7 y2_7 y3_7 I => ∀ (H : Heap) (locs : List Loc) (ls : Array Slot), Rep E K R I n H → va_S (AA E) s.heap H locs → hv ls 5 [(0, .ref a0), (1, .int y1_7), (2, .int y2_7), (3, .int y3_7)] → W p l e (rmM 2 42 0 0) s m args below meth c H locs 0 0 (MQ below (QcM E (Qi K R n Q)) args s 0 0 (AA E)) (F0 m 7 ls []), fun _ _ _ _ => Iff.rfl⟩
    refine (hX7 y1_7 y2_7 y3_7 I).mp (h X7 ?_) H locs ls hR hS hl
    clear h hR hS hl
    clear ls locs H I y1_7 y2_7 y3_7
    have hJ65 : ∀ (y1_65 : Int32) (y2_65 : Int32) (y3_65 : Int32) (I : MI) (H : Heap) (locs : List Loc) (ls : Array Slot), w_X0_masterThatWaitedTooLong_b65 K R a0 Q X7 y1_65 y2_65 y3_65 I → Rep E K R I n H → va_S (AA E) s.heap H locs → hv ls 5 [(0, .ref a0), (1, .int y1_65), (2, .int y2_65), (3, .int y3_65)] → W p l e (rmM 2 42 0 0) s m args below meth c H locs 0 0 (MQ below (QcM E (Qi K R n Q)) args s 0 0 (AA E)) (F0 m 65 ls []) := by
      intro y1_65 y2_65 y3_65 I H locs ls h hR hS hl
      unfold w_X0_masterThatWaitedTooLong_b65 at h
      refine v_iinc (v := y3_65 + (1:Int32)) (k := 3) (lv' := [(3, .int (y3_65 + (1:Int32))), (0, .ref a0), (1, .int y1_65), (2, .int y2_65)]) hx hb dX0_masterThatWaitedTooLong_65 hl rfl rfl (by decide) rfl (fun ls hl => ?_)
      refine lv_goto (tgt := 7) hx hb dX0_masterThatWaitedTooLong_68 (by decide) ?_
      exact (hX7 y1_65 y2_65 (y3_65 + (1:Int32)) I).mp h _ _ _ hR hS (hv_sub hl [1, 2, 3, 0] rfl)
    have hJ57 : ∀ (y3_57 : Int32) (y4_57 : Option Nat) (I : MI) (H : Heap) (locs : List Loc) (ls : Array Slot), w_X0_masterThatWaitedTooLong_b57 K R a0 Q X7 y3_57 y4_57 I → Rep E K R I n H → va_S (AA E) s.heap H locs → hv ls 5 [(0, .ref a0), (3, .int y3_57), (4, va_rf y4_57)] → W p l e (rmM 2 42 0 0) s m args below meth c H locs 0 0 (MQ below (QcM E (Qi K R n Q)) args s 0 0 (AA E)) (F0 m 57 ls []) := by
      intro y3_57 y4_57 I H locs ls h hR hS hl
      unfold w_X0_masterThatWaitedTooLong_b57 at h
      refine lv_iload_n hx hb dX0_masterThatWaitedTooLong_57 rfl (hv_at hl 1 rfl) ?_
      refine v_istore_n (lv' := [(1, .int y3_57), (0, .ref a0), (3, .int y3_57), (4, va_rf y4_57)]) hx hb dX0_masterThatWaitedTooLong_58 rfl hl (by decide) rfl (fun ls hl => ?_)
      refine v_aload hx hb dX0_masterThatWaitedTooLong_59 (hv_at hl 3 rfl) ?_
      obtain ⟨r1, e_y4_57, h⟩ := h
      have hl : hv ls 5 [(1, .int y3_57), (0, .ref a0), (3, .int y3_57), (4, .ref r1)] := by (try rw [e_y4_57] at hl); exact hl
      try rw [e_y4_57]
      obtain ⟨hf2, h⟩ := h
      refine v_get (T := TX2) (v := .int (I r1 5)) C hR 5 kfl_X0_118 rfl inG2 (by decide) rfl (IsMaster.k hf2) rfl dX0_masterThatWaitedTooLong_61 ?_
      refine v_istore_n (lv' := [(2, .int (I r1 5)), (1, .int y3_57), (0, .ref a0), (3, .int y3_57), (4, .ref r1)]) hx hb dX0_masterThatWaitedTooLong_64 rfl hl (by decide) rfl (fun ls hl => ?_)
      exact hJ65 y3_57 (I r1 5) y3_57 I _ _ _ h hR hS (hv_sub hl [2, 1, 0, 3] rfl)
    intro y1_7 y2_7 y3_7 I h
    refine (hX7 y1_7 y2_7 y3_7 I).mpr ?_
    intro H locs ls hR hS hl
    unfold w_X0_masterThatWaitedTooLong_b7_body at h
    refine lv_iload_n hx hb dX0_masterThatWaitedTooLong_7 rfl (hv_at hl 3 rfl) ?_
    refine lv_iconst (v := (4:Int32)) hx hb dX0_masterThatWaitedTooLong_8 rfl ?_
    refine lv_icmp_ge (tgt := 71) hx hb dX0_masterThatWaitedTooLong_9 (by decide) (fun c16 => ?_) (fun c16 => ?_)
    · replace h := h.1 c16
      refine lv_iload_n hx hb dX0_masterThatWaitedTooLong_71 rfl (hv_at hl 1 rfl) ?_
      exact w_ireti C rfl rfl hR hS h dX0_masterThatWaitedTooLong_72
    · replace h := h.2 c16
      refine lv_aload_n hx hb dX0_masterThatWaitedTooLong_12 rfl (hv_at hl 0 rfl) ?_
      refine lv_iload_n hx hb dX0_masterThatWaitedTooLong_13 rfl (hv_at hl 3 rfl) ?_
      obtain ⟨hf3, h⟩ := h
      refine v_cVo (As := [.int y3_7]) C hR hS hl.1.1 ca_X0_masterAt kml_X0_90 (L_X0_masterAt E l a0 y3_7 I _ h) (IsBus.k hf3) rfl rfl rfl rfl (Nat.le_of_ble_eq_true rfl) ⟨Nat.le_of_ble_eq_true rfl, Nat.le_of_ble_eq_true rfl⟩ ⟨Nat.zero_le _, Nat.zero_le _⟩ dX0_masterThatWaitedTooLong_14 (fun o5 I4 H locs h hR hS => ?_)
      refine v_astore (o := o5) (lv' := [(4, va_rf o5), (0, .ref a0), (1, .int y1_7), (2, .int y2_7), (3, .int y3_7)]) hx hb dX0_masterThatWaitedTooLong_17 hl (by decide) rfl (fun ls hl => ?_)
      refine v_aload hx hb dX0_masterThatWaitedTooLong_19 (hv_at hl 0 rfl) ?_
      refine v_ifnull (tgt := 65) hx hb dX0_masterThatWaitedTooLong_21 (by decide) (fun e_o5 => ?_) (fun r6 e_o5 => ?_)
      · replace h := h.1 e_o5
        have hl : hv ls 5 [(4, .null), (0, .ref a0), (1, .int y1_7), (2, .int y2_7), (3, .int y3_7)] := by (try rw [e_o5] at hl); exact hl
        try rw [e_o5]
        exact hJ65 y1_7 y2_7 y3_7 I4 _ _ _ h hR hS (hv_sub hl [1, 2, 3, 4] rfl)
      · replace h := h.2 r6 e_o5
        have hl : hv ls 5 [(4, .ref r6), (0, .ref a0), (1, .int y1_7), (2, .int y2_7), (3, .int y3_7)] := by (try rw [e_o5] at hl); exact hl
        try rw [e_o5]
        refine lv_aload_n hx hb dX0_masterThatWaitedTooLong_24 rfl (hv_at hl 1 rfl) ?_
        refine lv_aload hx hb dX0_masterThatWaitedTooLong_25 (hv_at hl 0 rfl) ?_
        refine v_cVi (As := [.ref r6]) C hR hS hl.1.1 ca_X0_maySend kml_X0_198 (L_X0_maySend E l a0 (some r6) I4 _ h) (IsBus.k hf3) rfl rfl rfl rfl (Nat.le_of_ble_eq_true rfl) ⟨Nat.le_of_ble_eq_true rfl, Nat.le_of_ble_eq_true rfl⟩ ⟨Nat.zero_le _, Nat.zero_le _⟩ dX0_masterThatWaitedTooLong_27 (fun v8 I7 H locs h hR hS => ?_)
        refine lv_if_eq (tgt := 65) hx hb dX0_masterThatWaitedTooLong_30 (by decide) (fun c15 => ?_) (fun c15 => ?_)
        · replace h := h.1 c15
          exact hJ65 y1_7 y2_7 y3_7 I7 _ _ _ h hR hS (hv_sub hl [1, 2, 3, 4] rfl)
        · replace h := h.2 c15
          refine lv_aload_n hx hb dX0_masterThatWaitedTooLong_33 rfl (hv_at hl 1 rfl) ?_
          refine lv_aload hx hb dX0_masterThatWaitedTooLong_34 (hv_at hl 0 rfl) ?_
          refine v_cVi (As := [.ref r6]) C hR hS hl.1.1 ca_X0_isOutOfPatience kml_X0_202 (L_X0_isOutOfPatience E l a0 (some r6) I7 _ h) (IsBus.k hf3) rfl rfl rfl rfl (Nat.le_of_ble_eq_true rfl) ⟨Nat.le_of_ble_eq_true rfl, Nat.le_of_ble_eq_true rfl⟩ ⟨Nat.zero_le _, Nat.zero_le _⟩ dX0_masterThatWaitedTooLong_36 (fun v10 I9 H locs h hR hS => ?_)
          refine lv_if_eq (tgt := 65) hx hb dX0_masterThatWaitedTooLong_39 (by decide) (fun c14 => ?_) (fun c14 => ?_)
          · replace h := h.1 c14
            exact hJ65 y1_7 y2_7 y3_7 I9 _ _ _ h hR hS (hv_sub hl [1, 2, 3, 4] rfl)
          · replace h := h.2 c14
            refine lv_iload_n hx hb dX0_masterThatWaitedTooLong_42 rfl (hv_at hl 2 rfl) ?_
            refine lv_bipush (v := (-5:Int32)) hx hb dX0_masterThatWaitedTooLong_43 (by decide) ?_
            refine lv_icmp_eq (tgt := 57) hx hb dX0_masterThatWaitedTooLong_45 (by decide) (fun c13 => ?_) (fun c13 => ?_)
            · replace h := h.1 c13
              exact hJ57 y3_7 (some r6) I9 _ _ _ h hR hS (hv_sub hl [1, 4, 0] rfl)
            · replace h := h.2 c13
              refine lv_aload hx hb dX0_masterThatWaitedTooLong_48 (hv_at hl 0 rfl) ?_
              obtain ⟨hf11, h⟩ := h
              refine v_get (T := TX2) (v := .int (I9 r6 5)) C hR 5 kfl_X0_118 rfl inG2 (by decide) rfl (IsMaster.k hf11) rfl dX0_masterThatWaitedTooLong_50 ?_
              refine lv_iload_n hx hb dX0_masterThatWaitedTooLong_53 rfl (hv_at hl 3 rfl) ?_
              refine lv_icmp_le (tgt := 65) hx hb dX0_masterThatWaitedTooLong_54 (by decide) (fun c12 => ?_) (fun c12 => ?_)
              · replace h := h.1 c12
                exact hJ65 y1_7 y2_7 y3_7 I9 _ _ _ h hR hS (hv_sub hl [1, 2, 3, 4] rfl)
              · replace h := h.2 c12
                exact hJ57 y3_7 (some r6) I9 _ _ _ h hR hS (hv_sub hl [1, 4, 0] rfl)
  unfold w_X0_masterThatWaitedTooLong at h
  refine lv_bipush (v := (-5:Int32)) hx hb dX0_masterThatWaitedTooLong_0 (by decide) ?_
  refine v_istore_n (lv' := [(1, .int (-5:Int32)), (0, .ref a0)]) hx hb dX0_masterThatWaitedTooLong_2 rfl hl (by decide) rfl (fun ls hl => ?_)
  refine lv_iconst (v := (0:Int32)) hx hb dX0_masterThatWaitedTooLong_3 rfl ?_
  refine v_istore_n (lv' := [(2, .int (0:Int32)), (1, .int (-5:Int32)), (0, .ref a0)]) hx hb dX0_masterThatWaitedTooLong_4 rfl hl (by decide) rfl (fun ls hl => ?_)
  refine lv_iconst (v := (0:Int32)) hx hb dX0_masterThatWaitedTooLong_5 rfl ?_
  refine v_istore_n (lv' := [(3, .int (0:Int32)), (2, .int (0:Int32)), (1, .int (-5:Int32)), (0, .ref a0)]) hx hb dX0_masterThatWaitedTooLong_6 rfl hl (by decide) rfl (fun ls hl => ?_)
  exact hJ7 (-5:Int32) (0:Int32) (0:Int32) I _ _ _ h hR hS (hv_sub hl [3, 2, 1, 0] rfl)
