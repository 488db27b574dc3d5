set_option maxHeartbeats 4000000 in
set_option maxRecDepth 100000 in
theorem L_X7_in (E : Ev) (l : Launch) {K : MK} {R : MR} {n : Nat} (x0 : Int32) (x1 : Int32) (x2 : Int32) (I : MI) (Q : Int32 → MI → Prop) (h : w_X7_in K R x0 x1 x2 I Q) : MM E l yX7_in cX7_in 3 (some Jvm.ClassFile.FieldType.boolean) 0 0 0 0 [.int x0, .int x1, .int x2] K R I n (Qi K R n Q) := by
  refine MM.of1 (by decide) RX7 rfl (cI (cI (cI cN))) (Nat.le_of_ble_eq_true rfl) ?_
  intro p e s m args below meth c ls C hin hR hS hl
  have hx := C.1
  have hb := C.2.1
  have hml := C.2.2.1
  have hown := C.2.2.2.1
  have hts := C.2.2.2.2.1
  have hl : hv ls 3 [(0, .int x0), (1, .int x1), (2, .int x2)] := hl
  clear hin
  have hJ15 : ∀ (z0_15 : Int32) (I : MI) (H : Heap) (locs : List Loc) (ls : Array Slot), w_X7_in_b15 K R x0 x1 x2 Q z0_15 I → Rep E K R I n H → va_S (AA E) s.heap H locs → hv ls 3 [] → W p l e (rmM 0 0 0 0) s m args below meth c H locs 0 0 (MQ below (QcM E (Qi K R n Q)) args s 0 0 (AA E)) (F0 m 15 ls [.int z0_15]) := by
    intro z0_15 I H locs ls h hR hS hl
    unfold w_X7_in_b15 at h
    obtain ⟨hb1, h⟩ := h
    exact w_ireti C rfl (bz_nar hb1) hR hS h dX7_in_15
  have hJ14 : ∀ (I : MI) (H : Heap) (locs : List Loc) (ls : Array Slot), w_X7_in_b14 K R x0 x1 x2 Q  I → Rep E K R I n H → va_S (AA E) s.heap H locs → hv ls 3 [] → W p l e (rmM 0 0 0 0) s m args below meth c H locs 0 0 (MQ below (QcM E (Qi K R n Q)) args s 0 0 (AA E)) (F0 m 14 ls []) := by
    intro  I H locs ls h hR hS hl
    unfold w_X7_in_b14 at h
    refine lv_iconst (v := (0:Int32)) hx hb dX7_in_14 rfl ?_
    exact hJ15 (0:Int32) I _ _ _ h hR hS (hv_sub hl [] rfl)
  unfold w_X7_in at h
  refine lv_iload_n hx hb dX7_in_0 rfl (hv_at hl 0 rfl) ?_
  refine lv_iload_n hx hb dX7_in_1 rfl (hv_at hl 1 rfl) ?_
  refine lv_icmp_lt (tgt := 14) hx hb dX7_in_2 (by decide) (fun c3 => ?_) (fun c3 => ?_)
  · replace h := h.1 c3
    exact hJ14 I _ _ _ h hR hS (hv_sub hl [] rfl)
  · replace h := h.2 c3
    refine lv_iload_n hx hb dX7_in_5 rfl (hv_at hl 0 rfl) ?_
    refine lv_iload_n hx hb dX7_in_6 rfl (hv_at hl 2 rfl) ?_
    refine lv_icmp_gt (tgt := 14) hx hb dX7_in_7 (by decide) (fun c2 => ?_) (fun c2 => ?_)
    · replace h := h.1 c2
      exact hJ14 I _ _ _ h hR hS (hv_sub hl [] rfl)
    · replace h := h.2 c2
      refine lv_iconst (v := (1:Int32)) hx hb dX7_in_10 rfl ?_
      refine lv_goto (tgt := 15) hx hb dX7_in_11 (by decide) ?_
      exact hJ15 (1:Int32) I _ _ _ h hR hS (hv_sub hl [] rfl)
set_option maxHeartbeats 4000000 in
set_option maxRecDepth 100000 in
theorem L_X7_isPort (E : Ev) (l : Launch) {K : MK} {R : MR} {n : Nat} (x0 : Int32) (I : MI) (Q : Int32 → MI → Prop) (h : w_X7_isPort K R x0 I Q) : MM E l yX7_isPort cX7_isPort 1 (some Jvm.ClassFile.FieldType.boolean) 1 22 0 0 [.int x0] K R I n (Qi K R n Q) := by
  refine MM.of1 (by decide) RX7 rfl (cI cN) (Nat.le_of_ble_eq_true rfl) ?_
  intro p e s m args below meth c ls C hin hR hS hl
  have hx := C.1
  have hb := C.2.1
  have hml := C.2.2.1
  have hown := C.2.2.2.1
  have hts := C.2.2.2.2.1
  have hl : hv ls 1 [(0, .int x0)] := hl
  clear hin
  unfold w_X7_isPort at h
  refine lv_iload_n hx hb dX7_isPort_0 rfl (hv_at hl 0 rfl) ?_
  refine lv_iconst (v := (0:Int32)) hx hb dX7_isPort_1 rfl ?_
  refine lv_iconst (v := (3:Int32)) hx hb dX7_isPort_2 rfl ?_
  refine v_cSi (As := [.int x0, .int (0:Int32), .int (3:Int32)]) C hR hS hl.1.1 ca_X7_in kml_X7_38 (L_X7_in E l x0 (0:Int32) (3:Int32) I _ h) rfl rfl (Nat.le_of_ble_eq_true rfl) ⟨Nat.le_of_ble_eq_true rfl, Nat.le_of_ble_eq_true rfl⟩ ⟨Nat.zero_le _, Nat.zero_le _⟩ dX7_isPort_3 (fun v2 I1 H locs h hR hS => ?_)
  obtain ⟨hb3, h⟩ := h
  exact w_ireti C rfl (bz_nar hb3) hR hS h dX7_isPort_6
set_option maxHeartbeats 4000000 in
set_option maxRecDepth 100000 in
theorem L_X7_ofMaster (E : Ev) (l : Launch) {K : MK} {R : MR} {n : Nat} (x0 : Int32) (x1 : Int32) (I : MI) (Q : Int32 → MI → Prop) (h : w_X7_ofMaster K R x0 x1 I Q) : MM E l yX7_ofMaster cX7_ofMaster 2 (some Jvm.ClassFile.FieldType.int) 0 0 0 0 [.int x0, .int x1] K R I n (Qi K R n Q) := by
  refine MM.of1 (by decide) RX7 rfl (cI (cI cN)) (Nat.le_of_ble_eq_true rfl) ?_
  intro p e s m args below meth c ls C hin hR hS hl
  have hx := C.1
  have hb := C.2.1
  have hml := C.2.2.1
  have hown := C.2.2.2.1
  have hts := C.2.2.2.2.1
  have hl : hv ls 2 [(0, .int x0), (1, .int x1)] := hl
  clear hin
  unfold w_X7_ofMaster at h
  refine lv_bipush (v := (21:Int32)) hx hb dX7_ofMaster_0 (by decide) ?_
  refine lv_bipush (v := (11:Int32)) hx hb dX7_ofMaster_2 (by decide) ?_
  refine lv_iload_n hx hb dX7_ofMaster_4 rfl (hv_at hl 0 rfl) ?_
  refine lv_imul hx hb dX7_ofMaster_5 ?_
  refine lv_iadd hx hb dX7_ofMaster_6 ?_
  refine lv_iload_n hx hb dX7_ofMaster_7 rfl (hv_at hl 1 rfl) ?_
  refine lv_iadd hx hb dX7_ofMaster_8 ?_
  exact w_ireti C rfl rfl hR hS h dX7_ofMaster_9
set_option maxHeartbeats 4000000 in
set_option maxRecDepth 100000 in
theorem L_X7_ofTarget (E : Ev) (l : Launch) {K : MK} {R : MR} {n : Nat} (x0 : Int32) (x1 : Int32) (I : MI) (Q : Int32 → MI → Prop) (h : w_X7_ofTarget K R x0 x1 I Q) : MM E l yX7_ofTarget cX7_ofTarget 2 (some Jvm.ClassFile.FieldType.int) 0 0 0 0 [.int x0, .int x1] K R I n (Qi K R n Q) := by
  refine MM.of1 (by decide) RX7 rfl (cI (cI cN)) (Nat.le_of_ble_eq_true rfl) ?_
  intro p e s m args below meth c ls C hin hR hS hl
  have hx := C.1
  have hb := C.2.1
  have hml := C.2.2.1
  have hown := C.2.2.2.1
  have hts := C.2.2.2.2.1
  have hl : hv ls 2 [(0, .int x0), (1, .int x1)] := hl
  clear hin
  unfold w_X7_ofTarget at h
  refine lv_bipush (v := (65:Int32)) hx hb dX7_ofTarget_0 (by decide) ?_
  refine lv_bipush (v := (24:Int32)) hx hb dX7_ofTarget_2 (by decide) ?_
  refine lv_iload_n hx hb dX7_ofTarget_4 rfl (hv_at hl 0 rfl) ?_
  refine lv_imul hx hb dX7_ofTarget_5 ?_
  refine lv_iadd hx hb dX7_ofTarget_6 ?_
  refine lv_iload_n hx hb dX7_ofTarget_7 rfl (hv_at hl 1 rfl) ?_
  refine lv_iadd hx hb dX7_ofTarget_8 ?_
  exact w_ireti C rfl rfl hR hS h dX7_ofTarget_9
set_option maxHeartbeats 4000000 in
set_option maxRecDepth 100000 in
theorem L_X7_of (E : Ev) (l : Launch) {K : MK} {R : MR} {n : Nat} (x0 : Int32) (x1 : Int32) (I : MI) (Q : Int32 → MI → Prop) (h : w_X7_of K R x0 x1 I Q) : MM E l yX7_of cX7_of 2 (some Jvm.ClassFile.FieldType.int) 0 0 0 0 [.int x0, .int x1] K R I n (Qi K R n Q) := by
  refine MM.of1 (by decide) RX7 rfl (cI (cI cN)) (Nat.le_of_ble_eq_true rfl) ?_
  intro p e s m args below meth c ls C hin hR hS hl
  have hx := C.1
  have hb := C.2.1
  have hml := C.2.2.1
  have hown := C.2.2.2.1
  have hts := C.2.2.2.2.1
  have hl : hv ls 2 [(0, .int x0), (1, .int x1)] := hl
  clear hin
  unfold w_X7_of at h
  refine lv_sipush (v := (161:Int32)) hx hb dX7_of_0 (by decide) ?_
  refine lv_bipush (v := (11:Int32)) hx hb dX7_of_3 (by decide) ?_
  refine lv_iload_n hx hb dX7_of_5 rfl (hv_at hl 0 rfl) ?_
  refine lv_imul hx hb dX7_of_6 ?_
  refine lv_iadd hx hb dX7_of_7 ?_
  refine lv_iload_n hx hb dX7_of_8 rfl (hv_at hl 1 rfl) ?_
  refine lv_iadd hx hb dX7_of_9 ?_
  exact w_ireti C rfl rfl hR hS h dX7_of_10
set_option maxHeartbeats 4000000 in
set_option maxRecDepth 100000 in
theorem L_X7_know (E : Ev) (l : Launch) {K : MK} {R : MR} {n : Nat} (a0 : Nat) (I : MI) (Q : MI → Prop) (h : w_X7_know K R a0 I Q) : MM E l yX7_know cX7_know 2 none 0 0 0 0 [.ref a0] K R I n (Qv K R n Q) := by
  refine MM.of1 (by decide) RX7 rfl (cR cN) (Nat.le_of_ble_eq_true rfl) ?_
  intro p e s m args below meth c ls C hin hR hS hl
  have hx := C.1
  have hb := C.2.1
  have hml := C.2.2.1
  have hown := C.2.2.2.1
  have hts := C.2.2.2.2.1
  have hl : hv ls 2 [(0, .ref a0)] := hl
  clear hin
  have hJ51 : ∀ (y1_51 : Int32) (I : MI) (H : Heap) (locs : List Loc) (ls : Array Slot), w_X7_know_b51 K R a0 Q y1_51 I → Rep E K R I n H → va_S (AA E) s.heap H locs → hv ls 2 [(0, .ref a0), (1, .int y1_51)] → W p l e (rmM 0 0 0 0) s m args below meth c H locs 0 0 (MQ below (QcM E (Qv K R n Q)) args s 0 0 (AA E)) (F0 m 51 ls []) := by
    intro y1_51 I H locs ls h hR hS hl
    obtain ⟨X51, hX51⟩ : ∃ X : Int32 → MI → Prop, ∀ (y1_51 : Int32) (I : MI), X y1_51 I ↔ (∀ (H : Heap) (locs : List Loc) (ls : Array Slot), Rep E K R I n H → va_S (AA E) s.heap H locs → hv ls 2 [(0, .ref a0), (1, .int y1_51)] → W p l e (rmM 0 0 0 0) s m args below meth c H locs 0 0 (MQ below (QcM E (Qv K R n Q)) args s 0 0 (AA E)) (F0 m 51 ls [])) := ⟨fun y1_51 I => ∀ (H : Heap) (locs : List Loc) (ls : Array Slot), Rep E K R I n H → va_S (AA E) s.heap H locs → hv ls 2 [(0, .ref a0), (1, .int y1_51)] → W p l e (rmM 0 0 0 0) s m args below meth c H locs 0 0 (MQ below (QcM E (Qv K R n Q)) args s 0 0 (AA E)) (F0 m 51 ls []), fun _ _ => Iff.rfl⟩
    refine (hX51 y1_51 I).mp (h X51 ?_) H locs ls hR hS hl
    clear h hR hS hl
    clear ls locs H I y1_51
    intro y1_51 I h
    refine (hX51 y1_51 I).mpr ?_
    intro H locs ls hR hS hl
    unfold w_X7_know_b51_body at h
    refine lv_iload_n hx hb dX7_know_51 rfl (hv_at hl 1 rfl) ?_
    refine lv_sipush (v := (2361:Int32)) hx hb dX7_know_52 (by decide) ?_
    refine lv_icmp_ge (tgt := 85) hx hb dX7_know_55 (by decide) (fun c7 => ?_) (fun c7 => ?_)
    · replace h := h.1 c7
      refine lv_aload_n hx hb dX7_know_85 rfl (hv_at hl 0 rfl) ?_
      refine lv_dup hx hb dX7_know_86 rfl ?_
      obtain ⟨hf1, h⟩ := h
      refine v_get (T := TX7) (v := .int (I a0 3)) C hR 3 kfl_X7_42 rfl inG7 (by decide) rfl (IsModel.k hf1) rfl dX7_know_87 ?_
      refine lv_iconst (v := (1:Int32)) hx hb dX7_know_90 rfl ?_
      refine lv_iadd hx hb dX7_know_91 ?_
      obtain ⟨I2, hI2⟩ := ex_eq (upI I a0 3 ((I a0 3) + (1:Int32)))
      replace h := h I2 hI2
      refine v_put (T := TX7) (ty := .int) C hR hS 3 kfl_X7_42 rfl inG7 tyX7 tyX7_ok nmX7 (by decide) rfl (IsModel.k hf1) rfl (tyX7_ok 3 (by decide)) rfl rfl (fl_i_7_3 _ _ _) (Nat.le_of_ble_eq_true rfl) hI2 dX7_know_92 (fun H locs hR hS => ?_)
      exact w_vret C rfl hR hS h dX7_know_95
    · replace h := h.2 c7
      refine lv_aload_n hx hb dX7_know_58 rfl (hv_at hl 0 rfl) ?_
      obtain ⟨hf3, h⟩ := h
      refine v_get (T := TX7) (v := .ref (a0 + 3)) C hR 2 kfl_X7_16 rfl inG7 (by decide) rfl (IsModel.k hf3) (rf_of (IsModel.r2 hf3 (I a0 2))) dX7_know_59 ?_
      refine lv_sipush (v := (2361:Int32)) hx hb dX7_know_62 (by decide) ?_
      refine lv_aload_n hx hb dX7_know_65 rfl (hv_at hl 0 rfl) ?_
      refine v_get (T := TX7) (v := .int (I a0 3)) C hR 3 kfl_X7_42 rfl inG7 (by decide) rfl (IsModel.k hf3) rfl dX7_know_66 ?_
      refine lv_imul hx hb dX7_know_69 ?_
      refine lv_iload_n hx hb dX7_know_70 rfl (hv_at hl 1 rfl) ?_
      refine lv_iadd hx hb dX7_know_71 ?_
      refine lv_aload_n hx hb dX7_know_72 rfl (hv_at hl 0 rfl) ?_
      refine v_get (T := TX7) (v := .ref (a0 + 1)) C hR 0 kfl_X7_7 rfl inG7 (by decide) rfl (IsModel.k hf3) (rf_of (IsModel.r0 hf3 (I a0 0))) dX7_know_73 ?_
      refine lv_iload_n hx hb dX7_know_76 rfl (hv_at hl 1 rfl) ?_
      obtain ⟨hi4, h⟩ := h
      refine w_iald C hR (IsModel.a0 hf3) hi4 (j := (ix y1_51)) rfl dX7_know_77 ?_
      obtain ⟨hi5, h⟩ := h
      obtain ⟨I6, hI6⟩ := ex_eq (upI I (a0 + 3) (ix (((2361:Int32) * (I a0 3)) + y1_51)) (I (a0 + 1) (ix y1_51)))
      replace h := h I6 hI6
      refine w_iast C hR hS (IsModel.a2 hf3) hi5 (j := (ix (((2361:Int32) * (I a0 3)) + y1_51))) rfl hI6 dX7_know_78 (fun H locs hR hS => ?_)
      refine v_iinc (v := y1_51 + (1:Int32)) (k := 1) (lv' := [(1, .int (y1_51 + (1:Int32))), (0, .ref a0)]) hx hb dX7_know_79 hl rfl rfl (by decide) rfl (fun ls hl => ?_)
      refine lv_goto (tgt := 51) hx hb dX7_know_82 (by decide) ?_
      exact (hX51 (y1_51 + (1:Int32)) I6).mp h _ _ _ hR hS (hv_sub hl [1, 0] rfl)
  have hJ49 : ∀ (I : MI) (H : Heap) (locs : List Loc) (ls : Array Slot), w_X7_know_b49 K R a0 Q  I → Rep E K R I n H → va_S (AA E) s.heap H locs → hv ls 2 [(0, .ref a0)] → W p l e (rmM 0 0 0 0) s m args below meth c H locs 0 0 (MQ below (QcM E (Qv K R n Q)) args s 0 0 (AA E)) (F0 m 49 ls []) := by
    intro  I H locs ls h hR hS hl
    unfold w_X7_know_b49 at h
    refine lv_iconst (v := (0:Int32)) hx hb dX7_know_49 rfl ?_
    refine v_istore_n (lv' := [(1, .int (0:Int32)), (0, .ref a0)]) hx hb dX7_know_50 rfl hl (by decide) rfl (fun ls hl => ?_)
    exact hJ51 (0:Int32) I _ _ _ h hR hS (hv_sub hl [1, 0] rfl)
  have hJ10 : ∀ (y1_10 : Int32) (I : MI) (H : Heap) (locs : List Loc) (ls : Array Slot), w_X7_know_b10 K R a0 Q y1_10 I → Rep E K R I n H → va_S (AA E) s.heap H locs → hv ls 2 [(0, .ref a0), (1, .int y1_10)] → W p l e (rmM 0 0 0 0) s m args below meth c H locs 0 0 (MQ below (QcM E (Qv K R n Q)) args s 0 0 (AA E)) (F0 m 10 ls []) := by
    intro y1_10 I H locs ls h hR hS hl
    obtain ⟨X10, hX10⟩ : ∃ X : Int32 → MI → Prop, ∀ (y1_10 : Int32) (I : MI), X y1_10 I ↔ (∀ (H : Heap) (locs : List Loc) (ls : Array Slot), Rep E K R I n H → va_S (AA E) s.heap H locs → hv ls 2 [(0, .ref a0), (1, .int y1_10)] → W p l e (rmM 0 0 0 0) s m args below meth c H locs 0 0 (MQ below (QcM E (Qv K R n Q)) args s 0 0 (AA E)) (F0 m 10 ls [])) := ⟨fun y1_10 I => ∀ (H : Heap) (locs : List Loc) (ls : Array Slot), Rep E K R I n H → va_S (AA E) s.heap H locs → hv ls 2 [(0, .ref a0), (1, .int y1_10)] → W p l e (rmM 0 0 0 0) s m args below meth c H locs 0 0 (MQ below (QcM E (Qv K R n Q)) args s 0 0 (AA E)) (F0 m 10 ls []), fun _ _ => Iff.rfl⟩
    refine (hX10 y1_10 I).mp (h X10 ?_) H locs ls hR hS hl
    clear h hR hS hl
    clear ls locs H I y1_10
    intro y1_10 I h
    refine (hX10 y1_10 I).mpr ?_
    intro H locs ls hR hS hl
    unfold w_X7_know_b10_body at h
    refine lv_iload_n hx hb dX7_know_10 rfl (hv_at hl 1 rfl) ?_
    refine lv_sipush (v := (7083:Int32)) hx hb dX7_know_11 (by decide) ?_
    refine lv_icmp_ge (tgt := 39) hx hb dX7_know_14 (by decide) (fun c14 => ?_) (fun c14 => ?_)
    · replace h := h.1 c14
      refine lv_aload_n hx hb dX7_know_39 rfl (hv_at hl 0 rfl) ?_
      refine lv_dup hx hb dX7_know_40 rfl ?_
      obtain ⟨hf8, h⟩ := h
      refine v_get (T := TX7) (v := .int (I a0 3)) C hR 3 kfl_X7_42 rfl inG7 (by decide) rfl (IsModel.k hf8) rfl dX7_know_41 ?_
      refine lv_iconst (v := (1:Int32)) hx hb dX7_know_44 rfl ?_
      refine lv_isub hx hb dX7_know_45 ?_
      obtain ⟨I9, hI9⟩ := ex_eq (upI I a0 3 ((I a0 3) - (1:Int32)))
      replace h := h I9 hI9
      refine v_put (T := TX7) (ty := .int) C hR hS 3 kfl_X7_42 rfl inG7 tyX7 tyX7_ok nmX7 (by decide) rfl (IsModel.k hf8) rfl (tyX7_ok 3 (by decide)) rfl rfl (fl_i_7_3 _ _ _) (Nat.le_of_ble_eq_true rfl) hI9 dX7_know_46 (fun H locs hR hS => ?_)
      exact hJ49 I9 _ _ _ h hR hS (hv_sub hl [0] rfl)
    · replace h := h.2 c14
      refine lv_aload_n hx hb dX7_know_17 rfl (hv_at hl 0 rfl) ?_
      obtain ⟨hf10, h⟩ := h
      refine v_get (T := TX7) (v := .ref (a0 + 3)) C hR 2 kfl_X7_16 rfl inG7 (by decide) rfl (IsModel.k hf10) (rf_of (IsModel.r2 hf10 (I a0 2))) dX7_know_18 ?_
      refine lv_iload_n hx hb dX7_know_21 rfl (hv_at hl 1 rfl) ?_
      refine lv_aload_n hx hb dX7_know_22 rfl (hv_at hl 0 rfl) ?_
      refine v_get (T := TX7) (v := .ref (a0 + 3)) C hR 2 kfl_X7_16 rfl inG7 (by decide) rfl (IsModel.k hf10) (rf_of (IsModel.r2 hf10 (I a0 2))) dX7_know_23 ?_
      refine lv_sipush (v := (2361:Int32)) hx hb dX7_know_26 (by decide) ?_
      refine lv_iload_n hx hb dX7_know_29 rfl (hv_at hl 1 rfl) ?_
      refine lv_iadd hx hb dX7_know_30 ?_
      obtain ⟨hi11, h⟩ := h
      refine w_iald C hR (IsModel.a2 hf10) hi11 (j := (ix ((2361:Int32) + y1_10))) rfl dX7_know_31 ?_
      obtain ⟨hi12, h⟩ := h
      obtain ⟨I13, hI13⟩ := ex_eq (upI I (a0 + 3) (ix y1_10) (I (a0 + 3) (ix ((2361:Int32) + y1_10))))
      replace h := h I13 hI13
      refine w_iast C hR hS (IsModel.a2 hf10) hi12 (j := (ix y1_10)) rfl hI13 dX7_know_32 (fun H locs hR hS => ?_)
      refine v_iinc (v := y1_10 + (1:Int32)) (k := 1) (lv' := [(1, .int (y1_10 + (1:Int32))), (0, .ref a0)]) hx hb dX7_know_33 hl rfl rfl (by decide) rfl (fun ls hl => ?_)
      refine lv_goto (tgt := 10) hx hb dX7_know_36 (by decide) ?_
      exact (hX10 (y1_10 + (1:Int32)) I13).mp h _ _ _ hR hS (hv_sub hl [1, 0] rfl)
  unfold w_X7_know at h
  refine lv_aload_n hx hb dX7_know_0 rfl (hv_at hl 0 rfl) ?_
  obtain ⟨hf15, h⟩ := h
  refine v_get (T := TX7) (v := .int (I a0 3)) C hR 3 kfl_X7_42 rfl inG7 (by decide) rfl (IsModel.k hf15) rfl dX7_know_1 ?_
  refine lv_iconst (v := (4:Int32)) hx hb dX7_know_4 rfl ?_
  refine lv_icmp_ne (tgt := 49) hx hb dX7_know_5 (by decide) (fun c16 => ?_) (fun c16 => ?_)
  · replace h := h.1 c16
    exact hJ49 I _ _ _ h hR hS (hv_sub hl [0] rfl)
  · replace h := h.2 c16
    refine lv_iconst (v := (0:Int32)) hx hb dX7_know_8 rfl ?_
    refine v_istore_n (lv' := [(1, .int (0:Int32)), (0, .ref a0)]) hx hb dX7_know_9 rfl hl (by decide) rfl (fun ls hl => ?_)
    exact hJ10 (0:Int32) I _ _ _ h hR hS (hv_sub hl [1, 0] rfl)
set_option maxHeartbeats 4000000 in
set_option maxRecDepth 100000 in
theorem L_X7_change (E : Ev) (l : Launch) {K : MK} {R : MR} {n : Nat} (a0 : Nat) (x1 : Int32) (x2 : Int32) (I : MI) (Q : Int32 → MI → Prop) (h : w_X7_change K R a0 x1 x2 I Q) : MM E l yX7_change cX7_change 4 (some Jvm.ClassFile.FieldType.int) 1 21 0 0 [.ref a0, .int x1, .int x2] K R I n (Qi K R n Q) := by
  refine MM.of1 (by decide) RX7 rfl (cR (cI (cI cN))) (Nat.le_of_ble_eq_true rfl) ?_
  intro p e s m args below meth c ls C hin hR hS hl
  have hx := C.1
  have hb := C.2.1
  have hml := C.2.2.1
  have hown := C.2.2.2.1
  have hts := C.2.2.2.2.1
  have hl : hv ls 4 [(0, .ref a0), (1, .int x1), (2, .int x2)] := hl
  clear hin
  unfold w_X7_change at h
  refine lv_aload_n hx hb dX7_change_0 rfl (hv_at hl 0 rfl) ?_
  obtain ⟨hf1, h⟩ := h
  refine v_get (T := TX7) (v := .ref (a0 + 1)) C hR 0 kfl_X7_7 rfl inG7 (by decide) rfl (IsModel.k hf1) (rf_of (IsModel.r0 hf1 (I a0 0))) dX7_change_1 ?_
  refine lv_iload_n hx hb dX7_change_4 rfl (hv_at hl 1 rfl) ?_
  obtain ⟨hi2, h⟩ := h
  refine w_iald C hR (IsModel.a0 hf1) hi2 (j := (ix x1)) rfl dX7_change_5 ?_
  refine v_istore_n (lv' := [(3, .int (I (a0 + 1) (ix x1))), (0, .ref a0), (1, .int x1), (2, .int x2)]) hx hb dX7_change_6 rfl hl (by decide) rfl (fun ls hl => ?_)
  refine lv_iload_n hx hb dX7_change_7 rfl (hv_at hl 0 rfl) ?_
  refine lv_iload_n hx hb dX7_change_8 rfl (hv_at hl 3 rfl) ?_
  refine lv_icmp_ne (tgt := 15) hx hb dX7_change_9 (by decide) (fun c6 => ?_) (fun c6 => ?_)
  · replace h := h.1 c6
    refine lv_aload_n hx hb dX7_change_15 rfl (hv_at hl 1 rfl) ?_
    refine v_cVv (As := []) C hR hS hl.1.1 ca_X7_know kml_X7_46 (L_X7_know E l a0 I _ h) (IsModel.k hf1) rfl rfl rfl rfl (Nat.le_of_ble_eq_true rfl) ⟨Nat.le_of_ble_eq_true rfl, Nat.le_of_ble_eq_true rfl⟩ ⟨Nat.zero_le _, Nat.zero_le _⟩ dX7_change_16 (fun I3 H locs h hR hS => ?_)
    refine lv_aload_n hx hb dX7_change_19 rfl (hv_at hl 1 rfl) ?_
    refine v_get (T := TX7) (v := .ref (a0 + 1)) C hR 0 kfl_X7_7 rfl inG7 (by decide) rfl (IsModel.k hf1) (rf_of (IsModel.r0 hf1 (I3 a0 0))) dX7_change_20 ?_
    refine lv_iload_n hx hb dX7_change_23 rfl (hv_at hl 2 rfl) ?_
    refine lv_iload_n hx hb dX7_change_24 rfl (hv_at hl 3 rfl) ?_
    obtain ⟨hi4, h⟩ := h
    obtain ⟨I5, hI5⟩ := ex_eq (upI I3 (a0 + 1) (ix x1) x2)
    replace h := h I5 hI5
    refine w_iast C hR hS (IsModel.a0 hf1) hi4 (j := (ix x1)) rfl hI5 dX7_change_25 (fun H locs hR hS => ?_)
    refine lv_iload_n hx hb dX7_change_26 rfl (hv_at hl 0 rfl) ?_
    exact w_ireti C rfl rfl hR hS h dX7_change_27
  · replace h := h.2 c6
    refine lv_bipush (v := (-5:Int32)) hx hb dX7_change_12 (by decide) ?_
    exact w_ireti C rfl rfl hR hS h dX7_change_14
set_option maxHeartbeats 4000000 in
set_option maxRecDepth 100000 in
theorem L_X7_isLentFrom (E : Ev) (l : Launch) {K : MK} {R : MR} {n : Nat} (a0 : Nat) (x1 : Int32) (I : MI) (Q : Int32 → MI → Prop) (h : w_X7_isLentFrom K R a0 x1 I Q) : MM E l yX7_isLentFrom cX7_isLentFrom 4 (some Jvm.ClassFile.FieldType.boolean) 0 0 0 0 [.ref a0, .int x1] K R I n (Qi K R n Q) := by
  refine MM.of1 (by decide) RX7 rfl (cR (cI cN)) (Nat.le_of_ble_eq_true rfl) ?_
  intro p e s m args below meth c ls C hin hR hS hl
  have hx := C.1
  have hb := C.2.1
  have hml := C.2.2.1
  have hown := C.2.2.2.1
  have hts := C.2.2.2.2.1
  have hl : hv ls 4 [(0, .ref a0), (1, .int x1)] := hl
  clear hin
  have hJ4 : ∀ (y2_4 : Int32) (y3_4 : Int32) (I : MI) (H : Heap) (locs : List Loc) (ls : Array Slot), w_X7_isLentFrom_b4 K R a0 x1 Q y2_4 y3_4 I → Rep E K R I n H → va_S (AA E) s.heap H locs → hv ls 4 [(0, .ref a0), (2, .int y2_4), (3, .int y3_4)] → W p l e (rmM 0 0 0 0) s m args below meth c H locs 0 0 (MQ below (QcM E (Qi K R n Q)) args s 0 0 (AA E)) (F0 m 4 ls []) := by
    intro y2_4 y3_4 I H locs ls h hR hS hl
    obtain ⟨X4, hX4⟩ : ∃ X : Int32 → Int32 → MI → Prop, ∀ (y2_4 : Int32) (y3_4 : Int32) (I : MI), X y2_4 y3_4 I ↔ (∀ (H : Heap) (locs : List Loc) (ls : Array Slot), Rep E K R I n H → va_S (AA E) s.heap H locs → hv ls 4 [(0, .ref a0), (2, .int y2_4), (3, .int y3_4)] → W p l e (rmM 0 0 0 0) s m args below meth c H locs 0 0 (MQ below (QcM E (Qi K R n Q)) args s 0 0 (AA E)) (F0 m 4 ls [])) := ⟨fun y2_4 y3_4 I => ∀ (H : Heap) (locs : List Loc) (ls : Array Slot), Rep E K R I n H → va_S (AA E) s.heap H locs → hv ls 4 [(0, .ref a0), (2, .int y2_4), (3, .int y3_4)] → W p l e (rmM 0 0 0 0) s m args below meth c H locs 0 0 (MQ below (QcM E (Qi K R n Q)) args s 0 0 (AA E)) (F0 m 4 ls []), fun _ _ _ => Iff.rfl⟩
    refine (hX4 y2_4 y3_4 I).mp (h X4 ?_) H locs ls hR hS hl
    clear h hR hS hl
    clear ls locs H I y2_4 y3_4
    have hJ37 : ∀ (y3_37 : Int32) (z0_37 : Int32) (I : MI) (H : Heap) (locs : List Loc) (ls : Array Slot), w_X7_isLentFrom_b37 K R a0 x1 Q X4 y3_37 z0_37 I → Rep E K R I n H → va_S (AA E) s.heap H locs → hv ls 4 [(0, .ref a0), (3, .int y3_37)] → W p l e (rmM 0 0 0 0) s m args below meth c H locs 0 0 (MQ below (QcM E (Qi K R n Q)) args s 0 0 (AA E)) (F0 m 37 ls [.int z0_37]) := by
      intro y3_37 z0_37 I H locs ls h hR hS hl
      unfold w_X7_isLentFrom_b37 at h
      refine v_istore_n (lv' := [(2, .int z0_37), (0, .ref a0), (3, .int y3_37)]) hx hb dX7_isLentFrom_37 rfl hl (by decide) rfl (fun ls hl => ?_)
      refine v_iinc (v := y3_37 + (1:Int32)) (k := 2) (lv' := [(3, .int (y3_37 + (1:Int32))), (2, .int z0_37), (0, .ref a0)]) hx hb dX7_isLentFrom_38 hl rfl rfl (by decide) rfl (fun ls hl => ?_)
      refine lv_goto (tgt := 4) hx hb dX7_isLentFrom_41 (by decide) ?_
      exact (hX4 z0_37 (y3_37 + (1:Int32)) I).mp h _ _ _ hR hS (hv_sub hl [2, 1, 0] rfl)
    have hJ32 : ∀ (y3_32 : Int32) (I : MI) (H : Heap) (locs : List Loc) (ls : Array Slot), w_X7_isLentFrom_b32 K R a0 x1 Q X4 y3_32 I → Rep E K R I n H → va_S (AA E) s.heap H locs → hv ls 4 [(0, .ref a0), (3, .int y3_32)] → W p l e (rmM 0 0 0 0) s m args below meth c H locs 0 0 (MQ below (QcM E (Qi K R n Q)) args s 0 0 (AA E)) (F0 m 32 ls []) := by
      intro y3_32 I H locs ls h hR hS hl
      unfold w_X7_isLentFrom_b32 at h
      refine lv_iconst (v := (1:Int32)) hx hb dX7_isLentFrom_32 rfl ?_
      refine lv_goto (tgt := 37) hx hb dX7_isLentFrom_33 (by decide) ?_
      exact hJ37 y3_32 (1:Int32) I _ _ _ h hR hS (hv_sub hl [0, 1] rfl)
    intro y2_4 y3_4 I h
    refine (hX4 y2_4 y3_4 I).mpr ?_
    intro H locs ls hR hS hl
    unfold w_X7_isLentFrom_b4_body at h
    refine lv_iload_n hx hb dX7_isLentFrom_4 rfl (hv_at hl 2 rfl) ?_
    refine lv_aload_n hx hb dX7_isLentFrom_5 rfl (hv_at hl 0 rfl) ?_
    obtain ⟨hf1, h⟩ := h
    refine v_get (T := TX7) (v := .ref (a0 + 1)) C hR 0 kfl_X7_7 rfl inG7 (by decide) rfl (IsModel.k hf1) (rf_of (IsModel.r0 hf1 (I a0 0))) dX7_isLentFrom_6 ?_
    refine lv_iconst (v := (1:Int32)) hx hb dX7_isLentFrom_9 rfl ?_
    refine w_iald C hR (IsModel.a0 hf1) (show vp_in (1:Int32) 2361 by unfold vp_in; decide) (j := 1) (by decide) dX7_isLentFrom_10 ?_
    refine lv_icmp_ge (tgt := 44) hx hb dX7_isLentFrom_11 (by decide) (fun c6 => ?_) (fun c6 => ?_)
    · replace h := h.1 c6
      refine lv_iload_n hx hb dX7_isLentFrom_44 rfl (hv_at hl 1 rfl) ?_
      obtain ⟨hb2, h⟩ := h
      exact w_ireti C rfl (bz_nar hb2) hR hS h dX7_isLentFrom_45
    · replace h := h.2 c6
      refine lv_iload_n hx hb dX7_isLentFrom_14 rfl (hv_at hl 1 rfl) ?_
      refine lv_if_ne (tgt := 32) hx hb dX7_isLentFrom_15 (by decide) (fun c5 => ?_) (fun c5 => ?_)
      · replace h := h.1 c5
        exact hJ32 y3_4 I _ _ _ h hR hS (hv_sub hl [0, 2] rfl)
      · replace h := h.2 c5
        refine lv_aload_n hx hb dX7_isLentFrom_18 rfl (hv_at hl 0 rfl) ?_
        refine v_get (T := TX7) (v := .ref (a0 + 1)) C hR 0 kfl_X7_7 rfl inG7 (by decide) rfl (IsModel.k hf1) (rf_of (IsModel.r0 hf1 (I a0 0))) dX7_isLentFrom_19 ?_
        refine lv_bipush (v := (13:Int32)) hx hb dX7_isLentFrom_22 (by decide) ?_
        refine lv_iload_n hx hb dX7_isLentFrom_24 rfl (hv_at hl 2 rfl) ?_
        refine lv_iadd hx hb dX7_isLentFrom_25 ?_
        obtain ⟨hi3, h⟩ := h
        refine w_iald C hR (IsModel.a0 hf1) hi3 (j := (ix ((13:Int32) + y3_4))) rfl dX7_isLentFrom_26 ?_
        refine lv_bipush (v := (-5:Int32)) hx hb dX7_isLentFrom_27 (by decide) ?_
        refine lv_icmp_eq (tgt := 36) hx hb dX7_isLentFrom_29 (by decide) (fun c4 => ?_) (fun c4 => ?_)
        · replace h := h.1 c4
          refine lv_iconst (v := (0:Int32)) hx hb dX7_isLentFrom_36 rfl ?_
          exact hJ37 y3_4 (0:Int32) I _ _ _ h hR hS (hv_sub hl [0, 2] rfl)
        · replace h := h.2 c4
          exact hJ32 y3_4 I _ _ _ h hR hS (hv_sub hl [0, 2] rfl)
  unfold w_X7_isLentFrom at h
  refine lv_iconst (v := (0:Int32)) hx hb dX7_isLentFrom_0 rfl ?_
  refine v_istore_n (lv' := [(2, .int (0:Int32)), (0, .ref a0), (1, .int x1)]) hx hb dX7_isLentFrom_1 rfl hl (by decide) rfl (fun ls hl => ?_)
  refine lv_iload_n hx hb dX7_isLentFrom_2 rfl (hv_at hl 2 rfl) ?_
  refine v_istore_n (lv' := [(3, .int x1), (2, .int (0:Int32)), (0, .ref a0), (1, .int x1)]) hx hb dX7_isLentFrom_3 rfl hl (by decide) rfl (fun ls hl => ?_)
  exact hJ4 (0:Int32) x1 I _ _ _ h hR hS (hv_sub hl [2, 1, 0] rfl)
set_option maxHeartbeats 4000000 in
set_option maxRecDepth 100000 in
theorem L_X7_set (E : Ev) (l : Launch) {K : MK} {R : MR} {n : Nat} (a0 : Nat) (x1 : Int32) (x2 : Int32) (I : MI) (Q : Int32 → MI → Prop) (h : w_X7_set K R a0 x1 x2 I Q) : MM E l yX7_set cX7_set 3 (some Jvm.ClassFile.FieldType.int) 2 44 0 0 [.ref a0, .int x1, .int x2] K R I n (Qi K R n Q) := by
  refine MM.of1 (by decide) RX7 rfl (cR (cI (cI cN))) (Nat.le_of_ble_eq_true rfl) ?_
  intro p e s m args below meth c ls C hin hR hS hl
  have hx := C.1
  have hb := C.2.1
  have hml := C.2.2.1
  have hown := C.2.2.2.1
  have hts := C.2.2.2.2.1
  have hl : hv ls 3 [(0, .ref a0), (1, .int x1), (2, .int x2)] := hl
  clear hin
  have hJ46 : ∀ (I : MI) (H : Heap) (locs : List Loc) (ls : Array Slot), w_X7_set_b46 K R a0 x1 x2 Q  I → Rep E K R I n H → va_S (AA E) s.heap H locs → hv ls 3 [] → W p l e (rmM 2 44 0 0) s m args below meth c H locs 0 0 (MQ below (QcM E (Qi K R n Q)) args s 0 0 (AA E)) (F0 m 46 ls []) := by
    intro  I H locs ls h hR hS hl
    unfold w_X7_set_b46 at h
    refine lv_bipush (v := (-2:Int32)) hx hb dX7_set_46 (by decide) ?_
    exact w_ireti C rfl rfl hR hS h dX7_set_48
  have hJ64 : ∀ (I : MI) (H : Heap) (locs : List Loc) (ls : Array Slot), w_X7_set_b64 K R a0 x1 x2 Q  I → Rep E K R I n H → va_S (AA E) s.heap H locs → hv ls 3 [(0, .ref a0), (1, .int x1), (2, .int x2)] → W p l e (rmM 2 44 0 0) s m args below meth c H locs 0 0 (MQ below (QcM E (Qi K R n Q)) args s 0 0 (AA E)) (F0 m 64 ls []) := by
    intro  I H locs ls h hR hS hl
    unfold w_X7_set_b64 at h
    refine lv_aload_n hx hb dX7_set_64 rfl (hv_at hl 0 rfl) ?_
    refine lv_iconst (v := (1:Int32)) hx hb dX7_set_65 rfl ?_
    refine lv_iload_n hx hb dX7_set_66 rfl (hv_at hl 1 rfl) ?_
    refine lv_iadd hx hb dX7_set_67 ?_
    refine lv_iload_n hx hb dX7_set_68 rfl (hv_at hl 2 rfl) ?_
    obtain ⟨hf1, h⟩ := h
    refine v_cVi (As := [.int ((1:Int32) + x1), .int x2]) C hR hS hl.1.1 ca_X7_change kml_X7_53 (L_X7_change E l a0 ((1:Int32) + x1) x2 I _ h) (IsModel.k hf1) rfl rfl rfl rfl (Nat.le_of_ble_eq_true rfl) ⟨Nat.le_of_ble_eq_true rfl, Nat.le_of_ble_eq_true rfl⟩ ⟨Nat.zero_le _, Nat.zero_le _⟩ dX7_set_69 (fun v3 I2 H locs h hR hS => ?_)
    exact w_ireti C rfl rfl hR hS h dX7_set_72
  have hJ40 : ∀ (z0_40 : Int32) (z1_40 : Int32) (I : MI) (H : Heap) (locs : List Loc) (ls : Array Slot), w_X7_set_b40 K R a0 x1 x2 Q z0_40 z1_40 I → Rep E K R I n H → va_S (AA E) s.heap H locs → hv ls 3 [(0, .ref a0), (1, .int x1), (2, .int x2)] → W p l e (rmM 2 44 0 0) s m args below meth c H locs 0 0 (MQ below (QcM E (Qi K R n Q)) args s 0 0 (AA E)) (F0 m 40 ls [.int z0_40, .int z1_40, .int x2]) := by
    intro z0_40 z1_40 I H locs ls h hR hS hl
    unfold w_X7_set_b40 at h
    refine v_cSi (As := [.int x2, .int z1_40, .int z0_40]) C hR hS hl.1.1 ca_X7_in kml_X7_38 (L_X7_in E l x2 z1_40 z0_40 I _ h) rfl rfl (Nat.le_of_ble_eq_true rfl) ⟨Nat.le_of_ble_eq_true rfl, Nat.le_of_ble_eq_true rfl⟩ ⟨Nat.zero_le _, Nat.zero_le _⟩ dX7_set_40 (fun v5 I4 H locs h hR hS => ?_)
    refine lv_if_ne (tgt := 49) hx hb dX7_set_43 (by decide) (fun c11 => ?_) (fun c11 => ?_)
    · replace h := h.1 c11
      refine lv_iload_n hx hb dX7_set_49 rfl (hv_at hl 1 rfl) ?_
      refine lv_if_ne (tgt := 64) hx hb dX7_set_50 (by decide) (fun c10 => ?_) (fun c10 => ?_)
      · replace h := h.1 c10
        exact hJ64 I4 _ _ _ h hR hS (hv_sub hl [0, 1, 2] rfl)
      · replace h := h.2 c10
        refine lv_aload_n hx hb dX7_set_53 rfl (hv_at hl 0 rfl) ?_
        refine lv_iload_n hx hb dX7_set_54 rfl (hv_at hl 2 rfl) ?_
        obtain ⟨hf6, h⟩ := h
        refine v_cVi (As := [.int x2]) C hR hS hl.1.1 ca_X7_isLentFrom kml_X7_49 (L_X7_isLentFrom E l a0 x2 I4 _ h) (IsModel.k hf6) rfl rfl rfl rfl (Nat.le_of_ble_eq_true rfl) ⟨Nat.le_of_ble_eq_true rfl, Nat.le_of_ble_eq_true rfl⟩ ⟨Nat.zero_le _, Nat.zero_le _⟩ dX7_set_55 (fun v8 I7 H locs h hR hS => ?_)
        refine lv_if_eq (tgt := 64) hx hb dX7_set_58 (by decide) (fun c9 => ?_) (fun c9 => ?_)
        · replace h := h.1 c9
          exact hJ64 I7 _ _ _ h hR hS (hv_sub hl [0, 1, 2] rfl)
        · replace h := h.2 c9
          refine lv_bipush (v := (-4:Int32)) hx hb dX7_set_61 (by decide) ?_
          exact w_ireti C rfl rfl hR hS h dX7_set_63
    · replace h := h.2 c11
      exact hJ46 I4 _ _ _ h hR hS (hv_sub hl [] rfl)
  have hJ20 : ∀ (z0_20 : Int32) (I : MI) (H : Heap) (locs : List Loc) (ls : Array Slot), w_X7_set_b20 K R a0 x1 x2 Q z0_20 I → Rep E K R I n H → va_S (AA E) s.heap H locs → hv ls 3 [(0, .ref a0), (1, .int x1), (2, .int x2)] → W p l e (rmM 2 44 0 0) s m args below meth c H locs 0 0 (MQ below (QcM E (Qi K R n Q)) args s 0 0 (AA E)) (F0 m 20 ls [.int z0_20, .int x2]) := by
    intro z0_20 I H locs ls h hR hS hl
    unfold w_X7_set_b20 at h
    refine lv_iload_n hx hb dX7_set_20 rfl (hv_at hl 1 rfl) ?_
    refine lv_if_ne (tgt := 29) hx hb dX7_set_21 (by decide) (fun c13 => ?_) (fun c13 => ?_)
    · replace h := h.1 c13
      refine lv_iload_n hx hb dX7_set_29 rfl (hv_at hl 1 rfl) ?_
      refine lv_iconst (v := (1:Int32)) hx hb dX7_set_30 rfl ?_
      refine lv_icmp_ne (tgt := 38) hx hb dX7_set_31 (by decide) (fun c12 => ?_) (fun c12 => ?_)
      · replace h := h.1 c12
        refine lv_bipush (v := (50:Int32)) hx hb dX7_set_38 (by decide) ?_
        exact hJ40 (50:Int32) z0_20 I _ _ _ h hR hS (hv_sub hl [0, 1, 2] rfl)
      · replace h := h.2 c12
        refine lv_iconst (v := (2:Int32)) hx hb dX7_set_34 rfl ?_
        refine lv_goto (tgt := 40) hx hb dX7_set_35 (by decide) ?_
        exact hJ40 (2:Int32) z0_20 I _ _ _ h hR hS (hv_sub hl [0, 1, 2] rfl)
    · replace h := h.2 c13
      refine lv_bipush (v := (8:Int32)) hx hb dX7_set_24 (by decide) ?_
      refine lv_goto (tgt := 40) hx hb dX7_set_26 (by decide) ?_
      exact hJ40 (8:Int32) z0_20 I _ _ _ h hR hS (hv_sub hl [0, 1, 2] rfl)
  unfold w_X7_set at h
  refine lv_iload_n hx hb dX7_set_0 rfl (hv_at hl 1 rfl) ?_
  refine lv_iconst (v := (0:Int32)) hx hb dX7_set_1 rfl ?_
  refine lv_iconst (v := (2:Int32)) hx hb dX7_set_2 rfl ?_
  refine v_cSi (As := [.int x1, .int (0:Int32), .int (2:Int32)]) C hR hS hl.1.1 ca_X7_in kml_X7_38 (L_X7_in E l x1 (0:Int32) (2:Int32) I _ h) rfl rfl (Nat.le_of_ble_eq_true rfl) ⟨Nat.le_of_ble_eq_true rfl, Nat.le_of_ble_eq_true rfl⟩ ⟨Nat.zero_le _, Nat.zero_le _⟩ dX7_set_3 (fun v15 I14 H locs h hR hS => ?_)
  refine lv_if_eq (tgt := 46) hx hb dX7_set_6 (by decide) (fun c17 => ?_) (fun c17 => ?_)
  · replace h := h.1 c17
    exact hJ46 I14 _ _ _ h hR hS (hv_sub hl [] rfl)
  · replace h := h.2 c17
    refine lv_iload_n hx hb dX7_set_9 rfl (hv_at hl 2 rfl) ?_
    refine lv_iload_n hx hb dX7_set_10 rfl (hv_at hl 1 rfl) ?_
    refine lv_iconst (v := (1:Int32)) hx hb dX7_set_11 rfl ?_
    refine lv_icmp_ne (tgt := 19) hx hb dX7_set_12 (by decide) (fun c16 => ?_) (fun c16 => ?_)
    · replace h := h.1 c16
      refine lv_iconst (v := (1:Int32)) hx hb dX7_set_19 rfl ?_
      exact hJ20 (1:Int32) I14 _ _ _ h hR hS (hv_sub hl [0, 1, 2] rfl)
    · replace h := h.2 c16
      refine lv_iconst (v := (0:Int32)) hx hb dX7_set_15 rfl ?_
      refine lv_goto (tgt := 20) hx hb dX7_set_16 (by decide) ?_
      exact hJ20 (0:Int32) I14 _ _ _ h hR hS (hv_sub hl [0, 1, 2] rfl)
set_option maxHeartbeats 4000000 in
set_option maxRecDepth 100000 in
theorem L_X7_setShare (E : Ev) (l : Launch) {K : MK} {R : MR} {n : Nat} (a0 : Nat) (x1 : Int32) (x2 : Int32) (I : MI) (Q : Int32 → MI → Prop) (h : w_X7_setShare K R a0 x1 x2 I Q) : MM E l yX7_setShare cX7_setShare 3 (some Jvm.ClassFile.FieldType.int) 2 44 0 0 [.ref a0, .int x1, .int x2] K R I n (Qi K R n Q) := by
  refine MM.of1 (by decide) RX7 rfl (cR (cI (cI cN))) (Nat.le_of_ble_eq_true rfl) ?_
  intro p e s m args below meth c ls C hin hR hS hl
  have hx := C.1
  have hb := C.2.1
  have hml := C.2.2.1
  have hown := C.2.2.2.1
  have hts := C.2.2.2.2.1
  have hl : hv ls 3 [(0, .ref a0), (1, .int x1), (2, .int x2)] := hl
  clear hin
  have hJ35 : ∀ (z0_35 : Int32) (I : MI) (H : Heap) (locs : List Loc) (ls : Array Slot), w_X7_setShare_b35 K R a0 x1 x2 Q z0_35 I → Rep E K R I n H → va_S (AA E) s.heap H locs → hv ls 3 [] → W p l e (rmM 2 44 0 0) s m args below meth c H locs 0 0 (MQ below (QcM E (Qi K R n Q)) args s 0 0 (AA E)) (F0 m 35 ls [.int z0_35]) := by
    intro z0_35 I H locs ls h hR hS hl
    unfold w_X7_setShare_b35 at h
    exact w_ireti C rfl rfl hR hS h dX7_setShare_35
  unfold w_X7_setShare at h
  refine lv_iload_n hx hb dX7_setShare_0 rfl (hv_at hl 1 rfl) ?_
  refine v_cSi (As := [.int x1]) C hR hS hl.1.1 ca_X7_isPort kml_X7_56 (L_X7_isPort E l x1 I _ h) rfl rfl (Nat.le_of_ble_eq_true rfl) ⟨Nat.le_of_ble_eq_true rfl, Nat.le_of_ble_eq_true rfl⟩ ⟨Nat.zero_le _, Nat.zero_le _⟩ dX7_setShare_1 (fun v2 I1 H locs h hR hS => ?_)
  refine lv_if_ne (tgt := 9) hx hb dX7_setShare_4 (by decide) (fun c11 => ?_) (fun c11 => ?_)
  · replace h := h.1 c11
    refine lv_iload_n hx hb dX7_setShare_9 rfl (hv_at hl 2 rfl) ?_
    refine lv_iconst (v := (1:Int32)) hx hb dX7_setShare_10 rfl ?_
    refine lv_bipush (v := (8:Int32)) hx hb dX7_setShare_11 (by decide) ?_
    refine v_cSi (As := [.int x2, .int (1:Int32), .int (8:Int32)]) C hR hS hl.1.1 ca_X7_in kml_X7_38 (L_X7_in E l x2 (1:Int32) (8:Int32) I1 _ h) rfl rfl (Nat.le_of_ble_eq_true rfl) ⟨Nat.le_of_ble_eq_true rfl, Nat.le_of_ble_eq_true rfl⟩ ⟨Nat.zero_le _, Nat.zero_le _⟩ dX7_setShare_13 (fun v4 I3 H locs h hR hS => ?_)
    refine lv_if_eq (tgt := 33) hx hb dX7_setShare_16 (by decide) (fun c10 => ?_) (fun c10 => ?_)
    · replace h := h.1 c10
      refine lv_bipush (v := (-2:Int32)) hx hb dX7_setShare_33 (by decide) ?_
      exact hJ35 (-2:Int32) I3 _ _ _ h hR hS (hv_sub hl [] rfl)
    · replace h := h.2 c10
      refine lv_aload_n hx hb dX7_setShare_19 rfl (hv_at hl 0 rfl) ?_
      refine lv_iload_n hx hb dX7_setShare_20 rfl (hv_at hl 1 rfl) ?_
      refine lv_bipush (v := (7:Int32)) hx hb dX7_setShare_21 (by decide) ?_
      refine v_cSi (As := [.int x1, .int (7:Int32)]) C hR hS hl.1.1 ca_X7_ofMaster kml_X7_31 (L_X7_ofMaster E l x1 (7:Int32) I3 _ h) rfl rfl (Nat.le_of_ble_eq_true rfl) ⟨Nat.le_of_ble_eq_true rfl, Nat.le_of_ble_eq_true rfl⟩ ⟨Nat.zero_le _, Nat.zero_le _⟩ dX7_setShare_23 (fun v6 I5 H locs h hR hS => ?_)
      refine lv_iload_n hx hb dX7_setShare_26 rfl (hv_at hl 2 rfl) ?_
      obtain ⟨hf7, h⟩ := h
      refine v_cVi (As := [.int v6, .int x2]) C hR hS hl.1.1 ca_X7_change kml_X7_53 (L_X7_change E l a0 v6 x2 I5 _ h) (IsModel.k hf7) rfl rfl rfl rfl (Nat.le_of_ble_eq_true rfl) ⟨Nat.le_of_ble_eq_true rfl, Nat.le_of_ble_eq_true rfl⟩ ⟨Nat.zero_le _, Nat.zero_le _⟩ dX7_setShare_27 (fun v9 I8 H locs h hR hS => ?_)
      refine lv_goto (tgt := 35) hx hb dX7_setShare_30 (by decide) ?_
      exact hJ35 v9 I8 _ _ _ h hR hS (hv_sub hl [] rfl)
  · replace h := h.2 c11
    refine lv_iconst (v := (-1:Int32)) hx hb dX7_setShare_7 rfl ?_
    exact w_ireti C rfl rfl hR hS h dX7_setShare_8
set_option maxHeartbeats 4000000 in
set_option maxRecDepth 100000 in
theorem L_X7_setTarget (E : Ev) (l : Launch) {K : MK} {R : MR} {n : Nat} (a0 : Nat) (x1 : Int32) (x2 : Int32) (x3 : Int32) (I : MI) (Q : Int32 → MI → Prop) (h : w_X7_setTarget K R a0 x1 x2 x3 I Q) : MM E l yX7_setTarget cX7_setTarget 4 (some Jvm.ClassFile.FieldType.int) 2 44 0 0 [.ref a0, .int x1, .int x2, .int x3] K R I n (Qi K R n Q) := by
  refine MM.of1 (by decide) RX7 rfl (cR (cI (cI (cI cN)))) (Nat.le_of_ble_eq_true rfl) ?_
  intro p e s m args below meth c ls C hin hR hS hl
  have hx := C.1
  have hb := C.2.1
  have hml := C.2.2.1
  have hown := C.2.2.2.1
  have hts := C.2.2.2.2.1
  have hl : hv ls 4 [(0, .ref a0), (1, .int x1), (2, .int x2), (3, .int x3)] := hl
  clear hin
  have hJ54 : ∀ (I : MI) (H : Heap) (locs : List Loc) (ls : Array Slot), w_X7_setTarget_b54 K R a0 x1 x2 x3 Q  I → Rep E K R I n H → va_S (AA E) s.heap H locs → hv ls 4 [] → W p l e (rmM 2 44 0 0) s m args below meth c H locs 0 0 (MQ below (QcM E (Qi K R n Q)) args s 0 0 (AA E)) (F0 m 54 ls []) := by
    intro  I H locs ls h hR hS hl
    unfold w_X7_setTarget_b54 at h
    refine lv_bipush (v := (-2:Int32)) hx hb dX7_setTarget_54 (by decide) ?_
    exact w_ireti C rfl rfl hR hS h dX7_setTarget_56
  have hJ48 : ∀ (z0_48 : Int32) (z1_48 : Int32) (I : MI) (H : Heap) (locs : List Loc) (ls : Array Slot), w_X7_setTarget_b48 K R a0 x1 x2 x3 Q z0_48 z1_48 I → Rep E K R I n H → va_S (AA E) s.heap H locs → hv ls 4 [(0, .ref a0), (1, .int x1), (2, .int x2), (3, .int x3)] → W p l e (rmM 2 44 0 0) s m args below meth c H locs 0 0 (MQ below (QcM E (Qi K R n Q)) args s 0 0 (AA E)) (F0 m 48 ls [.int z0_48, .int z1_48, .int x3]) := by
    intro z0_48 z1_48 I H locs ls h hR hS hl
    unfold w_X7_setTarget_b48 at h
    refine v_cSi (As := [.int x3, .int z1_48, .int z0_48]) C hR hS hl.1.1 ca_X7_in kml_X7_38 (L_X7_in E l x3 z1_48 z0_48 I _ h) rfl rfl (Nat.le_of_ble_eq_true rfl) ⟨Nat.le_of_ble_eq_true rfl, Nat.le_of_ble_eq_true rfl⟩ ⟨Nat.zero_le _, Nat.zero_le _⟩ dX7_setTarget_48 (fun v2 I1 H locs h hR hS => ?_)
    refine lv_if_ne (tgt := 57) hx hb dX7_setTarget_51 (by decide) (fun c8 => ?_) (fun c8 => ?_)
    · replace h := h.1 c8
      refine lv_aload_n hx hb dX7_setTarget_57 rfl (hv_at hl 0 rfl) ?_
      refine lv_iload_n hx hb dX7_setTarget_58 rfl (hv_at hl 1 rfl) ?_
      refine lv_bipush (v := (16:Int32)) hx hb dX7_setTarget_59 (by decide) ?_
      refine lv_iload_n hx hb dX7_setTarget_61 rfl (hv_at hl 2 rfl) ?_
      refine lv_iadd hx hb dX7_setTarget_62 ?_
      refine v_cSi (As := [.int x1, .int ((16:Int32) + x2)]) C hR hS hl.1.1 ca_X7_ofTarget kml_X7_35 (L_X7_ofTarget E l x1 ((16:Int32) + x2) I1 _ h) rfl rfl (Nat.le_of_ble_eq_true rfl) ⟨Nat.le_of_ble_eq_true rfl, Nat.le_of_ble_eq_true rfl⟩ ⟨Nat.zero_le _, Nat.zero_le _⟩ dX7_setTarget_63 (fun v4 I3 H locs h hR hS => ?_)
      refine lv_iload_n hx hb dX7_setTarget_66 rfl (hv_at hl 3 rfl) ?_
      obtain ⟨hf5, h⟩ := h
      refine v_cVi (As := [.int v4, .int x3]) C hR hS hl.1.1 ca_X7_change kml_X7_53 (L_X7_change E l a0 v4 x3 I3 _ h) (IsModel.k hf5) rfl rfl rfl rfl (Nat.le_of_ble_eq_true rfl) ⟨Nat.le_of_ble_eq_true rfl, Nat.le_of_ble_eq_true rfl⟩ ⟨Nat.zero_le _, Nat.zero_le _⟩ dX7_setTarget_67 (fun v7 I6 H locs h hR hS => ?_)
      exact w_ireti C rfl rfl hR hS h dX7_setTarget_70
    · replace h := h.2 c8
      exact hJ54 I1 _ _ _ h hR hS (hv_sub hl [] rfl)
  have hJ29 : ∀ (z0_29 : Int32) (I : MI) (H : Heap) (locs : List Loc) (ls : Array Slot), w_X7_setTarget_b29 K R a0 x1 x2 x3 Q z0_29 I → Rep E K R I n H → va_S (AA E) s.heap H locs → hv ls 4 [(0, .ref a0), (1, .int x1), (2, .int x2), (3, .int x3)] → W p l e (rmM 2 44 0 0) s m args below meth c H locs 0 0 (MQ below (QcM E (Qi K R n Q)) args s 0 0 (AA E)) (F0 m 29 ls [.int z0_29, .int x3]) := by
    intro z0_29 I H locs ls h hR hS hl
    unfold w_X7_setTarget_b29 at h
    refine lv_iload_n hx hb dX7_setTarget_29 rfl (hv_at hl 2 rfl) ?_
    refine lv_if_ne (tgt := 37) hx hb dX7_setTarget_30 (by decide) (fun c10 => ?_) (fun c10 => ?_)
    · replace h := h.1 c10
      refine lv_iload_n hx hb dX7_setTarget_37 rfl (hv_at hl 2 rfl) ?_
      refine lv_iconst (v := (1:Int32)) hx hb dX7_setTarget_38 rfl ?_
      refine lv_icmp_ne (tgt := 47) hx hb dX7_setTarget_39 (by decide) (fun c9 => ?_) (fun c9 => ?_)
      · replace h := h.1 c9
        refine lv_iconst (v := (1:Int32)) hx hb dX7_setTarget_47 rfl ?_
        exact hJ48 (1:Int32) z0_29 I _ _ _ h hR hS (hv_sub hl [0, 1, 2, 3] rfl)
      · replace h := h.2 c9
        refine lv_bipush (v := (9:Int32)) hx hb dX7_setTarget_42 (by decide) ?_
        refine lv_goto (tgt := 48) hx hb dX7_setTarget_44 (by decide) ?_
        exact hJ48 (9:Int32) z0_29 I _ _ _ h hR hS (hv_sub hl [0, 1, 2, 3] rfl)
    · replace h := h.2 c10
      refine lv_iconst (v := (4:Int32)) hx hb dX7_setTarget_33 rfl ?_
      refine lv_goto (tgt := 48) hx hb dX7_setTarget_34 (by decide) ?_
      exact hJ48 (4:Int32) z0_29 I _ _ _ h hR hS (hv_sub hl [0, 1, 2, 3] rfl)
  unfold w_X7_setTarget at h
  refine lv_iload_n hx hb dX7_setTarget_0 rfl (hv_at hl 1 rfl) ?_
  refine v_cSi (As := [.int x1]) C hR hS hl.1.1 ca_X7_isPort kml_X7_56 (L_X7_isPort E l x1 I _ h) rfl rfl (Nat.le_of_ble_eq_true rfl) ⟨Nat.le_of_ble_eq_true rfl, Nat.le_of_ble_eq_true rfl⟩ ⟨Nat.zero_le _, Nat.zero_le _⟩ dX7_setTarget_1 (fun v12 I11 H locs h hR hS => ?_)
  refine lv_if_ne (tgt := 9) hx hb dX7_setTarget_4 (by decide) (fun c17 => ?_) (fun c17 => ?_)
  · replace h := h.1 c17
    refine lv_iload_n hx hb dX7_setTarget_9 rfl (hv_at hl 2 rfl) ?_
    refine lv_iconst (v := (0:Int32)) hx hb dX7_setTarget_10 rfl ?_
    refine lv_iconst (v := (2:Int32)) hx hb dX7_setTarget_11 rfl ?_
    refine v_cSi (As := [.int x2, .int (0:Int32), .int (2:Int32)]) C hR hS hl.1.1 ca_X7_in kml_X7_38 (L_X7_in E l x2 (0:Int32) (2:Int32) I11 _ h) rfl rfl (Nat.le_of_ble_eq_true rfl) ⟨Nat.le_of_ble_eq_true rfl, Nat.le_of_ble_eq_true rfl⟩ ⟨Nat.zero_le _, Nat.zero_le _⟩ dX7_setTarget_12 (fun v14 I13 H locs h hR hS => ?_)
    refine lv_if_eq (tgt := 54) hx hb dX7_setTarget_15 (by decide) (fun c16 => ?_) (fun c16 => ?_)
    · replace h := h.1 c16
      exact hJ54 I13 _ _ _ h hR hS (hv_sub hl [] rfl)
    · replace h := h.2 c16
      refine lv_iload_n hx hb dX7_setTarget_18 rfl (hv_at hl 3 rfl) ?_
      refine lv_iload_n hx hb dX7_setTarget_19 rfl (hv_at hl 2 rfl) ?_
      refine lv_iconst (v := (2:Int32)) hx hb dX7_setTarget_20 rfl ?_
      refine lv_icmp_ne (tgt := 28) hx hb dX7_setTarget_21 (by decide) (fun c15 => ?_) (fun c15 => ?_)
      · replace h := h.1 c15
        refine lv_iconst (v := (1:Int32)) hx hb dX7_setTarget_28 rfl ?_
        exact hJ29 (1:Int32) I13 _ _ _ h hR hS (hv_sub hl [0, 1, 2, 3] rfl)
      · replace h := h.2 c15
        refine lv_iconst (v := (0:Int32)) hx hb dX7_setTarget_24 rfl ?_
        refine lv_goto (tgt := 29) hx hb dX7_setTarget_25 (by decide) ?_
        exact hJ29 (0:Int32) I13 _ _ _ h hR hS (hv_sub hl [0, 1, 2, 3] rfl)
  · replace h := h.2 c17
    refine lv_iconst (v := (-1:Int32)) hx hb dX7_setTarget_7 rfl ?_
    exact w_ireti C rfl rfl hR hS h dX7_setTarget_8
set_option maxHeartbeats 4000000 in
set_option maxRecDepth 100000 in
theorem L_X7_setCell (E : Ev) (l : Launch) {K : MK} {R : MR} {n : Nat} (a0 : Nat) (x1 : Int32) (x2 : Int32) (x3 : Int32) (I : MI) (Q : Int32 → MI → Prop) (h : w_X7_setCell K R a0 x1 x2 x3 I Q) : MM E l yX7_setCell cX7_setCell 4 (some Jvm.ClassFile.FieldType.int) 2 44 0 0 [.ref a0, .int x1, .int x2, .int x3] K R I n (Qi K R n Q) := by
  refine MM.of1 (by decide) RX7 rfl (cR (cI (cI (cI cN)))) (Nat.le_of_ble_eq_true rfl) ?_
  intro p e s m args below meth c ls C hin hR hS hl
  have hx := C.1
  have hb := C.2.1
  have hml := C.2.2.1
  have hown := C.2.2.2.1
  have hts := C.2.2.2.2.1
  have hl : hv ls 4 [(0, .ref a0), (1, .int x1), (2, .int x2), (3, .int x3)] := hl
  clear hin
  have hJ44 : ∀ (z0_44 : Int32) (I : MI) (H : Heap) (locs : List Loc) (ls : Array Slot), w_X7_setCell_b44 K R a0 x1 x2 x3 Q z0_44 I → Rep E K R I n H → va_S (AA E) s.heap H locs → hv ls 4 [] → W p l e (rmM 2 44 0 0) s m args below meth c H locs 0 0 (MQ below (QcM E (Qi K R n Q)) args s 0 0 (AA E)) (F0 m 44 ls [.int z0_44]) := by
    intro z0_44 I H locs ls h hR hS hl
    unfold w_X7_setCell_b44 at h
    exact w_ireti C rfl rfl hR hS h dX7_setCell_44
  have hJ42 : ∀ (I : MI) (H : Heap) (locs : List Loc) (ls : Array Slot), w_X7_setCell_b42 K R a0 x1 x2 x3 Q  I → Rep E K R I n H → va_S (AA E) s.heap H locs → hv ls 4 [] → W p l e (rmM 2 44 0 0) s m args below meth c H locs 0 0 (MQ below (QcM E (Qi K R n Q)) args s 0 0 (AA E)) (F0 m 42 ls []) := by
    intro  I H locs ls h hR hS hl
    unfold w_X7_setCell_b42 at h
    refine lv_bipush (v := (-2:Int32)) hx hb dX7_setCell_42 (by decide) ?_
    exact hJ44 (-2:Int32) I _ _ _ h hR hS (hv_sub hl [] rfl)
  unfold w_X7_setCell at h
  refine lv_iload_n hx hb dX7_setCell_0 rfl (hv_at hl 1 rfl) ?_
  refine v_cSi (As := [.int x1]) C hR hS hl.1.1 ca_X7_isPort kml_X7_56 (L_X7_isPort E l x1 I _ h) rfl rfl (Nat.le_of_ble_eq_true rfl) ⟨Nat.le_of_ble_eq_true rfl, Nat.le_of_ble_eq_true rfl⟩ ⟨Nat.zero_le _, Nat.zero_le _⟩ dX7_setCell_1 (fun v2 I1 H locs h hR hS => ?_)
  refine lv_if_ne (tgt := 9) hx hb dX7_setCell_4 (by decide) (fun c14 => ?_) (fun c14 => ?_)
  · replace h := h.1 c14
    refine lv_iload_n hx hb dX7_setCell_9 rfl (hv_at hl 2 rfl) ?_
    refine lv_iconst (v := (0:Int32)) hx hb dX7_setCell_10 rfl ?_
    refine lv_bipush (v := (15:Int32)) hx hb dX7_setCell_11 (by decide) ?_
    refine v_cSi (As := [.int x2, .int (0:Int32), .int (15:Int32)]) C hR hS hl.1.1 ca_X7_in kml_X7_38 (L_X7_in E l x2 (0:Int32) (15:Int32) I1 _ h) rfl rfl (Nat.le_of_ble_eq_true rfl) ⟨Nat.le_of_ble_eq_true rfl, Nat.le_of_ble_eq_true rfl⟩ ⟨Nat.zero_le _, Nat.zero_le _⟩ dX7_setCell_13 (fun v4 I3 H locs h hR hS => ?_)
    refine lv_if_eq (tgt := 42) hx hb dX7_setCell_16 (by decide) (fun c13 => ?_) (fun c13 => ?_)
    · replace h := h.1 c13
      exact hJ42 I3 _ _ _ h hR hS (hv_sub hl [] rfl)
    · replace h := h.2 c13
      refine lv_iload_n hx hb dX7_setCell_19 rfl (hv_at hl 3 rfl) ?_
      refine lv_iconst (v := (0:Int32)) hx hb dX7_setCell_20 rfl ?_
      refine lv_bipush (v := (99:Int32)) hx hb dX7_setCell_21 (by decide) ?_
      refine v_cSi (As := [.int x3, .int (0:Int32), .int (99:Int32)]) C hR hS hl.1.1 ca_X7_in kml_X7_38 (L_X7_in E l x3 (0:Int32) (99:Int32) I3 _ h) rfl rfl (Nat.le_of_ble_eq_true rfl) ⟨Nat.le_of_ble_eq_true rfl, Nat.le_of_ble_eq_true rfl⟩ ⟨Nat.zero_le _, Nat.zero_le _⟩ dX7_setCell_23 (fun v6 I5 H locs h hR hS => ?_)
      refine lv_if_eq (tgt := 42) hx hb dX7_setCell_26 (by decide) (fun c12 => ?_) (fun c12 => ?_)
      · replace h := h.1 c12
        exact hJ42 I5 _ _ _ h hR hS (hv_sub hl [] rfl)
      · replace h := h.2 c12
        refine lv_aload_n hx hb dX7_setCell_29 rfl (hv_at hl 0 rfl) ?_
        refine lv_iload_n hx hb dX7_setCell_30 rfl (hv_at hl 1 rfl) ?_
        refine lv_iload_n hx hb dX7_setCell_31 rfl (hv_at hl 2 rfl) ?_
        refine v_cSi (As := [.int x1, .int x2]) C hR hS hl.1.1 ca_X7_ofTarget kml_X7_35 (L_X7_ofTarget E l x1 x2 I5 _ h) rfl rfl (Nat.le_of_ble_eq_true rfl) ⟨Nat.le_of_ble_eq_true rfl, Nat.le_of_ble_eq_true rfl⟩ ⟨Nat.zero_le _, Nat.zero_le _⟩ dX7_setCell_32 (fun v8 I7 H locs h hR hS => ?_)
        refine lv_iload_n hx hb dX7_setCell_35 rfl (hv_at hl 3 rfl) ?_
        obtain ⟨hf9, h⟩ := h
        refine v_cVi (As := [.int v8, .int x3]) C hR hS hl.1.1 ca_X7_change kml_X7_53 (L_X7_change E l a0 v8 x3 I7 _ h) (IsModel.k hf9) rfl rfl rfl rfl (Nat.le_of_ble_eq_true rfl) ⟨Nat.le_of_ble_eq_true rfl, Nat.le_of_ble_eq_true rfl⟩ ⟨Nat.zero_le _, Nat.zero_le _⟩ dX7_setCell_36 (fun v11 I10 H locs h hR hS => ?_)
        refine lv_goto (tgt := 44) hx hb dX7_setCell_39 (by decide) ?_
        exact hJ44 v11 I10 _ _ _ h hR hS (hv_sub hl [] rfl)
  · replace h := h.2 c14
    refine lv_iconst (v := (-1:Int32)) hx hb dX7_setCell_7 rfl ?_
    exact w_ireti C rfl rfl hR hS h dX7_setCell_8
set_option maxHeartbeats 4000000 in
set_option maxRecDepth 100000 in
theorem L_X7_isRoom (E : Ev) (l : Launch) {K : MK} {R : MR} {n : Nat} (a0 : Nat) (x1 : Int32) (I : MI) (Q : Int32 → MI → Prop) (h : w_X7_isRoom K R a0 x1 I Q) : MM E l yX7_isRoom cX7_isRoom 2 (some Jvm.ClassFile.FieldType.boolean) 1 21 0 0 [.ref a0, .int x1] K R I n (Qi K R n Q) := by
  refine MM.of1 (by decide) RX7 rfl (cR (cI cN)) (Nat.le_of_ble_eq_true rfl) ?_
  intro p e s m args below meth c ls C hin hR hS hl
  have hx := C.1
  have hb := C.2.1
  have hml := C.2.2.1
  have hown := C.2.2.2.1
  have hts := C.2.2.2.2.1
  have hl : hv ls 2 [(0, .ref a0), (1, .int x1)] := hl
  clear hin
  have hJ32 : ∀ (z0_32 : Int32) (I : MI) (H : Heap) (locs : List Loc) (ls : Array Slot), w_X7_isRoom_b32 K R a0 x1 Q z0_32 I → Rep E K R I n H → va_S (AA E) s.heap H locs → hv ls 2 [] → W p l e (rmM 1 21 0 0) s m args below meth c H locs 0 0 (MQ below (QcM E (Qi K R n Q)) args s 0 0 (AA E)) (F0 m 32 ls [.int z0_32]) := by
    intro z0_32 I H locs ls h hR hS hl
    unfold w_X7_isRoom_b32 at h
    obtain ⟨hb1, h⟩ := h
    exact w_ireti C rfl (bz_nar hb1) hR hS h dX7_isRoom_32
  have hJ31 : ∀ (I : MI) (H : Heap) (locs : List Loc) (ls : Array Slot), w_X7_isRoom_b31 K R a0 x1 Q  I → Rep E K R I n H → va_S (AA E) s.heap H locs → hv ls 2 [] → W p l e (rmM 1 21 0 0) s m args below meth c H locs 0 0 (MQ below (QcM E (Qi K R n Q)) args s 0 0 (AA E)) (F0 m 31 ls []) := by
    intro  I H locs ls h hR hS hl
    unfold w_X7_isRoom_b31 at h
    refine lv_iconst (v := (0:Int32)) hx hb dX7_isRoom_31 rfl ?_
    exact hJ32 (0:Int32) I _ _ _ h hR hS (hv_sub hl [] rfl)
  unfold w_X7_isRoom at h
  refine lv_aload_n hx hb dX7_isRoom_0 rfl (hv_at hl 0 rfl) ?_
  obtain ⟨hf2, h⟩ := h
  refine v_get (T := TX7) (v := .ref (a0 + 1)) C hR 0 kfl_X7_7 rfl inG7 (by decide) rfl (IsModel.k hf2) (rf_of (IsModel.r0 hf2 (I a0 0))) dX7_isRoom_1 ?_
  refine lv_iload_n hx hb dX7_isRoom_4 rfl (hv_at hl 1 rfl) ?_
  refine lv_iconst (v := (0:Int32)) hx hb dX7_isRoom_5 rfl ?_
  refine v_cSi (As := [.int x1, .int (0:Int32)]) C hR hS hl.1.1 ca_X7_ofMaster kml_X7_31 (L_X7_ofMaster E l x1 (0:Int32) I _ h) rfl rfl (Nat.le_of_ble_eq_true rfl) ⟨Nat.le_of_ble_eq_true rfl, Nat.le_of_ble_eq_true rfl⟩ ⟨Nat.zero_le _, Nat.zero_le _⟩ dX7_isRoom_6 (fun v4 I3 H locs h hR hS => ?_)
  obtain ⟨hi5, h⟩ := h
  refine w_iald C hR (IsModel.a0 hf2) hi5 (j := (ix v4)) rfl dX7_isRoom_9 ?_
  refine lv_bipush (v := (6:Int32)) hx hb dX7_isRoom_10 (by decide) ?_
  refine lv_icmp_ge (tgt := 31) hx hb dX7_isRoom_12 (by decide) (fun c7 => ?_) (fun c7 => ?_)
  · replace h := h.1 c7
    exact hJ31 I3 _ _ _ h hR hS (hv_sub hl [] rfl)
  · replace h := h.2 c7
    refine lv_aload_n hx hb dX7_isRoom_15 rfl (hv_at hl 0 rfl) ?_
    refine v_get (T := TX7) (v := .ref (a0 + 1)) C hR 0 kfl_X7_7 rfl inG7 (by decide) rfl (IsModel.k hf2) (rf_of (IsModel.r0 hf2 (I3 a0 0))) dX7_isRoom_16 ?_
    refine lv_iconst (v := (4:Int32)) hx hb dX7_isRoom_19 rfl ?_
    refine w_iald C hR (IsModel.a0 hf2) (show vp_in (4:Int32) 2361 by unfold vp_in; decide) (j := 4) (by decide) dX7_isRoom_20 ?_
    refine lv_sipush (v := (200:Int32)) hx hb dX7_isRoom_21 (by decide) ?_
    refine lv_icmp_ge (tgt := 31) hx hb dX7_isRoom_24 (by decide) (fun c6 => ?_) (fun c6 => ?_)
    · replace h := h.1 c6
      exact hJ31 I3 _ _ _ h hR hS (hv_sub hl [] rfl)
    · replace h := h.2 c6
      refine lv_iconst (v := (1:Int32)) hx hb dX7_isRoom_27 rfl ?_
      refine lv_goto (tgt := 32) hx hb dX7_isRoom_28 (by decide) ?_
      exact hJ32 (1:Int32) I3 _ _ _ h hR hS (hv_sub hl [] rfl)
set_option maxHeartbeats 4000000 in
set_option maxRecDepth 100000 in
theorem L_X7_put (E : Ev) (l : Launch) {K : MK} {R : MR} {n : Nat} (a0 : Nat) (x1 : Int32) (x2 : Int32) (x3 : Int32) (x4 : Int32) (I : MI) (Q : Int32 → MI → Prop) (h : w_X7_put K R a0 x1 x2 x3 x4 I Q) : MM E l yX7_put cX7_put 6 (some Jvm.ClassFile.FieldType.int) 1 21 0 0 [.ref a0, .int x1, .int x2, .int x3, .int x4] K R I n (Qi K R n Q) := by
  refine MM.of1 (by decide) RX7 rfl (cR (cI (cI (cI (cI cN))))) (Nat.le_of_ble_eq_true rfl) ?_
  intro p e s m args below meth c ls C hin hR hS hl
  have hx := C.1
  have hb := C.2.1
  have hml := C.2.2.1
  have hown := C.2.2.2.1
  have hts := C.2.2.2.2.1
  have hl : hv ls 6 [(0, .ref a0), (1, .int x1), (2, .int x2), (3, .int x3), (4, .int x4)] := hl
  clear hin
  unfold w_X7_put at h
  refine lv_aload_n hx hb dX7_put_0 rfl (hv_at hl 0 rfl) ?_
  obtain ⟨hf1, h⟩ := h
  refine v_get (T := TX7) (v := .ref (a0 + 1)) C hR 0 kfl_X7_7 rfl inG7 (by decide) rfl (IsModel.k hf1) (rf_of (IsModel.r0 hf1 (I a0 0))) dX7_put_1 ?_
  refine lv_iconst (v := (4:Int32)) hx hb dX7_put_4 rfl ?_
  refine w_iald C hR (IsModel.a0 hf1) (show vp_in (4:Int32) 2361 by unfold vp_in; decide) (j := 4) (by decide) dX7_put_5 ?_
  refine v_istore (lv' := [(5, .int (I (a0 + 1) 4)), (0, .ref a0), (1, .int x1), (2, .int x2), (3, .int x3), (4, .int x4)]) hx hb dX7_put_6 hl (by decide) rfl (fun ls hl => ?_)
  refine lv_aload_n hx hb dX7_put_8 rfl (hv_at hl 1 rfl) ?_
  refine v_get (T := TX7) (v := .ref (a0 + 1)) C hR 0 kfl_X7_7 rfl inG7 (by decide) rfl (IsModel.k hf1) (rf_of (IsModel.r0 hf1 (I a0 0))) dX7_put_9 ?_
  refine lv_iload hx hb dX7_put_12 (hv_at hl 0 rfl) ?_
  refine lv_iconst (v := (0:Int32)) hx hb dX7_put_14 rfl ?_
  refine v_cSi (As := [.int (I (a0 + 1) 4), .int (0:Int32)]) C hR hS hl.1.1 ca_X7_of kml_X7_59 (L_X7_of E l (I (a0 + 1) 4) (0:Int32) I _ h) rfl rfl (Nat.le_of_ble_eq_true rfl) ⟨Nat.le_of_ble_eq_true rfl, Nat.le_of_ble_eq_true rfl⟩ ⟨Nat.zero_le _, Nat.zero_le _⟩ dX7_put_15 (fun v3 I2 H locs h hR hS => ?_)
  refine lv_iload_n hx hb dX7_put_18 rfl (hv_at hl 2 rfl) ?_
  obtain ⟨hi4, h⟩ := h
  obtain ⟨I5, hI5⟩ := ex_eq (upI I2 (a0 + 1) (ix v3) x1)
  replace h := h I5 hI5
  refine w_iast C hR hS (IsModel.a0 hf1) hi4 (j := (ix v3)) rfl hI5 dX7_put_19 (fun H locs hR hS => ?_)
  refine lv_aload_n hx hb dX7_put_20 rfl (hv_at hl 1 rfl) ?_
  refine v_get (T := TX7) (v := .ref (a0 + 1)) C hR 0 kfl_X7_7 rfl inG7 (by decide) rfl (IsModel.k hf1) (rf_of (IsModel.r0 hf1 (I5 a0 0))) dX7_put_21 ?_
  refine lv_iload hx hb dX7_put_24 (hv_at hl 0 rfl) ?_
  refine lv_iconst (v := (1:Int32)) hx hb dX7_put_26 rfl ?_
  refine v_cSi (As := [.int (I (a0 + 1) 4), .int (1:Int32)]) C hR hS hl.1.1 ca_X7_of kml_X7_59 (L_X7_of E l (I (a0 + 1) 4) (1:Int32) I5 _ h) rfl rfl (Nat.le_of_ble_eq_true rfl) ⟨Nat.le_of_ble_eq_true rfl, Nat.le_of_ble_eq_true rfl⟩ ⟨Nat.zero_le _, Nat.zero_le _⟩ dX7_put_27 (fun v7 I6 H locs h hR hS => ?_)
  refine lv_iload_n hx hb dX7_put_30 rfl (hv_at hl 3 rfl) ?_
  obtain ⟨hi8, h⟩ := h
  obtain ⟨I9, hI9⟩ := ex_eq (upI I6 (a0 + 1) (ix v7) x2)
  replace h := h I9 hI9
  refine w_iast C hR hS (IsModel.a0 hf1) hi8 (j := (ix v7)) rfl hI9 dX7_put_31 (fun H locs hR hS => ?_)
  refine lv_aload_n hx hb dX7_put_32 rfl (hv_at hl 1 rfl) ?_
  refine v_get (T := TX7) (v := .ref (a0 + 1)) C hR 0 kfl_X7_7 rfl inG7 (by decide) rfl (IsModel.k hf1) (rf_of (IsModel.r0 hf1 (I9 a0 0))) dX7_put_33 ?_
  refine lv_iload hx hb dX7_put_36 (hv_at hl 0 rfl) ?_
  refine lv_iconst (v := (2:Int32)) hx hb dX7_put_38 rfl ?_
  refine v_cSi (As := [.int (I (a0 + 1) 4), .int (2:Int32)]) C hR hS hl.1.1 ca_X7_of kml_X7_59 (L_X7_of E l (I (a0 + 1) 4) (2:Int32) I9 _ h) rfl rfl (Nat.le_of_ble_eq_true rfl) ⟨Nat.le_of_ble_eq_true rfl, Nat.le_of_ble_eq_true rfl⟩ ⟨Nat.zero_le _, Nat.zero_le _⟩ dX7_put_39 (fun v11 I10 H locs h hR hS => ?_)
  refine lv_iload_n hx hb dX7_put_42 rfl (hv_at hl 4 rfl) ?_
  obtain ⟨hi12, h⟩ := h
  obtain ⟨I13, hI13⟩ := ex_eq (upI I10 (a0 + 1) (ix v11) x3)
  replace h := h I13 hI13
  refine w_iast C hR hS (IsModel.a0 hf1) hi12 (j := (ix v11)) rfl hI13 dX7_put_43 (fun H locs hR hS => ?_)
  refine lv_aload_n hx hb dX7_put_44 rfl (hv_at hl 1 rfl) ?_
  refine v_get (T := TX7) (v := .ref (a0 + 1)) C hR 0 kfl_X7_7 rfl inG7 (by decide) rfl (IsModel.k hf1) (rf_of (IsModel.r0 hf1 (I13 a0 0))) dX7_put_45 ?_
  refine lv_iload hx hb dX7_put_48 (hv_at hl 0 rfl) ?_
  refine lv_iconst (v := (3:Int32)) hx hb dX7_put_50 rfl ?_
  refine v_cSi (As := [.int (I (a0 + 1) 4), .int (3:Int32)]) C hR hS hl.1.1 ca_X7_of kml_X7_59 (L_X7_of E l (I (a0 + 1) 4) (3:Int32) I13 _ h) rfl rfl (Nat.le_of_ble_eq_true rfl) ⟨Nat.le_of_ble_eq_true rfl, Nat.le_of_ble_eq_true rfl⟩ ⟨Nat.zero_le _, Nat.zero_le _⟩ dX7_put_51 (fun v15 I14 H locs h hR hS => ?_)
  refine lv_iload hx hb dX7_put_54 (hv_at hl 5 rfl) ?_
  obtain ⟨hi16, h⟩ := h
  obtain ⟨I17, hI17⟩ := ex_eq (upI I14 (a0 + 1) (ix v15) x4)
  replace h := h I17 hI17
  refine w_iast C hR hS (IsModel.a0 hf1) hi16 (j := (ix v15)) rfl hI17 dX7_put_56 (fun H locs hR hS => ?_)
  refine lv_aload_n hx hb dX7_put_57 rfl (hv_at hl 1 rfl) ?_
  refine v_get (T := TX7) (v := .ref (a0 + 1)) C hR 0 kfl_X7_7 rfl inG7 (by decide) rfl (IsModel.k hf1) (rf_of (IsModel.r0 hf1 (I17 a0 0))) dX7_put_58 ?_
  refine lv_iload hx hb dX7_put_61 (hv_at hl 0 rfl) ?_
  refine lv_iconst (v := (4:Int32)) hx hb dX7_put_63 rfl ?_
  refine v_cSi (As := [.int (I (a0 + 1) 4), .int (4:Int32)]) C hR hS hl.1.1 ca_X7_of kml_X7_59 (L_X7_of E l (I (a0 + 1) 4) (4:Int32) I17 _ h) rfl rfl (Nat.le_of_ble_eq_true rfl) ⟨Nat.le_of_ble_eq_true rfl, Nat.le_of_ble_eq_true rfl⟩ ⟨Nat.zero_le _, Nat.zero_le _⟩ dX7_put_64 (fun v19 I18 H locs h hR hS => ?_)
  refine lv_iconst (v := (0:Int32)) hx hb dX7_put_67 rfl ?_
  obtain ⟨hi20, h⟩ := h
  obtain ⟨I21, hI21⟩ := ex_eq (upI I18 (a0 + 1) (ix v19) (0:Int32))
  replace h := h I21 hI21
  refine w_iast C hR hS (IsModel.a0 hf1) hi20 (j := (ix v19)) rfl hI21 dX7_put_68 (fun H locs hR hS => ?_)
  refine lv_aload_n hx hb dX7_put_69 rfl (hv_at hl 1 rfl) ?_
  refine v_get (T := TX7) (v := .ref (a0 + 1)) C hR 0 kfl_X7_7 rfl inG7 (by decide) rfl (IsModel.k hf1) (rf_of (IsModel.r0 hf1 (I21 a0 0))) dX7_put_70 ?_
  refine lv_iload hx hb dX7_put_73 (hv_at hl 0 rfl) ?_
  refine lv_iconst (v := (5:Int32)) hx hb dX7_put_75 rfl ?_
  refine v_cSi (As := [.int (I (a0 + 1) 4), .int (5:Int32)]) C hR hS hl.1.1 ca_X7_of kml_X7_59 (L_X7_of E l (I (a0 + 1) 4) (5:Int32) I21 _ h) rfl rfl (Nat.le_of_ble_eq_true rfl) ⟨Nat.le_of_ble_eq_true rfl, Nat.le_of_ble_eq_true rfl⟩ ⟨Nat.zero_le _, Nat.zero_le _⟩ dX7_put_76 (fun v23 I22 H locs h hR hS => ?_)
  refine lv_bipush (v := (-5:Int32)) hx hb dX7_put_79 (by decide) ?_
  obtain ⟨hi24, h⟩ := h
  obtain ⟨I25, hI25⟩ := ex_eq (upI I22 (a0 + 1) (ix v23) (-5:Int32))
  replace h := h I25 hI25
  refine w_iast C hR hS (IsModel.a0 hf1) hi24 (j := (ix v23)) rfl hI25 dX7_put_81 (fun H locs hR hS => ?_)
  refine lv_aload_n hx hb dX7_put_82 rfl (hv_at hl 1 rfl) ?_
  refine v_get (T := TX7) (v := .ref (a0 + 1)) C hR 0 kfl_X7_7 rfl inG7 (by decide) rfl (IsModel.k hf1) (rf_of (IsModel.r0 hf1 (I25 a0 0))) dX7_put_83 ?_
  refine lv_iload hx hb dX7_put_86 (hv_at hl 0 rfl) ?_
  refine lv_bipush (v := (6:Int32)) hx hb dX7_put_88 (by decide) ?_
  refine v_cSi (As := [.int (I (a0 + 1) 4), .int (6:Int32)]) C hR hS hl.1.1 ca_X7_of kml_X7_59 (L_X7_of E l (I (a0 + 1) 4) (6:Int32) I25 _ h) rfl rfl (Nat.le_of_ble_eq_true rfl) ⟨Nat.le_of_ble_eq_true rfl, Nat.le_of_ble_eq_true rfl⟩ ⟨Nat.zero_le _, Nat.zero_le _⟩ dX7_put_90 (fun v27 I26 H locs h hR hS => ?_)
  refine lv_bipush (v := (-5:Int32)) hx hb dX7_put_93 (by decide) ?_
  obtain ⟨hi28, h⟩ := h
  obtain ⟨I29, hI29⟩ := ex_eq (upI I26 (a0 + 1) (ix v27) (-5:Int32))
  replace h := h I29 hI29
  refine w_iast C hR hS (IsModel.a0 hf1) hi28 (j := (ix v27)) rfl hI29 dX7_put_95 (fun H locs hR hS => ?_)
  refine lv_aload_n hx hb dX7_put_96 rfl (hv_at hl 1 rfl) ?_
  refine v_get (T := TX7) (v := .ref (a0 + 1)) C hR 0 kfl_X7_7 rfl inG7 (by decide) rfl (IsModel.k hf1) (rf_of (IsModel.r0 hf1 (I29 a0 0))) dX7_put_97 ?_
  refine lv_iload hx hb dX7_put_100 (hv_at hl 0 rfl) ?_
  refine lv_bipush (v := (7:Int32)) hx hb dX7_put_102 (by decide) ?_
  refine v_cSi (As := [.int (I (a0 + 1) 4), .int (7:Int32)]) C hR hS hl.1.1 ca_X7_of kml_X7_59 (L_X7_of E l (I (a0 + 1) 4) (7:Int32) I29 _ h) rfl rfl (Nat.le_of_ble_eq_true rfl) ⟨Nat.le_of_ble_eq_true rfl, Nat.le_of_ble_eq_true rfl⟩ ⟨Nat.zero_le _, Nat.zero_le _⟩ dX7_put_104 (fun v31 I30 H locs h hR hS => ?_)
  refine lv_aload_n hx hb dX7_put_107 rfl (hv_at hl 1 rfl) ?_
  refine v_get (T := TX7) (v := .ref (a0 + 1)) C hR 0 kfl_X7_7 rfl inG7 (by decide) rfl (IsModel.k hf1) (rf_of (IsModel.r0 hf1 (I30 a0 0))) dX7_put_108 ?_
  refine lv_iconst (v := (0:Int32)) hx hb dX7_put_111 rfl ?_
  refine w_iald C hR (IsModel.a0 hf1) (show vp_in (0:Int32) 2361 by unfold vp_in; decide) (j := 0) (by decide) dX7_put_112 ?_
  obtain ⟨hi32, h⟩ := h
  obtain ⟨I33, hI33⟩ := ex_eq (upI I30 (a0 + 1) (ix v31) (I30 (a0 + 1) 0))
  replace h := h I33 hI33
  refine w_iast C hR hS (IsModel.a0 hf1) hi32 (j := (ix v31)) rfl hI33 dX7_put_113 (fun H locs hR hS => ?_)
  refine lv_aload_n hx hb dX7_put_114 rfl (hv_at hl 1 rfl) ?_
  refine v_get (T := TX7) (v := .ref (a0 + 1)) C hR 0 kfl_X7_7 rfl inG7 (by decide) rfl (IsModel.k hf1) (rf_of (IsModel.r0 hf1 (I33 a0 0))) dX7_put_115 ?_
  refine lv_iload hx hb dX7_put_118 (hv_at hl 0 rfl) ?_
  refine lv_bipush (v := (8:Int32)) hx hb dX7_put_120 (by decide) ?_
  refine v_cSi (As := [.int (I (a0 + 1) 4), .int (8:Int32)]) C hR hS hl.1.1 ca_X7_of kml_X7_59 (L_X7_of E l (I (a0 + 1) 4) (8:Int32) I33 _ h) rfl rfl (Nat.le_of_ble_eq_true rfl) ⟨Nat.le_of_ble_eq_true rfl, Nat.le_of_ble_eq_true rfl⟩ ⟨Nat.zero_le _, Nat.zero_le _⟩ dX7_put_122 (fun v35 I34 H locs h hR hS => ?_)
  refine lv_bipush (v := (-5:Int32)) hx hb dX7_put_125 (by decide) ?_
  obtain ⟨hi36, h⟩ := h
  obtain ⟨I37, hI37⟩ := ex_eq (upI I34 (a0 + 1) (ix v35) (-5:Int32))
  replace h := h I37 hI37
  refine w_iast C hR hS (IsModel.a0 hf1) hi36 (j := (ix v35)) rfl hI37 dX7_put_127 (fun H locs hR hS => ?_)
  refine lv_aload_n hx hb dX7_put_128 rfl (hv_at hl 1 rfl) ?_
  refine v_get (T := TX7) (v := .ref (a0 + 1)) C hR 0 kfl_X7_7 rfl inG7 (by decide) rfl (IsModel.k hf1) (rf_of (IsModel.r0 hf1 (I37 a0 0))) dX7_put_129 ?_
  refine lv_iload hx hb dX7_put_132 (hv_at hl 0 rfl) ?_
  refine lv_bipush (v := (9:Int32)) hx hb dX7_put_134 (by decide) ?_
  refine v_cSi (As := [.int (I (a0 + 1) 4), .int (9:Int32)]) C hR hS hl.1.1 ca_X7_of kml_X7_59 (L_X7_of E l (I (a0 + 1) 4) (9:Int32) I37 _ h) rfl rfl (Nat.le_of_ble_eq_true rfl) ⟨Nat.le_of_ble_eq_true rfl, Nat.le_of_ble_eq_true rfl⟩ ⟨Nat.zero_le _, Nat.zero_le _⟩ dX7_put_136 (fun v39 I38 H locs h hR hS => ?_)
  refine lv_iconst (v := (0:Int32)) hx hb dX7_put_139 rfl ?_
  obtain ⟨hi40, h⟩ := h
  obtain ⟨I41, hI41⟩ := ex_eq (upI I38 (a0 + 1) (ix v39) (0:Int32))
  replace h := h I41 hI41
  refine w_iast C hR hS (IsModel.a0 hf1) hi40 (j := (ix v39)) rfl hI41 dX7_put_140 (fun H locs hR hS => ?_)
  refine lv_aload_n hx hb dX7_put_141 rfl (hv_at hl 1 rfl) ?_
  refine v_get (T := TX7) (v := .ref (a0 + 1)) C hR 0 kfl_X7_7 rfl inG7 (by decide) rfl (IsModel.k hf1) (rf_of (IsModel.r0 hf1 (I41 a0 0))) dX7_put_142 ?_
  refine lv_iload hx hb dX7_put_145 (hv_at hl 0 rfl) ?_
  refine lv_bipush (v := (10:Int32)) hx hb dX7_put_147 (by decide) ?_
  refine v_cSi (As := [.int (I (a0 + 1) 4), .int (10:Int32)]) C hR hS hl.1.1 ca_X7_of kml_X7_59 (L_X7_of E l (I (a0 + 1) 4) (10:Int32) I41 _ h) rfl rfl (Nat.le_of_ble_eq_true rfl) ⟨Nat.le_of_ble_eq_true rfl, Nat.le_of_ble_eq_true rfl⟩ ⟨Nat.zero_le _, Nat.zero_le _⟩ dX7_put_149 (fun v43 I42 H locs h hR hS => ?_)
  refine lv_iconst (v := (0:Int32)) hx hb dX7_put_152 rfl ?_
  obtain ⟨hi44, h⟩ := h
  obtain ⟨I45, hI45⟩ := ex_eq (upI I42 (a0 + 1) (ix v43) (0:Int32))
  replace h := h I45 hI45
  refine w_iast C hR hS (IsModel.a0 hf1) hi44 (j := (ix v43)) rfl hI45 dX7_put_153 (fun H locs hR hS => ?_)
  refine lv_aload_n hx hb dX7_put_154 rfl (hv_at hl 1 rfl) ?_
  refine v_get (T := TX7) (v := .ref (a0 + 1)) C hR 0 kfl_X7_7 rfl inG7 (by decide) rfl (IsModel.k hf1) (rf_of (IsModel.r0 hf1 (I45 a0 0))) dX7_put_155 ?_
  refine lv_iload_n hx hb dX7_put_158 rfl (hv_at hl 2 rfl) ?_
  refine lv_iconst (v := (1:Int32)) hx hb dX7_put_159 rfl ?_
  refine lv_aload_n hx hb dX7_put_160 rfl (hv_at hl 1 rfl) ?_
  refine v_get (T := TX7) (v := .ref (a0 + 1)) C hR 0 kfl_X7_7 rfl inG7 (by decide) rfl (IsModel.k hf1) (rf_of (IsModel.r0 hf1 (I45 a0 0))) dX7_put_161 ?_
  refine lv_iload_n hx hb dX7_put_164 rfl (hv_at hl 2 rfl) ?_
  refine lv_iconst (v := (0:Int32)) hx hb dX7_put_165 rfl ?_
  refine v_cSi (As := [.int x1, .int (0:Int32)]) C hR hS hl.1.1 ca_X7_ofMaster kml_X7_31 (L_X7_ofMaster E l x1 (0:Int32) I45 _ h) rfl rfl (Nat.le_of_ble_eq_true rfl) ⟨Nat.le_of_ble_eq_true rfl, Nat.le_of_ble_eq_true rfl⟩ ⟨Nat.zero_le _, Nat.zero_le _⟩ dX7_put_166 (fun v47 I46 H locs h hR hS => ?_)
  obtain ⟨hi48, h⟩ := h
  refine w_iald C hR (IsModel.a0 hf1) hi48 (j := (ix v47)) rfl dX7_put_169 ?_
  refine lv_iadd hx hb dX7_put_170 ?_
  refine v_cSi (As := [.int x1, .int ((1:Int32) + (I46 (a0 + 1) (ix v47)))]) C hR hS hl.1.1 ca_X7_ofMaster kml_X7_31 (L_X7_ofMaster E l x1 ((1:Int32) + (I46 (a0 + 1) (ix v47))) I46 _ h) rfl rfl (Nat.le_of_ble_eq_true rfl) ⟨Nat.le_of_ble_eq_true rfl, Nat.le_of_ble_eq_true rfl⟩ ⟨Nat.zero_le _, Nat.zero_le _⟩ dX7_put_171 (fun v50 I49 H locs h hR hS => ?_)
  refine lv_iload hx hb dX7_put_174 (hv_at hl 0 rfl) ?_
  obtain ⟨hi51, h⟩ := h
  obtain ⟨I52, hI52⟩ := ex_eq (upI I49 (a0 + 1) (ix v50) (I (a0 + 1) 4))
  replace h := h I52 hI52
  refine w_iast C hR hS (IsModel.a0 hf1) hi51 (j := (ix v50)) rfl hI52 dX7_put_176 (fun H locs hR hS => ?_)
  refine lv_aload_n hx hb dX7_put_177 rfl (hv_at hl 1 rfl) ?_
  refine v_get (T := TX7) (v := .ref (a0 + 1)) C hR 0 kfl_X7_7 rfl inG7 (by decide) rfl (IsModel.k hf1) (rf_of (IsModel.r0 hf1 (I52 a0 0))) dX7_put_178 ?_
  refine lv_iload_n hx hb dX7_put_181 rfl (hv_at hl 2 rfl) ?_
  refine lv_iconst (v := (0:Int32)) hx hb dX7_put_182 rfl ?_
  refine v_cSi (As := [.int x1, .int (0:Int32)]) C hR hS hl.1.1 ca_X7_ofMaster kml_X7_31 (L_X7_ofMaster E l x1 (0:Int32) I52 _ h) rfl rfl (Nat.le_of_ble_eq_true rfl) ⟨Nat.le_of_ble_eq_true rfl, Nat.le_of_ble_eq_true rfl⟩ ⟨Nat.zero_le _, Nat.zero_le _⟩ dX7_put_183 (fun v54 I53 H locs h hR hS => ?_)
  refine lv_dup2_11 hx hb dX7_put_186 rfl rfl ?_
  obtain ⟨hi55, h⟩ := h
  refine w_iald C hR (IsModel.a0 hf1) hi55 (j := (ix v54)) rfl dX7_put_187 ?_
  refine lv_iconst (v := (1:Int32)) hx hb dX7_put_188 rfl ?_
  refine lv_iadd hx hb dX7_put_189 ?_
  obtain ⟨hi56, h⟩ := h
  obtain ⟨I57, hI57⟩ := ex_eq (upI I53 (a0 + 1) (ix v54) ((I53 (a0 + 1) (ix v54)) + (1:Int32)))
  replace h := h I57 hI57
  refine w_iast C hR hS (IsModel.a0 hf1) hi56 (j := (ix v54)) rfl hI57 dX7_put_190 (fun H locs hR hS => ?_)
  refine lv_aload_n hx hb dX7_put_191 rfl (hv_at hl 1 rfl) ?_
  refine v_get (T := TX7) (v := .ref (a0 + 1)) C hR 0 kfl_X7_7 rfl inG7 (by decide) rfl (IsModel.k hf1) (rf_of (IsModel.r0 hf1 (I57 a0 0))) dX7_put_192 ?_
  refine lv_iconst (v := (4:Int32)) hx hb dX7_put_195 rfl ?_
  refine lv_dup2_11 hx hb dX7_put_196 rfl rfl ?_
  refine w_iald C hR (IsModel.a0 hf1) (show vp_in (4:Int32) 2361 by unfold vp_in; decide) (j := 4) (by decide) dX7_put_197 ?_
  refine lv_iconst (v := (1:Int32)) hx hb dX7_put_198 rfl ?_
  refine lv_iadd hx hb dX7_put_199 ?_
  obtain ⟨I58, hI58⟩ := ex_eq (upI I57 (a0 + 1) 4 ((I57 (a0 + 1) 4) + (1:Int32)))
  replace h := h I58 hI58
  refine w_iast C hR hS (IsModel.a0 hf1) (show vp_in (4:Int32) 2361 by unfold vp_in; decide) (j := 4) (by decide) hI58 dX7_put_200 (fun H locs hR hS => ?_)
  refine lv_iload hx hb dX7_put_201 (hv_at hl 0 rfl) ?_
  exact w_ireti C rfl rfl hR hS h dX7_put_203
set_option maxHeartbeats 4000000 in
set_option maxRecDepth 100000 in
theorem L_X7_read (E : Ev) (l : Launch) {K : MK} {R : MR} {n : Nat} (a0 : Nat) (x1 : Int32) (x2 : Int32) (x3 : Int32) (I : MI) (Q : Int32 → MI → Prop) (h : w_X7_read K R a0 x1 x2 x3 I Q) : MM E l yX7_read cX7_read 4 (some Jvm.ClassFile.FieldType.int) 2 46 0 0 [.ref a0, .int x1, .int x2, .int x3] K R I n (Qi K R n Q) := by
  refine MM.of1 (by decide) RX7 rfl (cR (cI (cI (cI cN)))) (Nat.le_of_ble_eq_true rfl) ?_
  intro p e s m args below meth c ls C hin hR hS hl
  have hx := C.1
  have hb := C.2.1
  have hml := C.2.2.1
  have hown := C.2.2.2.1
  have hts := C.2.2.2.2.1
  have hl : hv ls 4 [(0, .ref a0), (1, .int x1), (2, .int x2), (3, .int x3)] := hl
  clear hin
  have hJ14 : ∀ (I : MI) (H : Heap) (locs : List Loc) (ls : Array Slot), w_X7_read_b14 K R a0 x1 x2 x3 Q  I → Rep E K R I n H → va_S (AA E) s.heap H locs → hv ls 4 [] → W p l e (rmM 2 46 0 0) s m args below meth c H locs 0 0 (MQ below (QcM E (Qi K R n Q)) args s 0 0 (AA E)) (F0 m 14 ls []) := by
    intro  I H locs ls h hR hS hl
    unfold w_X7_read_b14 at h
    refine lv_iconst (v := (-1:Int32)) hx hb dX7_read_14 rfl ?_
    exact w_ireti C rfl rfl hR hS h dX7_read_15
  unfold w_X7_read at h
  refine lv_iload_n hx hb dX7_read_0 rfl (hv_at hl 1 rfl) ?_
  refine v_cSi (As := [.int x1]) C hR hS hl.1.1 ca_X7_isPort kml_X7_56 (L_X7_isPort E l x1 I _ h) rfl rfl (Nat.le_of_ble_eq_true rfl) ⟨Nat.le_of_ble_eq_true rfl, Nat.le_of_ble_eq_true rfl⟩ ⟨Nat.zero_le _, Nat.zero_le _⟩ dX7_read_1 (fun v2 I1 H locs h hR hS => ?_)
  refine lv_if_eq (tgt := 14) hx hb dX7_read_4 (by decide) (fun c16 => ?_) (fun c16 => ?_)
  · replace h := h.1 c16
    exact hJ14 I1 _ _ _ h hR hS (hv_sub hl [] rfl)
  · replace h := h.2 c16
    refine lv_iload_n hx hb dX7_read_7 rfl (hv_at hl 2 rfl) ?_
    refine v_cSi (As := [.int x2]) C hR hS hl.1.1 ca_X7_isPort kml_X7_56 (L_X7_isPort E l x2 I1 _ h) rfl rfl (Nat.le_of_ble_eq_true rfl) ⟨Nat.le_of_ble_eq_true rfl, Nat.le_of_ble_eq_true rfl⟩ ⟨Nat.zero_le _, Nat.zero_le _⟩ dX7_read_8 (fun v4 I3 H locs h hR hS => ?_)
    refine lv_if_ne (tgt := 16) hx hb dX7_read_11 (by decide) (fun c15 => ?_) (fun c15 => ?_)
    · replace h := h.1 c15
      refine lv_iload_n hx hb dX7_read_16 rfl (hv_at hl 3 rfl) ?_
      refine lv_iconst (v := (0:Int32)) hx hb dX7_read_17 rfl ?_
      refine lv_bipush (v := (15:Int32)) hx hb dX7_read_18 (by decide) ?_
      refine v_cSi (As := [.int x3, .int (0:Int32), .int (15:Int32)]) C hR hS hl.1.1 ca_X7_in kml_X7_38 (L_X7_in E l x3 (0:Int32) (15:Int32) I3 _ h) rfl rfl (Nat.le_of_ble_eq_true rfl) ⟨Nat.le_of_ble_eq_true rfl, Nat.le_of_ble_eq_true rfl⟩ ⟨Nat.zero_le _, Nat.zero_le _⟩ dX7_read_20 (fun v6 I5 H locs h hR hS => ?_)
      refine lv_if_ne (tgt := 29) hx hb dX7_read_23 (by decide) (fun c14 => ?_) (fun c14 => ?_)
      · replace h := h.1 c14
        refine lv_aload_n hx hb dX7_read_29 rfl (hv_at hl 0 rfl) ?_
        refine lv_iload_n hx hb dX7_read_30 rfl (hv_at hl 1 rfl) ?_
        obtain ⟨hf7, h⟩ := h
        refine v_cVi (As := [.int x1]) C hR hS hl.1.1 ca_X7_isRoom kml_X7_62 (L_X7_isRoom E l a0 x1 I5 _ h) (IsModel.k hf7) rfl rfl rfl rfl (Nat.le_of_ble_eq_true rfl) ⟨Nat.le_of_ble_eq_true rfl, Nat.le_of_ble_eq_true rfl⟩ ⟨Nat.zero_le _, Nat.zero_le _⟩ dX7_read_31 (fun v9 I8 H locs h hR hS => ?_)
        refine lv_if_ne (tgt := 40) hx hb dX7_read_34 (by decide) (fun c13 => ?_) (fun c13 => ?_)
        · replace h := h.1 c13
          refine lv_aload_n hx hb dX7_read_40 rfl (hv_at hl 0 rfl) ?_
          refine v_cVv (As := []) C hR hS hl.1.1 ca_X7_know kml_X7_46 (L_X7_know E l a0 I8 _ h) (IsModel.k hf7) rfl rfl rfl rfl (Nat.le_of_ble_eq_true rfl) ⟨Nat.le_of_ble_eq_true rfl, Nat.le_of_ble_eq_true rfl⟩ ⟨Nat.zero_le _, Nat.zero_le _⟩ dX7_read_41 (fun I10 H locs h hR hS => ?_)
          refine lv_aload_n hx hb dX7_read_44 rfl (hv_at hl 0 rfl) ?_
          refine lv_iload_n hx hb dX7_read_45 rfl (hv_at hl 1 rfl) ?_
          refine lv_iload_n hx hb dX7_read_46 rfl (hv_at hl 2 rfl) ?_
          refine lv_iload_n hx hb dX7_read_47 rfl (hv_at hl 3 rfl) ?_
          refine lv_bipush (v := (-5:Int32)) hx hb dX7_read_48 (by decide) ?_
          refine v_cVi (As := [.int x1, .int x2, .int x3, .int (-5:Int32)]) C hR hS hl.1.1 ca_X7_put kml_X7_65 (L_X7_put E l a0 x1 x2 x3 (-5:Int32) I10 _ h) (IsModel.k hf7) rfl rfl rfl rfl (Nat.le_of_ble_eq_true rfl) ⟨Nat.le_of_ble_eq_true rfl, Nat.le_of_ble_eq_true rfl⟩ ⟨Nat.zero_le _, Nat.zero_le _⟩ dX7_read_50 (fun v12 I11 H locs h hR hS => ?_)
          exact w_ireti C rfl rfl hR hS h dX7_read_53
        · replace h := h.2 c13
          refine lv_bipush (v := (-3:Int32)) hx hb dX7_read_37 (by decide) ?_
          exact w_ireti C rfl rfl hR hS h dX7_read_39
      · replace h := h.2 c14
        refine lv_bipush (v := (-2:Int32)) hx hb dX7_read_26 (by decide) ?_
        exact w_ireti C rfl rfl hR hS h dX7_read_28
    · replace h := h.2 c15
      exact hJ14 I3 _ _ _ h hR hS (hv_sub hl [] rfl)
set_option maxHeartbeats 4000000 in
set_option maxRecDepth 100000 in
theorem L_X7_write (E : Ev) (l : Launch) {K : MK} {R : MR} {n : Nat} (a0 : Nat) (x1 : Int32) (x2 : Int32) (x3 : Int32) (x4 : Int32) (I : MI) (Q : Int32 → MI → Prop) (h : w_X7_write K R a0 x1 x2 x3 x4 I Q) : MM E l yX7_write cX7_write 5 (some Jvm.ClassFile.FieldType.int) 2 46 0 0 [.ref a0, .int x1, .int x2, .int x3, .int x4] K R I n (Qi K R n Q) := by
  refine MM.of1 (by decide) RX7 rfl (cR (cI (cI (cI (cI cN))))) (Nat.le_of_ble_eq_true rfl) ?_
  intro p e s m args below meth c ls C hin hR hS hl
  have hx := C.1
  have hb := C.2.1
  have hml := C.2.2.1
  have hown := C.2.2.2.1
  have hts := C.2.2.2.2.1
  have hl : hv ls 5 [(0, .ref a0), (1, .int x1), (2, .int x2), (3, .int x3), (4, .int x4)] := hl
  clear hin
  have hJ14 : ∀ (I : MI) (H : Heap) (locs : List Loc) (ls : Array Slot), w_X7_write_b14 K R a0 x1 x2 x3 x4 Q  I → Rep E K R I n H → va_S (AA E) s.heap H locs → hv ls 5 [] → W p l e (rmM 2 46 0 0) s m args below meth c H locs 0 0 (MQ below (QcM E (Qi K R n Q)) args s 0 0 (AA E)) (F0 m 14 ls []) := by
    intro  I H locs ls h hR hS hl
    unfold w_X7_write_b14 at h
    refine lv_iconst (v := (-1:Int32)) hx hb dX7_write_14 rfl ?_
    exact w_ireti C rfl rfl hR hS h dX7_write_15
  have hJ37 : ∀ (I : MI) (H : Heap) (locs : List Loc) (ls : Array Slot), w_X7_write_b37 K R a0 x1 x2 x3 x4 Q  I → Rep E K R I n H → va_S (AA E) s.heap H locs → hv ls 5 [] → W p l e (rmM 2 46 0 0) s m args below meth c H locs 0 0 (MQ below (QcM E (Qi K R n Q)) args s 0 0 (AA E)) (F0 m 37 ls []) := by
    intro  I H locs ls h hR hS hl
    unfold w_X7_write_b37 at h
    refine lv_bipush (v := (-2:Int32)) hx hb dX7_write_37 (by decide) ?_
    exact w_ireti C rfl rfl hR hS h dX7_write_39
  unfold w_X7_write at h
  refine lv_iload_n hx hb dX7_write_0 rfl (hv_at hl 1 rfl) ?_
  refine v_cSi (As := [.int x1]) C hR hS hl.1.1 ca_X7_isPort kml_X7_56 (L_X7_isPort E l x1 I _ h) rfl rfl (Nat.le_of_ble_eq_true rfl) ⟨Nat.le_of_ble_eq_true rfl, Nat.le_of_ble_eq_true rfl⟩ ⟨Nat.zero_le _, Nat.zero_le _⟩ dX7_write_1 (fun v2 I1 H locs h hR hS => ?_)
  refine lv_if_eq (tgt := 14) hx hb dX7_write_4 (by decide) (fun c19 => ?_) (fun c19 => ?_)
  · replace h := h.1 c19
    exact hJ14 I1 _ _ _ h hR hS (hv_sub hl [] rfl)
  · replace h := h.2 c19
    refine lv_iload_n hx hb dX7_write_7 rfl (hv_at hl 2 rfl) ?_
    refine v_cSi (As := [.int x2]) C hR hS hl.1.1 ca_X7_isPort kml_X7_56 (L_X7_isPort E l x2 I1 _ h) rfl rfl (Nat.le_of_ble_eq_true rfl) ⟨Nat.le_of_ble_eq_true rfl, Nat.le_of_ble_eq_true rfl⟩ ⟨Nat.zero_le _, Nat.zero_le _⟩ dX7_write_8 (fun v4 I3 H locs h hR hS => ?_)
    refine lv_if_ne (tgt := 16) hx hb dX7_write_11 (by decide) (fun c18 => ?_) (fun c18 => ?_)
    · replace h := h.1 c18
      refine lv_iload_n hx hb dX7_write_16 rfl (hv_at hl 3 rfl) ?_
      refine lv_iconst (v := (0:Int32)) hx hb dX7_write_17 rfl ?_
      refine lv_bipush (v := (15:Int32)) hx hb dX7_write_18 (by decide) ?_
      refine v_cSi (As := [.int x3, .int (0:Int32), .int (15:Int32)]) C hR hS hl.1.1 ca_X7_in kml_X7_38 (L_X7_in E l x3 (0:Int32) (15:Int32) I3 _ h) rfl rfl (Nat.le_of_ble_eq_true rfl) ⟨Nat.le_of_ble_eq_true rfl, Nat.le_of_ble_eq_true rfl⟩ ⟨Nat.zero_le _, Nat.zero_le _⟩ dX7_write_20 (fun v6 I5 H locs h hR hS => ?_)
      refine lv_if_eq (tgt := 37) hx hb dX7_write_23 (by decide) (fun c17 => ?_) (fun c17 => ?_)
      · replace h := h.1 c17
        exact hJ37 I5 _ _ _ h hR hS (hv_sub hl [] rfl)
      · replace h := h.2 c17
        refine lv_iload hx hb dX7_write_26 (hv_at hl 4 rfl) ?_
        refine lv_iconst (v := (0:Int32)) hx hb dX7_write_28 rfl ?_
        refine lv_bipush (v := (99:Int32)) hx hb dX7_write_29 (by decide) ?_
        refine v_cSi (As := [.int x4, .int (0:Int32), .int (99:Int32)]) C hR hS hl.1.1 ca_X7_in kml_X7_38 (L_X7_in E l x4 (0:Int32) (99:Int32) I5 _ h) rfl rfl (Nat.le_of_ble_eq_true rfl) ⟨Nat.le_of_ble_eq_true rfl, Nat.le_of_ble_eq_true rfl⟩ ⟨Nat.zero_le _, Nat.zero_le _⟩ dX7_write_31 (fun v8 I7 H locs h hR hS => ?_)
        refine lv_if_ne (tgt := 40) hx hb dX7_write_34 (by decide) (fun c16 => ?_) (fun c16 => ?_)
        · replace h := h.1 c16
          refine lv_aload_n hx hb dX7_write_40 rfl (hv_at hl 0 rfl) ?_
          refine lv_iload_n hx hb dX7_write_41 rfl (hv_at hl 1 rfl) ?_
          obtain ⟨hf9, h⟩ := h
          refine v_cVi (As := [.int x1]) C hR hS hl.1.1 ca_X7_isRoom kml_X7_62 (L_X7_isRoom E l a0 x1 I7 _ h) (IsModel.k hf9) rfl rfl rfl rfl (Nat.le_of_ble_eq_true rfl) ⟨Nat.le_of_ble_eq_true rfl, Nat.le_of_ble_eq_true rfl⟩ ⟨Nat.zero_le _, Nat.zero_le _⟩ dX7_write_42 (fun v11 I10 H locs h hR hS => ?_)
          refine lv_if_ne (tgt := 51) hx hb dX7_write_45 (by decide) (fun c15 => ?_) (fun c15 => ?_)
          · replace h := h.1 c15
            refine lv_aload_n hx hb dX7_write_51 rfl (hv_at hl 0 rfl) ?_
            refine v_cVv (As := []) C hR hS hl.1.1 ca_X7_know kml_X7_46 (L_X7_know E l a0 I10 _ h) (IsModel.k hf9) rfl rfl rfl rfl (Nat.le_of_ble_eq_true rfl) ⟨Nat.le_of_ble_eq_true rfl, Nat.le_of_ble_eq_true rfl⟩ ⟨Nat.zero_le _, Nat.zero_le _⟩ dX7_write_52 (fun I12 H locs h hR hS => ?_)
            refine lv_aload_n hx hb dX7_write_55 rfl (hv_at hl 0 rfl) ?_
            refine lv_iload_n hx hb dX7_write_56 rfl (hv_at hl 1 rfl) ?_
            refine lv_iload_n hx hb dX7_write_57 rfl (hv_at hl 2 rfl) ?_
            refine lv_iload_n hx hb dX7_write_58 rfl (hv_at hl 3 rfl) ?_
            refine lv_iload hx hb dX7_write_59 (hv_at hl 4 rfl) ?_
            refine v_cVi (As := [.int x1, .int x2, .int x3, .int x4]) C hR hS hl.1.1 ca_X7_put kml_X7_65 (L_X7_put E l a0 x1 x2 x3 x4 I12 _ h) (IsModel.k hf9) rfl rfl rfl rfl (Nat.le_of_ble_eq_true rfl) ⟨Nat.le_of_ble_eq_true rfl, Nat.le_of_ble_eq_true rfl⟩ ⟨Nat.zero_le _, Nat.zero_le _⟩ dX7_write_61 (fun v14 I13 H locs h hR hS => ?_)
            exact w_ireti C rfl rfl hR hS h dX7_write_64
          · replace h := h.2 c15
            refine lv_bipush (v := (-3:Int32)) hx hb dX7_write_48 (by decide) ?_
            exact w_ireti C rfl rfl hR hS h dX7_write_50
        · replace h := h.2 c16
          exact hJ37 I7 _ _ _ h hR hS (hv_sub hl [] rfl)
    · replace h := h.2 c18
      exact hJ14 I3 _ _ _ h hR hS (hv_sub hl [] rfl)
