set_option maxHeartbeats 4000000 in
set_option maxRecDepth 100000 in
theorem L_X6_isIndex (E : Ev) (l : Launch) {K : MK} {R : MR} {n : Nat} (x0 : Int32) (x1 : Int32) (I : MI) (Q : Int32 → MI → Prop) (h : w_X6_isIndex K R x0 x1 I Q) : MM E l yX6_isIndex cX6_isIndex 2 (some Jvm.ClassFile.FieldType.boolean) 0 0 0 0 [.int x0, .int x1] K R I n (Qi K R n Q) := by
  refine MM.of1 (by decide) RX6 rfl (cI (cI cN)) (Nat.le_of_ble_eq_true rfl) ?_
  intro p e s m args below meth c ls C hin hR hS hl
  have hx := C.1
  have hb := C.2.1
  have hml := C.2.2.1
  have hown := C.2.2.2.1
  have hts := C.2.2.2.2.1
  have hl : hv ls 2 [(0, .int x0), (1, .int x1)] := hl
  clear hin
  have hJ14 : ∀ (z0_14 : Int32) (I : MI) (H : Heap) (locs : List Loc) (ls : Array Slot), w_X6_isIndex_b14 K R x0 x1 Q z0_14 I → Rep E K R I n H → va_S (AA E) s.heap H locs → hv ls 2 [] → W p l e (rmM 0 0 0 0) s m args below meth c H locs 0 0 (MQ below (QcM E (Qi K R n Q)) args s 0 0 (AA E)) (F0 m 14 ls [.int z0_14]) := by
    intro z0_14 I H locs ls h hR hS hl
    unfold w_X6_isIndex_b14 at h
    obtain ⟨hb1, h⟩ := h
    exact w_ireti C rfl (bz_nar hb1) hR hS h dX6_isIndex_14
  have hJ13 : ∀ (I : MI) (H : Heap) (locs : List Loc) (ls : Array Slot), w_X6_isIndex_b13 K R x0 x1 Q  I → Rep E K R I n H → va_S (AA E) s.heap H locs → hv ls 2 [] → W p l e (rmM 0 0 0 0) s m args below meth c H locs 0 0 (MQ below (QcM E (Qi K R n Q)) args s 0 0 (AA E)) (F0 m 13 ls []) := by
    intro  I H locs ls h hR hS hl
    unfold w_X6_isIndex_b13 at h
    refine lv_iconst (v := (0:Int32)) hx hb dX6_isIndex_13 rfl ?_
    exact hJ14 (0:Int32) I _ _ _ h hR hS (hv_sub hl [] rfl)
  unfold w_X6_isIndex at h
  refine lv_iload_n hx hb dX6_isIndex_0 rfl (hv_at hl 0 rfl) ?_
  refine lv_if_lt (tgt := 13) hx hb dX6_isIndex_1 (by decide) (fun c3 => ?_) (fun c3 => ?_)
  · replace h := h.1 c3
    exact hJ13 I _ _ _ h hR hS (hv_sub hl [] rfl)
  · replace h := h.2 c3
    refine lv_iload_n hx hb dX6_isIndex_4 rfl (hv_at hl 0 rfl) ?_
    refine lv_iload_n hx hb dX6_isIndex_5 rfl (hv_at hl 1 rfl) ?_
    refine lv_icmp_ge (tgt := 13) hx hb dX6_isIndex_6 (by decide) (fun c2 => ?_) (fun c2 => ?_)
    · replace h := h.1 c2
      exact hJ13 I _ _ _ h hR hS (hv_sub hl [] rfl)
    · replace h := h.2 c2
      refine lv_iconst (v := (1:Int32)) hx hb dX6_isIndex_9 rfl ?_
      refine lv_goto (tgt := 14) hx hb dX6_isIndex_10 (by decide) ?_
      exact hJ14 (1:Int32) I _ _ _ h hR hS (hv_sub hl [] rfl)
set_option maxHeartbeats 4000000 in
set_option maxRecDepth 100000 in
theorem L_X6_isBetween (E : Ev) (l : Launch) {K : MK} {R : MR} {n : Nat} (x0 : Int32) (x1 : Int32) (x2 : Int32) (I : MI) (Q : Int32 → MI → Prop) (h : w_X6_isBetween K R x0 x1 x2 I Q) : MM E l yX6_isBetween cX6_isBetween 3 (some Jvm.ClassFile.FieldType.boolean) 0 0 0 0 [.int x0, .int x1, .int x2] K R I n (Qi K R n Q) := by
  refine MM.of1 (by decide) RX6 rfl (cI (cI (cI cN))) (Nat.le_of_ble_eq_true rfl) ?_
  intro p e s m args below meth c ls C hin hR hS hl
  have hx := C.1
  have hb := C.2.1
  have hml := C.2.2.1
  have hown := C.2.2.2.1
  have hts := C.2.2.2.2.1
  have hl : hv ls 3 [(0, .int x0), (1, .int x1), (2, .int x2)] := hl
  clear hin
  have hJ15 : ∀ (z0_15 : Int32) (I : MI) (H : Heap) (locs : List Loc) (ls : Array Slot), w_X6_isBetween_b15 K R x0 x1 x2 Q z0_15 I → Rep E K R I n H → va_S (AA E) s.heap H locs → hv ls 3 [] → W p l e (rmM 0 0 0 0) s m args below meth c H locs 0 0 (MQ below (QcM E (Qi K R n Q)) args s 0 0 (AA E)) (F0 m 15 ls [.int z0_15]) := by
    intro z0_15 I H locs ls h hR hS hl
    unfold w_X6_isBetween_b15 at h
    obtain ⟨hb1, h⟩ := h
    exact w_ireti C rfl (bz_nar hb1) hR hS h dX6_isBetween_15
  have hJ14 : ∀ (I : MI) (H : Heap) (locs : List Loc) (ls : Array Slot), w_X6_isBetween_b14 K R x0 x1 x2 Q  I → Rep E K R I n H → va_S (AA E) s.heap H locs → hv ls 3 [] → W p l e (rmM 0 0 0 0) s m args below meth c H locs 0 0 (MQ below (QcM E (Qi K R n Q)) args s 0 0 (AA E)) (F0 m 14 ls []) := by
    intro  I H locs ls h hR hS hl
    unfold w_X6_isBetween_b14 at h
    refine lv_iconst (v := (0:Int32)) hx hb dX6_isBetween_14 rfl ?_
    exact hJ15 (0:Int32) I _ _ _ h hR hS (hv_sub hl [] rfl)
  unfold w_X6_isBetween at h
  refine lv_iload_n hx hb dX6_isBetween_0 rfl (hv_at hl 0 rfl) ?_
  refine lv_iload_n hx hb dX6_isBetween_1 rfl (hv_at hl 1 rfl) ?_
  refine lv_icmp_lt (tgt := 14) hx hb dX6_isBetween_2 (by decide) (fun c3 => ?_) (fun c3 => ?_)
  · replace h := h.1 c3
    exact hJ14 I _ _ _ h hR hS (hv_sub hl [] rfl)
  · replace h := h.2 c3
    refine lv_iload_n hx hb dX6_isBetween_5 rfl (hv_at hl 0 rfl) ?_
    refine lv_iload_n hx hb dX6_isBetween_6 rfl (hv_at hl 2 rfl) ?_
    refine lv_icmp_gt (tgt := 14) hx hb dX6_isBetween_7 (by decide) (fun c2 => ?_) (fun c2 => ?_)
    · replace h := h.1 c2
      exact hJ14 I _ _ _ h hR hS (hv_sub hl [] rfl)
    · replace h := h.2 c2
      refine lv_iconst (v := (1:Int32)) hx hb dX6_isBetween_10 rfl ?_
      refine lv_goto (tgt := 15) hx hb dX6_isBetween_11 (by decide) ?_
      exact hJ15 (1:Int32) I _ _ _ h hR hS (hv_sub hl [] rfl)
set_option maxHeartbeats 4000000 in
set_option maxRecDepth 100000 in
theorem L_X0_highestLentTag (E : Ev) (l : Launch) {K : MK} {R : MR} {n : Nat} (a0 : Nat) (I : MI) (Q : Int32 → MI → Prop) (h : w_X0_highestLentTag K R a0 I Q) : MM E l yX0_highestLentTag cX0_highestLentTag 3 (some Jvm.ClassFile.FieldType.int) 0 0 0 0 [.ref a0] K R I n (Qi K R n Q) := by
  refine MM.of1 (by decide) RX0 rfl (cR cN) (Nat.le_of_ble_eq_true rfl) ?_
  intro p e s m args below meth c ls C hin hR hS hl
  have hx := C.1
  have hb := C.2.1
  have hml := C.2.2.1
  have hown := C.2.2.2.1
  have hts := C.2.2.2.2.1
  have hl : hv ls 3 [(0, .ref a0)] := hl
  clear hin
  have hJ5 : ∀ (y1_5 : Int32) (y2_5 : Int32) (I : MI) (H : Heap) (locs : List Loc) (ls : Array Slot), w_X0_highestLentTag_b5 K R a0 Q y1_5 y2_5 I → Rep E K R I n H → va_S (AA E) s.heap H locs → hv ls 3 [(0, .ref a0), (1, .int y1_5), (2, .int y2_5)] → W p l e (rmM 0 0 0 0) s m args below meth c H locs 0 0 (MQ below (QcM E (Qi K R n Q)) args s 0 0 (AA E)) (F0 m 5 ls []) := by
    intro y1_5 y2_5 I H locs ls h hR hS hl
    obtain ⟨X5, hX5⟩ : ∃ X : Int32 → Int32 → MI → Prop, ∀ (y1_5 : Int32) (y2_5 : Int32) (I : MI), X y1_5 y2_5 I ↔ (∀ (H : Heap) (locs : List Loc) (ls : Array Slot), Rep E K R I n H → va_S (AA E) s.heap H locs → hv ls 3 [(0, .ref a0), (1, .int y1_5), (2, .int y2_5)] → W p l e (rmM 0 0 0 0) s m args below meth c H locs 0 0 (MQ below (QcM E (Qi K R n Q)) args s 0 0 (AA E)) (F0 m 5 ls [])) := ⟨fun y1_5 y2_5 I => ∀ (H : Heap) (locs : List Loc) (ls : Array Slot), Rep E K R I n H → va_S (AA E) s.heap H locs → hv ls 3 [(0, .ref a0), (1, .int y1_5), (2, .int y2_5)] → W p l e (rmM 0 0 0 0) s m args below meth c H locs 0 0 (MQ below (QcM E (Qi K R n Q)) args s 0 0 (AA E)) (F0 m 5 ls []), fun _ _ _ => Iff.rfl⟩
    refine (hX5 y1_5 y2_5 I).mp (h X5 ?_) H locs ls hR hS hl
    clear h hR hS hl
    clear ls locs H I y1_5 y2_5
    have hJ24 : ∀ (y1_24 : Int32) (y2_24 : Int32) (I : MI) (H : Heap) (locs : List Loc) (ls : Array Slot), w_X0_highestLentTag_b24 K R a0 Q X5 y1_24 y2_24 I → Rep E K R I n H → va_S (AA E) s.heap H locs → hv ls 3 [(0, .ref a0), (1, .int y1_24), (2, .int y2_24)] → W p l e (rmM 0 0 0 0) s m args below meth c H locs 0 0 (MQ below (QcM E (Qi K R n Q)) args s 0 0 (AA E)) (F0 m 24 ls []) := by
      intro y1_24 y2_24 I H locs ls h hR hS hl
      unfold w_X0_highestLentTag_b24 at h
      refine v_iinc (v := y2_24 + (1:Int32)) (k := 2) (lv' := [(2, .int (y2_24 + (1:Int32))), (0, .ref a0), (1, .int y1_24)]) hx hb dX0_highestLentTag_24 hl rfl rfl (by decide) rfl (fun ls hl => ?_)
      refine lv_goto (tgt := 5) hx hb dX0_highestLentTag_27 (by decide) ?_
      exact (hX5 y1_24 (y2_24 + (1:Int32)) I).mp h _ _ _ hR hS (hv_sub hl [1, 2, 0] rfl)
    intro y1_5 y2_5 I h
    refine (hX5 y1_5 y2_5 I).mpr ?_
    intro H locs ls hR hS hl
    unfold w_X0_highestLentTag_b5_body at h
    refine lv_iload_n hx hb dX0_highestLentTag_5 rfl (hv_at hl 2 rfl) ?_
    refine lv_bipush (v := (8:Int32)) hx hb dX0_highestLentTag_6 (by decide) ?_
    refine lv_icmp_ge (tgt := 30) hx hb dX0_highestLentTag_8 (by decide) (fun c4 => ?_) (fun c4 => ?_)
    · replace h := h.1 c4
      refine lv_iload_n hx hb dX0_highestLentTag_30 rfl (hv_at hl 1 rfl) ?_
      exact w_ireti C rfl rfl hR hS h dX0_highestLentTag_31
    · replace h := h.2 c4
      refine lv_aload_n hx hb dX0_highestLentTag_11 rfl (hv_at hl 0 rfl) ?_
      obtain ⟨hf1, h⟩ := h
      refine v_get (T := TX0) (v := .ref (a0 + 2)) C hR 1 kfl_X0_15 rfl inG0 (by decide) rfl (IsBus.k hf1) (rf_of (IsBus.r1 hf1 (I a0 1))) dX0_highestLentTag_12 ?_
      refine lv_iload_n hx hb dX0_highestLentTag_15 rfl (hv_at hl 2 rfl) ?_
      obtain ⟨hi2, h⟩ := h
      refine w_iald C hR (IsBus.a1 hf1) hi2 (j := (ix y2_5)) rfl dX0_highestLentTag_16 ?_
      refine lv_bipush (v := (-5:Int32)) hx hb dX0_highestLentTag_17 (by decide) ?_
      refine lv_icmp_eq (tgt := 24) hx hb dX0_highestLentTag_19 (by decide) (fun c3 => ?_) (fun c3 => ?_)
      · replace h := h.1 c3
        exact hJ24 y1_5 y2_5 I _ _ _ h hR hS (hv_sub hl [0, 1, 2] rfl)
      · replace h := h.2 c3
        refine lv_iload_n hx hb dX0_highestLentTag_22 rfl (hv_at hl 2 rfl) ?_
        refine v_istore_n (lv' := [(1, .int y2_5), (0, .ref a0), (2, .int y2_5)]) hx hb dX0_highestLentTag_23 rfl hl (by decide) rfl (fun ls hl => ?_)
        exact hJ24 y2_5 y2_5 I _ _ _ h hR hS (hv_sub hl [1, 0, 2] rfl)
  unfold w_X0_highestLentTag at h
  refine lv_bipush (v := (-5:Int32)) hx hb dX0_highestLentTag_0 (by decide) ?_
  refine v_istore_n (lv' := [(1, .int (-5:Int32)), (0, .ref a0)]) hx hb dX0_highestLentTag_2 rfl hl (by decide) rfl (fun ls hl => ?_)
  refine lv_iconst (v := (0:Int32)) hx hb dX0_highestLentTag_3 rfl ?_
  refine v_istore_n (lv' := [(2, .int (0:Int32)), (1, .int (-5:Int32)), (0, .ref a0)]) hx hb dX0_highestLentTag_4 rfl hl (by decide) rfl (fun ls hl => ?_)
  exact hJ5 (-5:Int32) (0:Int32) I _ _ _ h hR hS (hv_sub hl [2, 1, 0] rfl)
set_option maxHeartbeats 4000000 in
set_option maxRecDepth 100000 in
theorem L_X1_copyFrom (E : Ev) (l : Launch) {K : MK} {R : MR} {n : Nat} (a0 : Nat) (o1 : Option Nat) (I : MI) (Q : MI → Prop) (h : w_X1_copyFrom K R a0 o1 I Q) : MM E l yX1_copyFrom cX1_copyFrom 2 none 1 26 0 0 [.ref a0, va_rf o1] K R I n (Qv K R n Q) := by
  refine MM.of1 (by decide) RX1 rfl (cR (cO cN)) (Nat.le_of_ble_eq_true rfl) ?_
  intro p e s m args below meth c ls C hin hR hS hl
  have hx := C.1
  have hb := C.2.1
  have hml := C.2.2.1
  have hown := C.2.2.2.1
  have hts := C.2.2.2.2.1
  have hl : hv ls 2 [(0, .ref a0), (1, va_rf o1)] := hl
  clear hin
  unfold w_X1_copyFrom at h
  refine lv_aload_n hx hb dX1_copyFrom_0 rfl (hv_at hl 0 rfl) ?_
  refine v_aload_n hx hb dX1_copyFrom_1 rfl (hv_at hl 1 rfl) ?_
  obtain ⟨r1, e_o1, h⟩ := h
  have hl : hv ls 2 [(0, .ref a0), (1, .ref r1)] := by (try rw [e_o1] at hl); exact hl
  try rw [e_o1]
  obtain ⟨hf2, h⟩ := h
  refine v_get (T := TX1) (v := .int (I r1 1)) C hR 1 kfl_X1_15 rfl inG1 (by decide) rfl (IsLine.k hf2) rfl dX1_copyFrom_2 ?_
  obtain ⟨hf3, h⟩ := h
  obtain ⟨I4, hI4⟩ := ex_eq (upI I a0 1 (I r1 1))
  replace h := h I4 hI4
  refine v_put (T := TX1) (ty := .int) C hR hS 1 kfl_X1_15 rfl inG1 tyX1 tyX1_ok nmX1 (by decide) rfl (IsLine.k hf3) rfl (tyX1_ok 1 (by decide)) rfl rfl (fl_i_1_1 _ _ _) (Nat.le_of_ble_eq_true rfl) hI4 dX1_copyFrom_5 (fun H locs hR hS => ?_)
  refine lv_aload_n hx hb dX1_copyFrom_8 rfl (hv_at hl 1 rfl) ?_
  refine v_get (T := TX1) (v := .ref (r1 + 1)) C hR 0 kfl_X1_9 rfl inG1 (by decide) rfl (IsLine.k hf2) (rf_of (IsLine.r0 hf2 (I4 r1 0))) dX1_copyFrom_9 ?_
  refine lv_iconst (v := (0:Int32)) hx hb dX1_copyFrom_12 rfl ?_
  refine lv_aload_n hx hb dX1_copyFrom_13 rfl (hv_at hl 0 rfl) ?_
  refine v_get (T := TX1) (v := .ref (a0 + 1)) C hR 0 kfl_X1_9 rfl inG1 (by decide) rfl (IsLine.k hf3) (rf_of (IsLine.r0 hf3 (I4 a0 0))) dX1_copyFrom_14 ?_
  refine lv_iconst (v := (0:Int32)) hx hb dX1_copyFrom_17 rfl ?_
  refine lv_bipush (v := (6:Int32)) hx hb dX1_copyFrom_18 (by decide) ?_
  obtain ⟨I5, hI5⟩ := ex_eq (cpI I4 (r1 + 1) (a0 + 1) 0 0 6)
  replace h := h I5 hI5
  refine v_copy C hl.1.1 hR hS kml_X1_23 kna_arraycopyName kst_arraycopyName kin_System (IsLine.a0 hf2) (IsLine.a0 hf3) (by decide) (by decide) (by decide) (by decide) (by decide) (Nat.le_of_ble_eq_true rfl) (by decide) hI5 dX1_copyFrom_20 (fun H locs hR hS => ?_)
  exact w_vret C rfl hR hS h dX1_copyFrom_23
set_option maxHeartbeats 4000000 in
set_option maxRecDepth 100000 in
theorem L_X2_copyFrom (E : Ev) (l : Launch) {K : MK} {R : MR} {n : Nat} (a0 : Nat) (o1 : Option Nat) (I : MI) (Q : MI → Prop) (h : w_X2_copyFrom K R a0 o1 I Q) : MM E l yX2_copyFrom cX2_copyFrom 2 none 2 47 0 0 [.ref a0, va_rf o1] K R I n (Qv K R n Q) := by
  refine MM.of1 (by decide) RX2 rfl (cR (cO cN)) (Nat.le_of_ble_eq_true rfl) ?_
  intro p e s m args below meth c ls C hin hR hS hl
  have hx := C.1
  have hb := C.2.1
  have hml := C.2.2.1
  have hown := C.2.2.2.1
  have hts := C.2.2.2.2.1
  have hl : hv ls 2 [(0, .ref a0), (1, va_rf o1)] := hl
  clear hin
  unfold w_X2_copyFrom at h
  refine lv_aload_n hx hb dX2_copyFrom_0 rfl (hv_at hl 0 rfl) ?_
  obtain ⟨hf1, h⟩ := h
  refine v_get (T := TX2) (v := .ref (a0 + 1)) C hR 0 kfl_X2_12 rfl inG2 (by decide) rfl (IsMaster.k hf1) (rf_of (IsMaster.r0 hf1 (I a0 0))) dX2_copyFrom_1 ?_
  refine v_aload_n hx hb dX2_copyFrom_4 rfl (hv_at hl 1 rfl) ?_
  obtain ⟨r2, e_o1, h⟩ := h
  have hl : hv ls 2 [(0, .ref a0), (1, .ref r2)] := by (try rw [e_o1] at hl); exact hl
  try rw [e_o1]
  obtain ⟨hf3, h⟩ := h
  refine v_get (T := TX2) (v := .ref (r2 + 1)) C hR 0 kfl_X2_12 rfl inG2 (by decide) rfl (IsMaster.k hf3) (rf_of (IsMaster.r0 hf3 (I r2 0))) dX2_copyFrom_5 ?_
  refine v_cVv (As := [.ref (r2 + 1)]) C hR hS hl.1.1 ca_X1_copyFrom kml_X2_25 (L_X1_copyFrom E l (a0 + 1) (some (r2 + 1)) I _ h) (IsLine.k (IsMaster.o0 hf1)) rfl rfl rfl rfl (Nat.le_of_ble_eq_true rfl) ⟨Nat.le_of_ble_eq_true rfl, Nat.le_of_ble_eq_true rfl⟩ ⟨Nat.zero_le _, Nat.zero_le _⟩ dX2_copyFrom_8 (fun I4 H locs h hR hS => ?_)
  refine lv_aload_n hx hb dX2_copyFrom_11 rfl (hv_at hl 0 rfl) ?_
  refine lv_aload_n hx hb dX2_copyFrom_12 rfl (hv_at hl 1 rfl) ?_
  refine v_get (T := TX2) (v := .int (I4 r2 1)) C hR 1 kfl_X2_18 rfl inG2 (by decide) rfl (IsMaster.k hf3) rfl dX2_copyFrom_13 ?_
  obtain ⟨I5, hI5⟩ := ex_eq (upI I4 a0 1 (I4 r2 1))
  replace h := h I5 hI5
  refine v_put (T := TX2) (ty := .int) C hR hS 1 kfl_X2_18 rfl inG2 tyX2 tyX2_ok nmX2 (by decide) rfl (IsMaster.k hf1) rfl (tyX2_ok 1 (by decide)) rfl rfl (fl_i_2_1 _ _ _) (Nat.le_of_ble_eq_true rfl) hI5 dX2_copyFrom_16 (fun H locs hR hS => ?_)
  refine lv_aload_n hx hb dX2_copyFrom_19 rfl (hv_at hl 0 rfl) ?_
  refine lv_aload_n hx hb dX2_copyFrom_20 rfl (hv_at hl 1 rfl) ?_
  refine v_get (T := TX2) (v := .int (I5 r2 2)) C hR 2 kfl_X2_29 rfl inG2 (by decide) rfl (IsMaster.k hf3) rfl dX2_copyFrom_21 ?_
  obtain ⟨I6, hI6⟩ := ex_eq (upI I5 a0 2 (I5 r2 2))
  replace h := h I6 hI6
  refine v_put (T := TX2) (ty := .int) C hR hS 2 kfl_X2_29 rfl inG2 tyX2 tyX2_ok nmX2 (by decide) rfl (IsMaster.k hf1) rfl (tyX2_ok 2 (by decide)) rfl rfl (fl_i_2_2 _ _ _) (Nat.le_of_ble_eq_true rfl) hI6 dX2_copyFrom_24 (fun H locs hR hS => ?_)
  refine lv_aload_n hx hb dX2_copyFrom_27 rfl (hv_at hl 0 rfl) ?_
  refine lv_aload_n hx hb dX2_copyFrom_28 rfl (hv_at hl 1 rfl) ?_
  refine v_get (T := TX2) (v := .int (I6 r2 3)) C hR 3 kfl_X2_32 rfl inG2 (by decide) rfl (IsMaster.k hf3) rfl dX2_copyFrom_29 ?_
  obtain ⟨I7, hI7⟩ := ex_eq (upI I6 a0 3 (I6 r2 3))
  replace h := h I7 hI7
  refine v_put (T := TX2) (ty := .int) C hR hS 3 kfl_X2_32 rfl inG2 tyX2 tyX2_ok nmX2 (by decide) rfl (IsMaster.k hf1) rfl (tyX2_ok 3 (by decide)) rfl rfl (fl_i_2_3 _ _ _) (Nat.le_of_ble_eq_true rfl) hI7 dX2_copyFrom_32 (fun H locs hR hS => ?_)
  refine lv_aload_n hx hb dX2_copyFrom_35 rfl (hv_at hl 0 rfl) ?_
  refine lv_aload_n hx hb dX2_copyFrom_36 rfl (hv_at hl 1 rfl) ?_
  refine v_get (T := TX2) (v := .int (I7 r2 4)) C hR 4 kfl_X2_35 rfl inG2 (by decide) rfl (IsMaster.k hf3) rfl dX2_copyFrom_37 ?_
  obtain ⟨I8, hI8⟩ := ex_eq (upI I7 a0 4 (I7 r2 4))
  replace h := h I8 hI8
  refine v_put (T := TX2) (ty := .int) C hR hS 4 kfl_X2_35 rfl inG2 tyX2 tyX2_ok nmX2 (by decide) rfl (IsMaster.k hf1) rfl (tyX2_ok 4 (by decide)) rfl rfl (fl_i_2_4 _ _ _) (Nat.le_of_ble_eq_true rfl) hI8 dX2_copyFrom_40 (fun H locs hR hS => ?_)
  refine lv_aload_n hx hb dX2_copyFrom_43 rfl (hv_at hl 0 rfl) ?_
  refine lv_aload_n hx hb dX2_copyFrom_44 rfl (hv_at hl 1 rfl) ?_
  refine v_get (T := TX2) (v := .int (I8 r2 5)) C hR 5 kfl_X2_38 rfl inG2 (by decide) rfl (IsMaster.k hf3) rfl dX2_copyFrom_45 ?_
  obtain ⟨I9, hI9⟩ := ex_eq (upI I8 a0 5 (I8 r2 5))
  replace h := h I9 hI9
  refine v_put (T := TX2) (ty := .int) C hR hS 5 kfl_X2_38 rfl inG2 tyX2 tyX2_ok nmX2 (by decide) rfl (IsMaster.k hf1) rfl (tyX2_ok 5 (by decide)) rfl rfl (fl_i_2_5 _ _ _) (Nat.le_of_ble_eq_true rfl) hI9 dX2_copyFrom_48 (fun H locs hR hS => ?_)
  refine lv_aload_n hx hb dX2_copyFrom_51 rfl (hv_at hl 0 rfl) ?_
  refine lv_aload_n hx hb dX2_copyFrom_52 rfl (hv_at hl 1 rfl) ?_
  refine v_get (T := TX2) (v := .int (I9 r2 6)) C hR 6 kfl_X2_41 rfl inG2 (by decide) rfl (IsMaster.k hf3) rfl dX2_copyFrom_53 ?_
  obtain ⟨I10, hI10⟩ := ex_eq (upI I9 a0 6 (I9 r2 6))
  replace h := h I10 hI10
  refine v_put (T := TX2) (ty := .int) C hR hS 6 kfl_X2_41 rfl inG2 tyX2 tyX2_ok nmX2 (by decide) rfl (IsMaster.k hf1) rfl (tyX2_ok 6 (by decide)) rfl rfl (fl_i_2_6 _ _ _) (Nat.le_of_ble_eq_true rfl) hI10 dX2_copyFrom_56 (fun H locs hR hS => ?_)
  refine lv_aload_n hx hb dX2_copyFrom_59 rfl (hv_at hl 0 rfl) ?_
  refine lv_aload_n hx hb dX2_copyFrom_60 rfl (hv_at hl 1 rfl) ?_
  refine v_get (T := TX2) (v := .int (I10 r2 7)) C hR 7 kfl_X2_22 rfl inG2 (by decide) rfl (IsMaster.k hf3) rfl dX2_copyFrom_61 ?_
  obtain ⟨I11, hI11⟩ := ex_eq (upI I10 a0 7 (I10 r2 7))
  replace h := h I11 hI11
  refine v_put (T := TX2) (ty := .int) C hR hS 7 kfl_X2_22 rfl inG2 tyX2 tyX2_ok nmX2 (by decide) rfl (IsMaster.k hf1) rfl (tyX2_ok 7 (by decide)) rfl rfl (fl_i_2_7 _ _ _) (Nat.le_of_ble_eq_true rfl) hI11 dX2_copyFrom_64 (fun H locs hR hS => ?_)
  exact w_vret C rfl hR hS h dX2_copyFrom_67
set_option maxHeartbeats 4000000 in
set_option maxRecDepth 100000 in
theorem L_X5_copyFrom (E : Ev) (l : Launch) {K : MK} {R : MR} {n : Nat} (a0 : Nat) (o1 : Option Nat) (I : MI) (Q : MI → Prop) (h : w_X5_copyFrom K R a0 o1 I Q) : MM E l yX5_copyFrom cX5_copyFrom 2 none 2 47 0 0 [.ref a0, va_rf o1] K R I n (Qv K R n Q) := by
  refine MM.of1 (by decide) RX5 rfl (cR (cO cN)) (Nat.le_of_ble_eq_true rfl) ?_
  intro p e s m args below meth c ls C hin hR hS hl
  have hx := C.1
  have hb := C.2.1
  have hml := C.2.2.1
  have hown := C.2.2.2.1
  have hts := C.2.2.2.2.1
  have hl : hv ls 2 [(0, .ref a0), (1, va_rf o1)] := hl
  clear hin
  unfold w_X5_copyFrom at h
  refine v_aload_n hx hb dX5_copyFrom_0 rfl (hv_at hl 1 rfl) ?_
  obtain ⟨r1, e_o1, h⟩ := h
  have hl : hv ls 2 [(0, .ref a0), (1, .ref r1)] := by (try rw [e_o1] at hl); exact hl
  try rw [e_o1]
  obtain ⟨hf2, h⟩ := h
  refine v_get (T := TX5) (v := .ref (r1 + 1)) C hR 0 kfl_X5_9 rfl inG5 (by decide) rfl (IsTarget.k hf2) (rf_of (IsTarget.r0 hf2 (I r1 0))) dX5_copyFrom_1 ?_
  refine lv_iconst (v := (0:Int32)) hx hb dX5_copyFrom_4 rfl ?_
  refine lv_aload_n hx hb dX5_copyFrom_5 rfl (hv_at hl 0 rfl) ?_
  obtain ⟨hf3, h⟩ := h
  refine v_get (T := TX5) (v := .ref (a0 + 1)) C hR 0 kfl_X5_9 rfl inG5 (by decide) rfl (IsTarget.k hf3) (rf_of (IsTarget.r0 hf3 (I a0 0))) dX5_copyFrom_6 ?_
  refine lv_iconst (v := (0:Int32)) hx hb dX5_copyFrom_9 rfl ?_
  refine lv_bipush (v := (16:Int32)) hx hb dX5_copyFrom_10 (by decide) ?_
  obtain ⟨I4, hI4⟩ := ex_eq (cpI I (r1 + 1) (a0 + 1) 0 0 16)
  replace h := h I4 hI4
  refine v_copy C hl.1.1 hR hS kml_X5_33 kna_arraycopyName kst_arraycopyName kin_System (IsTarget.a0 hf2) (IsTarget.a0 hf3) (by decide) (by decide) (by decide) (by decide) (by decide) (Nat.le_of_ble_eq_true rfl) (by decide) hI4 dX5_copyFrom_12 (fun H locs hR hS => ?_)
  refine lv_aload_n hx hb dX5_copyFrom_15 rfl (hv_at hl 1 rfl) ?_
  refine v_get (T := TX5) (v := .ref (r1 + 2)) C hR 1 kfl_X5_15 rfl inG5 (by decide) rfl (IsTarget.k hf2) (rf_of (IsTarget.r1 hf2 (I4 r1 1))) dX5_copyFrom_16 ?_
  refine lv_iconst (v := (0:Int32)) hx hb dX5_copyFrom_19 rfl ?_
  refine lv_aload_n hx hb dX5_copyFrom_20 rfl (hv_at hl 0 rfl) ?_
  refine v_get (T := TX5) (v := .ref (a0 + 2)) C hR 1 kfl_X5_15 rfl inG5 (by decide) rfl (IsTarget.k hf3) (rf_of (IsTarget.r1 hf3 (I4 a0 1))) dX5_copyFrom_21 ?_
  refine lv_iconst (v := (0:Int32)) hx hb dX5_copyFrom_24 rfl ?_
  refine lv_aload_n hx hb dX5_copyFrom_25 rfl (hv_at hl 0 rfl) ?_
  refine v_get (T := TX5) (v := .ref (a0 + 2)) C hR 1 kfl_X5_15 rfl inG5 (by decide) rfl (IsTarget.k hf3) (rf_of (IsTarget.r1 hf3 (I4 a0 1))) dX5_copyFrom_26 ?_
  refine v_alen C hR (IsTarget.a1 hf3) (by decide) (v := (3:Int32)) rfl dX5_copyFrom_29 ?_
  obtain ⟨I5, hI5⟩ := ex_eq (cpI I4 (r1 + 2) (a0 + 2) 0 0 3)
  replace h := h I5 hI5
  refine v_copy C hl.1.1 hR hS kml_X5_33 kna_arraycopyName kst_arraycopyName kin_System (IsTarget.a1 hf2) (IsTarget.a1 hf3) (by decide) (by decide) (by decide) (by decide) (by decide) (Nat.le_of_ble_eq_true rfl) (by decide) hI5 dX5_copyFrom_30 (fun H locs hR hS => ?_)
  refine lv_aload_n hx hb dX5_copyFrom_33 rfl (hv_at hl 0 rfl) ?_
  refine v_get (T := TX5) (v := .ref (a0 + 3)) C hR 2 kfl_X5_21 rfl inG5 (by decide) rfl (IsTarget.k hf3) (rf_of (IsTarget.r2 hf3 (I5 a0 2))) dX5_copyFrom_34 ?_
  refine lv_aload_n hx hb dX5_copyFrom_37 rfl (hv_at hl 1 rfl) ?_
  refine v_get (T := TX5) (v := .ref (r1 + 3)) C hR 2 kfl_X5_21 rfl inG5 (by decide) rfl (IsTarget.k hf2) (rf_of (IsTarget.r2 hf2 (I5 r1 2))) dX5_copyFrom_38 ?_
  refine v_cVv (As := [.ref (r1 + 3)]) C hR hS hl.1.1 ca_X1_copyFrom kml_X5_39 (L_X1_copyFrom E l (a0 + 3) (some (r1 + 3)) I5 _ h) (IsLine.k (IsTarget.o2 hf3)) rfl rfl rfl rfl (Nat.le_of_ble_eq_true rfl) ⟨Nat.le_of_ble_eq_true rfl, Nat.le_of_ble_eq_true rfl⟩ ⟨Nat.zero_le _, Nat.zero_le _⟩ dX5_copyFrom_41 (fun I6 H locs h hR hS => ?_)
  exact w_vret C rfl hR hS h dX5_copyFrom_44
set_option maxHeartbeats 4000000 in
set_option maxRecDepth 100000 in
theorem L_X3_copyFrom (E : Ev) (l : Launch) {K : MK} {R : MR} {n : Nat} (a0 : Nat) (o1 : Option Nat) (I : MI) (Q : MI → Prop) (h : w_X3_copyFrom K R a0 o1 I Q) : MM E l yX3_copyFrom cX3_copyFrom 2 none 0 0 0 0 [.ref a0, va_rf o1] K R I n (Qv K R n Q) := by
  refine MM.of1 (by decide) RX3 rfl (cR (cO cN)) (Nat.le_of_ble_eq_true rfl) ?_
  intro p e s m args below meth c ls C hin hR hS hl
  have hx := C.1
  have hb := C.2.1
  have hml := C.2.2.1
  have hown := C.2.2.2.1
  have hts := C.2.2.2.2.1
  have hl : hv ls 2 [(0, .ref a0), (1, va_rf o1)] := hl
  clear hin
  unfold w_X3_copyFrom at h
  refine lv_aload_n hx hb dX3_copyFrom_0 rfl (hv_at hl 0 rfl) ?_
  refine v_aload_n hx hb dX3_copyFrom_1 rfl (hv_at hl 1 rfl) ?_
  obtain ⟨r1, e_o1, h⟩ := h
  have hl : hv ls 2 [(0, .ref a0), (1, .ref r1)] := by (try rw [e_o1] at hl); exact hl
  try rw [e_o1]
  obtain ⟨hf2, h⟩ := h
  refine v_get (T := TX3) (v := .int (I r1 0)) C hR 0 kfl_X3_9 rfl inG3 (by decide) rfl hf2 rfl dX3_copyFrom_2 ?_
  obtain ⟨hf3, h⟩ := h
  obtain ⟨I4, hI4⟩ := ex_eq (upI I a0 0 (I r1 0))
  replace h := h I4 hI4
  refine v_put (T := TX3) (ty := .int) C hR hS 0 kfl_X3_9 rfl inG3 tyX3 tyX3_ok nmX3 (by decide) rfl hf3 rfl (tyX3_ok 0 (by decide)) rfl rfl (fl_i_3_0 _ _ _) (Nat.le_of_ble_eq_true rfl) hI4 dX3_copyFrom_5 (fun H locs hR hS => ?_)
  refine lv_aload_n hx hb dX3_copyFrom_8 rfl (hv_at hl 0 rfl) ?_
  refine lv_aload_n hx hb dX3_copyFrom_9 rfl (hv_at hl 1 rfl) ?_
  refine v_get (T := TX3) (v := .int (I4 r1 1)) C hR 1 kfl_X3_15 rfl inG3 (by decide) rfl hf2 rfl dX3_copyFrom_10 ?_
  obtain ⟨I5, hI5⟩ := ex_eq (upI I4 a0 1 (I4 r1 1))
  replace h := h I5 hI5
  refine v_put (T := TX3) (ty := .int) C hR hS 1 kfl_X3_15 rfl inG3 tyX3 tyX3_ok nmX3 (by decide) rfl hf3 rfl (tyX3_ok 1 (by decide)) rfl rfl (fl_i_3_1 _ _ _) (Nat.le_of_ble_eq_true rfl) hI5 dX3_copyFrom_13 (fun H locs hR hS => ?_)
  refine lv_aload_n hx hb dX3_copyFrom_16 rfl (hv_at hl 0 rfl) ?_
  refine lv_aload_n hx hb dX3_copyFrom_17 rfl (hv_at hl 1 rfl) ?_
  refine v_get (T := TX3) (v := .int (I5 r1 2)) C hR 2 kfl_X3_18 rfl inG3 (by decide) rfl hf2 rfl dX3_copyFrom_18 ?_
  obtain ⟨I6, hI6⟩ := ex_eq (upI I5 a0 2 (I5 r1 2))
  replace h := h I6 hI6
  refine v_put (T := TX3) (ty := .int) C hR hS 2 kfl_X3_18 rfl inG3 tyX3 tyX3_ok nmX3 (by decide) rfl hf3 rfl (tyX3_ok 2 (by decide)) rfl rfl (fl_i_3_2 _ _ _) (Nat.le_of_ble_eq_true rfl) hI6 dX3_copyFrom_21 (fun H locs hR hS => ?_)
  refine lv_aload_n hx hb dX3_copyFrom_24 rfl (hv_at hl 0 rfl) ?_
  refine lv_aload_n hx hb dX3_copyFrom_25 rfl (hv_at hl 1 rfl) ?_
  refine v_get (T := TX3) (v := .int (I6 r1 3)) C hR 3 kfl_X3_21 rfl inG3 (by decide) rfl hf2 rfl dX3_copyFrom_26 ?_
  obtain ⟨I7, hI7⟩ := ex_eq (upI I6 a0 3 (I6 r1 3))
  replace h := h I7 hI7
  refine v_put (T := TX3) (ty := .int) C hR hS 3 kfl_X3_21 rfl inG3 tyX3 tyX3_ok nmX3 (by decide) rfl hf3 rfl (tyX3_ok 3 (by decide)) rfl rfl (fl_i_3_3 _ _ _) (Nat.le_of_ble_eq_true rfl) hI7 dX3_copyFrom_29 (fun H locs hR hS => ?_)
  refine lv_aload_n hx hb dX3_copyFrom_32 rfl (hv_at hl 0 rfl) ?_
  refine lv_aload_n hx hb dX3_copyFrom_33 rfl (hv_at hl 1 rfl) ?_
  refine v_get (T := TX3) (v := .int (I7 r1 4)) C hR 4 kfl_X3_24 rfl inG3 (by decide) rfl hf2 rfl dX3_copyFrom_34 ?_
  obtain ⟨I8, hI8⟩ := ex_eq (upI I7 a0 4 (I7 r1 4))
  replace h := h I8 hI8
  refine v_put (T := TX3) (ty := .int) C hR hS 4 kfl_X3_24 rfl inG3 tyX3 tyX3_ok nmX3 (by decide) rfl hf3 rfl (tyX3_ok 4 (by decide)) rfl rfl (fl_i_3_4 _ _ _) (Nat.le_of_ble_eq_true rfl) hI8 dX3_copyFrom_37 (fun H locs hR hS => ?_)
  refine lv_aload_n hx hb dX3_copyFrom_40 rfl (hv_at hl 0 rfl) ?_
  refine lv_aload_n hx hb dX3_copyFrom_41 rfl (hv_at hl 1 rfl) ?_
  refine v_get (T := TX3) (v := .int (I8 r1 5)) C hR 5 kfl_X3_27 rfl inG3 (by decide) rfl hf2 rfl dX3_copyFrom_42 ?_
  obtain ⟨I9, hI9⟩ := ex_eq (upI I8 a0 5 (I8 r1 5))
  replace h := h I9 hI9
  refine v_put (T := TX3) (ty := .int) C hR hS 5 kfl_X3_27 rfl inG3 tyX3 tyX3_ok nmX3 (by decide) rfl hf3 rfl (tyX3_ok 5 (by decide)) rfl rfl (fl_i_3_5 _ _ _) (Nat.le_of_ble_eq_true rfl) hI9 dX3_copyFrom_45 (fun H locs hR hS => ?_)
  refine lv_aload_n hx hb dX3_copyFrom_48 rfl (hv_at hl 0 rfl) ?_
  refine lv_aload_n hx hb dX3_copyFrom_49 rfl (hv_at hl 1 rfl) ?_
  refine v_get (T := TX3) (v := .int (I9 r1 6)) C hR 6 kfl_X3_30 rfl inG3 (by decide) rfl hf2 rfl dX3_copyFrom_50 ?_
  obtain ⟨I10, hI10⟩ := ex_eq (upI I9 a0 6 (I9 r1 6))
  replace h := h I10 hI10
  refine v_put (T := TX3) (ty := .int) C hR hS 6 kfl_X3_30 rfl inG3 tyX3 tyX3_ok nmX3 (by decide) rfl hf3 rfl (tyX3_ok 6 (by decide)) rfl rfl (fl_i_3_6 _ _ _) (Nat.le_of_ble_eq_true rfl) hI10 dX3_copyFrom_53 (fun H locs hR hS => ?_)
  refine lv_aload_n hx hb dX3_copyFrom_56 rfl (hv_at hl 0 rfl) ?_
  refine lv_aload_n hx hb dX3_copyFrom_57 rfl (hv_at hl 1 rfl) ?_
  refine v_get (T := TX3) (v := .int (I10 r1 7)) C hR 7 kfl_X3_33 rfl inG3 (by decide) rfl hf2 rfl dX3_copyFrom_58 ?_
  obtain ⟨I11, hI11⟩ := ex_eq (upI I10 a0 7 (I10 r1 7))
  replace h := h I11 hI11
  refine v_put (T := TX3) (ty := .int) C hR hS 7 kfl_X3_33 rfl inG3 tyX3 tyX3_ok nmX3 (by decide) rfl hf3 rfl (tyX3_ok 7 (by decide)) rfl rfl (fl_i_3_7 _ _ _) (Nat.le_of_ble_eq_true rfl) hI11 dX3_copyFrom_61 (fun H locs hR hS => ?_)
  refine lv_aload_n hx hb dX3_copyFrom_64 rfl (hv_at hl 0 rfl) ?_
  refine lv_aload_n hx hb dX3_copyFrom_65 rfl (hv_at hl 1 rfl) ?_
  refine v_get (T := TX3) (v := .int (I11 r1 8)) C hR 8 kfl_X3_36 rfl inG3 (by decide) rfl hf2 rfl dX3_copyFrom_66 ?_
  obtain ⟨I12, hI12⟩ := ex_eq (upI I11 a0 8 (I11 r1 8))
  replace h := h I12 hI12
  refine v_put (T := TX3) (ty := .int) C hR hS 8 kfl_X3_36 rfl inG3 tyX3 tyX3_ok nmX3 (by decide) rfl hf3 rfl (tyX3_ok 8 (by decide)) rfl rfl (fl_i_3_8 _ _ _) (Nat.le_of_ble_eq_true rfl) hI12 dX3_copyFrom_69 (fun H locs hR hS => ?_)
  refine lv_aload_n hx hb dX3_copyFrom_72 rfl (hv_at hl 0 rfl) ?_
  refine lv_aload_n hx hb dX3_copyFrom_73 rfl (hv_at hl 1 rfl) ?_
  refine v_get (T := TX3) (v := .int (I12 r1 9)) C hR 9 kfl_X3_39 rfl inG3 (by decide) rfl hf2 rfl dX3_copyFrom_74 ?_
  obtain ⟨I13, hI13⟩ := ex_eq (upI I12 a0 9 (I12 r1 9))
  replace h := h I13 hI13
  refine v_put (T := TX3) (ty := .int) C hR hS 9 kfl_X3_39 rfl inG3 tyX3 tyX3_ok nmX3 (by decide) rfl hf3 rfl (tyX3_ok 9 (by decide)) rfl rfl (fl_i_3_9 _ _ _) (Nat.le_of_ble_eq_true rfl) hI13 dX3_copyFrom_77 (fun H locs hR hS => ?_)
  refine lv_aload_n hx hb dX3_copyFrom_80 rfl (hv_at hl 0 rfl) ?_
  refine lv_aload_n hx hb dX3_copyFrom_81 rfl (hv_at hl 1 rfl) ?_
  refine v_get (T := TX3) (v := .int (I13 r1 10)) C hR 10 kfl_X3_42 rfl inG3 (by decide) rfl hf2 rfl dX3_copyFrom_82 ?_
  obtain ⟨I14, hI14⟩ := ex_eq (upI I13 a0 10 (I13 r1 10))
  replace h := h I14 hI14
  refine v_put (T := TX3) (ty := .int) C hR hS 10 kfl_X3_42 rfl inG3 tyX3 tyX3_ok nmX3 (by decide) rfl hf3 rfl (tyX3_ok 10 (by decide)) rfl rfl (fl_i_3_10 _ _ _) (Nat.le_of_ble_eq_true rfl) hI14 dX3_copyFrom_85 (fun H locs hR hS => ?_)
  exact w_vret C rfl hR hS h dX3_copyFrom_88
set_option maxHeartbeats 4000000 in
set_option maxRecDepth 100000 in
theorem L_X0_copyFrom (E : Ev) (l : Launch) {K : MK} {R : MR} {n : Nat} (a0 : Nat) (o1 : Option Nat) (I : MI) (Q : MI → Prop) (h : w_X0_copyFrom K R a0 o1 I Q) : MM E l yX0_copyFrom cX0_copyFrom 3 none 3 68 0 0 [.ref a0, va_rf o1] K R I n (Qv K R n Q) := by
  refine MM.of1 (by decide) RX0 rfl (cR (cO cN)) (Nat.le_of_ble_eq_true rfl) ?_
  intro p e s m args below meth c ls C hin hR hS hl
  have hx := C.1
  have hb := C.2.1
  have hml := C.2.2.1
  have hown := C.2.2.2.1
  have hts := C.2.2.2.2.1
  have hl : hv ls 3 [(0, .ref a0), (1, va_rf o1)] := hl
  clear hin
  have hJ127 : ∀ (I : MI) (H : Heap) (locs : List Loc) (ls : Array Slot), w_X0_copyFrom_b127 K R a0 o1 Q  I → Rep E K R I n H → va_S (AA E) s.heap H locs → hv ls 3 [(0, .ref a0), (1, va_rf o1)] → W p l e (rmM 3 68 0 0) s m args below meth c H locs 0 0 (MQ below (QcM E (Qv K R n Q)) args s 0 0 (AA E)) (F0 m 127 ls []) := by
    intro  I H locs ls h hR hS hl
    unfold w_X0_copyFrom_b127 at h
    refine lv_aload_n hx hb dX0_copyFrom_127 rfl (hv_at hl 0 rfl) ?_
    refine v_aload_n hx hb dX0_copyFrom_128 rfl (hv_at hl 1 rfl) ?_
    obtain ⟨r1, e_o1, h⟩ := h
    have hl : hv ls 3 [(0, .ref a0), (1, .ref r1)] := by (try rw [e_o1] at hl); exact hl
    try rw [e_o1]
    obtain ⟨hf2, h⟩ := h
    refine v_get (T := TX0) (v := .int (I r1 5)) C hR 5 kfl_X0_56 rfl inG0 (by decide) rfl (IsBus.k hf2) rfl dX0_copyFrom_129 ?_
    obtain ⟨hf3, h⟩ := h
    obtain ⟨I4, hI4⟩ := ex_eq (upI I a0 5 (I r1 5))
    replace h := h I4 hI4
    refine v_put (T := TX0) (ty := .int) C hR hS 5 kfl_X0_56 rfl inG0 tyX0 tyX0_ok nmX0 (by decide) rfl (IsBus.k hf3) rfl (tyX0_ok 5 (by decide)) rfl rfl (fl_i_0_5 _ _ _) (Nat.le_of_ble_eq_true rfl) hI4 dX0_copyFrom_132 (fun H locs hR hS => ?_)
    refine lv_aload_n hx hb dX0_copyFrom_135 rfl (hv_at hl 0 rfl) ?_
    refine lv_aload_n hx hb dX0_copyFrom_136 rfl (hv_at hl 1 rfl) ?_
    refine v_get (T := TX0) (v := .int (I4 r1 6)) C hR 6 kfl_X0_62 rfl inG0 (by decide) rfl (IsBus.k hf2) rfl dX0_copyFrom_137 ?_
    obtain ⟨I5, hI5⟩ := ex_eq (upI I4 a0 6 (I4 r1 6))
    replace h := h I5 hI5
    refine v_put (T := TX0) (ty := .int) C hR hS 6 kfl_X0_62 rfl inG0 tyX0 tyX0_ok nmX0 (by decide) rfl (IsBus.k hf3) rfl (tyX0_ok 6 (by decide)) rfl rfl (fl_i_0_6 _ _ _) (Nat.le_of_ble_eq_true rfl) hI5 dX0_copyFrom_140 (fun H locs hR hS => ?_)
    refine lv_aload_n hx hb dX0_copyFrom_143 rfl (hv_at hl 0 rfl) ?_
    refine lv_aload_n hx hb dX0_copyFrom_144 rfl (hv_at hl 1 rfl) ?_
    refine v_get (T := TX0) (v := .int (I5 r1 7)) C hR 7 kfl_X0_36 rfl inG0 (by decide) rfl (IsBus.k hf2) rfl dX0_copyFrom_145 ?_
    obtain ⟨I6, hI6⟩ := ex_eq (upI I5 a0 7 (I5 r1 7))
    replace h := h I6 hI6
    refine v_put (T := TX0) (ty := .int) C hR hS 7 kfl_X0_36 rfl inG0 tyX0 tyX0_ok nmX0 (by decide) rfl (IsBus.k hf3) rfl (tyX0_ok 7 (by decide)) rfl rfl (fl_i_0_7 _ _ _) (Nat.le_of_ble_eq_true rfl) hI6 dX0_copyFrom_148 (fun H locs hR hS => ?_)
    refine lv_aload_n hx hb dX0_copyFrom_151 rfl (hv_at hl 0 rfl) ?_
    refine lv_aload_n hx hb dX0_copyFrom_152 rfl (hv_at hl 1 rfl) ?_
    refine v_get (T := TX0) (v := .int (I6 r1 8)) C hR 8 kfl_X0_65 rfl inG0 (by decide) rfl (IsBus.k hf2) rfl dX0_copyFrom_153 ?_
    obtain ⟨I7, hI7⟩ := ex_eq (upI I6 a0 8 (I6 r1 8))
    replace h := h I7 hI7
    refine v_put (T := TX0) (ty := .int) C hR hS 8 kfl_X0_65 rfl inG0 tyX0 tyX0_ok nmX0 (by decide) rfl (IsBus.k hf3) rfl (tyX0_ok 8 (by decide)) rfl rfl (fl_i_0_8 _ _ _) (Nat.le_of_ble_eq_true rfl) hI7 dX0_copyFrom_156 (fun H locs hR hS => ?_)
    refine lv_aload_n hx hb dX0_copyFrom_159 rfl (hv_at hl 0 rfl) ?_
    refine lv_aload_n hx hb dX0_copyFrom_160 rfl (hv_at hl 1 rfl) ?_
    refine v_get (T := TX0) (v := .int (I7 r1 9)) C hR 9 kfl_X0_68 rfl inG0 (by decide) rfl (IsBus.k hf2) rfl dX0_copyFrom_161 ?_
    obtain ⟨I8, hI8⟩ := ex_eq (upI I7 a0 9 (I7 r1 9))
    replace h := h I8 hI8
    refine v_put (T := TX0) (ty := .int) C hR hS 9 kfl_X0_68 rfl inG0 tyX0 tyX0_ok nmX0 (by decide) rfl (IsBus.k hf3) rfl (tyX0_ok 9 (by decide)) rfl rfl (fl_i_0_9 _ _ _) (Nat.le_of_ble_eq_true rfl) hI8 dX0_copyFrom_164 (fun H locs hR hS => ?_)
    refine lv_aload_n hx hb dX0_copyFrom_167 rfl (hv_at hl 0 rfl) ?_
    refine lv_aload_n hx hb dX0_copyFrom_168 rfl (hv_at hl 1 rfl) ?_
    refine v_get (T := TX0) (v := .int (I8 r1 10)) C hR 10 kfl_X0_71 rfl inG0 (by decide) rfl (IsBus.k hf2) rfl dX0_copyFrom_169 ?_
    obtain ⟨I9, hI9⟩ := ex_eq (upI I8 a0 10 (I8 r1 10))
    replace h := h I9 hI9
    refine v_put (T := TX0) (ty := .int) C hR hS 10 kfl_X0_71 rfl inG0 tyX0 tyX0_ok nmX0 (by decide) rfl (IsBus.k hf3) rfl (tyX0_ok 10 (by decide)) rfl rfl (fl_i_0_10 _ _ _) (Nat.le_of_ble_eq_true rfl) hI9 dX0_copyFrom_172 (fun H locs hR hS => ?_)
    refine lv_aload_n hx hb dX0_copyFrom_175 rfl (hv_at hl 0 rfl) ?_
    refine lv_aload_n hx hb dX0_copyFrom_176 rfl (hv_at hl 1 rfl) ?_
    refine v_get (T := TX0) (v := .int (I9 r1 11)) C hR 11 kfl_X0_74 rfl inG0 (by decide) rfl (IsBus.k hf2) rfl dX0_copyFrom_177 ?_
    obtain ⟨I10, hI10⟩ := ex_eq (upI I9 a0 11 (I9 r1 11))
    replace h := h I10 hI10
    refine v_put (T := TX0) (ty := .int) C hR hS 11 kfl_X0_74 rfl inG0 tyX0 tyX0_ok nmX0 (by decide) rfl (IsBus.k hf3) rfl (tyX0_ok 11 (by decide)) rfl rfl (fl_i_0_11 _ _ _) (Nat.le_of_ble_eq_true rfl) hI10 dX0_copyFrom_180 (fun H locs hR hS => ?_)
    refine lv_aload_n hx hb dX0_copyFrom_183 rfl (hv_at hl 0 rfl) ?_
    refine lv_aload_n hx hb dX0_copyFrom_184 rfl (hv_at hl 1 rfl) ?_
    refine v_get (T := TX0) (v := .int (I10 r1 12)) C hR 12 kfl_X0_77 rfl inG0 (by decide) rfl (IsBus.k hf2) rfl dX0_copyFrom_185 ?_
    obtain ⟨I11, hI11⟩ := ex_eq (upI I10 a0 12 (I10 r1 12))
    replace h := h I11 hI11
    refine v_put (T := TX0) (ty := .int) C hR hS 12 kfl_X0_77 rfl inG0 tyX0 tyX0_ok nmX0 (by decide) rfl (IsBus.k hf3) rfl (tyX0_ok 12 (by decide)) rfl rfl (fl_i_0_12 _ _ _) (Nat.le_of_ble_eq_true rfl) hI11 dX0_copyFrom_188 (fun H locs hR hS => ?_)
    refine lv_aload_n hx hb dX0_copyFrom_191 rfl (hv_at hl 0 rfl) ?_
    refine lv_aload_n hx hb dX0_copyFrom_192 rfl (hv_at hl 1 rfl) ?_
    refine v_get (T := TX0) (v := .int (I11 r1 13)) C hR 13 kfl_X0_80 rfl inG0 (by decide) rfl (IsBus.k hf2) rfl dX0_copyFrom_193 ?_
    obtain ⟨I12, hI12⟩ := ex_eq (upI I11 a0 13 (I11 r1 13))
    replace h := h I12 hI12
    refine v_put (T := TX0) (ty := .int) C hR hS 13 kfl_X0_80 rfl inG0 tyX0 tyX0_ok nmX0 (by decide) rfl (IsBus.k hf3) rfl (tyX0_ok 13 (by decide)) rfl rfl (fl_i_0_13 _ _ _) (Nat.le_of_ble_eq_true rfl) hI12 dX0_copyFrom_196 (fun H locs hR hS => ?_)
    refine lv_aload_n hx hb dX0_copyFrom_199 rfl (hv_at hl 0 rfl) ?_
    refine lv_aload_n hx hb dX0_copyFrom_200 rfl (hv_at hl 1 rfl) ?_
    refine v_get (T := TX0) (v := .int (I12 r1 14)) C hR 14 kfl_X0_83 rfl inG0 (by decide) rfl (IsBus.k hf2) rfl dX0_copyFrom_201 ?_
    obtain ⟨I13, hI13⟩ := ex_eq (upI I12 a0 14 (I12 r1 14))
    replace h := h I13 hI13
    refine v_put (T := TX0) (ty := .int) C hR hS 14 kfl_X0_83 rfl inG0 tyX0 tyX0_ok nmX0 (by decide) rfl (IsBus.k hf3) rfl (tyX0_ok 14 (by decide)) rfl rfl (fl_i_0_14 _ _ _) (Nat.le_of_ble_eq_true rfl) hI13 dX0_copyFrom_204 (fun H locs hR hS => ?_)
    exact w_vret C rfl hR hS h dX0_copyFrom_207
  have hJ91 : ∀ (y2_91 : Int32) (I : MI) (H : Heap) (locs : List Loc) (ls : Array Slot), w_X0_copyFrom_b91 K R a0 o1 Q y2_91 I → Rep E K R I n H → va_S (AA E) s.heap H locs → hv ls 3 [(0, .ref a0), (1, va_rf o1), (2, .int y2_91)] → W p l e (rmM 3 68 0 0) s m args below meth c H locs 0 0 (MQ below (QcM E (Qv K R n Q)) args s 0 0 (AA E)) (F0 m 91 ls []) := by
    intro y2_91 I H locs ls h hR hS hl
    obtain ⟨X91, hX91⟩ : ∃ X : Int32 → MI → Prop, ∀ (y2_91 : Int32) (I : MI), X y2_91 I ↔ (∀ (H : Heap) (locs : List Loc) (ls : Array Slot), Rep E K R I n H → va_S (AA E) s.heap H locs → hv ls 3 [(0, .ref a0), (1, va_rf o1), (2, .int y2_91)] → W p l e (rmM 3 68 0 0) s m args below meth c H locs 0 0 (MQ below (QcM E (Qv K R n Q)) args s 0 0 (AA E)) (F0 m 91 ls [])) := ⟨fun y2_91 I => ∀ (H : Heap) (locs : List Loc) (ls : Array Slot), Rep E K R I n H → va_S (AA E) s.heap H locs → hv ls 3 [(0, .ref a0), (1, va_rf o1), (2, .int y2_91)] → W p l e (rmM 3 68 0 0) s m args below meth c H locs 0 0 (MQ below (QcM E (Qv K R n Q)) args s 0 0 (AA E)) (F0 m 91 ls []), fun _ _ => Iff.rfl⟩
    refine (hX91 y2_91 I).mp (h X91 ?_) H locs ls hR hS hl
    clear h hR hS hl
    clear ls locs H I y2_91
    intro y2_91 I h
    refine (hX91 y2_91 I).mpr ?_
    intro H locs ls hR hS hl
    unfold w_X0_copyFrom_b91_body at h
    refine lv_iload_n hx hb dX0_copyFrom_91 rfl (hv_at hl 2 rfl) ?_
    refine v_aload_n hx hb dX0_copyFrom_92 rfl (hv_at hl 1 rfl) ?_
    obtain ⟨r14, e_o1, h⟩ := h
    have hl : hv ls 3 [(0, .ref a0), (1, .ref r14), (2, .int y2_91)] := by (try rw [e_o1] at hl); exact hl
    try rw [e_o1]
    obtain ⟨hf15, h⟩ := h
    refine v_get (T := TX0) (v := .int (I r14 5)) C hR 5 kfl_X0_56 rfl inG0 (by decide) rfl (IsBus.k hf15) rfl dX0_copyFrom_93 ?_
    refine lv_icmp_ge (tgt := 127) hx hb dX0_copyFrom_96 (by decide) (fun c21 => ?_) (fun c21 => ?_)
    · replace h := h.1 c21
      exact hJ127 I _ _ _ h hR hS (hv_sub hl [0, 1] (by rw [e_o1]; rfl))
    · replace h := h.2 c21
      refine lv_iload_n hx hb dX0_copyFrom_99 rfl (hv_at hl 2 rfl) ?_
      refine lv_sipush (v := (200:Int32)) hx hb dX0_copyFrom_100 (by decide) ?_
      refine lv_icmp_ge (tgt := 127) hx hb dX0_copyFrom_103 (by decide) (fun c20 => ?_) (fun c20 => ?_)
      · replace h := h.1 c20
        exact hJ127 I _ _ _ h hR hS (hv_sub hl [0, 1] (by rw [e_o1]; rfl))
      · replace h := h.2 c20
        refine lv_aload_n hx hb dX0_copyFrom_106 rfl (hv_at hl 0 rfl) ?_
        obtain ⟨hf16, h⟩ := h
        refine v_get (T := TX0) (v := .ref (a0 + 5)) C hR 4 kfl_X0_32 rfl inG0 (by decide) rfl (IsBus.k hf16) (rf_of (IsBus.r4 hf16 (I a0 4))) dX0_copyFrom_107 ?_
        refine lv_iload_n hx hb dX0_copyFrom_110 rfl (hv_at hl 2 rfl) ?_
        obtain ⟨hi17, h⟩ := h
        refine w_aald C hR (w := a0 + 38 + (ix y2_91)) (IsBus.a4 hf16) (by decide) rfl rfl hi17 (j := (ix y2_91)) rfl (IsBus.e4 hf16 (vp_lt hi17) _) dX0_copyFrom_111 ?_
        refine lv_aload_n hx hb dX0_copyFrom_112 rfl (hv_at hl 1 rfl) ?_
        refine v_get (T := TX0) (v := .ref (r14 + 5)) C hR 4 kfl_X0_32 rfl inG0 (by decide) rfl (IsBus.k hf15) (rf_of (IsBus.r4 hf15 (I r14 4))) dX0_copyFrom_113 ?_
        refine lv_iload_n hx hb dX0_copyFrom_116 rfl (hv_at hl 2 rfl) ?_
        obtain ⟨hi18, h⟩ := h
        refine w_aald C hR (w := r14 + 38 + (ix y2_91)) (IsBus.a4 hf15) (by decide) rfl rfl hi18 (j := (ix y2_91)) rfl (IsBus.e4 hf15 (vp_lt hi18) _) dX0_copyFrom_117 ?_
        refine v_cVv (As := [.ref (r14 + 38 + (ix y2_91))]) C hR hS hl.1.1 ca_X3_copyFrom kml_X0_59 (L_X3_copyFrom E l (a0 + 38 + (ix y2_91)) (some (r14 + 38 + (ix y2_91))) I _ h) (IsBus.p4 hf16 (vp_lt hi17)) rfl rfl rfl rfl (Nat.le_of_ble_eq_true rfl) ⟨Nat.le_of_ble_eq_true rfl, Nat.le_of_ble_eq_true rfl⟩ ⟨Nat.zero_le _, Nat.zero_le _⟩ dX0_copyFrom_118 (fun I19 H locs h hR hS => ?_)
        refine v_iinc (v := y2_91 + (1:Int32)) (k := 2) (lv' := [(2, .int (y2_91 + (1:Int32))), (0, .ref a0), (1, .ref r14)]) hx hb dX0_copyFrom_121 hl rfl rfl (by decide) rfl (fun ls hl => ?_)
        refine lv_goto (tgt := 91) hx hb dX0_copyFrom_124 (by decide) ?_
        exact (hX91 (y2_91 + (1:Int32)) I19).mp h _ _ _ hR hS (hv_sub hl [1, 2, 0] (by rw [e_o1]; rfl))
  have hJ63 : ∀ (y2_63 : Int32) (I : MI) (H : Heap) (locs : List Loc) (ls : Array Slot), w_X0_copyFrom_b63 K R a0 o1 Q y2_63 I → Rep E K R I n H → va_S (AA E) s.heap H locs → hv ls 3 [(0, .ref a0), (1, va_rf o1), (2, .int y2_63)] → W p l e (rmM 3 68 0 0) s m args below meth c H locs 0 0 (MQ below (QcM E (Qv K R n Q)) args s 0 0 (AA E)) (F0 m 63 ls []) := by
    intro y2_63 I H locs ls h hR hS hl
    obtain ⟨X63, hX63⟩ : ∃ X : Int32 → MI → Prop, ∀ (y2_63 : Int32) (I : MI), X y2_63 I ↔ (∀ (H : Heap) (locs : List Loc) (ls : Array Slot), Rep E K R I n H → va_S (AA E) s.heap H locs → hv ls 3 [(0, .ref a0), (1, va_rf o1), (2, .int y2_63)] → W p l e (rmM 3 68 0 0) s m args below meth c H locs 0 0 (MQ below (QcM E (Qv K R n Q)) args s 0 0 (AA E)) (F0 m 63 ls [])) := ⟨fun y2_63 I => ∀ (H : Heap) (locs : List Loc) (ls : Array Slot), Rep E K R I n H → va_S (AA E) s.heap H locs → hv ls 3 [(0, .ref a0), (1, va_rf o1), (2, .int y2_63)] → W p l e (rmM 3 68 0 0) s m args below meth c H locs 0 0 (MQ below (QcM E (Qv K R n Q)) args s 0 0 (AA E)) (F0 m 63 ls []), fun _ _ => Iff.rfl⟩
    refine (hX63 y2_63 I).mp (h X63 ?_) H locs ls hR hS hl
    clear h hR hS hl
    clear ls locs H I y2_63
    intro y2_63 I h
    refine (hX63 y2_63 I).mpr ?_
    intro H locs ls hR hS hl
    unfold w_X0_copyFrom_b63_body at h
    refine lv_iload_n hx hb dX0_copyFrom_63 rfl (hv_at hl 2 rfl) ?_
    refine lv_iconst (v := (4:Int32)) hx hb dX0_copyFrom_64 rfl ?_
    refine lv_icmp_ge (tgt := 89) hx hb dX0_copyFrom_65 (by decide) (fun c28 => ?_) (fun c28 => ?_)
    · replace h := h.1 c28
      refine lv_iconst (v := (0:Int32)) hx hb dX0_copyFrom_89 rfl ?_
      refine v_istore_n (lv' := [(2, .int (0:Int32)), (0, .ref a0), (1, va_rf o1)]) hx hb dX0_copyFrom_90 rfl hl (by decide) rfl (fun ls hl => ?_)
      exact hJ91 (0:Int32) I _ _ _ h hR hS (hv_sub hl [1, 2, 0] rfl)
    · replace h := h.2 c28
      refine lv_aload_n hx hb dX0_copyFrom_68 rfl (hv_at hl 0 rfl) ?_
      obtain ⟨hf22, h⟩ := h
      refine v_get (T := TX0) (v := .ref (a0 + 4)) C hR 3 kfl_X0_26 rfl inG0 (by decide) rfl (IsBus.k hf22) (rf_of (IsBus.r3 hf22 (I a0 3))) dX0_copyFrom_69 ?_
      refine lv_iload_n hx hb dX0_copyFrom_72 rfl (hv_at hl 2 rfl) ?_
      obtain ⟨hi23, h⟩ := h
      refine w_aald C hR (w := a0 + 18 + 5 * (ix y2_63)) (IsBus.a3 hf22) (by decide) rfl rfl hi23 (j := (ix y2_63)) rfl (IsBus.e3 hf22 (vp_lt hi23) _) dX0_copyFrom_73 ?_
      refine v_aload_n hx hb dX0_copyFrom_74 rfl (hv_at hl 1 rfl) ?_
      obtain ⟨r24, e_o1, h⟩ := h
      have hl : hv ls 3 [(0, .ref a0), (1, .ref r24), (2, .int y2_63)] := by (try rw [e_o1] at hl); exact hl
      try rw [e_o1]
      obtain ⟨hf25, h⟩ := h
      refine v_get (T := TX0) (v := .ref (r24 + 4)) C hR 3 kfl_X0_26 rfl inG0 (by decide) rfl (IsBus.k hf25) (rf_of (IsBus.r3 hf25 (I r24 3))) dX0_copyFrom_75 ?_
      refine lv_iload_n hx hb dX0_copyFrom_78 rfl (hv_at hl 2 rfl) ?_
      obtain ⟨hi26, h⟩ := h
      refine w_aald C hR (w := r24 + 18 + 5 * (ix y2_63)) (IsBus.a3 hf25) (by decide) rfl rfl hi26 (j := (ix y2_63)) rfl (IsBus.e3 hf25 (vp_lt hi26) _) dX0_copyFrom_79 ?_
      refine v_cVv (As := [.ref (r24 + 18 + 5 * (ix y2_63))]) C hR hS hl.1.1 ca_X5_copyFrom kml_X0_53 (L_X5_copyFrom E l (a0 + 18 + 5 * (ix y2_63)) (some (r24 + 18 + 5 * (ix y2_63))) I _ h) (IsTarget.k (IsBus.p3 hf22 (vp_lt hi23))) rfl rfl rfl rfl (Nat.le_of_ble_eq_true rfl) ⟨Nat.le_of_ble_eq_true rfl, Nat.le_of_ble_eq_true rfl⟩ ⟨Nat.zero_le _, Nat.zero_le _⟩ dX0_copyFrom_80 (fun I27 H locs h hR hS => ?_)
      refine v_iinc (v := y2_63 + (1:Int32)) (k := 2) (lv' := [(2, .int (y2_63 + (1:Int32))), (0, .ref a0), (1, .ref r24)]) hx hb dX0_copyFrom_83 hl rfl rfl (by decide) rfl (fun ls hl => ?_)
      refine lv_goto (tgt := 63) hx hb dX0_copyFrom_86 (by decide) ?_
      exact (hX63 (y2_63 + (1:Int32)) I27).mp h _ _ _ hR hS (hv_sub hl [1, 2, 0] (by rw [e_o1]; rfl))
  have hJ35 : ∀ (y2_35 : Int32) (I : MI) (H : Heap) (locs : List Loc) (ls : Array Slot), w_X0_copyFrom_b35 K R a0 o1 Q y2_35 I → Rep E K R I n H → va_S (AA E) s.heap H locs → hv ls 3 [(0, .ref a0), (1, va_rf o1), (2, .int y2_35)] → W p l e (rmM 3 68 0 0) s m args below meth c H locs 0 0 (MQ below (QcM E (Qv K R n Q)) args s 0 0 (AA E)) (F0 m 35 ls []) := by
    intro y2_35 I H locs ls h hR hS hl
    obtain ⟨X35, hX35⟩ : ∃ X : Int32 → MI → Prop, ∀ (y2_35 : Int32) (I : MI), X y2_35 I ↔ (∀ (H : Heap) (locs : List Loc) (ls : Array Slot), Rep E K R I n H → va_S (AA E) s.heap H locs → hv ls 3 [(0, .ref a0), (1, va_rf o1), (2, .int y2_35)] → W p l e (rmM 3 68 0 0) s m args below meth c H locs 0 0 (MQ below (QcM E (Qv K R n Q)) args s 0 0 (AA E)) (F0 m 35 ls [])) := ⟨fun y2_35 I => ∀ (H : Heap) (locs : List Loc) (ls : Array Slot), Rep E K R I n H → va_S (AA E) s.heap H locs → hv ls 3 [(0, .ref a0), (1, va_rf o1), (2, .int y2_35)] → W p l e (rmM 3 68 0 0) s m args below meth c H locs 0 0 (MQ below (QcM E (Qv K R n Q)) args s 0 0 (AA E)) (F0 m 35 ls []), fun _ _ => Iff.rfl⟩
    refine (hX35 y2_35 I).mp (h X35 ?_) H locs ls hR hS hl
    clear h hR hS hl
    clear ls locs H I y2_35
    intro y2_35 I h
    refine (hX35 y2_35 I).mpr ?_
    intro H locs ls hR hS hl
    unfold w_X0_copyFrom_b35_body at h
    refine lv_iload_n hx hb dX0_copyFrom_35 rfl (hv_at hl 2 rfl) ?_
    refine lv_iconst (v := (4:Int32)) hx hb dX0_copyFrom_36 rfl ?_
    refine lv_icmp_ge (tgt := 61) hx hb dX0_copyFrom_37 (by decide) (fun c35 => ?_) (fun c35 => ?_)
    · replace h := h.1 c35
      refine lv_iconst (v := (0:Int32)) hx hb dX0_copyFrom_61 rfl ?_
      refine v_istore_n (lv' := [(2, .int (0:Int32)), (0, .ref a0), (1, va_rf o1)]) hx hb dX0_copyFrom_62 rfl hl (by decide) rfl (fun ls hl => ?_)
      exact hJ63 (0:Int32) I _ _ _ h hR hS (hv_sub hl [1, 2, 0] rfl)
    · replace h := h.2 c35
      refine lv_aload_n hx hb dX0_copyFrom_40 rfl (hv_at hl 0 rfl) ?_
      obtain ⟨hf29, h⟩ := h
      refine v_get (T := TX0) (v := .ref (a0 + 3)) C hR 2 kfl_X0_20 rfl inG0 (by decide) rfl (IsBus.k hf29) (rf_of (IsBus.r2 hf29 (I a0 2))) dX0_copyFrom_41 ?_
      refine lv_iload_n hx hb dX0_copyFrom_44 rfl (hv_at hl 2 rfl) ?_
      obtain ⟨hi30, h⟩ := h
      refine w_aald C hR (w := a0 + 6 + 3 * (ix y2_35)) (IsBus.a2 hf29) (by decide) rfl rfl hi30 (j := (ix y2_35)) rfl (IsBus.e2 hf29 (vp_lt hi30) _) dX0_copyFrom_45 ?_
      refine v_aload_n hx hb dX0_copyFrom_46 rfl (hv_at hl 1 rfl) ?_
      obtain ⟨r31, e_o1, h⟩ := h
      have hl : hv ls 3 [(0, .ref a0), (1, .ref r31), (2, .int y2_35)] := by (try rw [e_o1] at hl); exact hl
      try rw [e_o1]
      obtain ⟨hf32, h⟩ := h
      refine v_get (T := TX0) (v := .ref (r31 + 3)) C hR 2 kfl_X0_20 rfl inG0 (by decide) rfl (IsBus.k hf32) (rf_of (IsBus.r2 hf32 (I r31 2))) dX0_copyFrom_47 ?_
      refine lv_iload_n hx hb dX0_copyFrom_50 rfl (hv_at hl 2 rfl) ?_
      obtain ⟨hi33, h⟩ := h
      refine w_aald C hR (w := r31 + 6 + 3 * (ix y2_35)) (IsBus.a2 hf32) (by decide) rfl rfl hi33 (j := (ix y2_35)) rfl (IsBus.e2 hf32 (vp_lt hi33) _) dX0_copyFrom_51 ?_
      refine v_cVv (As := [.ref (r31 + 6 + 3 * (ix y2_35))]) C hR hS hl.1.1 ca_X2_copyFrom kml_X0_49 (L_X2_copyFrom E l (a0 + 6 + 3 * (ix y2_35)) (some (r31 + 6 + 3 * (ix y2_35))) I _ h) (IsMaster.k (IsBus.p2 hf29 (vp_lt hi30))) rfl rfl rfl rfl (Nat.le_of_ble_eq_true rfl) ⟨Nat.le_of_ble_eq_true rfl, Nat.le_of_ble_eq_true rfl⟩ ⟨Nat.zero_le _, Nat.zero_le _⟩ dX0_copyFrom_52 (fun I34 H locs h hR hS => ?_)
      refine v_iinc (v := y2_35 + (1:Int32)) (k := 2) (lv' := [(2, .int (y2_35 + (1:Int32))), (0, .ref a0), (1, .ref r31)]) hx hb dX0_copyFrom_55 hl rfl rfl (by decide) rfl (fun ls hl => ?_)
      refine lv_goto (tgt := 35) hx hb dX0_copyFrom_58 (by decide) ?_
      exact (hX35 (y2_35 + (1:Int32)) I34).mp h _ _ _ hR hS (hv_sub hl [1, 2, 0] (by rw [e_o1]; rfl))
  unfold w_X0_copyFrom at h
  refine v_aload_n hx hb dX0_copyFrom_0 rfl (hv_at hl 1 rfl) ?_
  obtain ⟨r36, e_o1, h⟩ := h
  have hl : hv ls 3 [(0, .ref a0), (1, .ref r36)] := by (try rw [e_o1] at hl); exact hl
  try rw [e_o1]
  obtain ⟨hf37, h⟩ := h
  refine v_get (T := TX0) (v := .ref (r36 + 1)) C hR 0 kfl_X0_9 rfl inG0 (by decide) rfl (IsBus.k hf37) (rf_of (IsBus.r0 hf37 (I r36 0))) dX0_copyFrom_1 ?_
  refine lv_iconst (v := (0:Int32)) hx hb dX0_copyFrom_4 rfl ?_
  refine lv_aload_n hx hb dX0_copyFrom_5 rfl (hv_at hl 0 rfl) ?_
  obtain ⟨hf38, h⟩ := h
  refine v_get (T := TX0) (v := .ref (a0 + 1)) C hR 0 kfl_X0_9 rfl inG0 (by decide) rfl (IsBus.k hf38) (rf_of (IsBus.r0 hf38 (I a0 0))) dX0_copyFrom_6 ?_
  refine lv_iconst (v := (0:Int32)) hx hb dX0_copyFrom_9 rfl ?_
  refine lv_aload_n hx hb dX0_copyFrom_10 rfl (hv_at hl 0 rfl) ?_
  refine v_get (T := TX0) (v := .ref (a0 + 1)) C hR 0 kfl_X0_9 rfl inG0 (by decide) rfl (IsBus.k hf38) (rf_of (IsBus.r0 hf38 (I a0 0))) dX0_copyFrom_11 ?_
  refine v_alen C hR (IsBus.a0 hf38) (by decide) (v := (3:Int32)) rfl dX0_copyFrom_14 ?_
  obtain ⟨I39, hI39⟩ := ex_eq (cpI I (r36 + 1) (a0 + 1) 0 0 3)
  replace h := h I39 hI39
  refine v_copy C hl.1.1 hR hS kml_X0_43 kna_arraycopyName kst_arraycopyName kin_System (IsBus.a0 hf37) (IsBus.a0 hf38) (by decide) (by decide) (by decide) (by decide) (by decide) (Nat.le_of_ble_eq_true rfl) (by decide) hI39 dX0_copyFrom_15 (fun H locs hR hS => ?_)
  refine lv_aload_n hx hb dX0_copyFrom_18 rfl (hv_at hl 1 rfl) ?_
  refine v_get (T := TX0) (v := .ref (r36 + 2)) C hR 1 kfl_X0_15 rfl inG0 (by decide) rfl (IsBus.k hf37) (rf_of (IsBus.r1 hf37 (I39 r36 1))) dX0_copyFrom_19 ?_
  refine lv_iconst (v := (0:Int32)) hx hb dX0_copyFrom_22 rfl ?_
  refine lv_aload_n hx hb dX0_copyFrom_23 rfl (hv_at hl 0 rfl) ?_
  refine v_get (T := TX0) (v := .ref (a0 + 2)) C hR 1 kfl_X0_15 rfl inG0 (by decide) rfl (IsBus.k hf38) (rf_of (IsBus.r1 hf38 (I39 a0 1))) dX0_copyFrom_24 ?_
  refine lv_iconst (v := (0:Int32)) hx hb dX0_copyFrom_27 rfl ?_
  refine lv_bipush (v := (8:Int32)) hx hb dX0_copyFrom_28 (by decide) ?_
  obtain ⟨I40, hI40⟩ := ex_eq (cpI I39 (r36 + 2) (a0 + 2) 0 0 8)
  replace h := h I40 hI40
  refine v_copy C hl.1.1 hR hS kml_X0_43 kna_arraycopyName kst_arraycopyName kin_System (IsBus.a1 hf37) (IsBus.a1 hf38) (by decide) (by decide) (by decide) (by decide) (by decide) (Nat.le_of_ble_eq_true rfl) (by decide) hI40 dX0_copyFrom_30 (fun H locs hR hS => ?_)
  refine lv_iconst (v := (0:Int32)) hx hb dX0_copyFrom_33 rfl ?_
  refine v_istore_n (lv' := [(2, .int (0:Int32)), (0, .ref a0), (1, .ref r36)]) hx hb dX0_copyFrom_34 rfl hl (by decide) rfl (fun ls hl => ?_)
  exact hJ35 (0:Int32) I40 _ _ _ h hR hS (hv_sub hl [1, 2, 0] (by rw [e_o1]; rfl))
set_option maxHeartbeats 4000000 in
set_option maxRecDepth 100000 in
theorem L_X6_record (E : Ev) (l : Launch) {K : MK} {R : MR} {n : Nat} (a0 : Nat) (I : MI) (Q : MI → Prop) (h : w_X6_record K R a0 I Q) : MM E l yX6_record cX6_record 3 none 4 90 0 0 [.ref a0] K R I n (Qv K R n Q) := by
  refine MM.of1 (by decide) RX6 rfl (cR cN) (Nat.le_of_ble_eq_true rfl) ?_
  intro p e s m args below meth c ls C hin hR hS hl
  have hx := C.1
  have hb := C.2.1
  have hml := C.2.2.1
  have hown := C.2.2.2.1
  have hts := C.2.2.2.2.1
  have hl : hv ls 3 [(0, .ref a0)] := hl
  clear hin
  have hJ91 : ∀ (I : MI) (H : Heap) (locs : List Loc) (ls : Array Slot), w_X6_record_b91 K R a0 Q  I → Rep E K R I n H → va_S (AA E) s.heap H locs → hv ls 3 [] → W p l e (rmM 4 90 0 0) s m args below meth c H locs 0 0 (MQ below (QcM E (Qv K R n Q)) args s 0 0 (AA E)) (F0 m 91 ls []) := by
    intro  I H locs ls h hR hS hl
    unfold w_X6_record_b91 at h
    exact w_vret C rfl hR hS h dX6_record_91
  have hJ54 : ∀ (I : MI) (H : Heap) (locs : List Loc) (ls : Array Slot), w_X6_record_b54 K R a0 Q  I → Rep E K R I n H → va_S (AA E) s.heap H locs → hv ls 3 [(0, .ref a0)] → W p l e (rmM 4 90 0 0) s m args below meth c H locs 0 0 (MQ below (QcM E (Qv K R n Q)) args s 0 0 (AA E)) (F0 m 54 ls []) := by
    intro  I H locs ls h hR hS hl
    unfold w_X6_record_b54 at h
    refine lv_aload_n hx hb dX6_record_54 rfl (hv_at hl 0 rfl) ?_
    obtain ⟨hf1, h⟩ := h
    refine v_get (T := TX6) (v := .int (I a0 5)) C hR 5 kfl_X6_145 rfl inG6 (by decide) rfl (IsTag.k hf1) rfl dX6_record_55 ?_
    refine lv_iconst (v := (4:Int32)) hx hb dX6_record_58 rfl ?_
    refine v_cSi (As := [.int (I a0 5), .int (4:Int32)]) C hR hS hl.1.1 ca_X6_isIndex kml_X6_37 (L_X6_isIndex E l (I a0 5) (4:Int32) I _ h) rfl rfl (Nat.le_of_ble_eq_true rfl) ⟨Nat.le_of_ble_eq_true rfl, Nat.le_of_ble_eq_true rfl⟩ ⟨Nat.zero_le _, Nat.zero_le _⟩ dX6_record_59 (fun v3 I2 H locs h hR hS => ?_)
    refine lv_if_eq (tgt := 91) hx hb dX6_record_62 (by decide) (fun c8 => ?_) (fun c8 => ?_)
    · replace h := h.1 c8
      exact hJ91 I2 _ _ _ h hR hS (hv_sub hl [] rfl)
    · replace h := h.2 c8
      refine lv_aload_n hx hb dX6_record_65 rfl (hv_at hl 0 rfl) ?_
      refine v_get (T := TX6) (v := .ref (a0 + 715)) C hR 4 kfl_X6_22 rfl inG6 (by decide) rfl (IsTag.k hf1) (rf_of (IsTag.r4 hf1 (I2 a0 4))) dX6_record_66 ?_
      refine lv_aload_n hx hb dX6_record_69 rfl (hv_at hl 0 rfl) ?_
      refine v_get (T := TX6) (v := .int (I2 a0 5)) C hR 5 kfl_X6_145 rfl inG6 (by decide) rfl (IsTag.k hf1) rfl dX6_record_70 ?_
      obtain ⟨hi4, h⟩ := h
      refine w_aald C hR (w := pastA a0 (I2 (a0 + 715) (ix (I2 a0 5)))) (IsTag.a4 hf1) (by decide) rfl rfl hi4 (j := (ix (I2 a0 5))) rfl (IsTag.e4 hf1 (vp_lt hi4) _) dX6_record_73 ?_
      refine lv_aload_n hx hb dX6_record_74 rfl (hv_at hl 0 rfl) ?_
      refine v_get (T := TX6) (v := .ref (a0 + 1)) C hR 0 kfl_X6_10 rfl inG6 (by decide) rfl (IsTag.k hf1) (rf_of (IsTag.r0 hf1 (I2 a0 0))) dX6_record_75 ?_
      obtain ⟨hf5, h⟩ := h
      refine v_cVv (As := [.ref (a0 + 1)]) C hR hS hl.1.1 ca_X0_copyFrom kml_X6_148 (L_X0_copyFrom E l (pastA a0 (I2 (a0 + 715) (ix (I2 a0 5)))) (some (a0 + 1)) I2 _ h) (IsBus.k hf5) rfl rfl rfl rfl (Nat.le_of_ble_eq_true rfl) ⟨Nat.le_of_ble_eq_true rfl, Nat.le_of_ble_eq_true rfl⟩ ⟨Nat.zero_le _, Nat.zero_le _⟩ dX6_record_78 (fun I6 H locs h hR hS => ?_)
      refine lv_aload_n hx hb dX6_record_81 rfl (hv_at hl 0 rfl) ?_
      refine lv_dup hx hb dX6_record_82 rfl ?_
      refine v_get (T := TX6) (v := .int (I6 a0 5)) C hR 5 kfl_X6_145 rfl inG6 (by decide) rfl (IsTag.k hf1) rfl dX6_record_83 ?_
      refine lv_iconst (v := (1:Int32)) hx hb dX6_record_86 rfl ?_
      refine lv_iadd hx hb dX6_record_87 ?_
      obtain ⟨I7, hI7⟩ := ex_eq (upI I6 a0 5 ((I6 a0 5) + (1:Int32)))
      replace h := h I7 hI7
      refine v_put (T := TX6) (ty := .int) C hR hS 5 kfl_X6_145 rfl inG6 tyX6 tyX6_ok nmX6 (by decide) rfl (IsTag.k hf1) rfl (tyX6_ok 5 (by decide)) rfl rfl (fl_i_6_5 _ _ _) (Nat.le_of_ble_eq_true rfl) hI7 dX6_record_88 (fun H locs hR hS => ?_)
      exact hJ91 I7 _ _ _ h hR hS (hv_sub hl [] rfl)
  have hJ17 : ∀ (y1_17 : Int32) (y2_17 : Int32) (I : MI) (H : Heap) (locs : List Loc) (ls : Array Slot), w_X6_record_b17 K R a0 Q y1_17 y2_17 I → Rep E K R I n H → va_S (AA E) s.heap H locs → hv ls 3 [(0, .ref a0), (1, .ref (pastA a0 y1_17)), (2, .int y2_17)] → W p l e (rmM 4 90 0 0) s m args below meth c H locs 0 0 (MQ below (QcM E (Qv K R n Q)) args s 0 0 (AA E)) (F0 m 17 ls []) := by
    intro y1_17 y2_17 I H locs ls h hR hS hl
    obtain ⟨X17, hX17⟩ : ∃ X : Int32 → Int32 → MI → Prop, ∀ (y1_17 : Int32) (y2_17 : Int32) (I : MI), X y1_17 y2_17 I ↔ (∀ (H : Heap) (locs : List Loc) (ls : Array Slot), Rep E K R I n H → va_S (AA E) s.heap H locs → hv ls 3 [(0, .ref a0), (1, .ref (pastA a0 y1_17)), (2, .int y2_17)] → W p l e (rmM 4 90 0 0) s m args below meth c H locs 0 0 (MQ below (QcM E (Qv K R n Q)) args s 0 0 (AA E)) (F0 m 17 ls [])) := ⟨fun y1_17 y2_17 I => ∀ (H : Heap) (locs : List Loc) (ls : Array Slot), Rep E K R I n H → va_S (AA E) s.heap H locs → hv ls 3 [(0, .ref a0), (1, .ref (pastA a0 y1_17)), (2, .int y2_17)] → W p l e (rmM 4 90 0 0) s m args below meth c H locs 0 0 (MQ below (QcM E (Qv K R n Q)) args s 0 0 (AA E)) (F0 m 17 ls []), fun _ _ _ => Iff.rfl⟩
    refine (hX17 y1_17 y2_17 I).mp (h X17 ?_) H locs ls hR hS hl
    clear h hR hS hl
    clear ls locs H I y1_17 y2_17
    intro y1_17 y2_17 I h
    refine (hX17 y1_17 y2_17 I).mpr ?_
    intro H locs ls hR hS hl
    unfold w_X6_record_b17_body at h
    refine lv_iload_n hx hb dX6_record_17 rfl (hv_at hl 2 rfl) ?_
    refine lv_iconst (v := (4:Int32)) hx hb dX6_record_18 rfl ?_
    refine lv_icmp_ge (tgt := 42) hx hb dX6_record_19 (by decide) (fun c18 => ?_) (fun c18 => ?_)
    · replace h := h.1 c18
      refine lv_aload_n hx hb dX6_record_42 rfl (hv_at hl 0 rfl) ?_
      obtain ⟨hf9, h⟩ := h
      refine v_get (T := TX6) (v := .ref (a0 + 715)) C hR 4 kfl_X6_22 rfl inG6 (by decide) rfl (IsTag.k hf9) (rf_of (IsTag.r4 hf9 (I a0 4))) dX6_record_43 ?_
      refine lv_iconst (v := (3:Int32)) hx hb dX6_record_46 rfl ?_
      refine lv_aload_n hx hb dX6_record_47 rfl (hv_at hl 1 rfl) ?_
      obtain ⟨hf11, h⟩ := h
      obtain ⟨I10, hI10⟩ := ex_eq (upI I (a0 + 715) 3 y1_17)
      replace h := h I10 hI10
      refine w_past C hR hS (IsTag.a4 hf9) (IsBus.k hf11) (show vp_in (3:Int32) 4 by unfold vp_in; decide) (j := 3) (by decide) (IsTag.e4 hf9 (by decide) _) hI10 dX6_record_48 (fun H locs hR hS => ?_)
      refine lv_aload_n hx hb dX6_record_49 rfl (hv_at hl 0 rfl) ?_
      refine lv_iconst (v := (3:Int32)) hx hb dX6_record_50 rfl ?_
      obtain ⟨I12, hI12⟩ := ex_eq (upI I10 a0 5 (3:Int32))
      replace h := h I12 hI12
      refine v_put (T := TX6) (ty := .int) C hR hS 5 kfl_X6_145 rfl inG6 tyX6 tyX6_ok nmX6 (by decide) rfl (IsTag.k hf9) rfl (tyX6_ok 5 (by decide)) rfl rfl (fl_i_6_5 _ _ _) (Nat.le_of_ble_eq_true rfl) hI12 dX6_record_51 (fun H locs hR hS => ?_)
      exact hJ54 I12 _ _ _ h hR hS (hv_sub hl [0] rfl)
    · replace h := h.2 c18
      refine lv_aload_n hx hb dX6_record_22 rfl (hv_at hl 0 rfl) ?_
      obtain ⟨hf13, h⟩ := h
      refine v_get (T := TX6) (v := .ref (a0 + 715)) C hR 4 kfl_X6_22 rfl inG6 (by decide) rfl (IsTag.k hf13) (rf_of (IsTag.r4 hf13 (I a0 4))) dX6_record_23 ?_
      refine lv_iload_n hx hb dX6_record_26 rfl (hv_at hl 2 rfl) ?_
      refine lv_iconst (v := (1:Int32)) hx hb dX6_record_27 rfl ?_
      refine lv_isub hx hb dX6_record_28 ?_
      refine lv_aload_n hx hb dX6_record_29 rfl (hv_at hl 0 rfl) ?_
      refine v_get (T := TX6) (v := .ref (a0 + 715)) C hR 4 kfl_X6_22 rfl inG6 (by decide) rfl (IsTag.k hf13) (rf_of (IsTag.r4 hf13 (I a0 4))) dX6_record_30 ?_
      refine lv_iload_n hx hb dX6_record_33 rfl (hv_at hl 2 rfl) ?_
      obtain ⟨hi14, h⟩ := h
      refine w_aald C hR (w := pastA a0 (I (a0 + 715) (ix y2_17))) (IsTag.a4 hf13) (by decide) rfl rfl hi14 (j := (ix y2_17)) rfl (IsTag.e4 hf13 (vp_lt hi14) _) dX6_record_34 ?_
      obtain ⟨hi15, h⟩ := h
      obtain ⟨hf17, h⟩ := h
      obtain ⟨I16, hI16⟩ := ex_eq (upI I (a0 + 715) (ix (y2_17 - (1:Int32))) (I (a0 + 715) (ix y2_17)))
      replace h := h I16 hI16
      refine w_past C hR hS (IsTag.a4 hf13) (IsBus.k hf17) hi15 (j := (ix (y2_17 - (1:Int32)))) rfl (IsTag.e4 hf13 (vp_lt hi15) _) hI16 dX6_record_35 (fun H locs hR hS => ?_)
      refine v_iinc (v := y2_17 + (1:Int32)) (k := 2) (lv' := [(2, .int (y2_17 + (1:Int32))), (0, .ref a0), (1, .ref (pastA a0 y1_17))]) hx hb dX6_record_36 hl rfl rfl (by decide) rfl (fun ls hl => ?_)
      refine lv_goto (tgt := 17) hx hb dX6_record_39 (by decide) ?_
      exact (hX17 y1_17 (y2_17 + (1:Int32)) I16).mp h _ _ _ hR hS (hv_sub hl [1, 2, 0] rfl)
  unfold w_X6_record at h
  refine lv_aload_n hx hb dX6_record_0 rfl (hv_at hl 0 rfl) ?_
  obtain ⟨hf19, h⟩ := h
  refine v_get (T := TX6) (v := .int (I a0 5)) C hR 5 kfl_X6_145 rfl inG6 (by decide) rfl (IsTag.k hf19) rfl dX6_record_1 ?_
  refine lv_iconst (v := (4:Int32)) hx hb dX6_record_4 rfl ?_
  refine lv_icmp_lt (tgt := 54) hx hb dX6_record_5 (by decide) (fun c20 => ?_) (fun c20 => ?_)
  · replace h := h.1 c20
    exact hJ54 I _ _ _ h hR hS (hv_sub hl [0] rfl)
  · replace h := h.2 c20
    refine lv_aload_n hx hb dX6_record_8 rfl (hv_at hl 0 rfl) ?_
    refine v_get (T := TX6) (v := .ref (a0 + 715)) C hR 4 kfl_X6_22 rfl inG6 (by decide) rfl (IsTag.k hf19) (rf_of (IsTag.r4 hf19 (I a0 4))) dX6_record_9 ?_
    refine lv_iconst (v := (0:Int32)) hx hb dX6_record_12 rfl ?_
    refine w_aald C hR (w := pastA a0 (I (a0 + 715) 0)) (IsTag.a4 hf19) (by decide) rfl rfl (show vp_in (0:Int32) 4 by unfold vp_in; decide) (j := 0) (by decide) (IsTag.e4 hf19 (by decide) _) dX6_record_13 ?_
    refine v_astore_n (o := (some (pastA a0 (I (a0 + 715) 0)))) (lv' := [(1, .ref (pastA a0 (I (a0 + 715) 0))), (0, .ref a0)]) hx hb dX6_record_14 rfl hl (by decide) rfl (fun ls hl => ?_)
    refine lv_iconst (v := (1:Int32)) hx hb dX6_record_15 rfl ?_
    refine v_istore_n (lv' := [(2, .int (1:Int32)), (1, .ref (pastA a0 (I (a0 + 715) 0))), (0, .ref a0)]) hx hb dX6_record_16 rfl hl (by decide) rfl (fun ls hl => ?_)
    exact hJ17 (I (a0 + 715) 0) (1:Int32) I _ _ _ h hR hS (hv_sub hl [2, 1, 0] rfl)
set_option maxHeartbeats 4000000 in
set_option maxRecDepth 100000 in
theorem L_X6_set (E : Ev) (l : Launch) {K : MK} {R : MR} {n : Nat} (a0 : Nat) (x1 : Int32) (x2 : Int32) (I : MI) (Q : Int32 → MI → Prop) (h : w_X6_set K R a0 x1 x2 I Q) : MM E l yX6_set cX6_set 4 (some Jvm.ClassFile.FieldType.int) 5 112 0 0 [.ref a0, .int x1, .int x2] K R I n (Qi K R n Q) := by
  refine MM.of1 (by decide) RX6 rfl (cR (cI (cI cN))) (Nat.le_of_ble_eq_true rfl) ?_
  intro p e s m args below meth c ls C hin hR hS hl
  have hx := C.1
  have hb := C.2.1
  have hml := C.2.2.1
  have hown := C.2.2.2.1
  have hts := C.2.2.2.2.1
  have hl : hv ls 4 [(0, .ref a0), (1, .int x1), (2, .int x2)] := hl
  clear hin
  have hJ28 : ∀ (I : MI) (H : Heap) (locs : List Loc) (ls : Array Slot), w_X6_set_b28 K R a0 x1 x2 Q  I → Rep E K R I n H → va_S (AA E) s.heap H locs → hv ls 4 [] → W p l e (rmM 5 112 0 0) s m args below meth c H locs 0 0 (MQ below (QcM E (Qi K R n Q)) args s 0 0 (AA E)) (F0 m 28 ls []) := by
    intro  I H locs ls h hR hS hl
    unfold w_X6_set_b28 at h
    refine lv_bipush (v := (-2:Int32)) hx hb dX6_set_28 (by decide) ?_
    exact w_ireti C rfl rfl hR hS h dX6_set_30
  have hJ49 : ∀ (I : MI) (H : Heap) (locs : List Loc) (ls : Array Slot), w_X6_set_b49 K R a0 x1 x2 Q  I → Rep E K R I n H → va_S (AA E) s.heap H locs → hv ls 4 [(0, .ref a0), (1, .int x1), (2, .int x2)] → W p l e (rmM 5 112 0 0) s m args below meth c H locs 0 0 (MQ below (QcM E (Qi K R n Q)) args s 0 0 (AA E)) (F0 m 49 ls []) := by
    intro  I H locs ls h hR hS hl
    unfold w_X6_set_b49 at h
    refine lv_aload_n hx hb dX6_set_49 rfl (hv_at hl 0 rfl) ?_
    obtain ⟨hf1, h⟩ := h
    refine v_get (T := TX6) (v := .ref (a0 + 1)) C hR 0 kfl_X6_10 rfl inG6 (by decide) rfl (IsTag.k hf1) (rf_of (IsTag.r0 hf1 (I a0 0))) dX6_set_50 ?_
    refine v_get (T := TX0) (v := .ref (a0 + 1 + 1)) C hR 0 kfl_X6_52 rfl inG0 (by decide) rfl (IsBus.k (IsTag.o0 hf1)) (rf_of (IsBus.r0 (IsTag.o0 hf1) (I (a0 + 1) 0))) dX6_set_53 ?_
    refine lv_iload_n hx hb dX6_set_56 rfl (hv_at hl 1 rfl) ?_
    obtain ⟨hi2, h⟩ := h
    refine w_iald C hR (IsBus.a0 (IsTag.o0 hf1)) hi2 (j := (ix x1)) rfl dX6_set_57 ?_
    refine v_istore_n (lv' := [(3, .int (I (a0 + 1 + 1) (ix x1))), (0, .ref a0), (1, .int x1), (2, .int x2)]) hx hb dX6_set_58 rfl hl (by decide) rfl (fun ls hl => ?_)
    refine lv_iload_n hx hb dX6_set_59 rfl (hv_at hl 0 rfl) ?_
    refine lv_iload_n hx hb dX6_set_60 rfl (hv_at hl 3 rfl) ?_
    refine lv_icmp_ne (tgt := 67) hx hb dX6_set_61 (by decide) (fun c6 => ?_) (fun c6 => ?_)
    · replace h := h.1 c6
      refine lv_aload_n hx hb dX6_set_67 rfl (hv_at hl 1 rfl) ?_
      refine v_cVv (As := []) C hR hS hl.1.1 ca_X6_record kml_X6_55 (L_X6_record E l a0 I _ h) (IsTag.k hf1) rfl rfl rfl rfl (Nat.le_of_ble_eq_true rfl) ⟨Nat.le_of_ble_eq_true rfl, Nat.le_of_ble_eq_true rfl⟩ ⟨Nat.zero_le _, Nat.zero_le _⟩ dX6_set_68 (fun I3 H locs h hR hS => ?_)
      refine lv_aload_n hx hb dX6_set_71 rfl (hv_at hl 1 rfl) ?_
      refine v_get (T := TX6) (v := .ref (a0 + 1)) C hR 0 kfl_X6_10 rfl inG6 (by decide) rfl (IsTag.k hf1) (rf_of (IsTag.r0 hf1 (I3 a0 0))) dX6_set_72 ?_
      refine v_get (T := TX0) (v := .ref (a0 + 1 + 1)) C hR 0 kfl_X6_52 rfl inG0 (by decide) rfl (IsBus.k (IsTag.o0 hf1)) (rf_of (IsBus.r0 (IsTag.o0 hf1) (I3 (a0 + 1) 0))) dX6_set_75 ?_
      refine lv_iload_n hx hb dX6_set_78 rfl (hv_at hl 2 rfl) ?_
      refine lv_iload_n hx hb dX6_set_79 rfl (hv_at hl 3 rfl) ?_
      obtain ⟨hi4, h⟩ := h
      obtain ⟨I5, hI5⟩ := ex_eq (upI I3 (a0 + 1 + 1) (ix x1) x2)
      replace h := h I5 hI5
      refine w_iast C hR hS (IsBus.a0 (IsTag.o0 hf1)) hi4 (j := (ix x1)) rfl hI5 dX6_set_80 (fun H locs hR hS => ?_)
      refine lv_iload_n hx hb dX6_set_81 rfl (hv_at hl 0 rfl) ?_
      exact w_ireti C rfl rfl hR hS h dX6_set_82
    · replace h := h.2 c6
      refine lv_bipush (v := (-5:Int32)) hx hb dX6_set_64 (by decide) ?_
      exact w_ireti C rfl rfl hR hS h dX6_set_66
  unfold w_X6_set at h
  refine lv_iload_n hx hb dX6_set_0 rfl (hv_at hl 1 rfl) ?_
  refine v_gets (j := 0) C hS (by decide) kfl_X6_33 dX6_set_1 (fun t7 ht8 => ?_)
  refine v_stlen C hS ht8 dX6_set_4 ?_
  refine v_cSi (As := [.int x1, .int (3:Int32)]) C hR hS hl.1.1 ca_X6_isIndex kml_X6_37 (L_X6_isIndex E l x1 (3:Int32) I _ h) rfl rfl (Nat.le_of_ble_eq_true rfl) ⟨Nat.le_of_ble_eq_true rfl, Nat.le_of_ble_eq_true rfl⟩ ⟨Nat.zero_le _, Nat.zero_le _⟩ dX6_set_5 (fun v10 I9 H locs h hR hS => ?_)
  refine lv_if_eq (tgt := 28) hx hb dX6_set_8 (by decide) (fun c25 => ?_) (fun c25 => ?_)
  · replace h := h.1 c25
    exact hJ28 I9 _ _ _ h hR hS (hv_sub hl [] rfl)
  · replace h := h.2 c25
    refine lv_iload_n hx hb dX6_set_11 rfl (hv_at hl 2 rfl) ?_
    refine v_gets (j := 0) C hS (by decide) kfl_X6_33 dX6_set_12 (fun t11 ht12 => ?_)
    refine lv_iload_n hx hb dX6_set_15 rfl (hv_at hl 1 rfl) ?_
    obtain ⟨hi13, h⟩ := h
    refine v_stld C hS ht12 hi13 dX6_set_16 ?_
    refine v_gets (j := 1) C hS (by decide) kfl_X6_41 dX6_set_17 (fun t14 ht15 => ?_)
    refine lv_iload_n hx hb dX6_set_20 rfl (hv_at hl 1 rfl) ?_
    obtain ⟨hi16, h⟩ := h
    refine v_stld C hS ht15 hi16 dX6_set_21 ?_
    refine v_cSi (As := [.int x2, .int ((stL 0).getD (ix x1) 0), .int ((stL 1).getD (ix x1) 0)]) C hR hS hl.1.1 ca_X6_isBetween kml_X6_44 (L_X6_isBetween E l x2 ((stL 0).getD (ix x1) 0) ((stL 1).getD (ix x1) 0) I9 _ h) rfl rfl (Nat.le_of_ble_eq_true rfl) ⟨Nat.le_of_ble_eq_true rfl, Nat.le_of_ble_eq_true rfl⟩ ⟨Nat.zero_le _, Nat.zero_le _⟩ dX6_set_22 (fun v18 I17 H locs h hR hS => ?_)
    refine lv_if_ne (tgt := 31) hx hb dX6_set_25 (by decide) (fun c24 => ?_) (fun c24 => ?_)
    · replace h := h.1 c24
      refine lv_iload_n hx hb dX6_set_31 rfl (hv_at hl 1 rfl) ?_
      refine lv_if_ne (tgt := 49) hx hb dX6_set_32 (by decide) (fun c23 => ?_) (fun c23 => ?_)
      · replace h := h.1 c23
        exact hJ49 I17 _ _ _ h hR hS (hv_sub hl [0, 1, 2] rfl)
      · replace h := h.2 c23
        refine lv_aload_n hx hb dX6_set_35 rfl (hv_at hl 0 rfl) ?_
        obtain ⟨hf19, h⟩ := h
        refine v_get (T := TX6) (v := .ref (a0 + 1)) C hR 0 kfl_X6_10 rfl inG6 (by decide) rfl (IsTag.k hf19) (rf_of (IsTag.r0 hf19 (I17 a0 0))) dX6_set_36 ?_
        refine v_cVi (As := []) C hR hS hl.1.1 ca_X0_highestLentTag kml_X6_48 (L_X0_highestLentTag E l (a0 + 1) I17 _ h) (IsBus.k (IsTag.o0 hf19)) rfl rfl rfl rfl (Nat.le_of_ble_eq_true rfl) ⟨Nat.le_of_ble_eq_true rfl, Nat.le_of_ble_eq_true rfl⟩ ⟨Nat.zero_le _, Nat.zero_le _⟩ dX6_set_39 (fun v21 I20 H locs h hR hS => ?_)
        refine lv_iload_n hx hb dX6_set_42 rfl (hv_at hl 2 rfl) ?_
        refine lv_icmp_lt (tgt := 49) hx hb dX6_set_43 (by decide) (fun c22 => ?_) (fun c22 => ?_)
        · replace h := h.1 c22
          exact hJ49 I20 _ _ _ h hR hS (hv_sub hl [0, 1, 2] rfl)
        · replace h := h.2 c22
          refine lv_bipush (v := (-4:Int32)) hx hb dX6_set_46 (by decide) ?_
          exact w_ireti C rfl rfl hR hS h dX6_set_48
    · replace h := h.2 c24
      exact hJ28 I17 _ _ _ h hR hS (hv_sub hl [] rfl)
set_option maxHeartbeats 4000000 in
set_option maxRecDepth 100000 in
theorem L_X0_masterAt (E : Ev) (l : Launch) {K : MK} {R : MR} {n : Nat} (a0 : Nat) (x1 : Int32) (I : MI) (Q : Option Nat → MI → Prop) (h : w_X0_masterAt K R a0 x1 I Q) : MM E l yX0_masterAt cX0_masterAt 2 (some (Jvm.ClassFile.FieldType.object "TagBus$Master")) 1 21 0 0 [.ref a0, .int x1] K R I n (Qo K R n Q) := by
  refine MM.of1 (by decide) RX0 rfl (cR (cI cN)) (Nat.le_of_ble_eq_true rfl) ?_
  intro p e s m args below meth c ls C hin hR hS hl
  have hx := C.1
  have hb := C.2.1
  have hml := C.2.2.1
  have hown := C.2.2.2.1
  have hts := C.2.2.2.2.1
  have hl : hv ls 2 [(0, .ref a0), (1, .int x1)] := hl
  clear hin
  have hJ18 : ∀ (z0_18 : Option Nat) (I : MI) (H : Heap) (locs : List Loc) (ls : Array Slot), w_X0_masterAt_b18 K R a0 x1 Q z0_18 I → Rep E K R I n H → va_S (AA E) s.heap H locs → hv ls 2 [] → W p l e (rmM 1 21 0 0) s m args below meth c H locs 0 0 (MQ below (QcM E (Qo K R n Q)) args s 0 0 (AA E)) (F0 m 18 ls [va_rf z0_18]) := by
    intro z0_18 I H locs ls h hR hS hl
    unfold w_X0_masterAt_b18 at h
    exact w_aret (o := z0_18) C rfl hR hS h dX0_masterAt_18
  unfold w_X0_masterAt at h
  refine lv_iload_n hx hb dX0_masterAt_0 rfl (hv_at hl 1 rfl) ?_
  refine lv_iconst (v := (4:Int32)) hx hb dX0_masterAt_1 rfl ?_
  refine v_cNi (As := [.int x1, .int (4:Int32)]) C hR hS hl.1.1 ca_X6_isIndex knm_X0_86 (L_X6_isIndex E l x1 (4:Int32) I _ h) rfl rfl (Nat.le_of_ble_eq_true rfl) ⟨Nat.le_of_ble_eq_true rfl, Nat.le_of_ble_eq_true rfl⟩ ⟨Nat.zero_le _, Nat.zero_le _⟩ dX0_masterAt_2 (fun v2 I1 H locs h hR hS => ?_)
  refine lv_if_eq (tgt := 17) hx hb dX0_masterAt_5 (by decide) (fun c5 => ?_) (fun c5 => ?_)
  · replace h := h.1 c5
    refine lv_null hx hb dX0_masterAt_17 ?_
    exact hJ18 none I1 _ _ _ h hR hS (hv_sub hl [] rfl)
  · replace h := h.2 c5
    refine lv_aload_n hx hb dX0_masterAt_8 rfl (hv_at hl 0 rfl) ?_
    obtain ⟨hf3, h⟩ := h
    refine v_get (T := TX0) (v := .ref (a0 + 3)) C hR 2 kfl_X0_20 rfl inG0 (by decide) rfl (IsBus.k hf3) (rf_of (IsBus.r2 hf3 (I1 a0 2))) dX0_masterAt_9 ?_
    refine lv_iload_n hx hb dX0_masterAt_12 rfl (hv_at hl 1 rfl) ?_
    obtain ⟨hi4, h⟩ := h
    refine w_aald C hR (w := a0 + 6 + 3 * (ix x1)) (IsBus.a2 hf3) (by decide) rfl rfl hi4 (j := (ix x1)) rfl (IsBus.e2 hf3 (vp_lt hi4) _) dX0_masterAt_13 ?_
    refine lv_goto (tgt := 18) hx hb dX0_masterAt_14 (by decide) ?_
    exact hJ18 (some (a0 + 6 + 3 * (ix x1))) I1 _ _ _ h hR hS (hv_sub hl [] rfl)
set_option maxHeartbeats 4000000 in
set_option maxRecDepth 100000 in
theorem L_X6_setShare (E : Ev) (l : Launch) {K : MK} {R : MR} {n : Nat} (a0 : Nat) (x1 : Int32) (x2 : Int32) (I : MI) (Q : Int32 → MI → Prop) (h : w_X6_setShare K R a0 x1 x2 I Q) : MM E l yX6_setShare cX6_setShare 5 (some Jvm.ClassFile.FieldType.int) 5 112 0 0 [.ref a0, .int x1, .int x2] K R I n (Qi K R n Q) := by
  refine MM.of1 (by decide) RX6 rfl (cR (cI (cI cN))) (Nat.le_of_ble_eq_true rfl) ?_
  intro p e s m args below meth c ls C hin hR hS hl
  have hx := C.1
  have hb := C.2.1
  have hml := C.2.2.1
  have hown := C.2.2.2.1
  have hts := C.2.2.2.2.1
  have hl : hv ls 5 [(0, .ref a0), (1, .int x1), (2, .int x2)] := hl
  clear hin
  unfold w_X6_setShare at h
  refine lv_aload_n hx hb dX6_setShare_0 rfl (hv_at hl 0 rfl) ?_
  obtain ⟨hf1, h⟩ := h
  refine v_get (T := TX6) (v := .ref (a0 + 1)) C hR 0 kfl_X6_10 rfl inG6 (by decide) rfl (IsTag.k hf1) (rf_of (IsTag.r0 hf1 (I a0 0))) dX6_setShare_1 ?_
  refine lv_iload_n hx hb dX6_setShare_4 rfl (hv_at hl 1 rfl) ?_
  refine v_cVo (As := [.int x1]) C hR hS hl.1.1 ca_X0_masterAt kml_X6_58 (L_X0_masterAt E l (a0 + 1) x1 I _ h) (IsBus.k (IsTag.o0 hf1)) rfl rfl rfl rfl (Nat.le_of_ble_eq_true rfl) ⟨Nat.le_of_ble_eq_true rfl, Nat.le_of_ble_eq_true rfl⟩ ⟨Nat.zero_le _, Nat.zero_le _⟩ dX6_setShare_5 (fun o3 I2 H locs h hR hS => ?_)
  refine v_astore_n (o := o3) (lv' := [(3, va_rf o3), (0, .ref a0), (1, .int x1), (2, .int x2)]) hx hb dX6_setShare_8 rfl hl (by decide) rfl (fun ls hl => ?_)
  refine v_aload_n hx hb dX6_setShare_9 rfl (hv_at hl 0 rfl) ?_
  refine v_ifnonnull (tgt := 15) hx hb dX6_setShare_10 (by decide) (fun e_o3 => ?_) (fun r4 e_o3 => ?_)
  · replace h := h.1 e_o3
    have hl : hv ls 5 [(3, .null), (0, .ref a0), (1, .int x1), (2, .int x2)] := by (try rw [e_o3] at hl); exact hl
    try rw [e_o3]
    refine lv_iconst (v := (-1:Int32)) hx hb dX6_setShare_13 rfl ?_
    exact w_ireti C rfl rfl hR hS h dX6_setShare_14
  · replace h := h.2 r4 e_o3
    have hl : hv ls 5 [(3, .ref r4), (0, .ref a0), (1, .int x1), (2, .int x2)] := by (try rw [e_o3] at hl); exact hl
    try rw [e_o3]
    refine lv_iload_n hx hb dX6_setShare_15 rfl (hv_at hl 3 rfl) ?_
    refine lv_iconst (v := (1:Int32)) hx hb dX6_setShare_16 rfl ?_
    refine lv_bipush (v := (8:Int32)) hx hb dX6_setShare_17 (by decide) ?_
    refine v_cSi (As := [.int x2, .int (1:Int32), .int (8:Int32)]) C hR hS hl.1.1 ca_X6_isBetween kml_X6_44 (L_X6_isBetween E l x2 (1:Int32) (8:Int32) I2 _ h) rfl rfl (Nat.le_of_ble_eq_true rfl) ⟨Nat.le_of_ble_eq_true rfl, Nat.le_of_ble_eq_true rfl⟩ ⟨Nat.zero_le _, Nat.zero_le _⟩ dX6_setShare_19 (fun v6 I5 H locs h hR hS => ?_)
    refine lv_if_ne (tgt := 28) hx hb dX6_setShare_22 (by decide) (fun c11 => ?_) (fun c11 => ?_)
    · replace h := h.1 c11
      refine lv_aload_n hx hb dX6_setShare_28 rfl (hv_at hl 0 rfl) ?_
      obtain ⟨hf7, h⟩ := h
      refine v_get (T := TX2) (v := .int (I5 r4 1)) C hR 1 kfl_X6_62 rfl inG2 (by decide) rfl (IsMaster.k hf7) rfl dX6_setShare_29 ?_
      refine v_istore (lv' := [(4, .int (I5 r4 1)), (3, .ref r4), (0, .ref a0), (1, .int x1), (2, .int x2)]) hx hb dX6_setShare_32 hl (by decide) rfl (fun ls hl => ?_)
      refine lv_iload hx hb dX6_setShare_34 (hv_at hl 0 rfl) ?_
      refine lv_iload_n hx hb dX6_setShare_36 rfl (hv_at hl 4 rfl) ?_
      refine lv_icmp_ne (tgt := 43) hx hb dX6_setShare_37 (by decide) (fun c10 => ?_) (fun c10 => ?_)
      · replace h := h.1 c10
        refine lv_aload_n hx hb dX6_setShare_43 rfl (hv_at hl 2 rfl) ?_
        refine v_cVv (As := []) C hR hS hl.1.1 ca_X6_record kml_X6_55 (L_X6_record E l a0 I5 _ h) (IsTag.k hf1) rfl rfl rfl rfl (Nat.le_of_ble_eq_true rfl) ⟨Nat.le_of_ble_eq_true rfl, Nat.le_of_ble_eq_true rfl⟩ ⟨Nat.zero_le _, Nat.zero_le _⟩ dX6_setShare_44 (fun I8 H locs h hR hS => ?_)
        refine lv_aload_n hx hb dX6_setShare_47 rfl (hv_at hl 1 rfl) ?_
        refine lv_iload_n hx hb dX6_setShare_48 rfl (hv_at hl 4 rfl) ?_
        obtain ⟨I9, hI9⟩ := ex_eq (upI I8 r4 1 x2)
        replace h := h I9 hI9
        refine v_put (T := TX2) (ty := .int) C hR hS 1 kfl_X6_62 rfl inG2 tyX2 tyX2_ok nmX2 (by decide) rfl (IsMaster.k hf7) rfl (tyX2_ok 1 (by decide)) rfl rfl (fl_i_2_1 _ _ _) (Nat.le_of_ble_eq_true rfl) hI9 dX6_setShare_49 (fun H locs hR hS => ?_)
        refine lv_iload hx hb dX6_setShare_52 (hv_at hl 0 rfl) ?_
        exact w_ireti C rfl rfl hR hS h dX6_setShare_54
      · replace h := h.2 c10
        refine lv_bipush (v := (-5:Int32)) hx hb dX6_setShare_40 (by decide) ?_
        exact w_ireti C rfl rfl hR hS h dX6_setShare_42
    · replace h := h.2 c11
      refine lv_bipush (v := (-2:Int32)) hx hb dX6_setShare_25 (by decide) ?_
      exact w_ireti C rfl rfl hR hS h dX6_setShare_27
set_option maxHeartbeats 4000000 in
set_option maxRecDepth 100000 in
theorem L_X0_targetAt (E : Ev) (l : Launch) {K : MK} {R : MR} {n : Nat} (a0 : Nat) (x1 : Int32) (I : MI) (Q : Option Nat → MI → Prop) (h : w_X0_targetAt K R a0 x1 I Q) : MM E l yX0_targetAt cX0_targetAt 2 (some (Jvm.ClassFile.FieldType.object "TagBus$Target")) 1 21 0 0 [.ref a0, .int x1] K R I n (Qo K R n Q) := by
  refine MM.of1 (by decide) RX0 rfl (cR (cI cN)) (Nat.le_of_ble_eq_true rfl) ?_
  intro p e s m args below meth c ls C hin hR hS hl
  have hx := C.1
  have hb := C.2.1
  have hml := C.2.2.1
  have hown := C.2.2.2.1
  have hts := C.2.2.2.2.1
  have hl : hv ls 2 [(0, .ref a0), (1, .int x1)] := hl
  clear hin
  have hJ18 : ∀ (z0_18 : Option Nat) (I : MI) (H : Heap) (locs : List Loc) (ls : Array Slot), w_X0_targetAt_b18 K R a0 x1 Q z0_18 I → Rep E K R I n H → va_S (AA E) s.heap H locs → hv ls 2 [] → W p l e (rmM 1 21 0 0) s m args below meth c H locs 0 0 (MQ below (QcM E (Qo K R n Q)) args s 0 0 (AA E)) (F0 m 18 ls [va_rf z0_18]) := by
    intro z0_18 I H locs ls h hR hS hl
    unfold w_X0_targetAt_b18 at h
    exact w_aret (o := z0_18) C rfl hR hS h dX0_targetAt_18
  unfold w_X0_targetAt at h
  refine lv_iload_n hx hb dX0_targetAt_0 rfl (hv_at hl 1 rfl) ?_
  refine lv_iconst (v := (4:Int32)) hx hb dX0_targetAt_1 rfl ?_
  refine v_cNi (As := [.int x1, .int (4:Int32)]) C hR hS hl.1.1 ca_X6_isIndex knm_X0_86 (L_X6_isIndex E l x1 (4:Int32) I _ h) rfl rfl (Nat.le_of_ble_eq_true rfl) ⟨Nat.le_of_ble_eq_true rfl, Nat.le_of_ble_eq_true rfl⟩ ⟨Nat.zero_le _, Nat.zero_le _⟩ dX0_targetAt_2 (fun v2 I1 H locs h hR hS => ?_)
  refine lv_if_eq (tgt := 17) hx hb dX0_targetAt_5 (by decide) (fun c5 => ?_) (fun c5 => ?_)
  · replace h := h.1 c5
    refine lv_null hx hb dX0_targetAt_17 ?_
    exact hJ18 none I1 _ _ _ h hR hS (hv_sub hl [] rfl)
  · replace h := h.2 c5
    refine lv_aload_n hx hb dX0_targetAt_8 rfl (hv_at hl 0 rfl) ?_
    obtain ⟨hf3, h⟩ := h
    refine v_get (T := TX0) (v := .ref (a0 + 4)) C hR 3 kfl_X0_26 rfl inG0 (by decide) rfl (IsBus.k hf3) (rf_of (IsBus.r3 hf3 (I1 a0 3))) dX0_targetAt_9 ?_
    refine lv_iload_n hx hb dX0_targetAt_12 rfl (hv_at hl 1 rfl) ?_
    obtain ⟨hi4, h⟩ := h
    refine w_aald C hR (w := a0 + 18 + 5 * (ix x1)) (IsBus.a3 hf3) (by decide) rfl rfl hi4 (j := (ix x1)) rfl (IsBus.e3 hf3 (vp_lt hi4) _) dX0_targetAt_13 ?_
    refine lv_goto (tgt := 18) hx hb dX0_targetAt_14 (by decide) ?_
    exact hJ18 (some (a0 + 18 + 5 * (ix x1))) I1 _ _ _ h hR hS (hv_sub hl [] rfl)
set_option maxHeartbeats 4000000 in
set_option maxRecDepth 100000 in
theorem L_X6_setTarget (E : Ev) (l : Launch) {K : MK} {R : MR} {n : Nat} (a0 : Nat) (x1 : Int32) (x2 : Int32) (x3 : Int32) (I : MI) (Q : Int32 → MI → Prop) (h : w_X6_setTarget K R a0 x1 x2 x3 I Q) : MM E l yX6_setTarget cX6_setTarget 6 (some Jvm.ClassFile.FieldType.int) 5 112 0 0 [.ref a0, .int x1, .int x2, .int x3] K R I n (Qi K R n Q) := by
  refine MM.of1 (by decide) RX6 rfl (cR (cI (cI (cI cN)))) (Nat.le_of_ble_eq_true rfl) ?_
  intro p e s m args below meth c ls C hin hR hS hl
  have hx := C.1
  have hb := C.2.1
  have hml := C.2.2.1
  have hown := C.2.2.2.1
  have hts := C.2.2.2.2.1
  have hl : hv ls 6 [(0, .ref a0), (1, .int x1), (2, .int x2), (3, .int x3)] := hl
  clear hin
  have hJ45 : ∀ (I : MI) (H : Heap) (locs : List Loc) (ls : Array Slot), w_X6_setTarget_b45 K R a0 x1 x2 x3 Q  I → Rep E K R I n H → va_S (AA E) s.heap H locs → hv ls 6 [] → W p l e (rmM 5 112 0 0) s m args below meth c H locs 0 0 (MQ below (QcM E (Qi K R n Q)) args s 0 0 (AA E)) (F0 m 45 ls []) := by
    intro  I H locs ls h hR hS hl
    unfold w_X6_setTarget_b45 at h
    refine lv_bipush (v := (-2:Int32)) hx hb dX6_setTarget_45 (by decide) ?_
    exact w_ireti C rfl rfl hR hS h dX6_setTarget_47
  unfold w_X6_setTarget at h
  refine lv_aload_n hx hb dX6_setTarget_0 rfl (hv_at hl 0 rfl) ?_
  obtain ⟨hf1, h⟩ := h
  refine v_get (T := TX6) (v := .ref (a0 + 1)) C hR 0 kfl_X6_10 rfl inG6 (by decide) rfl (IsTag.k hf1) (rf_of (IsTag.r0 hf1 (I a0 0))) dX6_setTarget_1 ?_
  refine lv_iload_n hx hb dX6_setTarget_4 rfl (hv_at hl 1 rfl) ?_
  refine v_cVo (As := [.int x1]) C hR hS hl.1.1 ca_X0_targetAt kml_X6_68 (L_X0_targetAt E l (a0 + 1) x1 I _ h) (IsBus.k (IsTag.o0 hf1)) rfl rfl rfl rfl (Nat.le_of_ble_eq_true rfl) ⟨Nat.le_of_ble_eq_true rfl, Nat.le_of_ble_eq_true rfl⟩ ⟨Nat.zero_le _, Nat.zero_le _⟩ dX6_setTarget_5 (fun o3 I2 H locs h hR hS => ?_)
  refine v_astore (o := o3) (lv' := [(4, va_rf o3), (0, .ref a0), (1, .int x1), (2, .int x2), (3, .int x3)]) hx hb dX6_setTarget_8 hl (by decide) rfl (fun ls hl => ?_)
  refine v_aload hx hb dX6_setTarget_10 (hv_at hl 0 rfl) ?_
  refine v_ifnonnull (tgt := 17) hx hb dX6_setTarget_12 (by decide) (fun e_o3 => ?_) (fun r4 e_o3 => ?_)
  · replace h := h.1 e_o3
    have hl : hv ls 6 [(4, .null), (0, .ref a0), (1, .int x1), (2, .int x2), (3, .int x3)] := by (try rw [e_o3] at hl); exact hl
    try rw [e_o3]
    refine lv_iconst (v := (-1:Int32)) hx hb dX6_setTarget_15 rfl ?_
    exact w_ireti C rfl rfl hR hS h dX6_setTarget_16
  · replace h := h.2 r4 e_o3
    have hl : hv ls 6 [(4, .ref r4), (0, .ref a0), (1, .int x1), (2, .int x2), (3, .int x3)] := by (try rw [e_o3] at hl); exact hl
    try rw [e_o3]
    refine lv_iload_n hx hb dX6_setTarget_17 rfl (hv_at hl 3 rfl) ?_
    refine v_gets (j := 2) C hS (by decide) kfl_X6_72 dX6_setTarget_18 (fun t5 ht6 => ?_)
    refine v_stlen C hS ht6 dX6_setTarget_21 ?_
    refine v_cSi (As := [.int x2, .int (3:Int32)]) C hR hS hl.1.1 ca_X6_isIndex kml_X6_37 (L_X6_isIndex E l x2 (3:Int32) I2 _ h) rfl rfl (Nat.le_of_ble_eq_true rfl) ⟨Nat.le_of_ble_eq_true rfl, Nat.le_of_ble_eq_true rfl⟩ ⟨Nat.zero_le _, Nat.zero_le _⟩ dX6_setTarget_22 (fun v8 I7 H locs h hR hS => ?_)
    refine lv_if_eq (tgt := 45) hx hb dX6_setTarget_25 (by decide) (fun c24 => ?_) (fun c24 => ?_)
    · replace h := h.1 c24
      exact hJ45 I7 _ _ _ h hR hS (hv_sub hl [] rfl)
    · replace h := h.2 c24
      refine lv_iload_n hx hb dX6_setTarget_28 rfl (hv_at hl 4 rfl) ?_
      refine v_gets (j := 2) C hS (by decide) kfl_X6_72 dX6_setTarget_29 (fun t9 ht10 => ?_)
      refine lv_iload_n hx hb dX6_setTarget_32 rfl (hv_at hl 3 rfl) ?_
      obtain ⟨hi11, h⟩ := h
      refine v_stld C hS ht10 hi11 dX6_setTarget_33 ?_
      refine v_gets (j := 3) C hS (by decide) kfl_X6_75 dX6_setTarget_34 (fun t12 ht13 => ?_)
      refine lv_iload_n hx hb dX6_setTarget_37 rfl (hv_at hl 3 rfl) ?_
      obtain ⟨hi14, h⟩ := h
      refine v_stld C hS ht13 hi14 dX6_setTarget_38 ?_
      refine v_cSi (As := [.int x3, .int ((stL 2).getD (ix x2) 0), .int ((stL 3).getD (ix x2) 0)]) C hR hS hl.1.1 ca_X6_isBetween kml_X6_44 (L_X6_isBetween E l x3 ((stL 2).getD (ix x2) 0) ((stL 3).getD (ix x2) 0) I7 _ h) rfl rfl (Nat.le_of_ble_eq_true rfl) ⟨Nat.le_of_ble_eq_true rfl, Nat.le_of_ble_eq_true rfl⟩ ⟨Nat.zero_le _, Nat.zero_le _⟩ dX6_setTarget_39 (fun v16 I15 H locs h hR hS => ?_)
      refine lv_if_ne (tgt := 48) hx hb dX6_setTarget_42 (by decide) (fun c23 => ?_) (fun c23 => ?_)
      · replace h := h.1 c23
        refine lv_aload hx hb dX6_setTarget_48 (hv_at hl 0 rfl) ?_
        obtain ⟨hf17, h⟩ := h
        refine v_get (T := TX5) (v := .ref (r4 + 2)) C hR 1 kfl_X6_78 rfl inG5 (by decide) rfl (IsTarget.k hf17) (rf_of (IsTarget.r1 hf17 (I15 r4 1))) dX6_setTarget_50 ?_
        refine lv_iload_n hx hb dX6_setTarget_53 rfl (hv_at hl 3 rfl) ?_
        obtain ⟨hi18, h⟩ := h
        refine w_iald C hR (IsTarget.a1 hf17) hi18 (j := (ix x2)) rfl dX6_setTarget_54 ?_
        refine v_istore (lv' := [(5, .int (I15 (r4 + 2) (ix x2))), (4, .ref r4), (0, .ref a0), (1, .int x1), (2, .int x2), (3, .int x3)]) hx hb dX6_setTarget_55 hl (by decide) rfl (fun ls hl => ?_)
        refine lv_iload hx hb dX6_setTarget_57 (hv_at hl 0 rfl) ?_
        refine lv_iload_n hx hb dX6_setTarget_59 rfl (hv_at hl 5 rfl) ?_
        refine lv_icmp_ne (tgt := 66) hx hb dX6_setTarget_60 (by decide) (fun c22 => ?_) (fun c22 => ?_)
        · replace h := h.1 c22
          refine lv_aload_n hx hb dX6_setTarget_66 rfl (hv_at hl 2 rfl) ?_
          refine v_cVv (As := []) C hR hS hl.1.1 ca_X6_record kml_X6_55 (L_X6_record E l a0 I15 _ h) (IsTag.k hf1) rfl rfl rfl rfl (Nat.le_of_ble_eq_true rfl) ⟨Nat.le_of_ble_eq_true rfl, Nat.le_of_ble_eq_true rfl⟩ ⟨Nat.zero_le _, Nat.zero_le _⟩ dX6_setTarget_67 (fun I19 H locs h hR hS => ?_)
          refine lv_aload hx hb dX6_setTarget_70 (hv_at hl 1 rfl) ?_
          refine v_get (T := TX5) (v := .ref (r4 + 2)) C hR 1 kfl_X6_78 rfl inG5 (by decide) rfl (IsTarget.k hf17) (rf_of (IsTarget.r1 hf17 (I19 r4 1))) dX6_setTarget_72 ?_
          refine lv_iload_n hx hb dX6_setTarget_75 rfl (hv_at hl 4 rfl) ?_
          refine lv_iload_n hx hb dX6_setTarget_76 rfl (hv_at hl 5 rfl) ?_
          obtain ⟨hi20, h⟩ := h
          obtain ⟨I21, hI21⟩ := ex_eq (upI I19 (r4 + 2) (ix x2) x3)
          replace h := h I21 hI21
          refine w_iast C hR hS (IsTarget.a1 hf17) hi20 (j := (ix x2)) rfl hI21 dX6_setTarget_77 (fun H locs hR hS => ?_)
          refine lv_iload hx hb dX6_setTarget_78 (hv_at hl 0 rfl) ?_
          exact w_ireti C rfl rfl hR hS h dX6_setTarget_80
        · replace h := h.2 c22
          refine lv_bipush (v := (-5:Int32)) hx hb dX6_setTarget_63 (by decide) ?_
          exact w_ireti C rfl rfl hR hS h dX6_setTarget_65
      · replace h := h.2 c23
        exact hJ45 I15 _ _ _ h hR hS (hv_sub hl [] rfl)
