set_option maxHeartbeats 4000000 in
set_option maxRecDepth 100000 in
theorem L_X0_makeTrip (E : Ev) (l : Launch) {K : MK} {R : MR} {n : Nat} (a0 : Nat) (I : MI) (Q : Int32 → MI → Prop) (h : w_X0_makeTrip K R a0 I Q) : MM E l yX0_makeTrip cX0_makeTrip 3 (some Jvm.ClassFile.FieldType.int) 4 94 0 0 [.ref a0] K R I n (Qi K R n Q) := by
  refine MM.of1 (by decide) RX0 rfl (cR cN) (Nat.le_of_ble_eq_true rfl) ?_
  intro p e s m args below meth c ls C hin hR hS hl
  have hx := C.1
  have hb := C.2.1
  have hml := C.2.2.1
  have hown := C.2.2.2.1
  have hts := C.2.2.2.2.1
  have hl : hv ls 3 [(0, .ref a0)] := hl
  clear hin
  have hJ29 : ∀ (y1_29 : Int32) (I : MI) (H : Heap) (locs : List Loc) (ls : Array Slot), w_X0_makeTrip_b29 K R a0 Q y1_29 I → Rep E K R I n H → va_S (AA E) s.heap H locs → hv ls 3 [(0, .ref a0), (1, .int y1_29)] → W p l e (rmM 4 94 0 0) s m args below meth c H locs 0 0 (MQ below (QcM E (Qi K R n Q)) args s 0 0 (AA E)) (F0 m 29 ls []) := by
    intro y1_29 I H locs ls h hR hS hl
    unfold w_X0_makeTrip_b29 at h
    refine lv_aload_n hx hb dX0_makeTrip_29 rfl (hv_at hl 0 rfl) ?_
    refine lv_iload_n hx hb dX0_makeTrip_30 rfl (hv_at hl 1 rfl) ?_
    obtain ⟨hf1, h⟩ := h
    refine v_cVi (As := [.int y1_29]) C hR hS hl.1.1 ca_X0_sendAnswerOf kml_X0_170 (L_X0_sendAnswerOf E l a0 y1_29 I _ h) (IsBus.k hf1) rfl rfl rfl rfl (Nat.le_of_ble_eq_true rfl) ⟨Nat.le_of_ble_eq_true rfl, Nat.le_of_ble_eq_true rfl⟩ ⟨Nat.zero_le _, Nat.zero_le _⟩ dX0_makeTrip_31 (fun v3 I2 H locs h hR hS => ?_)
    exact w_ireti C rfl rfl hR hS h dX0_makeTrip_34
  have hJ51 : ∀ (z0_51 : Int32) (I : MI) (H : Heap) (locs : List Loc) (ls : Array Slot), w_X0_makeTrip_b51 K R a0 Q z0_51 I → Rep E K R I n H → va_S (AA E) s.heap H locs → hv ls 3 [] → W p l e (rmM 4 94 0 0) s m args below meth c H locs 0 0 (MQ below (QcM E (Qi K R n Q)) args s 0 0 (AA E)) (F0 m 51 ls [.int z0_51]) := by
    intro z0_51 I H locs ls h hR hS hl
    unfold w_X0_makeTrip_b51 at h
    exact w_ireti C rfl rfl hR hS h dX0_makeTrip_51
  have hJ35 : ∀ (y2_35 : Int32) (I : MI) (H : Heap) (locs : List Loc) (ls : Array Slot), w_X0_makeTrip_b35 K R a0 Q y2_35 I → Rep E K R I n H → va_S (AA E) s.heap H locs → hv ls 3 [(0, .ref a0), (2, .int y2_35)] → W p l e (rmM 4 94 0 0) s m args below meth c H locs 0 0 (MQ below (QcM E (Qi K R n Q)) args s 0 0 (AA E)) (F0 m 35 ls []) := by
    intro y2_35 I H locs ls h hR hS hl
    unfold w_X0_makeTrip_b35 at h
    refine lv_iload_n hx hb dX0_makeTrip_35 rfl (hv_at hl 1 rfl) ?_
    refine lv_bipush (v := (-5:Int32)) hx hb dX0_makeTrip_36 (by decide) ?_
    refine lv_icmp_ne (tgt := 46) hx hb dX0_makeTrip_38 (by decide) (fun c7 => ?_) (fun c7 => ?_)
    · replace h := h.1 c7
      refine lv_aload_n hx hb dX0_makeTrip_46 rfl (hv_at hl 0 rfl) ?_
      refine lv_iload_n hx hb dX0_makeTrip_47 rfl (hv_at hl 1 rfl) ?_
      obtain ⟨hf4, h⟩ := h
      refine v_cVi (As := [.int y2_35]) C hR hS hl.1.1 ca_X0_sendQuestionOf kml_X0_173 (L_X0_sendQuestionOf E l a0 y2_35 I _ h) (IsBus.k hf4) rfl rfl rfl rfl (Nat.le_of_ble_eq_true rfl) ⟨Nat.le_of_ble_eq_true rfl, Nat.le_of_ble_eq_true rfl⟩ ⟨Nat.zero_le _, Nat.zero_le _⟩ dX0_makeTrip_48 (fun v6 I5 H locs h hR hS => ?_)
      exact hJ51 v6 I5 _ _ _ h hR hS (hv_sub hl [] rfl)
    · replace h := h.2 c7
      refine lv_bipush (v := (-5:Int32)) hx hb dX0_makeTrip_41 (by decide) ?_
      refine lv_goto (tgt := 51) hx hb dX0_makeTrip_43 (by decide) ?_
      exact hJ51 (-5:Int32) I _ _ _ h hR hS (hv_sub hl [] rfl)
  unfold w_X0_makeTrip at h
  refine lv_aload_n hx hb dX0_makeTrip_0 rfl (hv_at hl 0 rfl) ?_
  obtain ⟨hf8, h⟩ := h
  refine v_cVi (As := []) C hR hS hl.1.1 ca_X0_targetThatAnswers kml_X0_160 (L_X0_targetThatAnswers E l a0 I _ h) (IsBus.k hf8) rfl rfl rfl rfl (Nat.le_of_ble_eq_true rfl) ⟨Nat.le_of_ble_eq_true rfl, Nat.le_of_ble_eq_true rfl⟩ ⟨Nat.zero_le _, Nat.zero_le _⟩ dX0_makeTrip_1 (fun v10 I9 H locs h hR hS => ?_)
  refine v_istore_n (lv' := [(1, .int v10), (0, .ref a0)]) hx hb dX0_makeTrip_4 rfl hl (by decide) rfl (fun ls hl => ?_)
  refine lv_aload_n hx hb dX0_makeTrip_5 rfl (hv_at hl 1 rfl) ?_
  refine v_cVi (As := []) C hR hS hl.1.1 ca_X0_masterThatSends kml_X0_163 (L_X0_masterThatSends E l a0 I9 _ h) (IsBus.k hf8) rfl rfl rfl rfl (Nat.le_of_ble_eq_true rfl) ⟨Nat.le_of_ble_eq_true rfl, Nat.le_of_ble_eq_true rfl⟩ ⟨Nat.zero_le _, Nat.zero_le _⟩ dX0_makeTrip_6 (fun v12 I11 H locs h hR hS => ?_)
  refine v_istore_n (lv' := [(2, .int v12), (1, .int v10), (0, .ref a0)]) hx hb dX0_makeTrip_9 rfl hl (by decide) rfl (fun ls hl => ?_)
  refine lv_iload_n hx hb dX0_makeTrip_10 rfl (hv_at hl 1 rfl) ?_
  refine lv_bipush (v := (-5:Int32)) hx hb dX0_makeTrip_11 (by decide) ?_
  refine lv_icmp_eq (tgt := 35) hx hb dX0_makeTrip_13 (by decide) (fun c17 => ?_) (fun c17 => ?_)
  · replace h := h.1 c17
    exact hJ35 v12 I11 _ _ _ h hR hS (hv_sub hl [2, 0] rfl)
  · replace h := h.2 c17
    refine lv_iload_n hx hb dX0_makeTrip_16 rfl (hv_at hl 0 rfl) ?_
    refine lv_bipush (v := (-5:Int32)) hx hb dX0_makeTrip_17 (by decide) ?_
    refine lv_icmp_eq (tgt := 29) hx hb dX0_makeTrip_19 (by decide) (fun c16 => ?_) (fun c16 => ?_)
    · replace h := h.1 c16
      exact hJ29 v10 I11 _ _ _ h hR hS (hv_sub hl [2, 1] rfl)
    · replace h := h.2 c16
      refine lv_aload_n hx hb dX0_makeTrip_22 rfl (hv_at hl 2 rfl) ?_
      refine v_cVi (As := []) C hR hS hl.1.1 ca_X0_prefersAnswer kml_X0_166 (L_X0_prefersAnswer E l a0 I11 _ h) (IsBus.k hf8) rfl rfl rfl rfl (Nat.le_of_ble_eq_true rfl) ⟨Nat.le_of_ble_eq_true rfl, Nat.le_of_ble_eq_true rfl⟩ ⟨Nat.zero_le _, Nat.zero_le _⟩ dX0_makeTrip_23 (fun v14 I13 H locs h hR hS => ?_)
      refine lv_if_eq (tgt := 35) hx hb dX0_makeTrip_26 (by decide) (fun c15 => ?_) (fun c15 => ?_)
      · replace h := h.1 c15
        exact hJ35 v12 I13 _ _ _ h hR hS (hv_sub hl [2, 0] rfl)
      · replace h := h.2 c15
        exact hJ29 v10 I13 _ _ _ h hR hS (hv_sub hl [2, 1] rfl)
set_option maxHeartbeats 4000000 in
set_option maxRecDepth 100000 in
theorem L_X0_countWaits (E : Ev) (l : Launch) {K : MK} {R : MR} {n : Nat} (a0 : Nat) (x1 : Int32) (I : MI) (Q : MI → Prop) (h : w_X0_countWaits K R a0 x1 I Q) : MM E l yX0_countWaits cX0_countWaits 4 none 0 0 0 0 [.ref a0, .int x1] K R I n (Qv K R n Q) := by
  refine MM.of1 (by decide) RX0 rfl (cR (cI cN)) (Nat.le_of_ble_eq_true rfl) ?_
  intro p e s m args below meth c ls C hin hR hS hl
  have hx := C.1
  have hb := C.2.1
  have hml := C.2.2.1
  have hown := C.2.2.2.1
  have hts := C.2.2.2.2.1
  have hl : hv ls 4 [(0, .ref a0), (1, .int x1)] := hl
  clear hin
  have hJ2 : ∀ (y2_2 : Int32) (I : MI) (H : Heap) (locs : List Loc) (ls : Array Slot), w_X0_countWaits_b2 K R a0 x1 Q y2_2 I → Rep E K R I n H → va_S (AA E) s.heap H locs → hv ls 4 [(0, .ref a0), (1, .int x1), (2, .int y2_2)] → W p l e (rmM 0 0 0 0) s m args below meth c H locs 0 0 (MQ below (QcM E (Qv K R n Q)) args s 0 0 (AA E)) (F0 m 2 ls []) := by
    intro y2_2 I H locs ls h hR hS hl
    obtain ⟨X2, hX2⟩ : ∃ X : Int32 → MI → Prop, ∀ (y2_2 : Int32) (I : MI), X y2_2 I ↔ (∀ (H : Heap) (locs : List Loc) (ls : Array Slot), Rep E K R I n H → va_S (AA E) s.heap H locs → hv ls 4 [(0, .ref a0), (1, .int x1), (2, .int y2_2)] → W p l e (rmM 0 0 0 0) s m args below meth c H locs 0 0 (MQ below (QcM E (Qv K R n Q)) args s 0 0 (AA E)) (F0 m 2 ls [])) := ⟨fun y2_2 I => ∀ (H : Heap) (locs : List Loc) (ls : Array Slot), Rep E K R I n H → va_S (AA E) s.heap H locs → hv ls 4 [(0, .ref a0), (1, .int x1), (2, .int y2_2)] → W p l e (rmM 0 0 0 0) s m args below meth c H locs 0 0 (MQ below (QcM E (Qv K R n Q)) args s 0 0 (AA E)) (F0 m 2 ls []), fun _ _ => Iff.rfl⟩
    refine (hX2 y2_2 I).mp (h X2 ?_) H locs ls hR hS hl
    clear h hR hS hl
    clear ls locs H I y2_2
    have hJ47 : ∀ (y2_47 : Int32) (I : MI) (H : Heap) (locs : List Loc) (ls : Array Slot), w_X0_countWaits_b47 K R a0 x1 Q X2 y2_47 I → Rep E K R I n H → va_S (AA E) s.heap H locs → hv ls 4 [(0, .ref a0), (1, .int x1), (2, .int y2_47)] → W p l e (rmM 0 0 0 0) s m args below meth c H locs 0 0 (MQ below (QcM E (Qv K R n Q)) args s 0 0 (AA E)) (F0 m 47 ls []) := by
      intro y2_47 I H locs ls h hR hS hl
      unfold w_X0_countWaits_b47 at h
      refine v_iinc (v := y2_47 + (1:Int32)) (k := 2) (lv' := [(2, .int (y2_47 + (1:Int32))), (0, .ref a0), (1, .int x1)]) hx hb dX0_countWaits_47 hl rfl rfl (by decide) rfl (fun ls hl => ?_)
      refine lv_goto (tgt := 2) hx hb dX0_countWaits_50 (by decide) ?_
      exact (hX2 (y2_47 + (1:Int32)) I).mp h _ _ _ hR hS (hv_sub hl [1, 2, 0] rfl)
    have hJ29 : ∀ (y2_29 : Int32) (y3_29 : Nat) (I : MI) (H : Heap) (locs : List Loc) (ls : Array Slot), w_X0_countWaits_b29 K R a0 x1 Q X2 y2_29 y3_29 I → Rep E K R I n H → va_S (AA E) s.heap H locs → hv ls 4 [(0, .ref a0), (1, .int x1), (2, .int y2_29), (3, .ref y3_29)] → W p l e (rmM 0 0 0 0) s m args below meth c H locs 0 0 (MQ below (QcM E (Qv K R n Q)) args s 0 0 (AA E)) (F0 m 29 ls []) := by
      intro y2_29 y3_29 I H locs ls h hR hS hl
      unfold w_X0_countWaits_b29 at h
      refine lv_aload_n hx hb dX0_countWaits_29 rfl (hv_at hl 3 rfl) ?_
      refine lv_iconst (v := (0:Int32)) hx hb dX0_countWaits_30 rfl ?_
      obtain ⟨hf1, h⟩ := h
      obtain ⟨I2, hI2⟩ := ex_eq (upI I y3_29 5 (0:Int32))
      replace h := h I2 hI2
      refine v_put (T := TX2) (ty := .int) C hR hS 5 kfl_X0_118 rfl inG2 tyX2 tyX2_ok nmX2 (by decide) rfl (IsMaster.k hf1) rfl (tyX2_ok 5 (by decide)) rfl rfl (fl_i_2_5 _ _ _) (Nat.le_of_ble_eq_true rfl) hI2 dX0_countWaits_31 (fun H locs hR hS => ?_)
      refine lv_goto (tgt := 47) hx hb dX0_countWaits_34 (by decide) ?_
      exact hJ47 y2_29 I2 _ _ _ h hR hS (hv_sub hl [0, 1, 2] rfl)
    intro y2_2 I h
    refine (hX2 y2_2 I).mpr ?_
    intro H locs ls hR hS hl
    unfold w_X0_countWaits_b2_body at h
    refine lv_iload_n hx hb dX0_countWaits_2 rfl (hv_at hl 2 rfl) ?_
    refine lv_iconst (v := (4:Int32)) hx hb dX0_countWaits_3 rfl ?_
    refine lv_icmp_ge (tgt := 53) hx hb dX0_countWaits_4 (by decide) (fun c8 => ?_) (fun c8 => ?_)
    · replace h := h.1 c8
      exact w_vret C rfl hR hS h dX0_countWaits_53
    · replace h := h.2 c8
      refine lv_aload_n hx hb dX0_countWaits_7 rfl (hv_at hl 0 rfl) ?_
      obtain ⟨hf3, h⟩ := h
      refine v_get (T := TX0) (v := .ref (a0 + 3)) C hR 2 kfl_X0_20 rfl inG0 (by decide) rfl (IsBus.k hf3) (rf_of (IsBus.r2 hf3 (I a0 2))) dX0_countWaits_8 ?_
      refine lv_iload_n hx hb dX0_countWaits_11 rfl (hv_at hl 2 rfl) ?_
      obtain ⟨hi4, h⟩ := h
      refine w_aald C hR (w := a0 + 6 + 3 * (ix y2_2)) (IsBus.a2 hf3) (by decide) rfl rfl hi4 (j := (ix y2_2)) rfl (IsBus.e2 hf3 (vp_lt hi4) _) dX0_countWaits_12 ?_
      refine v_astore_n (o := (some (a0 + 6 + 3 * (ix y2_2)))) (lv' := [(3, .ref (a0 + 6 + 3 * (ix y2_2))), (0, .ref a0), (1, .int x1), (2, .int y2_2)]) hx hb dX0_countWaits_13 rfl hl (by decide) rfl (fun ls hl => ?_)
      refine lv_iload_n hx hb dX0_countWaits_14 rfl (hv_at hl 3 rfl) ?_
      refine lv_iload_n hx hb dX0_countWaits_15 rfl (hv_at hl 2 rfl) ?_
      refine lv_icmp_eq (tgt := 29) hx hb dX0_countWaits_16 (by decide) (fun c7 => ?_) (fun c7 => ?_)
      · replace h := h.1 c7
        exact hJ29 y2_2 (a0 + 6 + 3 * (ix y2_2)) I _ _ _ h hR hS (hv_sub hl [1, 2, 3, 0] rfl)
      · replace h := h.2 c7
        refine lv_aload_n hx hb dX0_countWaits_19 rfl (hv_at hl 0 rfl) ?_
        refine v_get (T := TX2) (v := .ref (a0 + 6 + 3 * (ix y2_2) + 1)) C hR 0 kfl_X0_98 rfl inG2 (by decide) rfl (IsMaster.k (IsBus.p2 hf3 (vp_lt hi4))) (rf_of (IsMaster.r0 (IsBus.p2 hf3 (vp_lt hi4)) (I (a0 + 6 + 3 * (ix y2_2)) 0))) dX0_countWaits_20 ?_
        refine v_get (T := TX1) (v := .int (I (a0 + 6 + 3 * (ix y2_2) + 1) 1)) C hR 1 kfl_X0_108 rfl inG1 (by decide) rfl (IsLine.k (IsMaster.o0 (IsBus.p2 hf3 (vp_lt hi4)))) rfl dX0_countWaits_23 ?_
        refine lv_if_ne (tgt := 37) hx hb dX0_countWaits_26 (by decide) (fun c6 => ?_) (fun c6 => ?_)
        · replace h := h.1 c6
          refine lv_aload_n hx hb dX0_countWaits_37 rfl (hv_at hl 0 rfl) ?_
          refine lv_dup hx hb dX0_countWaits_38 rfl ?_
          refine v_get (T := TX2) (v := .int (I (a0 + 6 + 3 * (ix y2_2)) 5)) C hR 5 kfl_X0_118 rfl inG2 (by decide) rfl (IsMaster.k (IsBus.p2 hf3 (vp_lt hi4))) rfl dX0_countWaits_39 ?_
          refine lv_iconst (v := (1:Int32)) hx hb dX0_countWaits_42 rfl ?_
          refine lv_iadd hx hb dX0_countWaits_43 ?_
          obtain ⟨I5, hI5⟩ := ex_eq (upI I (a0 + 6 + 3 * (ix y2_2)) 5 ((I (a0 + 6 + 3 * (ix y2_2)) 5) + (1:Int32)))
          replace h := h I5 hI5
          refine v_put (T := TX2) (ty := .int) C hR hS 5 kfl_X0_118 rfl inG2 tyX2 tyX2_ok nmX2 (by decide) rfl (IsMaster.k (IsBus.p2 hf3 (vp_lt hi4))) rfl (tyX2_ok 5 (by decide)) rfl rfl (fl_i_2_5 _ _ _) (Nat.le_of_ble_eq_true rfl) hI5 dX0_countWaits_44 (fun H locs hR hS => ?_)
          exact hJ47 y2_2 I5 _ _ _ h hR hS (hv_sub hl [1, 2, 3] rfl)
        · replace h := h.2 c6
          exact hJ29 y2_2 (a0 + 6 + 3 * (ix y2_2)) I _ _ _ h hR hS (hv_sub hl [1, 2, 3, 0] rfl)
  unfold w_X0_countWaits at h
  refine lv_iconst (v := (0:Int32)) hx hb dX0_countWaits_0 rfl ?_
  refine v_istore_n (lv' := [(2, .int (0:Int32)), (0, .ref a0), (1, .int x1)]) hx hb dX0_countWaits_1 rfl hl (by decide) rfl (fun ls hl => ?_)
  exact hJ2 (0:Int32) I _ _ _ h hR hS (hv_sub hl [1, 2, 0] rfl)
set_option maxHeartbeats 4000000 in
set_option maxRecDepth 100000 in
theorem L_X0_passTick (E : Ev) (l : Launch) {K : MK} {R : MR} {n : Nat} (a0 : Nat) (I : MI) (Q : Int32 → MI → Prop) (h : w_X0_passTick K R a0 I Q) : MM E l yX0_passTick cX0_passTick 3 (some Jvm.ClassFile.FieldType.int) 5 116 0 0 [.ref a0] K R I n (Qi K R n Q) := by
  refine MM.of1 (by decide) RX0 rfl (cR cN) (Nat.le_of_ble_eq_true rfl) ?_
  intro p e s m args below meth c ls C hin hR hS hl
  have hx := C.1
  have hb := C.2.1
  have hml := C.2.2.1
  have hown := C.2.2.2.1
  have hts := C.2.2.2.2.1
  have hl : hv ls 3 [(0, .ref a0)] := hl
  clear hin
  have hJ56 : ∀ (y1_56 : Int32) (z0_56 : Int32) (I : MI) (H : Heap) (locs : List Loc) (ls : Array Slot), w_X0_passTick_b56 K R a0 Q y1_56 z0_56 I → Rep E K R I n H → va_S (AA E) s.heap H locs → hv ls 3 [(0, .ref a0), (1, .int y1_56)] → W p l e (rmM 5 116 0 0) s m args below meth c H locs 0 0 (MQ below (QcM E (Qi K R n Q)) args s 0 0 (AA E)) (F0 m 56 ls [.int z0_56, .ref a0]) := by
    intro y1_56 z0_56 I H locs ls h hR hS hl
    unfold w_X0_passTick_b56 at h
    obtain ⟨hf1, h⟩ := h
    refine v_cVv (As := [.int z0_56]) C hR hS hl.1.1 ca_X0_countWaits kml_X0_141 (L_X0_countWaits E l a0 z0_56 I _ h) (IsBus.k hf1) rfl rfl rfl rfl (Nat.le_of_ble_eq_true rfl) ⟨Nat.le_of_ble_eq_true rfl, Nat.le_of_ble_eq_true rfl⟩ ⟨Nat.zero_le _, Nat.zero_le _⟩ dX0_passTick_56 (fun I2 H locs h hR hS => ?_)
    refine lv_aload_n hx hb dX0_passTick_59 rfl (hv_at hl 0 rfl) ?_
    refine lv_dup hx hb dX0_passTick_60 rfl ?_
    refine v_get (T := TX0) (v := .int (I2 a0 6)) C hR 6 kfl_X0_62 rfl inG0 (by decide) rfl (IsBus.k hf1) rfl dX0_passTick_61 ?_
    refine lv_iconst (v := (1:Int32)) hx hb dX0_passTick_64 rfl ?_
    refine lv_iadd hx hb dX0_passTick_65 ?_
    obtain ⟨I3, hI3⟩ := ex_eq (upI I2 a0 6 ((I2 a0 6) + (1:Int32)))
    replace h := h I3 hI3
    refine v_put (T := TX0) (ty := .int) C hR hS 6 kfl_X0_62 rfl inG0 tyX0 tyX0_ok nmX0 (by decide) rfl (IsBus.k hf1) rfl (tyX0_ok 6 (by decide)) rfl rfl (fl_i_0_6 _ _ _) (Nat.le_of_ble_eq_true rfl) hI3 dX0_passTick_66 (fun H locs hR hS => ?_)
    refine lv_iload_n hx hb dX0_passTick_69 rfl (hv_at hl 1 rfl) ?_
    exact w_ireti C rfl rfl hR hS h dX0_passTick_70
  have hJ41 : ∀ (y1_41 : Int32) (z0_41 : Option Nat) (I : MI) (H : Heap) (locs : List Loc) (ls : Array Slot), w_X0_passTick_b41 K R a0 Q y1_41 z0_41 I → Rep E K R I n H → va_S (AA E) s.heap H locs → hv ls 3 [(0, .ref a0), (1, .int y1_41)] → W p l e (rmM 5 116 0 0) s m args below meth c H locs 0 0 (MQ below (QcM E (Qi K R n Q)) args s 0 0 (AA E)) (F0 m 41 ls [va_rf z0_41]) := by
    intro y1_41 z0_41 I H locs ls h hR hS hl
    unfold w_X0_passTick_b41 at h
    refine v_astore_n (o := z0_41) (lv' := [(2, va_rf z0_41), (0, .ref a0), (1, .int y1_41)]) hx hb dX0_passTick_41 rfl hl (by decide) rfl (fun ls hl => ?_)
    refine lv_aload_n hx hb dX0_passTick_42 rfl (hv_at hl 1 rfl) ?_
    refine v_aload_n hx hb dX0_passTick_43 rfl (hv_at hl 0 rfl) ?_
    refine v_ifnonnull (tgt := 52) hx hb dX0_passTick_44 (by decide) (fun e_z0_41 => ?_) (fun r4 e_z0_41 => ?_)
    · replace h := h.1 e_z0_41
      have hl : hv ls 3 [(2, .null), (0, .ref a0), (1, .int y1_41)] := by (try rw [e_z0_41] at hl); exact hl
      try rw [e_z0_41]
      refine lv_bipush (v := (-5:Int32)) hx hb dX0_passTick_47 (by decide) ?_
      refine lv_goto (tgt := 56) hx hb dX0_passTick_49 (by decide) ?_
      exact hJ56 y1_41 (-5:Int32) I _ _ _ h hR hS (hv_sub hl [1, 2] rfl)
    · replace h := h.2 r4 e_z0_41
      have hl : hv ls 3 [(2, .ref r4), (0, .ref a0), (1, .int y1_41)] := by (try rw [e_z0_41] at hl); exact hl
      try rw [e_z0_41]
      refine lv_aload_n hx hb dX0_passTick_52 rfl (hv_at hl 0 rfl) ?_
      obtain ⟨hf5, h⟩ := h
      refine v_get (T := TX3) (v := .int (I r4 0)) C hR 0 kfl_X0_138 rfl inG3 (by decide) rfl hf5 rfl dX0_passTick_53 ?_
      exact hJ56 y1_41 (I r4 0) I _ _ _ h hR hS (hv_sub hl [1, 2] rfl)
  have hJ25 : ∀ (y1_25 : Int32) (I : MI) (H : Heap) (locs : List Loc) (ls : Array Slot), w_X0_passTick_b25 K R a0 Q y1_25 I → Rep E K R I n H → va_S (AA E) s.heap H locs → hv ls 3 [(0, .ref a0), (1, .int y1_25)] → W p l e (rmM 5 116 0 0) s m args below meth c H locs 0 0 (MQ below (QcM E (Qi K R n Q)) args s 0 0 (AA E)) (F0 m 25 ls []) := by
    intro y1_25 I H locs ls h hR hS hl
    unfold w_X0_passTick_b25 at h
    refine lv_aload_n hx hb dX0_passTick_25 rfl (hv_at hl 0 rfl) ?_
    obtain ⟨hf6, h⟩ := h
    refine v_get (T := TX0) (v := .int (I a0 7)) C hR 7 kfl_X0_36 rfl inG0 (by decide) rfl (IsBus.k hf6) rfl dX0_passTick_26 ?_
    refine lv_if_ne (tgt := 40) hx hb dX0_passTick_29 (by decide) (fun c9 => ?_) (fun c9 => ?_)
    · replace h := h.1 c9
      refine lv_null hx hb dX0_passTick_40 ?_
      exact hJ41 y1_25 none I _ _ _ h hR hS (hv_sub hl [0, 1] rfl)
    · replace h := h.2 c9
      refine lv_aload_n hx hb dX0_passTick_32 rfl (hv_at hl 0 rfl) ?_
      refine lv_iload_n hx hb dX0_passTick_33 rfl (hv_at hl 1 rfl) ?_
      refine v_cVo (As := [.int y1_25]) C hR hS hl.1.1 ca_X0_questionAt kml_X0_121 (L_X0_questionAt E l a0 y1_25 I _ h) (IsBus.k hf6) rfl rfl rfl rfl (Nat.le_of_ble_eq_true rfl) ⟨Nat.le_of_ble_eq_true rfl, Nat.le_of_ble_eq_true rfl⟩ ⟨Nat.zero_le _, Nat.zero_le _⟩ dX0_passTick_34 (fun o8 I7 H locs h hR hS => ?_)
      refine lv_goto (tgt := 41) hx hb dX0_passTick_37 (by decide) ?_
      exact hJ41 y1_25 o8 I7 _ _ _ h hR hS (hv_sub hl [0, 1] rfl)
  unfold w_X0_passTick at h
  refine lv_aload_n hx hb dX0_passTick_0 rfl (hv_at hl 0 rfl) ?_
  obtain ⟨hf10, h⟩ := h
  refine v_cVv (As := []) C hR hS hl.1.1 ca_X0_finishQuestions kml_X0_131 (L_X0_finishQuestions E l a0 I _ h) (IsBus.k hf10) rfl rfl rfl rfl (Nat.le_of_ble_eq_true rfl) ⟨Nat.le_of_ble_eq_true rfl, Nat.le_of_ble_eq_true rfl⟩ ⟨Nat.zero_le _, Nat.zero_le _⟩ dX0_passTick_1 (fun I11 H locs h hR hS => ?_)
  refine lv_aload_n hx hb dX0_passTick_4 rfl (hv_at hl 0 rfl) ?_
  refine v_cVi (As := []) C hR hS hl.1.1 ca_X0_makeTrip kml_X0_134 (L_X0_makeTrip E l a0 I11 _ h) (IsBus.k hf10) rfl rfl rfl rfl (Nat.le_of_ble_eq_true rfl) ⟨Nat.le_of_ble_eq_true rfl, Nat.le_of_ble_eq_true rfl⟩ ⟨Nat.zero_le _, Nat.zero_le _⟩ dX0_passTick_5 (fun v13 I12 H locs h hR hS => ?_)
  refine v_istore_n (lv' := [(1, .int v13), (0, .ref a0)]) hx hb dX0_passTick_8 rfl hl (by decide) rfl (fun ls hl => ?_)
  refine lv_iload_n hx hb dX0_passTick_9 rfl (hv_at hl 0 rfl) ?_
  refine lv_bipush (v := (-5:Int32)) hx hb dX0_passTick_10 (by decide) ?_
  refine lv_icmp_ne (tgt := 25) hx hb dX0_passTick_12 (by decide) (fun c15 => ?_) (fun c15 => ?_)
  · replace h := h.1 c15
    exact hJ25 v13 I12 _ _ _ h hR hS (hv_sub hl [1, 0] rfl)
  · replace h := h.2 c15
    refine lv_aload_n hx hb dX0_passTick_15 rfl (hv_at hl 1 rfl) ?_
    refine lv_dup hx hb dX0_passTick_16 rfl ?_
    refine v_get (T := TX0) (v := .int (I12 a0 13)) C hR 13 kfl_X0_80 rfl inG0 (by decide) rfl (IsBus.k hf10) rfl dX0_passTick_17 ?_
    refine lv_iconst (v := (1:Int32)) hx hb dX0_passTick_20 rfl ?_
    refine lv_iadd hx hb dX0_passTick_21 ?_
    obtain ⟨I14, hI14⟩ := ex_eq (upI I12 a0 13 ((I12 a0 13) + (1:Int32)))
    replace h := h I14 hI14
    refine v_put (T := TX0) (ty := .int) C hR hS 13 kfl_X0_80 rfl inG0 tyX0 tyX0_ok nmX0 (by decide) rfl (IsBus.k hf10) rfl (tyX0_ok 13 (by decide)) rfl rfl (fl_i_0_13 _ _ _) (Nat.le_of_ble_eq_true rfl) hI14 dX0_passTick_22 (fun H locs hR hS => ?_)
    exact hJ25 v13 I14 _ _ _ h hR hS (hv_sub hl [1, 0] rfl)
set_option maxHeartbeats 4000000 in
set_option maxRecDepth 100000 in
theorem L_X6_pass (E : Ev) (l : Launch) {K : MK} {R : MR} {n : Nat} (a0 : Nat) (x1 : Int32) (I : MI) (Q : Int32 → MI → Prop) (h : w_X6_pass K R a0 x1 I Q) : MM E l yX6_pass cX6_pass 4 (some Jvm.ClassFile.FieldType.int) 6 138 0 0 [.ref a0, .int x1] K R I n (Qi K R n Q) := by
  refine MM.of1 (by decide) RX6 rfl (cR (cI cN)) (Nat.le_of_ble_eq_true rfl) ?_
  intro p e s m args below meth c ls C hin hR hS hl
  have hx := C.1
  have hb := C.2.1
  have hml := C.2.2.1
  have hown := C.2.2.2.1
  have hts := C.2.2.2.2.1
  have hl : hv ls 4 [(0, .ref a0), (1, .int x1)] := hl
  clear hin
  have hJ39 : ∀ (y2_39 : Int32) (y3_39 : Int32) (I : MI) (H : Heap) (locs : List Loc) (ls : Array Slot), w_X6_pass_b39 K R a0 x1 Q y2_39 y3_39 I → Rep E K R I n H → va_S (AA E) s.heap H locs → hv ls 4 [(0, .ref a0), (1, .int x1), (2, .int y2_39), (3, .int y3_39)] → W p l e (rmM 6 138 0 0) s m args below meth c H locs 0 0 (MQ below (QcM E (Qi K R n Q)) args s 0 0 (AA E)) (F0 m 39 ls []) := by
    intro y2_39 y3_39 I H locs ls h hR hS hl
    obtain ⟨X39, hX39⟩ : ∃ X : Int32 → Int32 → MI → Prop, ∀ (y2_39 : Int32) (y3_39 : Int32) (I : MI), X y2_39 y3_39 I ↔ (∀ (H : Heap) (locs : List Loc) (ls : Array Slot), Rep E K R I n H → va_S (AA E) s.heap H locs → hv ls 4 [(0, .ref a0), (1, .int x1), (2, .int y2_39), (3, .int y3_39)] → W p l e (rmM 6 138 0 0) s m args below meth c H locs 0 0 (MQ below (QcM E (Qi K R n Q)) args s 0 0 (AA E)) (F0 m 39 ls [])) := ⟨fun y2_39 y3_39 I => ∀ (H : Heap) (locs : List Loc) (ls : Array Slot), Rep E K R I n H → va_S (AA E) s.heap H locs → hv ls 4 [(0, .ref a0), (1, .int x1), (2, .int y2_39), (3, .int y3_39)] → W p l e (rmM 6 138 0 0) s m args below meth c H locs 0 0 (MQ below (QcM E (Qi K R n Q)) args s 0 0 (AA E)) (F0 m 39 ls []), fun _ _ _ => Iff.rfl⟩
    refine (hX39 y2_39 y3_39 I).mp (h X39 ?_) H locs ls hR hS hl
    clear h hR hS hl
    clear ls locs H I y2_39 y3_39
    have hJ59 : ∀ (y2_59 : Int32) (y3_59 : Int32) (I : MI) (H : Heap) (locs : List Loc) (ls : Array Slot), w_X6_pass_b59 K R a0 x1 Q X39 y2_59 y3_59 I → Rep E K R I n H → va_S (AA E) s.heap H locs → hv ls 4 [(0, .ref a0), (1, .int x1), (2, .int y2_59), (3, .int y3_59)] → W p l e (rmM 6 138 0 0) s m args below meth c H locs 0 0 (MQ below (QcM E (Qi K R n Q)) args s 0 0 (AA E)) (F0 m 59 ls []) := by
      intro y2_59 y3_59 I H locs ls h hR hS hl
      unfold w_X6_pass_b59 at h
      refine v_iinc (v := y3_59 + (1:Int32)) (k := 3) (lv' := [(3, .int (y3_59 + (1:Int32))), (0, .ref a0), (1, .int x1), (2, .int y2_59)]) hx hb dX6_pass_59 hl rfl rfl (by decide) rfl (fun ls hl => ?_)
      refine lv_goto (tgt := 39) hx hb dX6_pass_62 (by decide) ?_
      exact (hX39 y2_59 (y3_59 + (1:Int32)) I).mp h _ _ _ hR hS (hv_sub hl [1, 2, 3, 0] rfl)
    intro y2_39 y3_39 I h
    refine (hX39 y2_39 y3_39 I).mpr ?_
    intro H locs ls hR hS hl
    unfold w_X6_pass_b39_body at h
    refine lv_iload_n hx hb dX6_pass_39 rfl (hv_at hl 3 rfl) ?_
    refine lv_iload_n hx hb dX6_pass_40 rfl (hv_at hl 1 rfl) ?_
    refine lv_icmp_ge (tgt := 65) hx hb dX6_pass_41 (by decide) (fun c5 => ?_) (fun c5 => ?_)
    · replace h := h.1 c5
      refine lv_iload_n hx hb dX6_pass_65 rfl (hv_at hl 2 rfl) ?_
      exact w_ireti C rfl rfl hR hS h dX6_pass_66
    · replace h := h.2 c5
      refine lv_aload_n hx hb dX6_pass_44 rfl (hv_at hl 0 rfl) ?_
      obtain ⟨hf1, h⟩ := h
      refine v_get (T := TX6) (v := .ref (a0 + 1)) C hR 0 kfl_X6_10 rfl inG6 (by decide) rfl (IsTag.k hf1) (rf_of (IsTag.r0 hf1 (I a0 0))) dX6_pass_45 ?_
      refine v_cVi (As := []) C hR hS hl.1.1 ca_X0_passTick kml_X6_137 (L_X0_passTick E l (a0 + 1) I _ h) (IsBus.k (IsTag.o0 hf1)) rfl rfl rfl rfl (Nat.le_of_ble_eq_true rfl) ⟨Nat.le_of_ble_eq_true rfl, Nat.le_of_ble_eq_true rfl⟩ ⟨Nat.zero_le _, Nat.zero_le _⟩ dX6_pass_48 (fun v3 I2 H locs h hR hS => ?_)
      refine lv_bipush (v := (-5:Int32)) hx hb dX6_pass_51 (by decide) ?_
      refine lv_icmp_eq (tgt := 59) hx hb dX6_pass_53 (by decide) (fun c4 => ?_) (fun c4 => ?_)
      · replace h := h.1 c4
        exact hJ59 y2_39 y3_39 I2 _ _ _ h hR hS (hv_sub hl [0, 1, 2, 3] rfl)
      · replace h := h.2 c4
        refine v_iinc (v := y2_39 + (1:Int32)) (k := 2) (lv' := [(2, .int (y2_39 + (1:Int32))), (0, .ref a0), (1, .int x1), (3, .int y3_39)]) hx hb dX6_pass_56 hl rfl rfl (by decide) rfl (fun ls hl => ?_)
        exact hJ59 (y2_39 + (1:Int32)) y3_39 I2 _ _ _ h hR hS (hv_sub hl [1, 2, 0, 3] rfl)
  unfold w_X6_pass at h
  refine lv_iload_n hx hb dX6_pass_0 rfl (hv_at hl 1 rfl) ?_
  refine lv_iconst (v := (1:Int32)) hx hb dX6_pass_1 rfl ?_
  refine lv_bipush (v := (99:Int32)) hx hb dX6_pass_2 (by decide) ?_
  refine v_cSi (As := [.int x1, .int (1:Int32), .int (99:Int32)]) C hR hS hl.1.1 ca_X6_isBetween kml_X6_44 (L_X6_isBetween E l x1 (1:Int32) (99:Int32) I _ h) rfl rfl (Nat.le_of_ble_eq_true rfl) ⟨Nat.le_of_ble_eq_true rfl, Nat.le_of_ble_eq_true rfl⟩ ⟨Nat.zero_le _, Nat.zero_le _⟩ dX6_pass_4 (fun v7 I6 H locs h hR hS => ?_)
  refine lv_if_ne (tgt := 13) hx hb dX6_pass_7 (by decide) (fun c11 => ?_) (fun c11 => ?_)
  · replace h := h.1 c11
    refine lv_aload_n hx hb dX6_pass_13 rfl (hv_at hl 0 rfl) ?_
    obtain ⟨hf8, h⟩ := h
    refine v_get (T := TX6) (v := .ref (a0 + 1)) C hR 0 kfl_X6_10 rfl inG6 (by decide) rfl (IsTag.k hf8) (rf_of (IsTag.r0 hf8 (I6 a0 0))) dX6_pass_14 ?_
    refine v_get (T := TX0) (v := .int (I6 (a0 + 1) 6)) C hR 6 kfl_X6_134 rfl inG0 (by decide) rfl (IsBus.k (IsTag.o0 hf8)) rfl dX6_pass_17 ?_
    refine lv_iload_n hx hb dX6_pass_20 rfl (hv_at hl 1 rfl) ?_
    refine lv_iadd hx hb dX6_pass_21 ?_
    refine lv_sipush (v := (9999:Int32)) hx hb dX6_pass_22 (by decide) ?_
    refine lv_icmp_le (tgt := 31) hx hb dX6_pass_25 (by decide) (fun c10 => ?_) (fun c10 => ?_)
    · replace h := h.1 c10
      refine lv_aload_n hx hb dX6_pass_31 rfl (hv_at hl 0 rfl) ?_
      refine v_cVv (As := []) C hR hS hl.1.1 ca_X6_record kml_X6_55 (L_X6_record E l a0 I6 _ h) (IsTag.k hf8) rfl rfl rfl rfl (Nat.le_of_ble_eq_true rfl) ⟨Nat.le_of_ble_eq_true rfl, Nat.le_of_ble_eq_true rfl⟩ ⟨Nat.zero_le _, Nat.zero_le _⟩ dX6_pass_32 (fun I9 H locs h hR hS => ?_)
      refine lv_iconst (v := (0:Int32)) hx hb dX6_pass_35 rfl ?_
      refine v_istore_n (lv' := [(2, .int (0:Int32)), (0, .ref a0), (1, .int x1)]) hx hb dX6_pass_36 rfl hl (by decide) rfl (fun ls hl => ?_)
      refine lv_iconst (v := (0:Int32)) hx hb dX6_pass_37 rfl ?_
      refine v_istore_n (lv' := [(3, .int (0:Int32)), (2, .int (0:Int32)), (0, .ref a0), (1, .int x1)]) hx hb dX6_pass_38 rfl hl (by decide) rfl (fun ls hl => ?_)
      exact hJ39 (0:Int32) (0:Int32) I9 _ _ _ h hR hS (hv_sub hl [2, 3, 1, 0] rfl)
    · replace h := h.2 c10
      refine lv_bipush (v := (-3:Int32)) hx hb dX6_pass_28 (by decide) ?_
      exact w_ireti C rfl rfl hR hS h dX6_pass_30
  · replace h := h.2 c11
    refine lv_bipush (v := (-2:Int32)) hx hb dX6_pass_10 (by decide) ?_
    exact w_ireti C rfl rfl hR hS h dX6_pass_12
set_option maxHeartbeats 4000000 in
set_option maxRecDepth 100000 in
theorem L_X6_undo (E : Ev) (l : Launch) {K : MK} {R : MR} {n : Nat} (a0 : Nat) (I : MI) (Q : Int32 → MI → Prop) (h : w_X6_undo K R a0 I Q) : MM E l yX6_undo cX6_undo 2 (some Jvm.ClassFile.FieldType.int) 4 90 0 0 [.ref a0] K R I n (Qi K R n Q) := by
  refine MM.of1 (by decide) RX6 rfl (cR cN) (Nat.le_of_ble_eq_true rfl) ?_
  intro p e s m args below meth c ls C hin hR hS hl
  have hx := C.1
  have hb := C.2.1
  have hml := C.2.2.1
  have hown := C.2.2.2.1
  have hts := C.2.2.2.2.1
  have hl : hv ls 2 [(0, .ref a0)] := hl
  clear hin
  unfold w_X6_undo at h
  refine lv_aload_n hx hb dX6_undo_0 rfl (hv_at hl 0 rfl) ?_
  obtain ⟨hf1, h⟩ := h
  refine v_get (T := TX6) (v := .int (I a0 5)) C hR 5 kfl_X6_145 rfl inG6 (by decide) rfl (IsTag.k hf1) rfl dX6_undo_1 ?_
  refine lv_iconst (v := (1:Int32)) hx hb dX6_undo_4 rfl ?_
  refine lv_isub hx hb dX6_undo_5 ?_
  refine v_istore_n (lv' := [(1, .int ((I a0 5) - (1:Int32))), (0, .ref a0)]) hx hb dX6_undo_6 rfl hl (by decide) rfl (fun ls hl => ?_)
  refine lv_iload_n hx hb dX6_undo_7 rfl (hv_at hl 0 rfl) ?_
  refine lv_iconst (v := (4:Int32)) hx hb dX6_undo_8 rfl ?_
  refine v_cSi (As := [.int ((I a0 5) - (1:Int32)), .int (4:Int32)]) C hR hS hl.1.1 ca_X6_isIndex kml_X6_37 (L_X6_isIndex E l ((I a0 5) - (1:Int32)) (4:Int32) I _ h) rfl rfl (Nat.le_of_ble_eq_true rfl) ⟨Nat.le_of_ble_eq_true rfl, Nat.le_of_ble_eq_true rfl⟩ ⟨Nat.zero_le _, Nat.zero_le _⟩ dX6_undo_9 (fun v3 I2 H locs h hR hS => ?_)
  refine lv_if_ne (tgt := 18) hx hb dX6_undo_12 (by decide) (fun c7 => ?_) (fun c7 => ?_)
  · replace h := h.1 c7
    refine lv_aload_n hx hb dX6_undo_18 rfl (hv_at hl 1 rfl) ?_
    refine v_get (T := TX6) (v := .ref (a0 + 1)) C hR 0 kfl_X6_10 rfl inG6 (by decide) rfl (IsTag.k hf1) (rf_of (IsTag.r0 hf1 (I2 a0 0))) dX6_undo_19 ?_
    refine lv_aload_n hx hb dX6_undo_22 rfl (hv_at hl 1 rfl) ?_
    refine v_get (T := TX6) (v := .ref (a0 + 715)) C hR 4 kfl_X6_22 rfl inG6 (by decide) rfl (IsTag.k hf1) (rf_of (IsTag.r4 hf1 (I2 a0 4))) dX6_undo_23 ?_
    refine lv_iload_n hx hb dX6_undo_26 rfl (hv_at hl 0 rfl) ?_
    obtain ⟨hi4, h⟩ := h
    refine w_aald C hR (w := pastA a0 (I2 (a0 + 715) (ix ((I a0 5) - (1:Int32))))) (IsTag.a4 hf1) (by decide) rfl rfl hi4 (j := (ix ((I a0 5) - (1:Int32)))) rfl (IsTag.e4 hf1 (vp_lt hi4) _) dX6_undo_27 ?_
    refine v_cVv (As := [.ref (pastA a0 (I2 (a0 + 715) (ix ((I a0 5) - (1:Int32)))))]) C hR hS hl.1.1 ca_X0_copyFrom kml_X6_148 (L_X0_copyFrom E l (a0 + 1) (some (pastA a0 (I2 (a0 + 715) (ix ((I a0 5) - (1:Int32)))))) I2 _ h) (IsBus.k (IsTag.o0 hf1)) rfl rfl rfl rfl (Nat.le_of_ble_eq_true rfl) ⟨Nat.le_of_ble_eq_true rfl, Nat.le_of_ble_eq_true rfl⟩ ⟨Nat.zero_le _, Nat.zero_le _⟩ dX6_undo_28 (fun I5 H locs h hR hS => ?_)
    refine lv_aload_n hx hb dX6_undo_31 rfl (hv_at hl 1 rfl) ?_
    refine lv_iload_n hx hb dX6_undo_32 rfl (hv_at hl 0 rfl) ?_
    obtain ⟨I6, hI6⟩ := ex_eq (upI I5 a0 5 ((I a0 5) - (1:Int32)))
    replace h := h I6 hI6
    refine v_put (T := TX6) (ty := .int) C hR hS 5 kfl_X6_145 rfl inG6 tyX6 tyX6_ok nmX6 (by decide) rfl (IsTag.k hf1) rfl (tyX6_ok 5 (by decide)) rfl rfl (fl_i_6_5 _ _ _) (Nat.le_of_ble_eq_true rfl) hI6 dX6_undo_33 (fun H locs hR hS => ?_)
    refine lv_aload_n hx hb dX6_undo_36 rfl (hv_at hl 1 rfl) ?_
    refine v_get (T := TX6) (v := .int (I6 a0 5)) C hR 5 kfl_X6_145 rfl inG6 (by decide) rfl (IsTag.k hf1) rfl dX6_undo_37 ?_
    exact w_ireti C rfl rfl hR hS h dX6_undo_40
  · replace h := h.2 c7
    refine lv_bipush (v := (-5:Int32)) hx hb dX6_undo_15 (by decide) ?_
    exact w_ireti C rfl rfl hR hS h dX6_undo_17
set_option maxHeartbeats 4000000 in
set_option maxRecDepth 100000 in
theorem L_X6_question (E : Ev) (l : Launch) {K : MK} {R : MR} {n : Nat} (a0 : Nat) (x1 : Int32) (x2 : Int32) (I : MI) (Q : Int32 → MI → Prop) (h : w_X6_question K R a0 x1 x2 I Q) : MM E l yX6_question cX6_question 4 (some Jvm.ClassFile.FieldType.int) 2 42 0 0 [.ref a0, .int x1, .int x2] K R I n (Qi K R n Q) := by
  refine MM.of1 (by decide) RX6 rfl (cR (cI (cI cN))) (Nat.le_of_ble_eq_true rfl) ?_
  intro p e s m args below meth c ls C hin hR hS hl
  have hx := C.1
  have hb := C.2.1
  have hml := C.2.2.1
  have hown := C.2.2.2.1
  have hts := C.2.2.2.2.1
  have hl : hv ls 4 [(0, .ref a0), (1, .int x1), (2, .int x2)] := hl
  clear hin
  unfold w_X6_question at h
  refine lv_aload_n hx hb dX6_question_0 rfl (hv_at hl 0 rfl) ?_
  obtain ⟨hf1, h⟩ := h
  refine v_get (T := TX6) (v := .ref (a0 + 1)) C hR 0 kfl_X6_10 rfl inG6 (by decide) rfl (IsTag.k hf1) (rf_of (IsTag.r0 hf1 (I a0 0))) dX6_question_1 ?_
  refine lv_iload_n hx hb dX6_question_4 rfl (hv_at hl 1 rfl) ?_
  refine v_cVo (As := [.int x1]) C hR hS hl.1.1 ca_X0_questionAt kml_X6_156 (L_X0_questionAt E l (a0 + 1) x1 I _ h) (IsBus.k (IsTag.o0 hf1)) rfl rfl rfl rfl (Nat.le_of_ble_eq_true rfl) ⟨Nat.le_of_ble_eq_true rfl, Nat.le_of_ble_eq_true rfl⟩ ⟨Nat.zero_le _, Nat.zero_le _⟩ dX6_question_5 (fun o3 I2 H locs h hR hS => ?_)
  refine v_astore_n (o := o3) (lv' := [(3, va_rf o3), (0, .ref a0), (1, .int x1), (2, .int x2)]) hx hb dX6_question_8 rfl hl (by decide) rfl (fun ls hl => ?_)
  refine v_aload_n hx hb dX6_question_9 rfl (hv_at hl 0 rfl) ?_
  refine v_ifnonnull (tgt := 15) hx hb dX6_question_10 (by decide) (fun e_o3 => ?_) (fun r4 e_o3 => ?_)
  · replace h := h.1 e_o3
    have hl : hv ls 4 [(3, .null), (0, .ref a0), (1, .int x1), (2, .int x2)] := by (try rw [e_o3] at hl); exact hl
    try rw [e_o3]
    refine lv_iconst (v := (-1:Int32)) hx hb dX6_question_13 rfl ?_
    exact w_ireti C rfl rfl hR hS h dX6_question_14
  · replace h := h.2 r4 e_o3
    have hl : hv ls 4 [(3, .ref r4), (0, .ref a0), (1, .int x1), (2, .int x2)] := by (try rw [e_o3] at hl); exact hl
    try rw [e_o3]
    refine lv_iload_n hx hb dX6_question_15 rfl (hv_at hl 3 rfl) ?_
    rcases sw_0_8 x2 with c5 | c5 | c5 | c5 | c5 | c5 | c5 | c5 | c5 | c5
    · replace h := h.1 c5
      refine v_tblIn (tgt := 68) hx hb (v := (0:Int32)) dX6_question_16 c5 (by decide) (by decide) rfl (by decide) ?_
      refine lv_aload_n hx hb dX6_question_68 rfl (hv_at hl 0 rfl) ?_
      obtain ⟨hf6, h⟩ := h
      refine v_get (T := TX3) (v := .int (I2 r4 0)) C hR 0 kfl_X6_104 rfl inG3 (by decide) rfl hf6 rfl dX6_question_69 ?_
      exact w_ireti C rfl rfl hR hS h dX6_question_72
    · replace h := h.2.1 c5
      refine v_tblIn (tgt := 73) hx hb (v := (1:Int32)) dX6_question_16 c5 (by decide) (by decide) rfl (by decide) ?_
      refine lv_aload_n hx hb dX6_question_73 rfl (hv_at hl 0 rfl) ?_
      obtain ⟨hf7, h⟩ := h
      refine v_get (T := TX3) (v := .int (I2 r4 1)) C hR 1 kfl_X6_109 rfl inG3 (by decide) rfl hf7 rfl dX6_question_74 ?_
      exact w_ireti C rfl rfl hR hS h dX6_question_77
    · replace h := h.2.2.1 c5
      refine v_tblIn (tgt := 78) hx hb (v := (2:Int32)) dX6_question_16 c5 (by decide) (by decide) rfl (by decide) ?_
      refine lv_aload_n hx hb dX6_question_78 rfl (hv_at hl 0 rfl) ?_
      obtain ⟨hf8, h⟩ := h
      refine v_get (T := TX3) (v := .int (I2 r4 2)) C hR 2 kfl_X6_112 rfl inG3 (by decide) rfl hf8 rfl dX6_question_79 ?_
      exact w_ireti C rfl rfl hR hS h dX6_question_82
    · replace h := h.2.2.2.1 c5
      refine v_tblIn (tgt := 83) hx hb (v := (3:Int32)) dX6_question_16 c5 (by decide) (by decide) rfl (by decide) ?_
      refine lv_aload_n hx hb dX6_question_83 rfl (hv_at hl 0 rfl) ?_
      obtain ⟨hf9, h⟩ := h
      refine v_get (T := TX3) (v := .int (I2 r4 3)) C hR 3 kfl_X6_115 rfl inG3 (by decide) rfl hf9 rfl dX6_question_84 ?_
      exact w_ireti C rfl rfl hR hS h dX6_question_87
    · replace h := h.2.2.2.2.1 c5
      refine v_tblIn (tgt := 88) hx hb (v := (4:Int32)) dX6_question_16 c5 (by decide) (by decide) rfl (by decide) ?_
      refine lv_aload_n hx hb dX6_question_88 rfl (hv_at hl 0 rfl) ?_
      obtain ⟨hf10, h⟩ := h
      refine v_get (T := TX3) (v := .int (I2 r4 4)) C hR 4 kfl_X6_157 rfl inG3 (by decide) rfl hf10 rfl dX6_question_89 ?_
      exact w_ireti C rfl rfl hR hS h dX6_question_92
    · replace h := h.2.2.2.2.2.1 c5
      refine v_tblIn (tgt := 93) hx hb (v := (5:Int32)) dX6_question_16 c5 (by decide) (by decide) rfl (by decide) ?_
      refine lv_aload_n hx hb dX6_question_93 rfl (hv_at hl 0 rfl) ?_
      obtain ⟨hf11, h⟩ := h
      refine v_get (T := TX3) (v := .int (I2 r4 5)) C hR 5 kfl_X6_160 rfl inG3 (by decide) rfl hf11 rfl dX6_question_94 ?_
      exact w_ireti C rfl rfl hR hS h dX6_question_97
    · replace h := h.2.2.2.2.2.2.1 c5
      refine v_tblIn (tgt := 98) hx hb (v := (6:Int32)) dX6_question_16 c5 (by decide) (by decide) rfl (by decide) ?_
      refine lv_aload_n hx hb dX6_question_98 rfl (hv_at hl 0 rfl) ?_
      obtain ⟨hf12, h⟩ := h
      refine v_get (T := TX3) (v := .int (I2 r4 6)) C hR 6 kfl_X6_163 rfl inG3 (by decide) rfl hf12 rfl dX6_question_99 ?_
      exact w_ireti C rfl rfl hR hS h dX6_question_102
    · replace h := h.2.2.2.2.2.2.2.1 c5
      refine v_tblIn (tgt := 103) hx hb (v := (7:Int32)) dX6_question_16 c5 (by decide) (by decide) rfl (by decide) ?_
      refine lv_aload_n hx hb dX6_question_103 rfl (hv_at hl 0 rfl) ?_
      obtain ⟨hf13, h⟩ := h
      refine v_get (T := TX3) (v := .int (I2 r4 9)) C hR 9 kfl_X6_166 rfl inG3 (by decide) rfl hf13 rfl dX6_question_104 ?_
      exact w_ireti C rfl rfl hR hS h dX6_question_107
    · replace h := h.2.2.2.2.2.2.2.2.1 c5
      refine v_tblIn (tgt := 108) hx hb (v := (8:Int32)) dX6_question_16 c5 (by decide) (by decide) rfl (by decide) ?_
      refine lv_aload_n hx hb dX6_question_108 rfl (hv_at hl 0 rfl) ?_
      obtain ⟨hf14, h⟩ := h
      refine v_get (T := TX3) (v := .int (I2 r4 10)) C hR 10 kfl_X6_169 rfl inG3 (by decide) rfl hf14 rfl dX6_question_109 ?_
      exact w_ireti C rfl rfl hR hS h dX6_question_112
    · replace h := h.2.2.2.2.2.2.2.2.2 c5
      refine lv_tableOut (tgt := 113) hx hb dX6_question_16 c5 (by decide) ?_
      refine lv_bipush (v := (-2:Int32)) hx hb dX6_question_113 (by decide) ?_
      exact w_ireti C rfl rfl hR hS h dX6_question_115
set_option maxHeartbeats 4000000 in
set_option maxRecDepth 100000 in
theorem L_X6_tag (E : Ev) (l : Launch) {K : MK} {R : MR} {n : Nat} (a0 : Nat) (x1 : Int32) (I : MI) (Q : Int32 → MI → Prop) (h : w_X6_tag K R a0 x1 I Q) : MM E l yX6_tag cX6_tag 2 (some Jvm.ClassFile.FieldType.int) 1 21 0 0 [.ref a0, .int x1] K R I n (Qi K R n Q) := by
  refine MM.of1 (by decide) RX6 rfl (cR (cI cN)) (Nat.le_of_ble_eq_true rfl) ?_
  intro p e s m args below meth c ls C hin hR hS hl
  have hx := C.1
  have hb := C.2.1
  have hml := C.2.2.1
  have hown := C.2.2.2.1
  have hts := C.2.2.2.2.1
  have hl : hv ls 2 [(0, .ref a0), (1, .int x1)] := hl
  clear hin
  have hJ25 : ∀ (I : MI) (H : Heap) (locs : List Loc) (ls : Array Slot), w_X6_tag_b25 K R a0 x1 Q  I → Rep E K R I n H → va_S (AA E) s.heap H locs → hv ls 2 [] → W p l e (rmM 1 21 0 0) s m args below meth c H locs 0 0 (MQ below (QcM E (Qi K R n Q)) args s 0 0 (AA E)) (F0 m 25 ls []) := by
    intro  I H locs ls h hR hS hl
    unfold w_X6_tag_b25 at h
    refine lv_iconst (v := (-1:Int32)) hx hb dX6_tag_25 rfl ?_
    exact w_ireti C rfl rfl hR hS h dX6_tag_26
  unfold w_X6_tag at h
  refine lv_iload_n hx hb dX6_tag_0 rfl (hv_at hl 1 rfl) ?_
  refine lv_aload_n hx hb dX6_tag_1 rfl (hv_at hl 0 rfl) ?_
  obtain ⟨hf1, h⟩ := h
  refine v_get (T := TX6) (v := .ref (a0 + 1)) C hR 0 kfl_X6_10 rfl inG6 (by decide) rfl (IsTag.k hf1) (rf_of (IsTag.r0 hf1 (I a0 0))) dX6_tag_2 ?_
  refine v_get (T := TX0) (v := .ref (a0 + 1 + 1)) C hR 0 kfl_X6_52 rfl inG0 (by decide) rfl (IsBus.k (IsTag.o0 hf1)) (rf_of (IsBus.r0 (IsTag.o0 hf1) (I (a0 + 1) 0))) dX6_tag_5 ?_
  refine lv_iconst (v := (0:Int32)) hx hb dX6_tag_8 rfl ?_
  refine w_iald C hR (IsBus.a0 (IsTag.o0 hf1)) (show vp_in (0:Int32) 3 by unfold vp_in; decide) (j := 0) (by decide) dX6_tag_9 ?_
  refine v_cSi (As := [.int x1, .int (I (a0 + 1 + 1) 0)]) C hR hS hl.1.1 ca_X6_isIndex kml_X6_37 (L_X6_isIndex E l x1 (I (a0 + 1 + 1) 0) I _ h) rfl rfl (Nat.le_of_ble_eq_true rfl) ⟨Nat.le_of_ble_eq_true rfl, Nat.le_of_ble_eq_true rfl⟩ ⟨Nat.zero_le _, Nat.zero_le _⟩ dX6_tag_10 (fun v3 I2 H locs h hR hS => ?_)
  refine lv_if_eq (tgt := 25) hx hb dX6_tag_13 (by decide) (fun c8 => ?_) (fun c8 => ?_)
  · replace h := h.1 c8
    exact hJ25 I2 _ _ _ h hR hS (hv_sub hl [] rfl)
  · replace h := h.2 c8
    refine lv_iload_n hx hb dX6_tag_16 rfl (hv_at hl 1 rfl) ?_
    refine lv_bipush (v := (8:Int32)) hx hb dX6_tag_17 (by decide) ?_
    refine v_cSi (As := [.int x1, .int (8:Int32)]) C hR hS hl.1.1 ca_X6_isIndex kml_X6_37 (L_X6_isIndex E l x1 (8:Int32) I2 _ h) rfl rfl (Nat.le_of_ble_eq_true rfl) ⟨Nat.le_of_ble_eq_true rfl, Nat.le_of_ble_eq_true rfl⟩ ⟨Nat.zero_le _, Nat.zero_le _⟩ dX6_tag_19 (fun v5 I4 H locs h hR hS => ?_)
    refine lv_if_ne (tgt := 27) hx hb dX6_tag_22 (by decide) (fun c7 => ?_) (fun c7 => ?_)
    · replace h := h.1 c7
      refine lv_aload_n hx hb dX6_tag_27 rfl (hv_at hl 0 rfl) ?_
      refine v_get (T := TX6) (v := .ref (a0 + 1)) C hR 0 kfl_X6_10 rfl inG6 (by decide) rfl (IsTag.k hf1) (rf_of (IsTag.r0 hf1 (I4 a0 0))) dX6_tag_28 ?_
      refine v_get (T := TX0) (v := .ref (a0 + 1 + 2)) C hR 1 kfl_X6_172 rfl inG0 (by decide) rfl (IsBus.k (IsTag.o0 hf1)) (rf_of (IsBus.r1 (IsTag.o0 hf1) (I4 (a0 + 1) 1))) dX6_tag_31 ?_
      refine lv_iload_n hx hb dX6_tag_34 rfl (hv_at hl 1 rfl) ?_
      obtain ⟨hi6, h⟩ := h
      refine w_iald C hR (IsBus.a1 (IsTag.o0 hf1)) hi6 (j := (ix x1)) rfl dX6_tag_35 ?_
      exact w_ireti C rfl rfl hR hS h dX6_tag_36
    · replace h := h.2 c7
      exact hJ25 I4 _ _ _ h hR hS (hv_sub hl [] rfl)
set_option maxHeartbeats 4000000 in
set_option maxRecDepth 100000 in
theorem L_X6_master (E : Ev) (l : Launch) {K : MK} {R : MR} {n : Nat} (a0 : Nat) (x1 : Int32) (x2 : Int32) (I : MI) (Q : Int32 → MI → Prop) (h : w_X6_master K R a0 x1 x2 I Q) : MM E l yX6_master cX6_master 4 (some Jvm.ClassFile.FieldType.int) 2 42 0 0 [.ref a0, .int x1, .int x2] K R I n (Qi K R n Q) := by
  refine MM.of1 (by decide) RX6 rfl (cR (cI (cI cN))) (Nat.le_of_ble_eq_true rfl) ?_
  intro p e s m args below meth c ls C hin hR hS hl
  have hx := C.1
  have hb := C.2.1
  have hml := C.2.2.1
  have hown := C.2.2.2.1
  have hts := C.2.2.2.2.1
  have hl : hv ls 4 [(0, .ref a0), (1, .int x1), (2, .int x2)] := hl
  clear hin
  have hJ139 : ∀ (z0_139 : Int32) (I : MI) (H : Heap) (locs : List Loc) (ls : Array Slot), w_X6_master_b139 K R a0 x1 x2 Q z0_139 I → Rep E K R I n H → va_S (AA E) s.heap H locs → hv ls 4 [] → W p l e (rmM 2 42 0 0) s m args below meth c H locs 0 0 (MQ below (QcM E (Qi K R n Q)) args s 0 0 (AA E)) (F0 m 139 ls [.int z0_139]) := by
    intro z0_139 I H locs ls h hR hS hl
    unfold w_X6_master_b139 at h
    exact w_ireti C rfl rfl hR hS h dX6_master_139
  unfold w_X6_master at h
  refine lv_aload_n hx hb dX6_master_0 rfl (hv_at hl 0 rfl) ?_
  obtain ⟨hf1, h⟩ := h
  refine v_get (T := TX6) (v := .ref (a0 + 1)) C hR 0 kfl_X6_10 rfl inG6 (by decide) rfl (IsTag.k hf1) (rf_of (IsTag.r0 hf1 (I a0 0))) dX6_master_1 ?_
  refine lv_iload_n hx hb dX6_master_4 rfl (hv_at hl 1 rfl) ?_
  refine v_cVo (As := [.int x1]) C hR hS hl.1.1 ca_X0_masterAt kml_X6_58 (L_X0_masterAt E l (a0 + 1) x1 I _ h) (IsBus.k (IsTag.o0 hf1)) rfl rfl rfl rfl (Nat.le_of_ble_eq_true rfl) ⟨Nat.le_of_ble_eq_true rfl, Nat.le_of_ble_eq_true rfl⟩ ⟨Nat.zero_le _, Nat.zero_le _⟩ dX6_master_5 (fun o3 I2 H locs h hR hS => ?_)
  refine v_astore_n (o := o3) (lv' := [(3, va_rf o3), (0, .ref a0), (1, .int x1), (2, .int x2)]) hx hb dX6_master_8 rfl hl (by decide) rfl (fun ls hl => ?_)
  refine v_aload_n hx hb dX6_master_9 rfl (hv_at hl 0 rfl) ?_
  refine v_ifnonnull (tgt := 15) hx hb dX6_master_10 (by decide) (fun e_o3 => ?_) (fun r4 e_o3 => ?_)
  · replace h := h.1 e_o3
    have hl : hv ls 4 [(3, .null), (0, .ref a0), (1, .int x1), (2, .int x2)] := by (try rw [e_o3] at hl); exact hl
    try rw [e_o3]
    refine lv_iconst (v := (-1:Int32)) hx hb dX6_master_13 rfl ?_
    exact w_ireti C rfl rfl hR hS h dX6_master_14
  · replace h := h.2 r4 e_o3
    have hl : hv ls 4 [(3, .ref r4), (0, .ref a0), (1, .int x1), (2, .int x2)] := by (try rw [e_o3] at hl); exact hl
    try rw [e_o3]
    refine lv_iload_n hx hb dX6_master_15 rfl (hv_at hl 3 rfl) ?_
    rcases sw_0_8 x2 with c5 | c5 | c5 | c5 | c5 | c5 | c5 | c5 | c5 | c5
    · replace h := h.1 c5
      refine v_tblIn (tgt := 68) hx hb (v := (0:Int32)) dX6_master_16 c5 (by decide) (by decide) rfl (by decide) ?_
      refine lv_aload_n hx hb dX6_master_68 rfl (hv_at hl 0 rfl) ?_
      obtain ⟨hf6, h⟩ := h
      refine v_get (T := TX2) (v := .ref (r4 + 1)) C hR 0 kfl_X6_121 rfl inG2 (by decide) rfl (IsMaster.k hf6) (rf_of (IsMaster.r0 hf6 (I2 r4 0))) dX6_master_69 ?_
      refine v_get (T := TX1) (v := .int (I2 (r4 + 1) 1)) C hR 1 kfl_X6_125 rfl inG1 (by decide) rfl (IsLine.k (IsMaster.o0 hf6)) rfl dX6_master_72 ?_
      exact w_ireti C rfl rfl hR hS h dX6_master_75
    · replace h := h.2.1 c5
      refine v_tblIn (tgt := 76) hx hb (v := (1:Int32)) dX6_master_16 c5 (by decide) (by decide) rfl (by decide) ?_
      refine lv_aload_n hx hb dX6_master_76 rfl (hv_at hl 0 rfl) ?_
      obtain ⟨hf7, h⟩ := h
      refine v_get (T := TX2) (v := .int (I2 r4 1)) C hR 1 kfl_X6_62 rfl inG2 (by decide) rfl (IsMaster.k hf7) rfl dX6_master_77 ?_
      exact w_ireti C rfl rfl hR hS h dX6_master_80
    · replace h := h.2.2.1 c5
      refine v_tblIn (tgt := 81) hx hb (v := (2:Int32)) dX6_master_16 c5 (by decide) (by decide) rfl (by decide) ?_
      refine lv_aload_n hx hb dX6_master_81 rfl (hv_at hl 0 rfl) ?_
      obtain ⟨hf8, h⟩ := h
      refine v_get (T := TX2) (v := .int (I2 r4 2)) C hR 2 kfl_X6_175 rfl inG2 (by decide) rfl (IsMaster.k hf8) rfl dX6_master_82 ?_
      exact w_ireti C rfl rfl hR hS h dX6_master_85
    · replace h := h.2.2.2.1 c5
      refine v_tblIn (tgt := 86) hx hb (v := (3:Int32)) dX6_master_16 c5 (by decide) (by decide) rfl (by decide) ?_
      refine lv_aload_n hx hb dX6_master_86 rfl (hv_at hl 0 rfl) ?_
      obtain ⟨hf9, h⟩ := h
      refine v_get (T := TX2) (v := .int (I2 r4 3)) C hR 3 kfl_X6_178 rfl inG2 (by decide) rfl (IsMaster.k hf9) rfl dX6_master_87 ?_
      exact w_ireti C rfl rfl hR hS h dX6_master_90
    · replace h := h.2.2.2.2.1 c5
      refine v_tblIn (tgt := 91) hx hb (v := (4:Int32)) dX6_master_16 c5 (by decide) (by decide) rfl (by decide) ?_
      refine lv_iconst (v := (0:Int32)) hx hb dX6_master_91 rfl ?_
      refine lv_aload_n hx hb dX6_master_92 rfl (hv_at hl 0 rfl) ?_
      obtain ⟨hf10, h⟩ := h
      refine v_get (T := TX2) (v := .int (I2 r4 4)) C hR 4 kfl_X6_179 rfl inG2 (by decide) rfl (IsMaster.k hf10) rfl dX6_master_93 ?_
      refine lv_aload_n hx hb dX6_master_96 rfl (hv_at hl 1 rfl) ?_
      refine v_get (T := TX6) (v := .ref (a0 + 1)) C hR 0 kfl_X6_10 rfl inG6 (by decide) rfl (IsTag.k hf1) (rf_of (IsTag.r0 hf1 (I2 a0 0))) dX6_master_97 ?_
      refine v_get (T := TX0) (v := .int (I2 (a0 + 1) 6)) C hR 6 kfl_X6_134 rfl inG0 (by decide) rfl (IsBus.k (IsTag.o0 hf1)) rfl dX6_master_100 ?_
      refine lv_isub hx hb dX6_master_103 ?_
      refine va_mmax hx hb (hml.trans hl.1.1.symm) hown (hts _ kml_X6_182) (hts _ kst_Lib_Math_max_name) (hts _ kin_Math) (hts _ kco_Lib_Math_max_name) (Nat.le_of_ble_eq_true rfl) (Nat.le_of_ble_eq_true rfl) (Nat.zero_le _) (Nat.zero_le _) dX6_master_104 ?_
      exact w_ireti C rfl rfl hR hS h dX6_master_107
    · replace h := h.2.2.2.2.2.1 c5
      refine v_tblIn (tgt := 108) hx hb (v := (5:Int32)) dX6_master_16 c5 (by decide) (by decide) rfl (by decide) ?_
      refine lv_aload_n hx hb dX6_master_108 rfl (hv_at hl 0 rfl) ?_
      obtain ⟨hf11, h⟩ := h
      refine v_get (T := TX2) (v := .int (I2 r4 5)) C hR 5 kfl_X6_188 rfl inG2 (by decide) rfl (IsMaster.k hf11) rfl dX6_master_109 ?_
      exact w_ireti C rfl rfl hR hS h dX6_master_112
    · replace h := h.2.2.2.2.2.2.1 c5
      refine v_tblIn (tgt := 113) hx hb (v := (6:Int32)) dX6_master_16 c5 (by decide) (by decide) rfl (by decide) ?_
      refine lv_aload_n hx hb dX6_master_113 rfl (hv_at hl 0 rfl) ?_
      obtain ⟨hf12, h⟩ := h
      refine v_get (T := TX2) (v := .int (I2 r4 6)) C hR 6 kfl_X6_191 rfl inG2 (by decide) rfl (IsMaster.k hf12) rfl dX6_master_114 ?_
      exact w_ireti C rfl rfl hR hS h dX6_master_117
    · replace h := h.2.2.2.2.2.2.2.1 c5
      refine v_tblIn (tgt := 118) hx hb (v := (7:Int32)) dX6_master_16 c5 (by decide) (by decide) rfl (by decide) ?_
      refine lv_aload_n hx hb dX6_master_118 rfl (hv_at hl 0 rfl) ?_
      obtain ⟨hf13, h⟩ := h
      refine v_get (T := TX2) (v := .int (I2 r4 7)) C hR 7 kfl_X6_194 rfl inG2 (by decide) rfl (IsMaster.k hf13) rfl dX6_master_119 ?_
      exact w_ireti C rfl rfl hR hS h dX6_master_122
    · replace h := h.2.2.2.2.2.2.2.2.1 c5
      refine v_tblIn (tgt := 123) hx hb (v := (8:Int32)) dX6_master_16 c5 (by decide) (by decide) rfl (by decide) ?_
      refine lv_aload_n hx hb dX6_master_123 rfl (hv_at hl 1 rfl) ?_
      refine v_get (T := TX6) (v := .ref (a0 + 1)) C hR 0 kfl_X6_10 rfl inG6 (by decide) rfl (IsTag.k hf1) (rf_of (IsTag.r0 hf1 (I2 a0 0))) dX6_master_124 ?_
      refine lv_aload_n hx hb dX6_master_127 rfl (hv_at hl 0 rfl) ?_
      refine v_cVi (As := [.ref r4]) C hR hS hl.1.1 ca_X0_isOutOfPatience kml_X6_197 (L_X0_isOutOfPatience E l (a0 + 1) (some r4) I2 _ h) (IsBus.k (IsTag.o0 hf1)) rfl rfl rfl rfl (Nat.le_of_ble_eq_true rfl) ⟨Nat.le_of_ble_eq_true rfl, Nat.le_of_ble_eq_true rfl⟩ ⟨Nat.zero_le _, Nat.zero_le _⟩ dX6_master_128 (fun v15 I14 H locs h hR hS => ?_)
      refine lv_if_eq (tgt := 138) hx hb dX6_master_131 (by decide) (fun c16 => ?_) (fun c16 => ?_)
      · replace h := h.1 c16
        refine lv_iconst (v := (0:Int32)) hx hb dX6_master_138 rfl ?_
        exact hJ139 (0:Int32) I14 _ _ _ h hR hS (hv_sub hl [] rfl)
      · replace h := h.2 c16
        refine lv_iconst (v := (1:Int32)) hx hb dX6_master_134 rfl ?_
        refine lv_goto (tgt := 139) hx hb dX6_master_135 (by decide) ?_
        exact hJ139 (1:Int32) I14 _ _ _ h hR hS (hv_sub hl [] rfl)
    · replace h := h.2.2.2.2.2.2.2.2.2 c5
      refine lv_tableOut (tgt := 140) hx hb dX6_master_16 c5 (by decide) ?_
      refine lv_bipush (v := (-2:Int32)) hx hb dX6_master_140 (by decide) ?_
      exact w_ireti C rfl rfl hR hS h dX6_master_142
set_option maxHeartbeats 4000000 in
set_option maxRecDepth 100000 in
theorem L_X6_row (E : Ev) (l : Launch) {K : MK} {R : MR} {n : Nat} (a0 : Nat) (x1 : Int32) (x2 : Int32) (I : MI) (Q : Int32 → MI → Prop) (h : w_X6_row K R a0 x1 x2 I Q) : MM E l yX6_row cX6_row 4 (some Jvm.ClassFile.FieldType.int) 2 42 0 0 [.ref a0, .int x1, .int x2] K R I n (Qi K R n Q) := by
  refine MM.of1 (by decide) RX6 rfl (cR (cI (cI cN))) (Nat.le_of_ble_eq_true rfl) ?_
  intro p e s m args below meth c ls C hin hR hS hl
  have hx := C.1
  have hb := C.2.1
  have hml := C.2.2.1
  have hown := C.2.2.2.1
  have hts := C.2.2.2.2.1
  have hl : hv ls 4 [(0, .ref a0), (1, .int x1), (2, .int x2)] := hl
  clear hin
  unfold w_X6_row at h
  refine lv_aload_n hx hb dX6_row_0 rfl (hv_at hl 0 rfl) ?_
  obtain ⟨hf1, h⟩ := h
  refine v_get (T := TX6) (v := .ref (a0 + 1)) C hR 0 kfl_X6_10 rfl inG6 (by decide) rfl (IsTag.k hf1) (rf_of (IsTag.r0 hf1 (I a0 0))) dX6_row_1 ?_
  refine lv_iload_n hx hb dX6_row_4 rfl (hv_at hl 1 rfl) ?_
  refine v_cVo (As := [.int x1]) C hR hS hl.1.1 ca_X0_masterAt kml_X6_58 (L_X0_masterAt E l (a0 + 1) x1 I _ h) (IsBus.k (IsTag.o0 hf1)) rfl rfl rfl rfl (Nat.le_of_ble_eq_true rfl) ⟨Nat.le_of_ble_eq_true rfl, Nat.le_of_ble_eq_true rfl⟩ ⟨Nat.zero_le _, Nat.zero_le _⟩ dX6_row_5 (fun o3 I2 H locs h hR hS => ?_)
  refine v_astore_n (o := o3) (lv' := [(3, va_rf o3), (0, .ref a0), (1, .int x1), (2, .int x2)]) hx hb dX6_row_8 rfl hl (by decide) rfl (fun ls hl => ?_)
  refine v_aload_n hx hb dX6_row_9 rfl (hv_at hl 0 rfl) ?_
  refine v_ifnonnull (tgt := 15) hx hb dX6_row_10 (by decide) (fun e_o3 => ?_) (fun r4 e_o3 => ?_)
  · replace h := h.1 e_o3
    have hl : hv ls 4 [(3, .null), (0, .ref a0), (1, .int x1), (2, .int x2)] := by (try rw [e_o3] at hl); exact hl
    try rw [e_o3]
    refine lv_iconst (v := (-1:Int32)) hx hb dX6_row_13 rfl ?_
    exact w_ireti C rfl rfl hR hS h dX6_row_14
  · replace h := h.2 r4 e_o3
    have hl : hv ls 4 [(3, .ref r4), (0, .ref a0), (1, .int x1), (2, .int x2)] := by (try rw [e_o3] at hl); exact hl
    try rw [e_o3]
    refine lv_iload_n hx hb dX6_row_15 rfl (hv_at hl 3 rfl) ?_
    refine lv_if_ge (tgt := 22) hx hb dX6_row_16 (by decide) (fun c8 => ?_) (fun c8 => ?_)
    · replace h := h.1 c8
      refine lv_aload_n hx hb dX6_row_22 rfl (hv_at hl 0 rfl) ?_
      obtain ⟨hf5, h⟩ := h
      refine v_get (T := TX2) (v := .ref (r4 + 1)) C hR 0 kfl_X6_121 rfl inG2 (by decide) rfl (IsMaster.k hf5) (rf_of (IsMaster.r0 hf5 (I2 r4 0))) dX6_row_23 ?_
      refine lv_iload_n hx hb dX6_row_26 rfl (hv_at hl 3 rfl) ?_
      refine v_cVi (As := [.int x2]) C hR hS hl.1.1 ca_X1_at kml_X6_201 (L_X1_at E l (r4 + 1) x2 I2 _ h) (IsLine.k (IsMaster.o0 hf5)) rfl rfl rfl rfl (Nat.le_of_ble_eq_true rfl) ⟨Nat.le_of_ble_eq_true rfl, Nat.le_of_ble_eq_true rfl⟩ ⟨Nat.zero_le _, Nat.zero_le _⟩ dX6_row_27 (fun v7 I6 H locs h hR hS => ?_)
      exact w_ireti C rfl rfl hR hS h dX6_row_30
    · replace h := h.2 c8
      refine lv_bipush (v := (-2:Int32)) hx hb dX6_row_19 (by decide) ?_
      exact w_ireti C rfl rfl hR hS h dX6_row_21
set_option maxHeartbeats 4000000 in
set_option maxRecDepth 100000 in
theorem L_X0_doneIn (E : Ev) (l : Launch) {K : MK} {R : MR} {n : Nat} (a0 : Nat) (o1 : Option Nat) (I : MI) (Q : Int32 → MI → Prop) (h : w_X0_doneIn K R a0 o1 I Q) : MM E l yX0_doneIn cX0_doneIn 5 (some Jvm.ClassFile.FieldType.int) 2 42 0 0 [.ref a0, va_rf o1] K R I n (Qi K R n Q) := by
  refine MM.of1 (by decide) RX0 rfl (cR (cO cN)) (Nat.le_of_ble_eq_true rfl) ?_
  intro p e s m args below meth c ls C hin hR hS hl
  have hx := C.1
  have hb := C.2.1
  have hml := C.2.2.1
  have hown := C.2.2.2.1
  have hts := C.2.2.2.2.1
  have hl : hv ls 5 [(0, .ref a0), (1, va_rf o1)] := hl
  clear hin
  have hJ4 : ∀ (y2_4 : Int32) (y3_4 : Int32) (I : MI) (H : Heap) (locs : List Loc) (ls : Array Slot), w_X0_doneIn_b4 K R a0 o1 Q y2_4 y3_4 I → Rep E K R I n H → va_S (AA E) s.heap H locs → hv ls 5 [(0, .ref a0), (1, va_rf o1), (2, .int y2_4), (3, .int y3_4)] → W p l e (rmM 2 42 0 0) s m args below meth c H locs 0 0 (MQ below (QcM E (Qi K R n Q)) args s 0 0 (AA E)) (F0 m 4 ls []) := by
    intro y2_4 y3_4 I H locs ls h hR hS hl
    obtain ⟨X4, hX4⟩ : ∃ X : Int32 → Int32 → MI → Prop, ∀ (y2_4 : Int32) (y3_4 : Int32) (I : MI), X y2_4 y3_4 I ↔ (∀ (H : Heap) (locs : List Loc) (ls : Array Slot), Rep E K R I n H → va_S (AA E) s.heap H locs → hv ls 5 [(0, .ref a0), (1, va_rf o1), (2, .int y2_4), (3, .int y3_4)] → W p l e (rmM 2 42 0 0) s m args below meth c H locs 0 0 (MQ below (QcM E (Qi K R n Q)) args s 0 0 (AA E)) (F0 m 4 ls [])) := ⟨fun y2_4 y3_4 I => ∀ (H : Heap) (locs : List Loc) (ls : Array Slot), Rep E K R I n H → va_S (AA E) s.heap H locs → hv ls 5 [(0, .ref a0), (1, va_rf o1), (2, .int y2_4), (3, .int y3_4)] → W p l e (rmM 2 42 0 0) s m args below meth c H locs 0 0 (MQ below (QcM E (Qi K R n Q)) args s 0 0 (AA E)) (F0 m 4 ls []), fun _ _ _ => Iff.rfl⟩
    refine (hX4 y2_4 y3_4 I).mp (h X4 ?_) H locs ls hR hS hl
    clear h hR hS hl
    clear ls locs H I y2_4 y3_4
    have hJ46 : ∀ (y2_46 : Int32) (y3_46 : Int32) (I : MI) (H : Heap) (locs : List Loc) (ls : Array Slot), w_X0_doneIn_b46 K R a0 o1 Q X4 y2_46 y3_46 I → Rep E K R I n H → va_S (AA E) s.heap H locs → hv ls 5 [(0, .ref a0), (1, va_rf o1), (2, .int y2_46), (3, .int y3_46)] → W p l e (rmM 2 42 0 0) s m args below meth c H locs 0 0 (MQ below (QcM E (Qi K R n Q)) args s 0 0 (AA E)) (F0 m 46 ls []) := by
      intro y2_46 y3_46 I H locs ls h hR hS hl
      unfold w_X0_doneIn_b46 at h
      refine v_iinc (v := y3_46 + (1:Int32)) (k := 3) (lv' := [(3, .int (y3_46 + (1:Int32))), (0, .ref a0), (1, va_rf o1), (2, .int y2_46)]) hx hb dX0_doneIn_46 hl rfl rfl (by decide) rfl (fun ls hl => ?_)
      refine lv_goto (tgt := 4) hx hb dX0_doneIn_49 (by decide) ?_
      exact (hX4 y2_46 (y3_46 + (1:Int32)) I).mp h _ _ _ hR hS (hv_sub hl [1, 2, 3, 0] rfl)
    intro y2_4 y3_4 I h
    refine (hX4 y2_4 y3_4 I).mpr ?_
    intro H locs ls hR hS hl
    unfold w_X0_doneIn_b4_body at h
    refine lv_iload_n hx hb dX0_doneIn_4 rfl (hv_at hl 3 rfl) ?_
    refine v_aload_n hx hb dX0_doneIn_5 rfl (hv_at hl 1 rfl) ?_
    obtain ⟨r1, e_o1, h⟩ := h
    have hl : hv ls 5 [(0, .ref a0), (1, .ref r1), (2, .int y2_4), (3, .int y3_4)] := by (try rw [e_o1] at hl); exact hl
    try rw [e_o1]
    obtain ⟨hf2, h⟩ := h
    refine v_get (T := TX5) (v := .ref (r1 + 3)) C hR 2 kfl_X0_128 rfl inG5 (by decide) rfl (IsTarget.k hf2) (rf_of (IsTarget.r2 hf2 (I r1 2))) dX0_doneIn_6 ?_
    refine v_get (T := TX1) (v := .int (I (r1 + 3) 1)) C hR 1 kfl_X0_108 rfl inG1 (by decide) rfl (IsLine.k (IsTarget.o2 hf2)) rfl dX0_doneIn_9 ?_
    refine lv_icmp_ge (tgt := 52) hx hb dX0_doneIn_12 (by decide) (fun c11 => ?_) (fun c11 => ?_)
    · replace h := h.1 c11
      refine lv_iload_n hx hb dX0_doneIn_52 rfl (hv_at hl 2 rfl) ?_
      exact w_ireti C rfl rfl hR hS h dX0_doneIn_53
    · replace h := h.2 c11
      refine lv_aload_n hx hb dX0_doneIn_15 rfl (hv_at hl 0 rfl) ?_
      refine lv_aload_n hx hb dX0_doneIn_16 rfl (hv_at hl 1 rfl) ?_
      refine v_get (T := TX5) (v := .ref (r1 + 3)) C hR 2 kfl_X0_128 rfl inG5 (by decide) rfl (IsTarget.k hf2) (rf_of (IsTarget.r2 hf2 (I r1 2))) dX0_doneIn_17 ?_
      refine lv_iload_n hx hb dX0_doneIn_20 rfl (hv_at hl 3 rfl) ?_
      refine v_cVi (As := [.int y3_4]) C hR hS hl.1.1 ca_X1_at kml_X0_111 (L_X1_at E l (r1 + 3) y3_4 I _ h) (IsLine.k (IsTarget.o2 hf2)) rfl rfl rfl rfl (Nat.le_of_ble_eq_true rfl) ⟨Nat.le_of_ble_eq_true rfl, Nat.le_of_ble_eq_true rfl⟩ ⟨Nat.zero_le _, Nat.zero_le _⟩ dX0_doneIn_21 (fun v4 I3 H locs h hR hS => ?_)
      obtain ⟨hf5, h⟩ := h
      refine v_cVo (As := [.int v4]) C hR hS hl.1.1 ca_X0_questionAt kml_X0_121 (L_X0_questionAt E l a0 v4 I3 _ h) (IsBus.k hf5) rfl rfl rfl rfl (Nat.le_of_ble_eq_true rfl) ⟨Nat.le_of_ble_eq_true rfl, Nat.le_of_ble_eq_true rfl⟩ ⟨Nat.zero_le _, Nat.zero_le _⟩ dX0_doneIn_24 (fun o7 I6 H locs h hR hS => ?_)
      refine v_astore (o := o7) (lv' := [(4, va_rf o7), (0, .ref a0), (1, .ref r1), (2, .int y2_4), (3, .int y3_4)]) hx hb dX0_doneIn_27 hl (by decide) rfl (fun ls hl => ?_)
      refine v_aload hx hb dX0_doneIn_29 (hv_at hl 0 rfl) ?_
      refine v_ifnull (tgt := 46) hx hb dX0_doneIn_31 (by decide) (fun e_o7 => ?_) (fun r8 e_o7 => ?_)
      · replace h := h.1 e_o7
        have hl : hv ls 5 [(4, .null), (0, .ref a0), (1, .ref r1), (2, .int y2_4), (3, .int y3_4)] := by (try rw [e_o7] at hl); exact hl
        try rw [e_o7]
        exact hJ46 y2_4 y3_4 I6 _ _ _ h hR hS (hv_sub hl [1, 2, 3, 4] (by rw [e_o1]; rfl))
      · replace h := h.2 r8 e_o7
        have hl : hv ls 5 [(4, .ref r8), (0, .ref a0), (1, .ref r1), (2, .int y2_4), (3, .int y3_4)] := by (try rw [e_o7] at hl); exact hl
        try rw [e_o7]
        refine lv_aload hx hb dX0_doneIn_34 (hv_at hl 0 rfl) ?_
        obtain ⟨hf9, h⟩ := h
        refine v_get (T := TX3) (v := .int (I6 r8 4)) C hR 4 kfl_X0_125 rfl inG3 (by decide) rfl hf9 rfl dX0_doneIn_36 ?_
        refine lv_iconst (v := (2:Int32)) hx hb dX0_doneIn_39 rfl ?_
        refine lv_icmp_ne (tgt := 46) hx hb dX0_doneIn_40 (by decide) (fun c10 => ?_) (fun c10 => ?_)
        · replace h := h.1 c10
          exact hJ46 y2_4 y3_4 I6 _ _ _ h hR hS (hv_sub hl [1, 2, 3, 4] (by rw [e_o1]; rfl))
        · replace h := h.2 c10
          refine v_iinc (v := y2_4 + (1:Int32)) (k := 3) (lv' := [(2, .int (y2_4 + (1:Int32))), (4, .ref r8), (0, .ref a0), (1, .ref r1), (3, .int y3_4)]) hx hb dX0_doneIn_43 hl rfl rfl (by decide) rfl (fun ls hl => ?_)
          exact hJ46 (y2_4 + (1:Int32)) y3_4 I6 _ _ _ h hR hS (hv_sub hl [2, 3, 0, 4] (by rw [e_o1]; rfl))
  unfold w_X0_doneIn at h
  refine lv_iconst (v := (0:Int32)) hx hb dX0_doneIn_0 rfl ?_
  refine v_istore_n (lv' := [(2, .int (0:Int32)), (0, .ref a0), (1, va_rf o1)]) hx hb dX0_doneIn_1 rfl hl (by decide) rfl (fun ls hl => ?_)
  refine lv_iconst (v := (0:Int32)) hx hb dX0_doneIn_2 rfl ?_
  refine v_istore_n (lv' := [(3, .int (0:Int32)), (2, .int (0:Int32)), (0, .ref a0), (1, va_rf o1)]) hx hb dX0_doneIn_3 rfl hl (by decide) rfl (fun ls hl => ?_)
  exact hJ4 (0:Int32) (0:Int32) I _ _ _ h hR hS (hv_sub hl [2, 3, 1, 0] rfl)
set_option maxHeartbeats 4000000 in
set_option maxRecDepth 100000 in
theorem L_X6_target (E : Ev) (l : Launch) {K : MK} {R : MR} {n : Nat} (a0 : Nat) (x1 : Int32) (x2 : Int32) (I : MI) (Q : Int32 → MI → Prop) (h : w_X6_target K R a0 x1 x2 I Q) : MM E l yX6_target cX6_target 4 (some Jvm.ClassFile.FieldType.int) 3 69 0 0 [.ref a0, .int x1, .int x2] K R I n (Qi K R n Q) := by
  refine MM.of1 (by decide) RX6 rfl (cR (cI (cI cN))) (Nat.le_of_ble_eq_true rfl) ?_
  intro p e s m args below meth c ls C hin hR hS hl
  have hx := C.1
  have hb := C.2.1
  have hml := C.2.2.1
  have hown := C.2.2.2.1
  have hts := C.2.2.2.2.1
  have hl : hv ls 4 [(0, .ref a0), (1, .int x1), (2, .int x2)] := hl
  clear hin
  unfold w_X6_target at h
  refine lv_aload_n hx hb dX6_target_0 rfl (hv_at hl 0 rfl) ?_
  obtain ⟨hf1, h⟩ := h
  refine v_get (T := TX6) (v := .ref (a0 + 1)) C hR 0 kfl_X6_10 rfl inG6 (by decide) rfl (IsTag.k hf1) (rf_of (IsTag.r0 hf1 (I a0 0))) dX6_target_1 ?_
  refine lv_iload_n hx hb dX6_target_4 rfl (hv_at hl 1 rfl) ?_
  refine v_cVo (As := [.int x1]) C hR hS hl.1.1 ca_X0_targetAt kml_X6_68 (L_X0_targetAt E l (a0 + 1) x1 I _ h) (IsBus.k (IsTag.o0 hf1)) rfl rfl rfl rfl (Nat.le_of_ble_eq_true rfl) ⟨Nat.le_of_ble_eq_true rfl, Nat.le_of_ble_eq_true rfl⟩ ⟨Nat.zero_le _, Nat.zero_le _⟩ dX6_target_5 (fun o3 I2 H locs h hR hS => ?_)
  refine v_astore_n (o := o3) (lv' := [(3, va_rf o3), (0, .ref a0), (1, .int x1), (2, .int x2)]) hx hb dX6_target_8 rfl hl (by decide) rfl (fun ls hl => ?_)
  refine v_aload_n hx hb dX6_target_9 rfl (hv_at hl 0 rfl) ?_
  refine v_ifnonnull (tgt := 15) hx hb dX6_target_10 (by decide) (fun e_o3 => ?_) (fun r4 e_o3 => ?_)
  · replace h := h.1 e_o3
    have hl : hv ls 4 [(3, .null), (0, .ref a0), (1, .int x1), (2, .int x2)] := by (try rw [e_o3] at hl); exact hl
    try rw [e_o3]
    refine lv_iconst (v := (-1:Int32)) hx hb dX6_target_13 rfl ?_
    exact w_ireti C rfl rfl hR hS h dX6_target_14
  · replace h := h.2 r4 e_o3
    have hl : hv ls 4 [(3, .ref r4), (0, .ref a0), (1, .int x1), (2, .int x2)] := by (try rw [e_o3] at hl); exact hl
    try rw [e_o3]
    refine lv_iload_n hx hb dX6_target_15 rfl (hv_at hl 3 rfl) ?_
    rcases sw_0_5 x2 with c5 | c5 | c5 | c5 | c5 | c5 | c5
    · replace h := h.1 c5
      refine v_tblIn (tgt := 56) hx hb (v := (0:Int32)) dX6_target_16 c5 (by decide) (by decide) rfl (by decide) ?_
      refine lv_aload_n hx hb dX6_target_56 rfl (hv_at hl 0 rfl) ?_
      obtain ⟨hf6, h⟩ := h
      refine v_get (T := TX5) (v := .ref (r4 + 2)) C hR 1 kfl_X6_78 rfl inG5 (by decide) rfl (IsTarget.k hf6) (rf_of (IsTarget.r1 hf6 (I2 r4 1))) dX6_target_57 ?_
      refine lv_iconst (v := (0:Int32)) hx hb dX6_target_60 rfl ?_
      refine w_iald C hR (IsTarget.a1 hf6) (show vp_in (0:Int32) 3 by unfold vp_in; decide) (j := 0) (by decide) dX6_target_61 ?_
      exact w_ireti C rfl rfl hR hS h dX6_target_62
    · replace h := h.2.1 c5
      refine v_tblIn (tgt := 63) hx hb (v := (1:Int32)) dX6_target_16 c5 (by decide) (by decide) rfl (by decide) ?_
      refine lv_aload_n hx hb dX6_target_63 rfl (hv_at hl 0 rfl) ?_
      obtain ⟨hf7, h⟩ := h
      refine v_get (T := TX5) (v := .ref (r4 + 2)) C hR 1 kfl_X6_78 rfl inG5 (by decide) rfl (IsTarget.k hf7) (rf_of (IsTarget.r1 hf7 (I2 r4 1))) dX6_target_64 ?_
      refine lv_iconst (v := (1:Int32)) hx hb dX6_target_67 rfl ?_
      refine w_iald C hR (IsTarget.a1 hf7) (show vp_in (1:Int32) 3 by unfold vp_in; decide) (j := 1) (by decide) dX6_target_68 ?_
      exact w_ireti C rfl rfl hR hS h dX6_target_69
    · replace h := h.2.2.1 c5
      refine v_tblIn (tgt := 70) hx hb (v := (2:Int32)) dX6_target_16 c5 (by decide) (by decide) rfl (by decide) ?_
      refine lv_aload_n hx hb dX6_target_70 rfl (hv_at hl 0 rfl) ?_
      obtain ⟨hf8, h⟩ := h
      refine v_get (T := TX5) (v := .ref (r4 + 2)) C hR 1 kfl_X6_78 rfl inG5 (by decide) rfl (IsTarget.k hf8) (rf_of (IsTarget.r1 hf8 (I2 r4 1))) dX6_target_71 ?_
      refine lv_iconst (v := (2:Int32)) hx hb dX6_target_74 rfl ?_
      refine w_iald C hR (IsTarget.a1 hf8) (show vp_in (2:Int32) 3 by unfold vp_in; decide) (j := 2) (by decide) dX6_target_75 ?_
      exact w_ireti C rfl rfl hR hS h dX6_target_76
    · replace h := h.2.2.2.1 c5
      refine v_tblIn (tgt := 77) hx hb (v := (3:Int32)) dX6_target_16 c5 (by decide) (by decide) rfl (by decide) ?_
      refine lv_aload_n hx hb dX6_target_77 rfl (hv_at hl 0 rfl) ?_
      obtain ⟨hf9, h⟩ := h
      refine v_get (T := TX5) (v := .ref (r4 + 3)) C hR 2 kfl_X6_205 rfl inG5 (by decide) rfl (IsTarget.k hf9) (rf_of (IsTarget.r2 hf9 (I2 r4 2))) dX6_target_78 ?_
      refine v_get (T := TX1) (v := .int (I2 (r4 + 3) 1)) C hR 1 kfl_X6_125 rfl inG1 (by decide) rfl (IsLine.k (IsTarget.o2 hf9)) rfl dX6_target_81 ?_
      exact w_ireti C rfl rfl hR hS h dX6_target_84
    · replace h := h.2.2.2.2.1 c5
      refine v_tblIn (tgt := 85) hx hb (v := (4:Int32)) dX6_target_16 c5 (by decide) (by decide) rfl (by decide) ?_
      refine lv_aload_n hx hb dX6_target_85 rfl (hv_at hl 1 rfl) ?_
      refine v_get (T := TX6) (v := .ref (a0 + 1)) C hR 0 kfl_X6_10 rfl inG6 (by decide) rfl (IsTag.k hf1) (rf_of (IsTag.r0 hf1 (I2 a0 0))) dX6_target_86 ?_
      refine lv_aload_n hx hb dX6_target_89 rfl (hv_at hl 0 rfl) ?_
      refine v_cVi (As := [.ref r4]) C hR hS hl.1.1 ca_X0_doneIn kml_X6_208 (L_X0_doneIn E l (a0 + 1) (some r4) I2 _ h) (IsBus.k (IsTag.o0 hf1)) rfl rfl rfl rfl (Nat.le_of_ble_eq_true rfl) ⟨Nat.le_of_ble_eq_true rfl, Nat.le_of_ble_eq_true rfl⟩ ⟨Nat.zero_le _, Nat.zero_le _⟩ dX6_target_90 (fun v11 I10 H locs h hR hS => ?_)
      exact w_ireti C rfl rfl hR hS h dX6_target_93
    · replace h := h.2.2.2.2.2.1 c5
      refine v_tblIn (tgt := 94) hx hb (v := (5:Int32)) dX6_target_16 c5 (by decide) (by decide) rfl (by decide) ?_
      refine lv_aload_n hx hb dX6_target_94 rfl (hv_at hl 0 rfl) ?_
      obtain ⟨hf12, h⟩ := h
      refine v_get (T := TX5) (v := .ref (r4 + 3)) C hR 2 kfl_X6_205 rfl inG5 (by decide) rfl (IsTarget.k hf12) (rf_of (IsTarget.r2 hf12 (I2 r4 2))) dX6_target_95 ?_
      refine lv_aload_n hx hb dX6_target_98 rfl (hv_at hl 1 rfl) ?_
      refine v_get (T := TX6) (v := .ref (a0 + 1)) C hR 0 kfl_X6_10 rfl inG6 (by decide) rfl (IsTag.k hf1) (rf_of (IsTag.r0 hf1 (I2 a0 0))) dX6_target_99 ?_
      refine lv_aload_n hx hb dX6_target_102 rfl (hv_at hl 0 rfl) ?_
      refine v_cVi (As := [.ref r4]) C hR hS hl.1.1 ca_X0_placeOfAnswer kml_X6_212 (L_X0_placeOfAnswer E l (a0 + 1) (some r4) I2 _ h) (IsBus.k (IsTag.o0 hf1)) rfl rfl rfl rfl (Nat.le_of_ble_eq_true rfl) ⟨Nat.le_of_ble_eq_true rfl, Nat.le_of_ble_eq_true rfl⟩ ⟨Nat.zero_le _, Nat.zero_le _⟩ dX6_target_103 (fun v14 I13 H locs h hR hS => ?_)
      refine v_cVi (As := [.int v14]) C hR hS hl.1.1 ca_X1_at kml_X6_201 (L_X1_at E l (r4 + 3) v14 I13 _ h) (IsLine.k (IsTarget.o2 hf12)) rfl rfl rfl rfl (Nat.le_of_ble_eq_true rfl) ⟨Nat.le_of_ble_eq_true rfl, Nat.le_of_ble_eq_true rfl⟩ ⟨Nat.zero_le _, Nat.zero_le _⟩ dX6_target_106 (fun v16 I15 H locs h hR hS => ?_)
      exact w_ireti C rfl rfl hR hS h dX6_target_109
    · replace h := h.2.2.2.2.2.2 c5
      refine lv_tableOut (tgt := 110) hx hb dX6_target_16 c5 (by decide) ?_
      refine lv_bipush (v := (-2:Int32)) hx hb dX6_target_110 (by decide) ?_
      exact w_ireti C rfl rfl hR hS h dX6_target_112
set_option maxHeartbeats 4000000 in
set_option maxRecDepth 100000 in
theorem L_X6_next (E : Ev) (l : Launch) {K : MK} {R : MR} {n : Nat} (a0 : Nat) (x1 : Int32) (I : MI) (Q : Int32 → MI → Prop) (h : w_X6_next K R a0 x1 I Q) : MM E l yX6_next cX6_next 3 (some Jvm.ClassFile.FieldType.int) 6 138 0 0 [.ref a0, .int x1] K R I n (Qi K R n Q) := by
  refine MM.of1 (by decide) RX6 rfl (cR (cI cN)) (Nat.le_of_ble_eq_true rfl) ?_
  intro p e s m args below meth c ls C hin hR hS hl
  have hx := C.1
  have hb := C.2.1
  have hml := C.2.2.1
  have hown := C.2.2.2.1
  have hts := C.2.2.2.2.1
  have hl : hv ls 3 [(0, .ref a0), (1, .int x1)] := hl
  clear hin
  have hJ55 : ∀ (z0_55 : Int32) (I : MI) (H : Heap) (locs : List Loc) (ls : Array Slot), w_X6_next_b55 K R a0 x1 Q z0_55 I → Rep E K R I n H → va_S (AA E) s.heap H locs → hv ls 3 [] → W p l e (rmM 6 138 0 0) s m args below meth c H locs 0 0 (MQ below (QcM E (Qi K R n Q)) args s 0 0 (AA E)) (F0 m 55 ls [.int z0_55]) := by
    intro z0_55 I H locs ls h hR hS hl
    unfold w_X6_next_b55 at h
    exact w_ireti C rfl rfl hR hS h dX6_next_55
  have hJ12 : ∀ (I : MI) (H : Heap) (locs : List Loc) (ls : Array Slot), w_X6_next_b12 K R a0 x1 Q  I → Rep E K R I n H → va_S (AA E) s.heap H locs → hv ls 3 [(0, .ref a0), (1, .int x1)] → W p l e (rmM 6 138 0 0) s m args below meth c H locs 0 0 (MQ below (QcM E (Qi K R n Q)) args s 0 0 (AA E)) (F0 m 12 ls []) := by
    intro  I H locs ls h hR hS hl
    unfold w_X6_next_b12 at h
    refine lv_aload_n hx hb dX6_next_12 rfl (hv_at hl 0 rfl) ?_
    obtain ⟨hf1, h⟩ := h
    refine v_get (T := TX6) (v := .ref (a0 + 239)) C hR 1 kfl_X6_16 rfl inG6 (by decide) rfl (IsTag.k hf1) (rf_of (IsTag.r1 hf1 (I a0 1))) dX6_next_13 ?_
    refine lv_aload_n hx hb dX6_next_16 rfl (hv_at hl 0 rfl) ?_
    refine v_get (T := TX6) (v := .ref (a0 + 1)) C hR 0 kfl_X6_10 rfl inG6 (by decide) rfl (IsTag.k hf1) (rf_of (IsTag.r0 hf1 (I a0 0))) dX6_next_17 ?_
    refine v_cVv (As := [.ref (a0 + 1)]) C hR hS hl.1.1 ca_X0_copyFrom kml_X6_148 (L_X0_copyFrom E l (a0 + 239) (some (a0 + 1)) I _ h) (IsBus.k (IsTag.o1 hf1)) rfl rfl rfl rfl (Nat.le_of_ble_eq_true rfl) ⟨Nat.le_of_ble_eq_true rfl, Nat.le_of_ble_eq_true rfl⟩ ⟨Nat.zero_le _, Nat.zero_le _⟩ dX6_next_20 (fun I2 H locs h hR hS => ?_)
    refine lv_aload_n hx hb dX6_next_23 rfl (hv_at hl 0 rfl) ?_
    refine v_get (T := TX6) (v := .ref (a0 + 239)) C hR 1 kfl_X6_16 rfl inG6 (by decide) rfl (IsTag.k hf1) (rf_of (IsTag.r1 hf1 (I2 a0 1))) dX6_next_24 ?_
    refine v_cVi (As := []) C hR hS hl.1.1 ca_X0_passTick kml_X6_137 (L_X0_passTick E l (a0 + 239) I2 _ h) (IsBus.k (IsTag.o1 hf1)) rfl rfl rfl rfl (Nat.le_of_ble_eq_true rfl) ⟨Nat.le_of_ble_eq_true rfl, Nat.le_of_ble_eq_true rfl⟩ ⟨Nat.zero_le _, Nat.zero_le _⟩ dX6_next_27 (fun v4 I3 H locs h hR hS => ?_)
    refine v_istore_n (lv' := [(2, .int v4), (0, .ref a0), (1, .int x1)]) hx hb dX6_next_30 rfl hl (by decide) rfl (fun ls hl => ?_)
    refine lv_iload_n hx hb dX6_next_31 rfl (hv_at hl 0 rfl) ?_
    refine lv_bipush (v := (-5:Int32)) hx hb dX6_next_32 (by decide) ?_
    refine lv_icmp_ne (tgt := 40) hx hb dX6_next_34 (by decide) (fun c6 => ?_) (fun c6 => ?_)
    · replace h := h.1 c6
      refine lv_iload_n hx hb dX6_next_40 rfl (hv_at hl 2 rfl) ?_
      refine lv_if_ne (tgt := 48) hx hb dX6_next_41 (by decide) (fun c5 => ?_) (fun c5 => ?_)
      · replace h := h.1 c5
        refine lv_aload_n hx hb dX6_next_48 rfl (hv_at hl 1 rfl) ?_
        refine v_get (T := TX6) (v := .ref (a0 + 239)) C hR 1 kfl_X6_16 rfl inG6 (by decide) rfl (IsTag.k hf1) (rf_of (IsTag.r1 hf1 (I3 a0 1))) dX6_next_49 ?_
        refine v_get (T := TX0) (v := .int (I3 (a0 + 239) 7)) C hR 7 kfl_X6_215 rfl inG0 (by decide) rfl (IsBus.k (IsTag.o1 hf1)) rfl dX6_next_52 ?_
        exact hJ55 (I3 (a0 + 239) 7) I3 _ _ _ h hR hS (hv_sub hl [] rfl)
      · replace h := h.2 c5
        refine lv_iload_n hx hb dX6_next_44 rfl (hv_at hl 0 rfl) ?_
        refine lv_goto (tgt := 55) hx hb dX6_next_45 (by decide) ?_
        exact hJ55 v4 I3 _ _ _ h hR hS (hv_sub hl [] rfl)
    · replace h := h.2 c6
      refine lv_bipush (v := (-5:Int32)) hx hb dX6_next_37 (by decide) ?_
      exact w_ireti C rfl rfl hR hS h dX6_next_39
  unfold w_X6_next at h
  refine lv_iload_n hx hb dX6_next_0 rfl (hv_at hl 1 rfl) ?_
  refine lv_if_eq (tgt := 12) hx hb dX6_next_1 (by decide) (fun c8 => ?_) (fun c8 => ?_)
  · replace h := h.1 c8
    exact hJ12 I _ _ _ h hR hS (hv_sub hl [0, 1] rfl)
  · replace h := h.2 c8
    refine lv_iload_n hx hb dX6_next_4 rfl (hv_at hl 1 rfl) ?_
    refine lv_iconst (v := (1:Int32)) hx hb dX6_next_5 rfl ?_
    refine lv_icmp_eq (tgt := 12) hx hb dX6_next_6 (by decide) (fun c7 => ?_) (fun c7 => ?_)
    · replace h := h.1 c7
      exact hJ12 I _ _ _ h hR hS (hv_sub hl [0, 1] rfl)
    · replace h := h.2 c7
      refine lv_bipush (v := (-2:Int32)) hx hb dX6_next_9 (by decide) ?_
      exact w_ireti C rfl rfl hR hS h dX6_next_11
set_option maxHeartbeats 4000000 in
set_option maxRecDepth 100000 in
theorem L_X6_answeredIn (E : Ev) (l : Launch) {K : MK} {R : MR} {n : Nat} (a0 : Nat) (x1 : Int32) (I : MI) (Q : Int32 → MI → Prop) (h : w_X6_answeredIn K R a0 x1 I Q) : MM E l yX6_answeredIn cX6_answeredIn 4 (some Jvm.ClassFile.FieldType.int) 6 138 0 0 [.ref a0, .int x1] K R I n (Qi K R n Q) := by
  refine MM.of1 (by decide) RX6 rfl (cR (cI cN)) (Nat.le_of_ble_eq_true rfl) ?_
  intro p e s m args below meth c ls C hin hR hS hl
  have hx := C.1
  have hb := C.2.1
  have hml := C.2.2.1
  have hown := C.2.2.2.1
  have hts := C.2.2.2.2.1
  have hl : hv ls 4 [(0, .ref a0), (1, .int x1)] := hl
  clear hin
  have hJ31 : ∀ (I : MI) (H : Heap) (locs : List Loc) (ls : Array Slot), w_X6_answeredIn_b31 K R a0 x1 Q  I → Rep E K R I n H → va_S (AA E) s.heap H locs → hv ls 4 [] → W p l e (rmM 6 138 0 0) s m args below meth c H locs 0 0 (MQ below (QcM E (Qi K R n Q)) args s 0 0 (AA E)) (F0 m 31 ls []) := by
    intro  I H locs ls h hR hS hl
    unfold w_X6_answeredIn_b31 at h
    refine lv_bipush (v := (-4:Int32)) hx hb dX6_answeredIn_31 (by decide) ?_
    exact w_ireti C rfl rfl hR hS h dX6_answeredIn_33
  have hJ47 : ∀ (y3_47 : Int32) (I : MI) (H : Heap) (locs : List Loc) (ls : Array Slot), w_X6_answeredIn_b47 K R a0 x1 Q y3_47 I → Rep E K R I n H → va_S (AA E) s.heap H locs → hv ls 4 [(0, .ref a0), (1, .int x1), (3, .int y3_47)] → W p l e (rmM 6 138 0 0) s m args below meth c H locs 0 0 (MQ below (QcM E (Qi K R n Q)) args s 0 0 (AA E)) (F0 m 47 ls []) := by
    intro y3_47 I H locs ls h hR hS hl
    obtain ⟨X47, hX47⟩ : ∃ X : Int32 → MI → Prop, ∀ (y3_47 : Int32) (I : MI), X y3_47 I ↔ (∀ (H : Heap) (locs : List Loc) (ls : Array Slot), Rep E K R I n H → va_S (AA E) s.heap H locs → hv ls 4 [(0, .ref a0), (1, .int x1), (3, .int y3_47)] → W p l e (rmM 6 138 0 0) s m args below meth c H locs 0 0 (MQ below (QcM E (Qi K R n Q)) args s 0 0 (AA E)) (F0 m 47 ls [])) := ⟨fun y3_47 I => ∀ (H : Heap) (locs : List Loc) (ls : Array Slot), Rep E K R I n H → va_S (AA E) s.heap H locs → hv ls 4 [(0, .ref a0), (1, .int x1), (3, .int y3_47)] → W p l e (rmM 6 138 0 0) s m args below meth c H locs 0 0 (MQ below (QcM E (Qi K R n Q)) args s 0 0 (AA E)) (F0 m 47 ls []), fun _ _ => Iff.rfl⟩
    refine (hX47 y3_47 I).mp (h X47 ?_) H locs ls hR hS hl
    clear h hR hS hl
    clear ls locs H I y3_47
    have hJ78 : ∀ (y3_78 : Int32) (I : MI) (H : Heap) (locs : List Loc) (ls : Array Slot), w_X6_answeredIn_b78 K R a0 x1 Q X47 y3_78 I → Rep E K R I n H → va_S (AA E) s.heap H locs → hv ls 4 [(0, .ref a0), (1, .int x1), (3, .int y3_78)] → W p l e (rmM 6 138 0 0) s m args below meth c H locs 0 0 (MQ below (QcM E (Qi K R n Q)) args s 0 0 (AA E)) (F0 m 78 ls []) := by
      intro y3_78 I H locs ls h hR hS hl
      unfold w_X6_answeredIn_b78 at h
      refine v_iinc (v := y3_78 + (1:Int32)) (k := 2) (lv' := [(3, .int (y3_78 + (1:Int32))), (0, .ref a0), (1, .int x1)]) hx hb dX6_answeredIn_78 hl rfl rfl (by decide) rfl (fun ls hl => ?_)
      refine lv_goto (tgt := 47) hx hb dX6_answeredIn_81 (by decide) ?_
      exact (hX47 (y3_78 + (1:Int32)) I).mp h _ _ _ hR hS (hv_sub hl [1, 2, 0] rfl)
    intro y3_47 I h
    refine (hX47 y3_47 I).mpr ?_
    intro H locs ls hR hS hl
    unfold w_X6_answeredIn_b47_body at h
    refine lv_iload_n hx hb dX6_answeredIn_47 rfl (hv_at hl 2 rfl) ?_
    refine lv_sipush (v := (999:Int32)) hx hb dX6_answeredIn_48 (by decide) ?_
    refine lv_icmp_gt (tgt := 84) hx hb dX6_answeredIn_51 (by decide) (fun c6 => ?_) (fun c6 => ?_)
    · replace h := h.1 c6
      refine lv_bipush (v := (-5:Int32)) hx hb dX6_answeredIn_84 (by decide) ?_
      exact w_ireti C rfl rfl hR hS h dX6_answeredIn_86
    · replace h := h.2 c6
      refine lv_aload_n hx hb dX6_answeredIn_54 rfl (hv_at hl 0 rfl) ?_
      obtain ⟨hf1, h⟩ := h
      refine v_get (T := TX6) (v := .ref (a0 + 239)) C hR 1 kfl_X6_16 rfl inG6 (by decide) rfl (IsTag.k hf1) (rf_of (IsTag.r1 hf1 (I a0 1))) dX6_answeredIn_55 ?_
      refine v_cVi (As := []) C hR hS hl.1.1 ca_X0_passTick kml_X6_137 (L_X0_passTick E l (a0 + 239) I _ h) (IsBus.k (IsTag.o1 hf1)) rfl rfl rfl rfl (Nat.le_of_ble_eq_true rfl) ⟨Nat.le_of_ble_eq_true rfl, Nat.le_of_ble_eq_true rfl⟩ ⟨Nat.zero_le _, Nat.zero_le _⟩ dX6_answeredIn_58 (fun v3 I2 H locs h hR hS => ?_)
      refine lv_iload_n hx hb dX6_answeredIn_61 rfl (hv_at hl 1 rfl) ?_
      refine lv_icmp_ne (tgt := 78) hx hb dX6_answeredIn_62 (by decide) (fun c5 => ?_) (fun c5 => ?_)
      · replace h := h.1 c5
        exact hJ78 y3_47 I2 _ _ _ h hR hS (hv_sub hl [0, 1, 2] rfl)
      · replace h := h.2 c5
        refine lv_aload_n hx hb dX6_answeredIn_65 rfl (hv_at hl 0 rfl) ?_
        refine v_get (T := TX6) (v := .ref (a0 + 239)) C hR 1 kfl_X6_16 rfl inG6 (by decide) rfl (IsTag.k hf1) (rf_of (IsTag.r1 hf1 (I2 a0 1))) dX6_answeredIn_66 ?_
        refine v_get (T := TX0) (v := .int (I2 (a0 + 239) 7)) C hR 7 kfl_X6_215 rfl inG0 (by decide) rfl (IsBus.k (IsTag.o1 hf1)) rfl dX6_answeredIn_69 ?_
        refine lv_iconst (v := (1:Int32)) hx hb dX6_answeredIn_72 rfl ?_
        refine lv_icmp_ne (tgt := 78) hx hb dX6_answeredIn_73 (by decide) (fun c4 => ?_) (fun c4 => ?_)
        · replace h := h.1 c4
          exact hJ78 y3_47 I2 _ _ _ h hR hS (hv_sub hl [0, 1, 2] rfl)
        · replace h := h.2 c4
          refine lv_iload_n hx hb dX6_answeredIn_76 rfl (hv_at hl 2 rfl) ?_
          exact w_ireti C rfl rfl hR hS h dX6_answeredIn_77
  unfold w_X6_answeredIn at h
  refine lv_aload_n hx hb dX6_answeredIn_0 rfl (hv_at hl 0 rfl) ?_
  obtain ⟨hf7, h⟩ := h
  refine v_get (T := TX6) (v := .ref (a0 + 1)) C hR 0 kfl_X6_10 rfl inG6 (by decide) rfl (IsTag.k hf7) (rf_of (IsTag.r0 hf7 (I a0 0))) dX6_answeredIn_1 ?_
  refine lv_iload_n hx hb dX6_answeredIn_4 rfl (hv_at hl 1 rfl) ?_
  refine v_cVo (As := [.int x1]) C hR hS hl.1.1 ca_X0_questionAt kml_X6_156 (L_X0_questionAt E l (a0 + 1) x1 I _ h) (IsBus.k (IsTag.o0 hf7)) rfl rfl rfl rfl (Nat.le_of_ble_eq_true rfl) ⟨Nat.le_of_ble_eq_true rfl, Nat.le_of_ble_eq_true rfl⟩ ⟨Nat.zero_le _, Nat.zero_le _⟩ dX6_answeredIn_5 (fun o9 I8 H locs h hR hS => ?_)
  refine v_astore_n (o := o9) (lv' := [(2, va_rf o9), (0, .ref a0), (1, .int x1)]) hx hb dX6_answeredIn_8 rfl hl (by decide) rfl (fun ls hl => ?_)
  refine v_aload_n hx hb dX6_answeredIn_9 rfl (hv_at hl 0 rfl) ?_
  refine v_ifnonnull (tgt := 15) hx hb dX6_answeredIn_10 (by decide) (fun e_o9 => ?_) (fun r10 e_o9 => ?_)
  · replace h := h.1 e_o9
    have hl : hv ls 4 [(2, .null), (0, .ref a0), (1, .int x1)] := by (try rw [e_o9] at hl); exact hl
    try rw [e_o9]
    refine lv_iconst (v := (-1:Int32)) hx hb dX6_answeredIn_13 rfl ?_
    exact w_ireti C rfl rfl hR hS h dX6_answeredIn_14
  · replace h := h.2 r10 e_o9
    have hl : hv ls 4 [(2, .ref r10), (0, .ref a0), (1, .int x1)] := by (try rw [e_o9] at hl); exact hl
    try rw [e_o9]
    refine lv_aload_n hx hb dX6_answeredIn_15 rfl (hv_at hl 0 rfl) ?_
    obtain ⟨hf11, h⟩ := h
    refine v_get (T := TX3) (v := .int (I8 r10 4)) C hR 4 kfl_X6_157 rfl inG3 (by decide) rfl hf11 rfl dX6_answeredIn_16 ?_
    refine lv_iconst (v := (3:Int32)) hx hb dX6_answeredIn_19 rfl ?_
    refine lv_icmp_eq (tgt := 31) hx hb dX6_answeredIn_20 (by decide) (fun c14 => ?_) (fun c14 => ?_)
    · replace h := h.1 c14
      exact hJ31 I8 _ _ _ h hR hS (hv_sub hl [] rfl)
    · replace h := h.2 c14
      refine lv_aload_n hx hb dX6_answeredIn_23 rfl (hv_at hl 0 rfl) ?_
      refine v_get (T := TX3) (v := .int (I8 r10 4)) C hR 4 kfl_X6_157 rfl inG3 (by decide) rfl hf11 rfl dX6_answeredIn_24 ?_
      refine lv_iconst (v := (4:Int32)) hx hb dX6_answeredIn_27 rfl ?_
      refine lv_icmp_ne (tgt := 34) hx hb dX6_answeredIn_28 (by decide) (fun c13 => ?_) (fun c13 => ?_)
      · replace h := h.1 c13
        refine lv_aload_n hx hb dX6_answeredIn_34 rfl (hv_at hl 1 rfl) ?_
        refine v_get (T := TX6) (v := .ref (a0 + 239)) C hR 1 kfl_X6_16 rfl inG6 (by decide) rfl (IsTag.k hf7) (rf_of (IsTag.r1 hf7 (I8 a0 1))) dX6_answeredIn_35 ?_
        refine lv_aload_n hx hb dX6_answeredIn_38 rfl (hv_at hl 1 rfl) ?_
        refine v_get (T := TX6) (v := .ref (a0 + 1)) C hR 0 kfl_X6_10 rfl inG6 (by decide) rfl (IsTag.k hf7) (rf_of (IsTag.r0 hf7 (I8 a0 0))) dX6_answeredIn_39 ?_
        refine v_cVv (As := [.ref (a0 + 1)]) C hR hS hl.1.1 ca_X0_copyFrom kml_X6_148 (L_X0_copyFrom E l (a0 + 239) (some (a0 + 1)) I8 _ h) (IsBus.k (IsTag.o1 hf7)) rfl rfl rfl rfl (Nat.le_of_ble_eq_true rfl) ⟨Nat.le_of_ble_eq_true rfl, Nat.le_of_ble_eq_true rfl⟩ ⟨Nat.zero_le _, Nat.zero_le _⟩ dX6_answeredIn_42 (fun I12 H locs h hR hS => ?_)
        refine lv_iconst (v := (1:Int32)) hx hb dX6_answeredIn_45 rfl ?_
        refine v_istore_n (lv' := [(3, .int (1:Int32)), (2, .ref r10), (0, .ref a0), (1, .int x1)]) hx hb dX6_answeredIn_46 rfl hl (by decide) rfl (fun ls hl => ?_)
        exact hJ47 (1:Int32) I12 _ _ _ h hR hS (hv_sub hl [2, 3, 0] rfl)
      · replace h := h.2 c13
        exact hJ31 I8 _ _ _ h hR hS (hv_sub hl [] rfl)
set_option maxHeartbeats 4000000 in
set_option maxRecDepth 100000 in
theorem L_X0_freeTags (E : Ev) (l : Launch) {K : MK} {R : MR} {n : Nat} (a0 : Nat) (I : MI) (Q : Int32 → MI → Prop) (h : w_X0_freeTags K R a0 I Q) : MM E l yX0_freeTags cX0_freeTags 3 (some Jvm.ClassFile.FieldType.int) 0 0 0 0 [.ref a0] K R I n (Qi K R n Q) := by
  refine MM.of1 (by decide) RX0 rfl (cR cN) (Nat.le_of_ble_eq_true rfl) ?_
  intro p e s m args below meth c ls C hin hR hS hl
  have hx := C.1
  have hb := C.2.1
  have hml := C.2.2.1
  have hown := C.2.2.2.1
  have hts := C.2.2.2.2.1
  have hl : hv ls 3 [(0, .ref a0)] := hl
  clear hin
  have hJ40 : ∀ (y1_40 : Int32) (I : MI) (H : Heap) (locs : List Loc) (ls : Array Slot), w_X0_freeTags_b40 K R a0 Q y1_40 I → Rep E K R I n H → va_S (AA E) s.heap H locs → hv ls 3 [(1, .int y1_40)] → W p l e (rmM 0 0 0 0) s m args below meth c H locs 0 0 (MQ below (QcM E (Qi K R n Q)) args s 0 0 (AA E)) (F0 m 40 ls []) := by
    intro y1_40 I H locs ls h hR hS hl
    unfold w_X0_freeTags_b40 at h
    refine lv_iload_n hx hb dX0_freeTags_40 rfl (hv_at hl 0 rfl) ?_
    exact w_ireti C rfl rfl hR hS h dX0_freeTags_41
  have hJ4 : ∀ (y1_4 : Int32) (y2_4 : Int32) (I : MI) (H : Heap) (locs : List Loc) (ls : Array Slot), w_X0_freeTags_b4 K R a0 Q y1_4 y2_4 I → Rep E K R I n H → va_S (AA E) s.heap H locs → hv ls 3 [(0, .ref a0), (1, .int y1_4), (2, .int y2_4)] → W p l e (rmM 0 0 0 0) s m args below meth c H locs 0 0 (MQ below (QcM E (Qi K R n Q)) args s 0 0 (AA E)) (F0 m 4 ls []) := by
    intro y1_4 y2_4 I H locs ls h hR hS hl
    obtain ⟨X4, hX4⟩ : ∃ X : Int32 → Int32 → MI → Prop, ∀ (y1_4 : Int32) (y2_4 : Int32) (I : MI), X y1_4 y2_4 I ↔ (∀ (H : Heap) (locs : List Loc) (ls : Array Slot), Rep E K R I n H → va_S (AA E) s.heap H locs → hv ls 3 [(0, .ref a0), (1, .int y1_4), (2, .int y2_4)] → W p l e (rmM 0 0 0 0) s m args below meth c H locs 0 0 (MQ below (QcM E (Qi K R n Q)) args s 0 0 (AA E)) (F0 m 4 ls [])) := ⟨fun y1_4 y2_4 I => ∀ (H : Heap) (locs : List Loc) (ls : Array Slot), Rep E K R I n H → va_S (AA E) s.heap H locs → hv ls 3 [(0, .ref a0), (1, .int y1_4), (2, .int y2_4)] → W p l e (rmM 0 0 0 0) s m args below meth c H locs 0 0 (MQ below (QcM E (Qi K R n Q)) args s 0 0 (AA E)) (F0 m 4 ls []), fun _ _ _ => Iff.rfl⟩
    refine (hX4 y1_4 y2_4 I).mp (h X4 ?_) H locs ls hR hS hl
    clear h hR hS hl
    clear ls locs H I y1_4 y2_4
    have hJ34 : ∀ (y1_34 : Int32) (y2_34 : Int32) (I : MI) (H : Heap) (locs : List Loc) (ls : Array Slot), w_X0_freeTags_b34 K R a0 Q X4 y1_34 y2_34 I → Rep E K R I n H → va_S (AA E) s.heap H locs → hv ls 3 [(0, .ref a0), (1, .int y1_34), (2, .int y2_34)] → W p l e (rmM 0 0 0 0) s m args below meth c H locs 0 0 (MQ below (QcM E (Qi K R n Q)) args s 0 0 (AA E)) (F0 m 34 ls []) := by
      intro y1_34 y2_34 I H locs ls h hR hS hl
      unfold w_X0_freeTags_b34 at h
      refine v_iinc (v := y2_34 + (1:Int32)) (k := 2) (lv' := [(2, .int (y2_34 + (1:Int32))), (0, .ref a0), (1, .int y1_34)]) hx hb dX0_freeTags_34 hl rfl rfl (by decide) rfl (fun ls hl => ?_)
      refine lv_goto (tgt := 4) hx hb dX0_freeTags_37 (by decide) ?_
      exact (hX4 y1_34 (y2_34 + (1:Int32)) I).mp h _ _ _ hR hS (hv_sub hl [1, 2, 0] rfl)
    intro y1_4 y2_4 I h
    refine (hX4 y1_4 y2_4 I).mpr ?_
    intro H locs ls hR hS hl
    unfold w_X0_freeTags_b4_body at h
    refine lv_iload_n hx hb dX0_freeTags_4 rfl (hv_at hl 2 rfl) ?_
    refine lv_aload_n hx hb dX0_freeTags_5 rfl (hv_at hl 0 rfl) ?_
    obtain ⟨hf1, h⟩ := h
    refine v_get (T := TX0) (v := .ref (a0 + 1)) C hR 0 kfl_X0_9 rfl inG0 (by decide) rfl (IsBus.k hf1) (rf_of (IsBus.r0 hf1 (I a0 0))) dX0_freeTags_6 ?_
    refine lv_iconst (v := (0:Int32)) hx hb dX0_freeTags_9 rfl ?_
    refine w_iald C hR (IsBus.a0 hf1) (show vp_in (0:Int32) 3 by unfold vp_in; decide) (j := 0) (by decide) dX0_freeTags_10 ?_
    refine lv_icmp_ge (tgt := 40) hx hb dX0_freeTags_11 (by decide) (fun c5 => ?_) (fun c5 => ?_)
    · replace h := h.1 c5
      exact hJ40 y1_4 I _ _ _ h hR hS (hv_sub hl [1] rfl)
    · replace h := h.2 c5
      refine lv_iload_n hx hb dX0_freeTags_14 rfl (hv_at hl 2 rfl) ?_
      refine lv_bipush (v := (8:Int32)) hx hb dX0_freeTags_15 (by decide) ?_
      refine lv_icmp_ge (tgt := 40) hx hb dX0_freeTags_17 (by decide) (fun c4 => ?_) (fun c4 => ?_)
      · replace h := h.1 c4
        exact hJ40 y1_4 I _ _ _ h hR hS (hv_sub hl [1] rfl)
      · replace h := h.2 c4
        refine lv_aload_n hx hb dX0_freeTags_20 rfl (hv_at hl 0 rfl) ?_
        refine v_get (T := TX0) (v := .ref (a0 + 2)) C hR 1 kfl_X0_15 rfl inG0 (by decide) rfl (IsBus.k hf1) (rf_of (IsBus.r1 hf1 (I a0 1))) dX0_freeTags_21 ?_
        refine lv_iload_n hx hb dX0_freeTags_24 rfl (hv_at hl 2 rfl) ?_
        obtain ⟨hi2, h⟩ := h
        refine w_iald C hR (IsBus.a1 hf1) hi2 (j := (ix y2_4)) rfl dX0_freeTags_25 ?_
        refine lv_bipush (v := (-5:Int32)) hx hb dX0_freeTags_26 (by decide) ?_
        refine lv_icmp_ne (tgt := 34) hx hb dX0_freeTags_28 (by decide) (fun c3 => ?_) (fun c3 => ?_)
        · replace h := h.1 c3
          exact hJ34 y1_4 y2_4 I _ _ _ h hR hS (hv_sub hl [0, 1, 2] rfl)
        · replace h := h.2 c3
          refine v_iinc (v := y1_4 + (1:Int32)) (k := 1) (lv' := [(1, .int (y1_4 + (1:Int32))), (0, .ref a0), (2, .int y2_4)]) hx hb dX0_freeTags_31 hl rfl rfl (by decide) rfl (fun ls hl => ?_)
          exact hJ34 (y1_4 + (1:Int32)) y2_4 I _ _ _ h hR hS (hv_sub hl [1, 0, 2] rfl)
  unfold w_X0_freeTags at h
  refine lv_iconst (v := (0:Int32)) hx hb dX0_freeTags_0 rfl ?_
  refine v_istore_n (lv' := [(1, .int (0:Int32)), (0, .ref a0)]) hx hb dX0_freeTags_1 rfl hl (by decide) rfl (fun ls hl => ?_)
  refine lv_iconst (v := (0:Int32)) hx hb dX0_freeTags_2 rfl ?_
  refine v_istore_n (lv' := [(2, .int (0:Int32)), (1, .int (0:Int32)), (0, .ref a0)]) hx hb dX0_freeTags_3 rfl hl (by decide) rfl (fun ls hl => ?_)
  exact hJ4 (0:Int32) (0:Int32) I _ _ _ h hR hS (hv_sub hl [2, 1, 0] rfl)
