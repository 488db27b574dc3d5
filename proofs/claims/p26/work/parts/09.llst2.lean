set_option maxHeartbeats 4000000 in
set_option maxRecDepth 100000 in
theorem L_L_isAnsweredSo (E : Ev) (l : Launch) {K : MK} {R : MR} {n : Nat} (o0 : Option Nat) (x1 : Int32) (I : MI) (Q : Int32 → MI → Prop) (h : w_L_isAnsweredSo K R o0 x1 I Q) : MM E l yL_isAnsweredSo cL_isAnsweredSo 4 (some Jvm.ClassFile.FieldType.boolean) 7 161 0 0 [va_rf o0, .int x1] K R I n (Qi K R n Q) := by
  refine MM.of1 (by decide) RL rfl (cO (cI cN)) (Nat.le_of_ble_eq_true rfl) ?_
  intro p e s m args below meth c ls C hin hR hS hl
  have hx := C.1
  have hb := C.2.1
  have hml := C.2.2.1
  have hown := C.2.2.2.1
  have hts := C.2.2.2.2.1
  have hl : hv ls 4 [(0, va_rf o0), (1, .int x1)] := hl
  clear hin
  have hJ27 : ∀ (z0_27 : Int32) (I : MI) (H : Heap) (locs : List Loc) (ls : Array Slot), w_L_isAnsweredSo_b27 K R o0 x1 Q z0_27 I → Rep E K R I n H → va_S (AA E) s.heap H locs → hv ls 4 [] → W p l e (rmM 7 161 0 0) s m args below meth c H locs 0 0 (MQ below (QcM E (Qi K R n Q)) args s 0 0 (AA E)) (F0 m 27 ls [.int z0_27]) := by
    intro z0_27 I H locs ls h hR hS hl
    unfold w_L_isAnsweredSo_b27 at h
    obtain ⟨hb1, h⟩ := h
    exact w_ireti C rfl (bz_nar hb1) hR hS h dL_isAnsweredSo_27
  have hJ56 : ∀ (z0_56 : Int32) (I : MI) (H : Heap) (locs : List Loc) (ls : Array Slot), w_L_isAnsweredSo_b56 K R o0 x1 Q z0_56 I → Rep E K R I n H → va_S (AA E) s.heap H locs → hv ls 4 [] → W p l e (rmM 7 161 0 0) s m args below meth c H locs 0 0 (MQ below (QcM E (Qi K R n Q)) args s 0 0 (AA E)) (F0 m 56 ls [.int z0_56]) := by
    intro z0_56 I H locs ls h hR hS hl
    unfold w_L_isAnsweredSo_b56 at h
    obtain ⟨hb2, h⟩ := h
    exact w_ireti C rfl (bz_nar hb2) hR hS h dL_isAnsweredSo_56
  have hJ51 : ∀ (I : MI) (H : Heap) (locs : List Loc) (ls : Array Slot), w_L_isAnsweredSo_b51 K R o0 x1 Q  I → Rep E K R I n H → va_S (AA E) s.heap H locs → hv ls 4 [] → W p l e (rmM 7 161 0 0) s m args below meth c H locs 0 0 (MQ below (QcM E (Qi K R n Q)) args s 0 0 (AA E)) (F0 m 51 ls []) := by
    intro  I H locs ls h hR hS hl
    unfold w_L_isAnsweredSo_b51 at h
    refine lv_iconst (v := (1:Int32)) hx hb dL_isAnsweredSo_51 rfl ?_
    refine lv_goto (tgt := 56) hx hb dL_isAnsweredSo_52 (by decide) ?_
    exact hJ56 (1:Int32) I _ _ _ h hR hS (hv_sub hl [] rfl)
  have hJ39 : ∀ (y2_39 : Int32) (I : MI) (H : Heap) (locs : List Loc) (ls : Array Slot), w_L_isAnsweredSo_b39 K R o0 x1 Q y2_39 I → Rep E K R I n H → va_S (AA E) s.heap H locs → hv ls 4 [(2, .int y2_39)] → W p l e (rmM 7 161 0 0) s m args below meth c H locs 0 0 (MQ below (QcM E (Qi K R n Q)) args s 0 0 (AA E)) (F0 m 39 ls []) := by
    intro y2_39 I H locs ls h hR hS hl
    unfold w_L_isAnsweredSo_b39 at h
    refine lv_iload_n hx hb dL_isAnsweredSo_39 rfl (hv_at hl 0 rfl) ?_
    refine lv_bipush (v := (99:Int32)) hx hb dL_isAnsweredSo_40 (by decide) ?_
    refine lv_icmp_gt (tgt := 51) hx hb dL_isAnsweredSo_42 (by decide) (fun c4 => ?_) (fun c4 => ?_)
    · replace h := h.1 c4
      exact hJ51 I _ _ _ h hR hS (hv_sub hl [] rfl)
    · replace h := h.2 c4
      refine lv_iload_n hx hb dL_isAnsweredSo_45 rfl (hv_at hl 0 rfl) ?_
      refine lv_bipush (v := (-5:Int32)) hx hb dL_isAnsweredSo_46 (by decide) ?_
      refine lv_icmp_ne (tgt := 55) hx hb dL_isAnsweredSo_48 (by decide) (fun c3 => ?_) (fun c3 => ?_)
      · replace h := h.1 c3
        refine lv_iconst (v := (0:Int32)) hx hb dL_isAnsweredSo_55 rfl ?_
        exact hJ56 (0:Int32) I _ _ _ h hR hS (hv_sub hl [] rfl)
      · replace h := h.2 c3
        exact hJ51 I _ _ _ h hR hS (hv_sub hl [] rfl)
  have hJ122 : ∀ (y3_122 : Int32) (I : MI) (H : Heap) (locs : List Loc) (ls : Array Slot), w_L_isAnsweredSo_b122 K R o0 x1 Q y3_122 I → Rep E K R I n H → va_S (AA E) s.heap H locs → hv ls 4 [(3, .int y3_122)] → W p l e (rmM 7 161 0 0) s m args below meth c H locs 0 0 (MQ below (QcM E (Qi K R n Q)) args s 0 0 (AA E)) (F0 m 122 ls []) := by
    intro y3_122 I H locs ls h hR hS hl
    unfold w_L_isAnsweredSo_b122 at h
    refine lv_iload_n hx hb dL_isAnsweredSo_122 rfl (hv_at hl 0 rfl) ?_
    obtain ⟨hb5, h⟩ := h
    exact w_ireti C rfl (bz_nar hb5) hR hS h dL_isAnsweredSo_123
  have hJ116 : ∀ (z0_116 : Int32) (I : MI) (H : Heap) (locs : List Loc) (ls : Array Slot), w_L_isAnsweredSo_b116 K R o0 x1 Q z0_116 I → Rep E K R I n H → va_S (AA E) s.heap H locs → hv ls 4 [(0, va_rf o0)] → W p l e (rmM 7 161 0 0) s m args below meth c H locs 0 0 (MQ below (QcM E (Qi K R n Q)) args s 0 0 (AA E)) (F0 m 116 ls [.int z0_116]) := by
    intro z0_116 I H locs ls h hR hS hl
    unfold w_L_isAnsweredSo_b116 at h
    refine v_istore_n (lv' := [(3, .int z0_116), (0, va_rf o0)]) hx hb dL_isAnsweredSo_116 rfl hl (by decide) rfl (fun ls hl => ?_)
    refine v_aload_n hx hb dL_isAnsweredSo_117 rfl (hv_at hl 1 rfl) ?_
    obtain ⟨r6, e_o0, h⟩ := h
    have hl : hv ls 4 [(3, .int z0_116), (0, .ref r6)] := by (try rw [e_o0] at hl); exact hl
    try rw [e_o0]
    obtain ⟨hf7, h⟩ := h
    refine v_cVi (As := []) C hR hS hl.1.1 ca_X6_undo kml_L_64 (L_X6_undo E l r6 I _ h) (IsTag.k hf7) rfl rfl rfl rfl (Nat.le_of_ble_eq_true rfl) ⟨Nat.le_of_ble_eq_true rfl, Nat.le_of_ble_eq_true rfl⟩ ⟨Nat.zero_le _, Nat.zero_le _⟩ dL_isAnsweredSo_118 (fun v9 I8 H locs h hR hS => ?_)
    refine lv_pop hx hb dL_isAnsweredSo_121 rfl ?_
    exact hJ122 z0_116 I8 _ _ _ h hR hS (hv_sub hl [0] rfl)
  have hJ115 : ∀ (I : MI) (H : Heap) (locs : List Loc) (ls : Array Slot), w_L_isAnsweredSo_b115 K R o0 x1 Q  I → Rep E K R I n H → va_S (AA E) s.heap H locs → hv ls 4 [(0, va_rf o0)] → W p l e (rmM 7 161 0 0) s m args below meth c H locs 0 0 (MQ below (QcM E (Qi K R n Q)) args s 0 0 (AA E)) (F0 m 115 ls []) := by
    intro  I H locs ls h hR hS hl
    unfold w_L_isAnsweredSo_b115 at h
    refine lv_iconst (v := (0:Int32)) hx hb dL_isAnsweredSo_115 rfl ?_
    exact hJ116 (0:Int32) I _ _ _ h hR hS (hv_sub hl [0] rfl)
  have hJ78 : ∀ (y2_78 : Int32) (z0_78 : Int32) (I : MI) (H : Heap) (locs : List Loc) (ls : Array Slot), w_L_isAnsweredSo_b78 K R o0 x1 Q y2_78 z0_78 I → Rep E K R I n H → va_S (AA E) s.heap H locs → hv ls 4 [(0, va_rf o0), (1, .int x1), (2, .int y2_78)] → W p l e (rmM 7 161 0 0) s m args below meth c H locs 0 0 (MQ below (QcM E (Qi K R n Q)) args s 0 0 (AA E)) (F0 m 78 ls [.int z0_78]) := by
    intro y2_78 z0_78 I H locs ls h hR hS hl
    unfold w_L_isAnsweredSo_b78 at h
    refine v_istore_n (lv' := [(3, .int z0_78), (0, va_rf o0), (1, .int x1), (2, .int y2_78)]) hx hb dL_isAnsweredSo_78 rfl hl (by decide) rfl (fun ls hl => ?_)
    refine v_aload_n hx hb dL_isAnsweredSo_79 rfl (hv_at hl 1 rfl) ?_
    obtain ⟨r10, e_o0, h⟩ := h
    have hl : hv ls 4 [(3, .int z0_78), (0, .ref r10), (1, .int x1), (2, .int y2_78)] := by (try rw [e_o0] at hl); exact hl
    try rw [e_o0]
    obtain ⟨hf11, h⟩ := h
    refine v_cVi (As := []) C hR hS hl.1.1 ca_X6_undo kml_L_64 (L_X6_undo E l r10 I _ h) (IsTag.k hf11) rfl rfl rfl rfl (Nat.le_of_ble_eq_true rfl) ⟨Nat.le_of_ble_eq_true rfl, Nat.le_of_ble_eq_true rfl⟩ ⟨Nat.zero_le _, Nat.zero_le _⟩ dL_isAnsweredSo_80 (fun v13 I12 H locs h hR hS => ?_)
    refine lv_pop hx hb dL_isAnsweredSo_83 rfl ?_
    refine lv_iload_n hx hb dL_isAnsweredSo_84 rfl (hv_at hl 3 rfl) ?_
    refine lv_iconst (v := (1:Int32)) hx hb dL_isAnsweredSo_85 rfl ?_
    refine lv_icmp_le (tgt := 122) hx hb dL_isAnsweredSo_86 (by decide) (fun c20 => ?_) (fun c20 => ?_)
    · replace h := h.1 c20
      exact hJ122 z0_78 I12 _ _ _ h hR hS (hv_sub hl [0] rfl)
    · replace h := h.2 c20
      refine lv_aload_n hx hb dL_isAnsweredSo_89 rfl (hv_at hl 1 rfl) ?_
      refine lv_iload_n hx hb dL_isAnsweredSo_90 rfl (hv_at hl 3 rfl) ?_
      refine lv_iconst (v := (1:Int32)) hx hb dL_isAnsweredSo_91 rfl ?_
      refine lv_isub hx hb dL_isAnsweredSo_92 ?_
      refine v_cVi (As := [.int (y2_78 - (1:Int32))]) C hR hS hl.1.1 ca_X6_pass kml_L_40 (L_X6_pass E l r10 (y2_78 - (1:Int32)) I12 _ h) (IsTag.k hf11) rfl rfl rfl rfl (Nat.le_of_ble_eq_true rfl) ⟨Nat.le_of_ble_eq_true rfl, Nat.le_of_ble_eq_true rfl⟩ ⟨Nat.zero_le _, Nat.zero_le _⟩ dL_isAnsweredSo_93 (fun v15 I14 H locs h hR hS => ?_)
      refine lv_pop hx hb dL_isAnsweredSo_96 rfl ?_
      refine lv_iload_n hx hb dL_isAnsweredSo_97 rfl (hv_at hl 0 rfl) ?_
      refine lv_if_eq (tgt := 115) hx hb dL_isAnsweredSo_98 (by decide) (fun c19 => ?_) (fun c19 => ?_)
      · replace h := h.1 c19
        exact hJ115 I14 _ _ _ h hR hS (hv_sub hl [1] (by rw [e_o0]; rfl))
      · replace h := h.2 c19
        refine lv_aload_n hx hb dL_isAnsweredSo_101 rfl (hv_at hl 1 rfl) ?_
        refine lv_iload_n hx hb dL_isAnsweredSo_102 rfl (hv_at hl 2 rfl) ?_
        refine lv_iconst (v := (4:Int32)) hx hb dL_isAnsweredSo_103 rfl ?_
        refine v_cVi (As := [.int x1, .int (4:Int32)]) C hR hS hl.1.1 ca_X6_question kml_L_49 (L_X6_question E l r10 x1 (4:Int32) I14 _ h) (IsTag.k hf11) rfl rfl rfl rfl (Nat.le_of_ble_eq_true rfl) ⟨Nat.le_of_ble_eq_true rfl, Nat.le_of_ble_eq_true rfl⟩ ⟨Nat.zero_le _, Nat.zero_le _⟩ dL_isAnsweredSo_104 (fun v17 I16 H locs h hR hS => ?_)
        refine lv_iconst (v := (3:Int32)) hx hb dL_isAnsweredSo_107 rfl ?_
        refine lv_icmp_eq (tgt := 115) hx hb dL_isAnsweredSo_108 (by decide) (fun c18 => ?_) (fun c18 => ?_)
        · replace h := h.1 c18
          exact hJ115 I16 _ _ _ h hR hS (hv_sub hl [1] (by rw [e_o0]; rfl))
        · replace h := h.2 c18
          refine lv_iconst (v := (1:Int32)) hx hb dL_isAnsweredSo_111 rfl ?_
          refine lv_goto (tgt := 116) hx hb dL_isAnsweredSo_112 (by decide) ?_
          exact hJ116 (1:Int32) I16 _ _ _ h hR hS (hv_sub hl [1] (by rw [e_o0]; rfl))
  unfold w_L_isAnsweredSo at h
  refine v_aload_n hx hb dL_isAnsweredSo_0 rfl (hv_at hl 0 rfl) ?_
  refine lv_iload_n hx hb dL_isAnsweredSo_1 rfl (hv_at hl 1 rfl) ?_
  obtain ⟨r21, e_o0, h⟩ := h
  have hl : hv ls 4 [(0, .ref r21), (1, .int x1)] := by (try rw [e_o0] at hl); exact hl
  try rw [e_o0]
  obtain ⟨hf22, h⟩ := h
  refine v_cVi (As := [.int x1]) C hR hS hl.1.1 ca_X6_answeredIn kml_L_68 (L_X6_answeredIn E l r21 x1 I _ h) (IsTag.k hf22) rfl rfl rfl rfl (Nat.le_of_ble_eq_true rfl) ⟨Nat.le_of_ble_eq_true rfl, Nat.le_of_ble_eq_true rfl⟩ ⟨Nat.zero_le _, Nat.zero_le _⟩ dL_isAnsweredSo_2 (fun v24 I23 H locs h hR hS => ?_)
  refine v_istore_n (lv' := [(2, .int v24), (0, .ref r21), (1, .int x1)]) hx hb dL_isAnsweredSo_5 rfl hl (by decide) rfl (fun ls hl => ?_)
  refine lv_aload_n hx hb dL_isAnsweredSo_6 rfl (hv_at hl 1 rfl) ?_
  refine lv_iload_n hx hb dL_isAnsweredSo_7 rfl (hv_at hl 2 rfl) ?_
  refine lv_iconst (v := (4:Int32)) hx hb dL_isAnsweredSo_8 rfl ?_
  refine v_cVi (As := [.int x1, .int (4:Int32)]) C hR hS hl.1.1 ca_X6_question kml_L_49 (L_X6_question E l r21 x1 (4:Int32) I23 _ h) (IsTag.k hf22) rfl rfl rfl rfl (Nat.le_of_ble_eq_true rfl) ⟨Nat.le_of_ble_eq_true rfl, Nat.le_of_ble_eq_true rfl⟩ ⟨Nat.zero_le _, Nat.zero_le _⟩ dL_isAnsweredSo_9 (fun v26 I25 H locs h hR hS => ?_)
  refine lv_iconst (v := (2:Int32)) hx hb dL_isAnsweredSo_12 rfl ?_
  refine lv_icmp_le (tgt := 28) hx hb dL_isAnsweredSo_13 (by decide) (fun c35 => ?_) (fun c35 => ?_)
  · replace h := h.1 c35
    refine lv_iload_n hx hb dL_isAnsweredSo_28 rfl (hv_at hl 0 rfl) ?_
    refine lv_iconst (v := (1:Int32)) hx hb dL_isAnsweredSo_29 rfl ?_
    refine lv_icmp_lt (tgt := 39) hx hb dL_isAnsweredSo_30 (by decide) (fun c33 => ?_) (fun c33 => ?_)
    · replace h := h.1 c33
      exact hJ39 v24 I25 _ _ _ h hR hS (hv_sub hl [0] rfl)
    · replace h := h.2 c33
      refine lv_iload_n hx hb dL_isAnsweredSo_33 rfl (hv_at hl 0 rfl) ?_
      refine lv_bipush (v := (99:Int32)) hx hb dL_isAnsweredSo_34 (by decide) ?_
      refine lv_icmp_le (tgt := 57) hx hb dL_isAnsweredSo_36 (by decide) (fun c32 => ?_) (fun c32 => ?_)
      · replace h := h.1 c32
        refine lv_aload_n hx hb dL_isAnsweredSo_57 rfl (hv_at hl 1 rfl) ?_
        refine lv_iload_n hx hb dL_isAnsweredSo_58 rfl (hv_at hl 0 rfl) ?_
        refine v_cVi (As := [.int v24]) C hR hS hl.1.1 ca_X6_pass kml_L_40 (L_X6_pass E l r21 v24 I25 _ h) (IsTag.k hf22) rfl rfl rfl rfl (Nat.le_of_ble_eq_true rfl) ⟨Nat.le_of_ble_eq_true rfl, Nat.le_of_ble_eq_true rfl⟩ ⟨Nat.zero_le _, Nat.zero_le _⟩ dL_isAnsweredSo_59 (fun v28 I27 H locs h hR hS => ?_)
        refine lv_pop hx hb dL_isAnsweredSo_62 rfl ?_
        refine lv_aload_n hx hb dL_isAnsweredSo_63 rfl (hv_at hl 1 rfl) ?_
        refine lv_iload_n hx hb dL_isAnsweredSo_64 rfl (hv_at hl 2 rfl) ?_
        refine lv_iconst (v := (4:Int32)) hx hb dL_isAnsweredSo_65 rfl ?_
        refine v_cVi (As := [.int x1, .int (4:Int32)]) C hR hS hl.1.1 ca_X6_question kml_L_49 (L_X6_question E l r21 x1 (4:Int32) I27 _ h) (IsTag.k hf22) rfl rfl rfl rfl (Nat.le_of_ble_eq_true rfl) ⟨Nat.le_of_ble_eq_true rfl, Nat.le_of_ble_eq_true rfl⟩ ⟨Nat.zero_le _, Nat.zero_le _⟩ dL_isAnsweredSo_66 (fun v30 I29 H locs h hR hS => ?_)
        refine lv_iconst (v := (3:Int32)) hx hb dL_isAnsweredSo_69 rfl ?_
        refine lv_icmp_ne (tgt := 77) hx hb dL_isAnsweredSo_70 (by decide) (fun c31 => ?_) (fun c31 => ?_)
        · replace h := h.1 c31
          refine lv_iconst (v := (0:Int32)) hx hb dL_isAnsweredSo_77 rfl ?_
          exact hJ78 v24 (0:Int32) I29 _ _ _ h hR hS (hv_sub hl [1, 2, 0] (by rw [e_o0]; rfl))
        · replace h := h.2 c31
          refine lv_iconst (v := (1:Int32)) hx hb dL_isAnsweredSo_73 rfl ?_
          refine lv_goto (tgt := 78) hx hb dL_isAnsweredSo_74 (by decide) ?_
          exact hJ78 v24 (1:Int32) I29 _ _ _ h hR hS (hv_sub hl [1, 2, 0] (by rw [e_o0]; rfl))
      · replace h := h.2 c32
        exact hJ39 v24 I25 _ _ _ h hR hS (hv_sub hl [0] rfl)
  · replace h := h.2 c35
    refine lv_iload_n hx hb dL_isAnsweredSo_16 rfl (hv_at hl 0 rfl) ?_
    refine lv_bipush (v := (-4:Int32)) hx hb dL_isAnsweredSo_17 (by decide) ?_
    refine lv_icmp_ne (tgt := 26) hx hb dL_isAnsweredSo_19 (by decide) (fun c34 => ?_) (fun c34 => ?_)
    · replace h := h.1 c34
      refine lv_iconst (v := (0:Int32)) hx hb dL_isAnsweredSo_26 rfl ?_
      exact hJ27 (0:Int32) I25 _ _ _ h hR hS (hv_sub hl [] rfl)
    · replace h := h.2 c34
      refine lv_iconst (v := (1:Int32)) hx hb dL_isAnsweredSo_22 rfl ?_
      refine lv_goto (tgt := 27) hx hb dL_isAnsweredSo_23 (by decide) ?_
      exact hJ27 (1:Int32) I25 _ _ _ h hR hS (hv_sub hl [] rfl)
