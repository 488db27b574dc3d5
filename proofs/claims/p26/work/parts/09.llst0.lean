set_option maxHeartbeats 4000000 in
set_option maxRecDepth 100000 in
theorem L_L_cell (E : Ev) (l : Launch) {b L : Nat} {xs : Nat → Int32} (hE2 : E.2.2.2 = (b, L, xs)) {K : MK} {R : MR} {n : Nat} (x1 : Int32) (I : MI) (Q : Int32 → MI → Prop) (h : w_L_cell K R b L xs x1 I Q) : MM E l yL_cell cL_cell 2 (some Jvm.ClassFile.FieldType.int) 0 0 0 0 [.ref b, .int x1] K R I n (Qi K R n Q) := by
  refine MM.of1 (by decide) RL rfl (cR (cI cN)) (Nat.le_of_ble_eq_true rfl) ?_
  intro p e s m args below meth c ls C hin hR hS hl
  have hx := C.1
  have hb := C.2.1
  have hml := C.2.2.1
  have hown := C.2.2.2.1
  have hts := C.2.2.2.2.1
  have hl : hv ls 2 [(0, .ref b), (1, .int x1)] := hl
  obtain ⟨hX, hbl, hbA⟩ := C.scr hE2
  clear hin
  have hJ24 : ∀ (z0_24 : Int32) (I : MI) (H : Heap) (locs : List Loc) (ls : Array Slot), w_L_cell_b24 K R b L xs x1 Q z0_24 I → Rep E K R I n H → va_S (AA E) s.heap H locs → hv ls 2 [] → W p l e (rmM 0 0 0 0) s m args below meth c H locs 0 0 (MQ below (QcM E (Qi K R n Q)) args s 0 0 (AA E)) (F0 m 24 ls [.int z0_24]) := by
    intro z0_24 I H locs ls h hR hS hl
    unfold w_L_cell_b24 at h
    exact w_ireti C rfl rfl hR hS h dL_cell_24
  unfold w_L_cell at h
  refine lv_iload_n hx hb dL_cell_0 rfl (hv_at hl 1 rfl) ?_
  refine lv_aload_n hx hb dL_cell_1 rfl (hv_at hl 0 rfl) ?_
  refine w_slen C hX hbl hbA hS dL_cell_2 ?_
  refine lv_icmp_ge (tgt := 12) hx hb dL_cell_3 (by decide) (fun c2 => ?_) (fun c2 => ?_)
  · replace h := h.1 c2
    refine lv_sipush (v := (7919:Int32)) hx hb dL_cell_12 (by decide) ?_
    refine lv_iload_n hx hb dL_cell_15 rfl (hv_at hl 1 rfl) ?_
    refine lv_iconst (v := (3:Int32)) hx hb dL_cell_16 rfl ?_
    refine lv_iadd hx hb dL_cell_17 ?_
    refine lv_imul hx hb dL_cell_18 ?_
    refine lv_iload_n hx hb dL_cell_19 rfl (hv_at hl 1 rfl) ?_
    refine lv_bipush (v := (11:Int32)) hx hb dL_cell_20 (by decide) ?_
    refine lv_iadd hx hb dL_cell_22 ?_
    refine lv_imul hx hb dL_cell_23 ?_
    exact hJ24 (((7919:Int32) * (x1 + (3:Int32))) * (x1 + (11:Int32))) I _ _ _ h hR hS (hv_sub hl [] rfl)
  · replace h := h.2 c2
    refine lv_aload_n hx hb dL_cell_6 rfl (hv_at hl 0 rfl) ?_
    refine lv_iload_n hx hb dL_cell_7 rfl (hv_at hl 1 rfl) ?_
    obtain ⟨hi1, h⟩ := h
    refine w_sld C hX hbl hbA hS hi1 dL_cell_8 ?_
    refine lv_goto (tgt := 24) hx hb dL_cell_9 (by decide) ?_
    exact hJ24 (xs (ix x1)) I _ _ _ h hR hS (hv_sub hl [] rfl)
set_option maxHeartbeats 4000000 in
set_option maxRecDepth 100000 in
theorem L_L_low (E : Ev) (l : Launch) {K : MK} {R : MR} {n : Nat} (x0 : Int32) (x1 : Int32) (I : MI) (Q : Int32 → MI → Prop) (h : w_L_low K R x0 x1 I Q) : MM E l yL_low cL_low 2 (some Jvm.ClassFile.FieldType.int) 0 0 0 0 [.int x0, .int x1] K R I n (Qi K R n Q) := by
  refine MM.of1 (by decide) RL rfl (cI (cI cN)) (Nat.le_of_ble_eq_true rfl) ?_
  intro p e s m args below meth c ls C hin hR hS hl
  have hx := C.1
  have hb := C.2.1
  have hml := C.2.2.1
  have hown := C.2.2.2.1
  have hts := C.2.2.2.2.1
  have hl : hv ls 2 [(0, .int x0), (1, .int x1)] := hl
  clear hin
  unfold w_L_low at h
  refine lv_iload_n hx hb dL_low_0 rfl (hv_at hl 0 rfl) ?_
  refine lv_ldc (v := (2147483647:Int32)) hx hb hown (hts _ kcn_L_7) dL_low_1 ?_
  refine lv_iand hx hb dL_low_3 ?_
  refine lv_iload_n hx hb dL_low_4 rfl (hv_at hl 1 rfl) ?_
  obtain ⟨hz1, h⟩ := h
  refine lv_irem hx hb dL_low_5 hz1 ?_
  exact w_ireti C rfl rfl hR hS h dL_low_6
set_option maxHeartbeats 4000000 in
set_option maxRecDepth 100000 in
theorem L_L_does (E : Ev) (l : Launch) {K : MK} {R : MR} {n : Nat} (o0 : Option Nat) (x1 : Int32) (I : MI) (Q : Int32 → MI → Prop) (h : w_L_does K R o0 x1 I Q) : MM E l yL_does cL_does 4 (some Jvm.ClassFile.FieldType.int) 7 161 0 0 [va_rf o0, .int x1] K R I n (Qi K R n Q) := by
  refine MM.of1 (by decide) RL rfl (cO (cI cN)) (Nat.le_of_ble_eq_true rfl) ?_
  intro p e s m args below meth c ls C hin hR hS hl
  have hx := C.1
  have hb := C.2.1
  have hml := C.2.2.1
  have hown := C.2.2.2.1
  have hts := C.2.2.2.2.1
  have hl : hv ls 4 [(0, va_rf o0), (1, .int x1)] := hl
  clear hin
  have hJ84 : ∀ (y2_84 : Int32) (y3_84 : Int32) (I : MI) (H : Heap) (locs : List Loc) (ls : Array Slot), w_L_does_b84 K R o0 x1 Q y2_84 y3_84 I → Rep E K R I n H → va_S (AA E) s.heap H locs → hv ls 4 [(0, va_rf o0), (1, .int x1), (2, .int y2_84), (3, .int y3_84)] → W p l e (rmM 7 161 0 0) s m args below meth c H locs 0 0 (MQ below (QcM E (Qi K R n Q)) args s 0 0 (AA E)) (F0 m 84 ls []) := by
    intro y2_84 y3_84 I H locs ls h hR hS hl
    unfold w_L_does_b84 at h
    refine v_aload_n hx hb dL_does_84 rfl (hv_at hl 0 rfl) ?_
    refine lv_iload_n hx hb dL_does_85 rfl (hv_at hl 2 rfl) ?_
    refine lv_iload_n hx hb dL_does_86 rfl (hv_at hl 3 rfl) ?_
    refine lv_iload_n hx hb dL_does_87 rfl (hv_at hl 1 rfl) ?_
    refine lv_bipush (v := (8:Int32)) hx hb dL_does_88 (by decide) ?_
    refine lv_ishr hx hb dL_does_90 ?_
    refine lv_bipush (v := (15:Int32)) hx hb dL_does_91 (by decide) ?_
    refine lv_iand hx hb dL_does_93 ?_
    obtain ⟨r1, e_o0, h⟩ := h
    have hl : hv ls 4 [(0, .ref r1), (1, .int x1), (2, .int y2_84), (3, .int y3_84)] := by (try rw [e_o0] at hl); exact hl
    try rw [e_o0]
    obtain ⟨hf2, h⟩ := h
    refine v_cVi (As := [.int y2_84, .int y3_84, .int ((x1 >>> ((8:Int32) &&& 31)) &&& (15:Int32))]) C hR hS hl.1.1 ca_X6_read kml_L_8 (L_X6_read E l r1 y2_84 y3_84 ((x1 >>> ((8:Int32) &&& 31)) &&& (15:Int32)) I _ h) (IsTag.k hf2) rfl rfl rfl rfl (Nat.le_of_ble_eq_true rfl) ⟨Nat.le_of_ble_eq_true rfl, Nat.le_of_ble_eq_true rfl⟩ ⟨Nat.zero_le _, Nat.zero_le _⟩ dL_does_94 (fun v4 I3 H locs h hR hS => ?_)
    exact w_ireti C rfl rfl hR hS h dL_does_97
  have hJ98 : ∀ (y2_98 : Int32) (y3_98 : Int32) (I : MI) (H : Heap) (locs : List Loc) (ls : Array Slot), w_L_does_b98 K R o0 x1 Q y2_98 y3_98 I → Rep E K R I n H → va_S (AA E) s.heap H locs → hv ls 4 [(0, va_rf o0), (1, .int x1), (2, .int y2_98), (3, .int y3_98)] → W p l e (rmM 7 161 0 0) s m args below meth c H locs 0 0 (MQ below (QcM E (Qi K R n Q)) args s 0 0 (AA E)) (F0 m 98 ls []) := by
    intro y2_98 y3_98 I H locs ls h hR hS hl
    unfold w_L_does_b98 at h
    refine v_aload_n hx hb dL_does_98 rfl (hv_at hl 0 rfl) ?_
    refine lv_iload_n hx hb dL_does_99 rfl (hv_at hl 2 rfl) ?_
    refine lv_iload_n hx hb dL_does_100 rfl (hv_at hl 3 rfl) ?_
    refine lv_iload_n hx hb dL_does_101 rfl (hv_at hl 1 rfl) ?_
    refine lv_bipush (v := (8:Int32)) hx hb dL_does_102 (by decide) ?_
    refine lv_ishr hx hb dL_does_104 ?_
    refine lv_bipush (v := (15:Int32)) hx hb dL_does_105 (by decide) ?_
    refine lv_iand hx hb dL_does_107 ?_
    refine lv_iload_n hx hb dL_does_108 rfl (hv_at hl 1 rfl) ?_
    refine lv_bipush (v := (12:Int32)) hx hb dL_does_109 (by decide) ?_
    refine lv_ishr hx hb dL_does_111 ?_
    refine lv_bipush (v := (100:Int32)) hx hb dL_does_112 (by decide) ?_
    refine v_cSi (As := [.int (x1 >>> ((12:Int32) &&& 31)), .int (100:Int32)]) C hR hS hl.1.1 ca_L_low kml_L_14 (L_L_low E l (x1 >>> ((12:Int32) &&& 31)) (100:Int32) I _ h) rfl rfl (by simp only [List.map_cons, List.map_nil, cat_rf, List.sum_cons, List.sum_nil]; exact Nat.le_of_ble_eq_true rfl) ⟨Nat.le_of_ble_eq_true rfl, Nat.le_of_ble_eq_true rfl⟩ ⟨Nat.zero_le _, Nat.zero_le _⟩ dL_does_114 (fun v6 I5 H locs h hR hS => ?_)
    obtain ⟨r7, e_o0, h⟩ := h
    have hl : hv ls 4 [(0, .ref r7), (1, .int x1), (2, .int y2_98), (3, .int y3_98)] := by (try rw [e_o0] at hl); exact hl
    try rw [e_o0]
    obtain ⟨hf8, h⟩ := h
    refine v_cVi (As := [.int y2_98, .int y3_98, .int ((x1 >>> ((8:Int32) &&& 31)) &&& (15:Int32)), .int v6]) C hR hS hl.1.1 ca_X6_write kml_L_20 (L_X6_write E l r7 y2_98 y3_98 ((x1 >>> ((8:Int32) &&& 31)) &&& (15:Int32)) v6 I5 _ h) (IsTag.k hf8) rfl rfl rfl rfl (Nat.le_of_ble_eq_true rfl) ⟨Nat.le_of_ble_eq_true rfl, Nat.le_of_ble_eq_true rfl⟩ ⟨Nat.zero_le _, Nat.zero_le _⟩ dL_does_117 (fun v10 I9 H locs h hR hS => ?_)
    exact w_ireti C rfl rfl hR hS h dL_does_120
  have hJ182 : ∀ (z0_182 : Int32) (I : MI) (H : Heap) (locs : List Loc) (ls : Array Slot), w_L_does_b182 K R o0 x1 Q z0_182 I → Rep E K R I n H → va_S (AA E) s.heap H locs → hv ls 4 [] → W p l e (rmM 7 161 0 0) s m args below meth c H locs 0 0 (MQ below (QcM E (Qi K R n Q)) args s 0 0 (AA E)) (F0 m 182 ls [.int z0_182]) := by
    intro z0_182 I H locs ls h hR hS hl
    unfold w_L_does_b182 at h
    exact w_ireti C rfl rfl hR hS h dL_does_182
  have hJ256 : ∀ (z0_256 : Int32) (I : MI) (H : Heap) (locs : List Loc) (ls : Array Slot), w_L_does_b256 K R o0 x1 Q z0_256 I → Rep E K R I n H → va_S (AA E) s.heap H locs → hv ls 4 [] → W p l e (rmM 7 161 0 0) s m args below meth c H locs 0 0 (MQ below (QcM E (Qi K R n Q)) args s 0 0 (AA E)) (F0 m 256 ls [.int z0_256]) := by
    intro z0_256 I H locs ls h hR hS hl
    unfold w_L_does_b256 at h
    exact w_ireti C rfl rfl hR hS h dL_does_256
  unfold w_L_does at h
  refine lv_iload_n hx hb dL_does_0 rfl (hv_at hl 1 rfl) ?_
  refine lv_iconst (v := (4:Int32)) hx hb dL_does_1 rfl ?_
  refine lv_ishr hx hb dL_does_2 ?_
  refine lv_iconst (v := (3:Int32)) hx hb dL_does_3 rfl ?_
  refine lv_iand hx hb dL_does_4 ?_
  refine v_istore_n (lv' := [(2, .int ((x1 >>> ((4:Int32) &&& 31)) &&& (3:Int32))), (0, va_rf o0), (1, .int x1)]) hx hb dL_does_5 rfl hl (by decide) rfl (fun ls hl => ?_)
  refine lv_iload_n hx hb dL_does_6 rfl (hv_at hl 2 rfl) ?_
  refine lv_bipush (v := (6:Int32)) hx hb dL_does_7 (by decide) ?_
  refine lv_ishr hx hb dL_does_9 ?_
  refine lv_iconst (v := (3:Int32)) hx hb dL_does_10 rfl ?_
  refine lv_iand hx hb dL_does_11 ?_
  refine v_istore_n (lv' := [(3, .int ((x1 >>> ((6:Int32) &&& 31)) &&& (3:Int32))), (2, .int ((x1 >>> ((4:Int32) &&& 31)) &&& (3:Int32))), (0, va_rf o0), (1, .int x1)]) hx hb dL_does_12 rfl hl (by decide) rfl (fun ls hl => ?_)
  refine lv_iload_n hx hb dL_does_13 rfl (hv_at hl 3 rfl) ?_
  refine lv_bipush (v := (15:Int32)) hx hb dL_does_14 (by decide) ?_
  refine lv_iand hx hb dL_does_16 ?_
  rcases sw_0_12 (x1 &&& (15:Int32)) with c11 | c11 | c11 | c11 | c11 | c11 | c11 | c11 | c11 | c11 | c11 | c11 | c11 | c11
  · replace h := h.1 c11
    refine v_tblIn (tgt := 84) hx hb (v := (0:Int32)) dL_does_17 c11 (by decide) (by decide) rfl (by decide) ?_
    exact hJ84 ((x1 >>> ((4:Int32) &&& 31)) &&& (3:Int32)) ((x1 >>> ((6:Int32) &&& 31)) &&& (3:Int32)) I _ _ _ h hR hS (hv_sub hl [2, 3, 1, 0] rfl)
  · replace h := h.2.1 c11
    refine v_tblIn (tgt := 84) hx hb (v := (1:Int32)) dL_does_17 c11 (by decide) (by decide) rfl (by decide) ?_
    exact hJ84 ((x1 >>> ((4:Int32) &&& 31)) &&& (3:Int32)) ((x1 >>> ((6:Int32) &&& 31)) &&& (3:Int32)) I _ _ _ h hR hS (hv_sub hl [2, 3, 1, 0] rfl)
  · replace h := h.2.2.1 c11
    refine v_tblIn (tgt := 84) hx hb (v := (2:Int32)) dL_does_17 c11 (by decide) (by decide) rfl (by decide) ?_
    exact hJ84 ((x1 >>> ((4:Int32) &&& 31)) &&& (3:Int32)) ((x1 >>> ((6:Int32) &&& 31)) &&& (3:Int32)) I _ _ _ h hR hS (hv_sub hl [2, 3, 1, 0] rfl)
  · replace h := h.2.2.2.1 c11
    refine v_tblIn (tgt := 84) hx hb (v := (3:Int32)) dL_does_17 c11 (by decide) (by decide) rfl (by decide) ?_
    exact hJ84 ((x1 >>> ((4:Int32) &&& 31)) &&& (3:Int32)) ((x1 >>> ((6:Int32) &&& 31)) &&& (3:Int32)) I _ _ _ h hR hS (hv_sub hl [2, 3, 1, 0] rfl)
  · replace h := h.2.2.2.2.1 c11
    refine v_tblIn (tgt := 98) hx hb (v := (4:Int32)) dL_does_17 c11 (by decide) (by decide) rfl (by decide) ?_
    exact hJ98 ((x1 >>> ((4:Int32) &&& 31)) &&& (3:Int32)) ((x1 >>> ((6:Int32) &&& 31)) &&& (3:Int32)) I _ _ _ h hR hS (hv_sub hl [2, 3, 1, 0] rfl)
  · replace h := h.2.2.2.2.2.1 c11
    refine v_tblIn (tgt := 98) hx hb (v := (5:Int32)) dL_does_17 c11 (by decide) (by decide) rfl (by decide) ?_
    exact hJ98 ((x1 >>> ((4:Int32) &&& 31)) &&& (3:Int32)) ((x1 >>> ((6:Int32) &&& 31)) &&& (3:Int32)) I _ _ _ h hR hS (hv_sub hl [2, 3, 1, 0] rfl)
  · replace h := h.2.2.2.2.2.2.1 c11
    refine v_tblIn (tgt := 98) hx hb (v := (6:Int32)) dL_does_17 c11 (by decide) (by decide) rfl (by decide) ?_
    exact hJ98 ((x1 >>> ((4:Int32) &&& 31)) &&& (3:Int32)) ((x1 >>> ((6:Int32) &&& 31)) &&& (3:Int32)) I _ _ _ h hR hS (hv_sub hl [2, 3, 1, 0] rfl)
  · replace h := h.2.2.2.2.2.2.2.1 c11
    refine v_tblIn (tgt := 121) hx hb (v := (7:Int32)) dL_does_17 c11 (by decide) (by decide) rfl (by decide) ?_
    refine v_aload_n hx hb dL_does_121 rfl (hv_at hl 2 rfl) ?_
    refine lv_iload_n hx hb dL_does_122 rfl (hv_at hl 1 rfl) ?_
    obtain ⟨r12, e_o0, h⟩ := h
    have hl : hv ls 4 [(3, .int ((x1 >>> ((6:Int32) &&& 31)) &&& (3:Int32))), (2, .int ((x1 >>> ((4:Int32) &&& 31)) &&& (3:Int32))), (0, .ref r12), (1, .int x1)] := by (try rw [e_o0] at hl); exact hl
    try rw [e_o0]
    obtain ⟨hf13, h⟩ := h
    refine v_cVi (As := [.int ((x1 >>> ((4:Int32) &&& 31)) &&& (3:Int32))]) C hR hS hl.1.1 ca_X6_withdraw kml_L_24 (L_X6_withdraw E l r12 ((x1 >>> ((4:Int32) &&& 31)) &&& (3:Int32)) I _ h) (IsTag.k hf13) rfl rfl rfl rfl (Nat.le_of_ble_eq_true rfl) ⟨Nat.le_of_ble_eq_true rfl, Nat.le_of_ble_eq_true rfl⟩ ⟨Nat.zero_le _, Nat.zero_le _⟩ dL_does_123 (fun v15 I14 H locs h hR hS => ?_)
    exact w_ireti C rfl rfl hR hS h dL_does_126
  · replace h := h.2.2.2.2.2.2.2.2.1 c11
    refine v_tblIn (tgt := 127) hx hb (v := (8:Int32)) dL_does_17 c11 (by decide) (by decide) rfl (by decide) ?_
    refine v_aload_n hx hb dL_does_127 rfl (hv_at hl 2 rfl) ?_
    refine lv_iconst (v := (0:Int32)) hx hb dL_does_128 rfl ?_
    refine lv_iconst (v := (1:Int32)) hx hb dL_does_129 rfl ?_
    refine lv_iload_n hx hb dL_does_130 rfl (hv_at hl 3 rfl) ?_
    refine lv_bipush (v := (8:Int32)) hx hb dL_does_131 (by decide) ?_
    refine lv_ishr hx hb dL_does_133 ?_
    refine lv_bipush (v := (7:Int32)) hx hb dL_does_134 (by decide) ?_
    refine lv_iand hx hb dL_does_136 ?_
    refine lv_iadd hx hb dL_does_137 ?_
    obtain ⟨r16, e_o0, h⟩ := h
    have hl : hv ls 4 [(3, .int ((x1 >>> ((6:Int32) &&& 31)) &&& (3:Int32))), (2, .int ((x1 >>> ((4:Int32) &&& 31)) &&& (3:Int32))), (0, .ref r16), (1, .int x1)] := by (try rw [e_o0] at hl); exact hl
    try rw [e_o0]
    obtain ⟨hf17, h⟩ := h
    refine v_cVi (As := [.int (0:Int32), .int ((1:Int32) + ((x1 >>> ((8:Int32) &&& 31)) &&& (7:Int32)))]) C hR hS hl.1.1 ca_X6_set kml_L_28 (L_X6_set E l r16 (0:Int32) ((1:Int32) + ((x1 >>> ((8:Int32) &&& 31)) &&& (7:Int32))) I _ h) (IsTag.k hf17) rfl rfl rfl rfl (Nat.le_of_ble_eq_true rfl) ⟨Nat.le_of_ble_eq_true rfl, Nat.le_of_ble_eq_true rfl⟩ ⟨Nat.zero_le _, Nat.zero_le _⟩ dL_does_138 (fun v19 I18 H locs h hR hS => ?_)
    exact w_ireti C rfl rfl hR hS h dL_does_141
  · replace h := h.2.2.2.2.2.2.2.2.2.1 c11
    refine v_tblIn (tgt := 142) hx hb (v := (9:Int32)) dL_does_17 c11 (by decide) (by decide) rfl (by decide) ?_
    refine lv_iload_n hx hb dL_does_142 rfl (hv_at hl 3 rfl) ?_
    refine lv_iconst (v := (4:Int32)) hx hb dL_does_143 rfl ?_
    refine lv_ishr hx hb dL_does_144 ?_
    refine lv_iconst (v := (1:Int32)) hx hb dL_does_145 rfl ?_
    refine lv_iand hx hb dL_does_146 ?_
    refine lv_if_ne (tgt := 166) hx hb dL_does_147 (by decide) (fun c32 => ?_) (fun c32 => ?_)
    · replace h := h.1 c32
      refine v_aload_n hx hb dL_does_166 rfl (hv_at hl 2 rfl) ?_
      refine lv_iconst (v := (2:Int32)) hx hb dL_does_167 rfl ?_
      refine lv_iconst (v := (1:Int32)) hx hb dL_does_168 rfl ?_
      refine lv_iload_n hx hb dL_does_169 rfl (hv_at hl 3 rfl) ?_
      refine lv_bipush (v := (8:Int32)) hx hb dL_does_170 (by decide) ?_
      refine lv_ishr hx hb dL_does_172 ?_
      refine lv_bipush (v := (20:Int32)) hx hb dL_does_173 (by decide) ?_
      refine v_cSi (As := [.int (x1 >>> ((8:Int32) &&& 31)), .int (20:Int32)]) C hR hS hl.1.1 ca_L_low kml_L_14 (L_L_low E l (x1 >>> ((8:Int32) &&& 31)) (20:Int32) I _ h) rfl rfl (by simp only [List.map_cons, List.map_nil, cat_rf, List.sum_cons, List.sum_nil]; exact Nat.le_of_ble_eq_true rfl) ⟨Nat.le_of_ble_eq_true rfl, Nat.le_of_ble_eq_true rfl⟩ ⟨Nat.zero_le _, Nat.zero_le _⟩ dL_does_175 (fun v21 I20 H locs h hR hS => ?_)
      refine lv_iadd hx hb dL_does_178 ?_
      obtain ⟨r22, e_o0, h⟩ := h
      have hl : hv ls 4 [(3, .int ((x1 >>> ((6:Int32) &&& 31)) &&& (3:Int32))), (2, .int ((x1 >>> ((4:Int32) &&& 31)) &&& (3:Int32))), (0, .ref r22), (1, .int x1)] := by (try rw [e_o0] at hl); exact hl
      try rw [e_o0]
      obtain ⟨hf23, h⟩ := h
      refine v_cVi (As := [.int (2:Int32), .int ((1:Int32) + v21)]) C hR hS hl.1.1 ca_X6_set kml_L_28 (L_X6_set E l r22 (2:Int32) ((1:Int32) + v21) I20 _ h) (IsTag.k hf23) rfl rfl rfl rfl (Nat.le_of_ble_eq_true rfl) ⟨Nat.le_of_ble_eq_true rfl, Nat.le_of_ble_eq_true rfl⟩ ⟨Nat.zero_le _, Nat.zero_le _⟩ dL_does_179 (fun v25 I24 H locs h hR hS => ?_)
      exact hJ182 v25 I24 _ _ _ h hR hS (hv_sub hl [] rfl)
    · replace h := h.2 c32
      refine v_aload_n hx hb dL_does_150 rfl (hv_at hl 2 rfl) ?_
      refine lv_iconst (v := (1:Int32)) hx hb dL_does_151 rfl ?_
      refine lv_iload_n hx hb dL_does_152 rfl (hv_at hl 3 rfl) ?_
      refine lv_bipush (v := (8:Int32)) hx hb dL_does_153 (by decide) ?_
      refine lv_ishr hx hb dL_does_155 ?_
      refine lv_iconst (v := (3:Int32)) hx hb dL_does_156 rfl ?_
      refine v_cSi (As := [.int (x1 >>> ((8:Int32) &&& 31)), .int (3:Int32)]) C hR hS hl.1.1 ca_L_low kml_L_14 (L_L_low E l (x1 >>> ((8:Int32) &&& 31)) (3:Int32) I _ h) rfl rfl (by simp only [List.map_cons, List.map_nil, cat_rf, List.sum_cons, List.sum_nil]; exact Nat.le_of_ble_eq_true rfl) ⟨Nat.le_of_ble_eq_true rfl, Nat.le_of_ble_eq_true rfl⟩ ⟨Nat.zero_le _, Nat.zero_le _⟩ dL_does_157 (fun v27 I26 H locs h hR hS => ?_)
      obtain ⟨r28, e_o0, h⟩ := h
      have hl : hv ls 4 [(3, .int ((x1 >>> ((6:Int32) &&& 31)) &&& (3:Int32))), (2, .int ((x1 >>> ((4:Int32) &&& 31)) &&& (3:Int32))), (0, .ref r28), (1, .int x1)] := by (try rw [e_o0] at hl); exact hl
      try rw [e_o0]
      obtain ⟨hf29, h⟩ := h
      refine v_cVi (As := [.int (1:Int32), .int v27]) C hR hS hl.1.1 ca_X6_set kml_L_28 (L_X6_set E l r28 (1:Int32) v27 I26 _ h) (IsTag.k hf29) rfl rfl rfl rfl (Nat.le_of_ble_eq_true rfl) ⟨Nat.le_of_ble_eq_true rfl, Nat.le_of_ble_eq_true rfl⟩ ⟨Nat.zero_le _, Nat.zero_le _⟩ dL_does_160 (fun v31 I30 H locs h hR hS => ?_)
      refine lv_goto (tgt := 182) hx hb dL_does_163 (by decide) ?_
      exact hJ182 v31 I30 _ _ _ h hR hS (hv_sub hl [] rfl)
  · replace h := h.2.2.2.2.2.2.2.2.2.2.1 c11
    refine v_tblIn (tgt := 183) hx hb (v := (10:Int32)) dL_does_17 c11 (by decide) (by decide) rfl (by decide) ?_
    refine v_aload_n hx hb dL_does_183 rfl (hv_at hl 2 rfl) ?_
    refine lv_iload_n hx hb dL_does_184 rfl (hv_at hl 1 rfl) ?_
    refine lv_iconst (v := (1:Int32)) hx hb dL_does_185 rfl ?_
    refine lv_iload_n hx hb dL_does_186 rfl (hv_at hl 3 rfl) ?_
    refine lv_bipush (v := (8:Int32)) hx hb dL_does_187 (by decide) ?_
    refine lv_ishr hx hb dL_does_189 ?_
    refine lv_bipush (v := (7:Int32)) hx hb dL_does_190 (by decide) ?_
    refine lv_iand hx hb dL_does_192 ?_
    refine lv_iadd hx hb dL_does_193 ?_
    obtain ⟨r33, e_o0, h⟩ := h
    have hl : hv ls 4 [(3, .int ((x1 >>> ((6:Int32) &&& 31)) &&& (3:Int32))), (2, .int ((x1 >>> ((4:Int32) &&& 31)) &&& (3:Int32))), (0, .ref r33), (1, .int x1)] := by (try rw [e_o0] at hl); exact hl
    try rw [e_o0]
    obtain ⟨hf34, h⟩ := h
    refine v_cVi (As := [.int ((x1 >>> ((4:Int32) &&& 31)) &&& (3:Int32)), .int ((1:Int32) + ((x1 >>> ((8:Int32) &&& 31)) &&& (7:Int32)))]) C hR hS hl.1.1 ca_X6_setShare kml_L_31 (L_X6_setShare E l r33 ((x1 >>> ((4:Int32) &&& 31)) &&& (3:Int32)) ((1:Int32) + ((x1 >>> ((8:Int32) &&& 31)) &&& (7:Int32))) I _ h) (IsTag.k hf34) rfl rfl rfl rfl (Nat.le_of_ble_eq_true rfl) ⟨Nat.le_of_ble_eq_true rfl, Nat.le_of_ble_eq_true rfl⟩ ⟨Nat.zero_le _, Nat.zero_le _⟩ dL_does_194 (fun v36 I35 H locs h hR hS => ?_)
    exact w_ireti C rfl rfl hR hS h dL_does_197
  · replace h := h.2.2.2.2.2.2.2.2.2.2.2.1 c11
    refine v_tblIn (tgt := 198) hx hb (v := (11:Int32)) dL_does_17 c11 (by decide) (by decide) rfl (by decide) ?_
    refine lv_iload_n hx hb dL_does_198 rfl (hv_at hl 0 rfl) ?_
    refine lv_if_ne (tgt := 219) hx hb dL_does_199 (by decide) (fun c52 => ?_) (fun c52 => ?_)
    · replace h := h.1 c52
      refine lv_iload_n hx hb dL_does_219 rfl (hv_at hl 0 rfl) ?_
      refine lv_iconst (v := (1:Int32)) hx hb dL_does_220 rfl ?_
      refine lv_icmp_ne (tgt := 244) hx hb dL_does_221 (by decide) (fun c47 => ?_) (fun c47 => ?_)
      · replace h := h.1 c47
        refine v_aload_n hx hb dL_does_244 rfl (hv_at hl 2 rfl) ?_
        refine lv_iload_n hx hb dL_does_245 rfl (hv_at hl 1 rfl) ?_
        refine lv_iconst (v := (2:Int32)) hx hb dL_does_246 rfl ?_
        refine lv_iload_n hx hb dL_does_247 rfl (hv_at hl 3 rfl) ?_
        refine lv_bipush (v := (8:Int32)) hx hb dL_does_248 (by decide) ?_
        refine lv_ishr hx hb dL_does_250 ?_
        refine lv_iconst (v := (1:Int32)) hx hb dL_does_251 rfl ?_
        refine lv_iand hx hb dL_does_252 ?_
        obtain ⟨r37, e_o0, h⟩ := h
        have hl : hv ls 4 [(3, .int ((x1 >>> ((6:Int32) &&& 31)) &&& (3:Int32))), (2, .int ((x1 >>> ((4:Int32) &&& 31)) &&& (3:Int32))), (0, .ref r37), (1, .int x1)] := by (try rw [e_o0] at hl); exact hl
        try rw [e_o0]
        obtain ⟨hf38, h⟩ := h
        refine v_cVi (As := [.int ((x1 >>> ((4:Int32) &&& 31)) &&& (3:Int32)), .int (2:Int32), .int ((x1 >>> ((8:Int32) &&& 31)) &&& (1:Int32))]) C hR hS hl.1.1 ca_X6_setTarget kml_L_34 (L_X6_setTarget E l r37 ((x1 >>> ((4:Int32) &&& 31)) &&& (3:Int32)) (2:Int32) ((x1 >>> ((8:Int32) &&& 31)) &&& (1:Int32)) I _ h) (IsTag.k hf38) rfl rfl rfl rfl (Nat.le_of_ble_eq_true rfl) ⟨Nat.le_of_ble_eq_true rfl, Nat.le_of_ble_eq_true rfl⟩ ⟨Nat.zero_le _, Nat.zero_le _⟩ dL_does_253 (fun v40 I39 H locs h hR hS => ?_)
        exact hJ256 v40 I39 _ _ _ h hR hS (hv_sub hl [] rfl)
      · replace h := h.2 c47
        refine v_aload_n hx hb dL_does_224 rfl (hv_at hl 2 rfl) ?_
        refine lv_iload_n hx hb dL_does_225 rfl (hv_at hl 1 rfl) ?_
        refine lv_iconst (v := (1:Int32)) hx hb dL_does_226 rfl ?_
        refine lv_iconst (v := (1:Int32)) hx hb dL_does_227 rfl ?_
        refine lv_iload_n hx hb dL_does_228 rfl (hv_at hl 3 rfl) ?_
        refine lv_bipush (v := (8:Int32)) hx hb dL_does_229 (by decide) ?_
        refine lv_ishr hx hb dL_does_231 ?_
        refine lv_bipush (v := (9:Int32)) hx hb dL_does_232 (by decide) ?_
        refine v_cSi (As := [.int (x1 >>> ((8:Int32) &&& 31)), .int (9:Int32)]) C hR hS hl.1.1 ca_L_low kml_L_14 (L_L_low E l (x1 >>> ((8:Int32) &&& 31)) (9:Int32) I _ h) rfl rfl (by simp only [List.map_cons, List.map_nil, cat_rf, List.sum_cons, List.sum_nil]; exact Nat.le_of_ble_eq_true rfl) ⟨Nat.le_of_ble_eq_true rfl, Nat.le_of_ble_eq_true rfl⟩ ⟨Nat.zero_le _, Nat.zero_le _⟩ dL_does_234 (fun v42 I41 H locs h hR hS => ?_)
        refine lv_iadd hx hb dL_does_237 ?_
        obtain ⟨r43, e_o0, h⟩ := h
        have hl : hv ls 4 [(3, .int ((x1 >>> ((6:Int32) &&& 31)) &&& (3:Int32))), (2, .int ((x1 >>> ((4:Int32) &&& 31)) &&& (3:Int32))), (0, .ref r43), (1, .int x1)] := by (try rw [e_o0] at hl); exact hl
        try rw [e_o0]
        obtain ⟨hf44, h⟩ := h
        refine v_cVi (As := [.int ((x1 >>> ((4:Int32) &&& 31)) &&& (3:Int32)), .int (1:Int32), .int ((1:Int32) + v42)]) C hR hS hl.1.1 ca_X6_setTarget kml_L_34 (L_X6_setTarget E l r43 ((x1 >>> ((4:Int32) &&& 31)) &&& (3:Int32)) (1:Int32) ((1:Int32) + v42) I41 _ h) (IsTag.k hf44) rfl rfl rfl rfl (Nat.le_of_ble_eq_true rfl) ⟨Nat.le_of_ble_eq_true rfl, Nat.le_of_ble_eq_true rfl⟩ ⟨Nat.zero_le _, Nat.zero_le _⟩ dL_does_238 (fun v46 I45 H locs h hR hS => ?_)
        refine lv_goto (tgt := 256) hx hb dL_does_241 (by decide) ?_
        exact hJ256 v46 I45 _ _ _ h hR hS (hv_sub hl [] rfl)
    · replace h := h.2 c52
      refine v_aload_n hx hb dL_does_202 rfl (hv_at hl 2 rfl) ?_
      refine lv_iload_n hx hb dL_does_203 rfl (hv_at hl 1 rfl) ?_
      refine lv_iconst (v := (0:Int32)) hx hb dL_does_204 rfl ?_
      refine lv_iconst (v := (1:Int32)) hx hb dL_does_205 rfl ?_
      refine lv_iload_n hx hb dL_does_206 rfl (hv_at hl 3 rfl) ?_
      refine lv_bipush (v := (8:Int32)) hx hb dL_does_207 (by decide) ?_
      refine lv_ishr hx hb dL_does_209 ?_
      refine lv_iconst (v := (3:Int32)) hx hb dL_does_210 rfl ?_
      refine lv_iand hx hb dL_does_211 ?_
      refine lv_iadd hx hb dL_does_212 ?_
      obtain ⟨r48, e_o0, h⟩ := h
      have hl : hv ls 4 [(3, .int ((x1 >>> ((6:Int32) &&& 31)) &&& (3:Int32))), (2, .int ((x1 >>> ((4:Int32) &&& 31)) &&& (3:Int32))), (0, .ref r48), (1, .int x1)] := by (try rw [e_o0] at hl); exact hl
      try rw [e_o0]
      obtain ⟨hf49, h⟩ := h
      refine v_cVi (As := [.int ((x1 >>> ((4:Int32) &&& 31)) &&& (3:Int32)), .int (0:Int32), .int ((1:Int32) + ((x1 >>> ((8:Int32) &&& 31)) &&& (3:Int32)))]) C hR hS hl.1.1 ca_X6_setTarget kml_L_34 (L_X6_setTarget E l r48 ((x1 >>> ((4:Int32) &&& 31)) &&& (3:Int32)) (0:Int32) ((1:Int32) + ((x1 >>> ((8:Int32) &&& 31)) &&& (3:Int32))) I _ h) (IsTag.k hf49) rfl rfl rfl rfl (Nat.le_of_ble_eq_true rfl) ⟨Nat.le_of_ble_eq_true rfl, Nat.le_of_ble_eq_true rfl⟩ ⟨Nat.zero_le _, Nat.zero_le _⟩ dL_does_213 (fun v51 I50 H locs h hR hS => ?_)
      refine lv_goto (tgt := 256) hx hb dL_does_216 (by decide) ?_
      exact hJ256 v51 I50 _ _ _ h hR hS (hv_sub hl [] rfl)
  · replace h := h.2.2.2.2.2.2.2.2.2.2.2.2.1 c11
    refine v_tblIn (tgt := 257) hx hb (v := (12:Int32)) dL_does_17 c11 (by decide) (by decide) rfl (by decide) ?_
    refine v_aload_n hx hb dL_does_257 rfl (hv_at hl 2 rfl) ?_
    refine lv_iload_n hx hb dL_does_258 rfl (hv_at hl 1 rfl) ?_
    refine lv_iload_n hx hb dL_does_259 rfl (hv_at hl 3 rfl) ?_
    refine lv_bipush (v := (8:Int32)) hx hb dL_does_260 (by decide) ?_
    refine lv_ishr hx hb dL_does_262 ?_
    refine lv_bipush (v := (15:Int32)) hx hb dL_does_263 (by decide) ?_
    refine lv_iand hx hb dL_does_265 ?_
    refine lv_iload_n hx hb dL_does_266 rfl (hv_at hl 3 rfl) ?_
    refine lv_bipush (v := (12:Int32)) hx hb dL_does_267 (by decide) ?_
    refine lv_ishr hx hb dL_does_269 ?_
    refine lv_bipush (v := (100:Int32)) hx hb dL_does_270 (by decide) ?_
    refine v_cSi (As := [.int (x1 >>> ((12:Int32) &&& 31)), .int (100:Int32)]) C hR hS hl.1.1 ca_L_low kml_L_14 (L_L_low E l (x1 >>> ((12:Int32) &&& 31)) (100:Int32) I _ h) rfl rfl (by simp only [List.map_cons, List.map_nil, cat_rf, List.sum_cons, List.sum_nil]; exact Nat.le_of_ble_eq_true rfl) ⟨Nat.le_of_ble_eq_true rfl, Nat.le_of_ble_eq_true rfl⟩ ⟨Nat.zero_le _, Nat.zero_le _⟩ dL_does_272 (fun v54 I53 H locs h hR hS => ?_)
    obtain ⟨r55, e_o0, h⟩ := h
    have hl : hv ls 4 [(3, .int ((x1 >>> ((6:Int32) &&& 31)) &&& (3:Int32))), (2, .int ((x1 >>> ((4:Int32) &&& 31)) &&& (3:Int32))), (0, .ref r55), (1, .int x1)] := by (try rw [e_o0] at hl); exact hl
    try rw [e_o0]
    obtain ⟨hf56, h⟩ := h
    refine v_cVi (As := [.int ((x1 >>> ((4:Int32) &&& 31)) &&& (3:Int32)), .int ((x1 >>> ((8:Int32) &&& 31)) &&& (15:Int32)), .int v54]) C hR hS hl.1.1 ca_X6_setCell kml_L_37 (L_X6_setCell E l r55 ((x1 >>> ((4:Int32) &&& 31)) &&& (3:Int32)) ((x1 >>> ((8:Int32) &&& 31)) &&& (15:Int32)) v54 I53 _ h) (IsTag.k hf56) rfl rfl rfl rfl (Nat.le_of_ble_eq_true rfl) ⟨Nat.le_of_ble_eq_true rfl, Nat.le_of_ble_eq_true rfl⟩ ⟨Nat.zero_le _, Nat.zero_le _⟩ dL_does_275 (fun v58 I57 H locs h hR hS => ?_)
    exact w_ireti C rfl rfl hR hS h dL_does_278
  · replace h := h.2.2.2.2.2.2.2.2.2.2.2.2.2 c11
    refine lv_tableOut (tgt := 279) hx hb dL_does_17 c11 (by decide) ?_
    refine v_aload_n hx hb dL_does_279 rfl (hv_at hl 2 rfl) ?_
    refine lv_iconst (v := (1:Int32)) hx hb dL_does_280 rfl ?_
    refine lv_iload_n hx hb dL_does_281 rfl (hv_at hl 3 rfl) ?_
    refine lv_iconst (v := (4:Int32)) hx hb dL_does_282 rfl ?_
    refine lv_ishr hx hb dL_does_283 ?_
    refine lv_bipush (v := (6:Int32)) hx hb dL_does_284 (by decide) ?_
    refine v_cSi (As := [.int (x1 >>> ((4:Int32) &&& 31)), .int (6:Int32)]) C hR hS hl.1.1 ca_L_low kml_L_14 (L_L_low E l (x1 >>> ((4:Int32) &&& 31)) (6:Int32) I _ h) rfl rfl (by simp only [List.map_cons, List.map_nil, cat_rf, List.sum_cons, List.sum_nil]; exact Nat.le_of_ble_eq_true rfl) ⟨Nat.le_of_ble_eq_true rfl, Nat.le_of_ble_eq_true rfl⟩ ⟨Nat.zero_le _, Nat.zero_le _⟩ dL_does_286 (fun v60 I59 H locs h hR hS => ?_)
    refine lv_iadd hx hb dL_does_289 ?_
    obtain ⟨r61, e_o0, h⟩ := h
    have hl : hv ls 4 [(3, .int ((x1 >>> ((6:Int32) &&& 31)) &&& (3:Int32))), (2, .int ((x1 >>> ((4:Int32) &&& 31)) &&& (3:Int32))), (0, .ref r61), (1, .int x1)] := by (try rw [e_o0] at hl); exact hl
    try rw [e_o0]
    obtain ⟨hf62, h⟩ := h
    refine v_cVi (As := [.int ((1:Int32) + v60)]) C hR hS hl.1.1 ca_X6_pass kml_L_40 (L_X6_pass E l r61 ((1:Int32) + v60) I59 _ h) (IsTag.k hf62) rfl rfl rfl rfl (Nat.le_of_ble_eq_true rfl) ⟨Nat.le_of_ble_eq_true rfl, Nat.le_of_ble_eq_true rfl⟩ ⟨Nat.zero_le _, Nat.zero_le _⟩ dL_does_290 (fun v64 I63 H locs h hR hS => ?_)
    exact w_ireti C rfl rfl hR hS h dL_does_293
set_option maxHeartbeats 4000000 in
set_option maxRecDepth 100000 in
theorem L_L_areTagsSo (E : Ev) (l : Launch) {K : MK} {R : MR} {n : Nat} (o0 : Option Nat) (I : MI) (Q : Int32 → MI → Prop) (h : w_L_areTagsSo K R o0 I Q) : MM E l yL_areTagsSo cL_areTagsSo 6 (some Jvm.ClassFile.FieldType.boolean) 4 92 0 0 [va_rf o0] K R I n (Qi K R n Q) := by
  refine MM.of1 (by decide) RL rfl (cO cN) (Nat.le_of_ble_eq_true rfl) ?_
  intro p e s m args below meth c ls C hin hR hS hl
  have hx := C.1
  have hb := C.2.1
  have hml := C.2.2.1
  have hown := C.2.2.2.1
  have hts := C.2.2.2.2.1
  have hl : hv ls 6 [(0, va_rf o0)] := hl
  clear hin
  have hJ83 : ∀ (I : MI) (H : Heap) (locs : List Loc) (ls : Array Slot), w_L_areTagsSo_b83 K R o0 Q  I → Rep E K R I n H → va_S (AA E) s.heap H locs → hv ls 6 [] → W p l e (rmM 4 92 0 0) s m args below meth c H locs 0 0 (MQ below (QcM E (Qi K R n Q)) args s 0 0 (AA E)) (F0 m 83 ls []) := by
    intro  I H locs ls h hR hS hl
    unfold w_L_areTagsSo_b83 at h
    refine lv_iconst (v := (0:Int32)) hx hb dL_areTagsSo_83 rfl ?_
    exact w_ireti C rfl rfl hR hS h dL_areTagsSo_84
  have hJ148 : ∀ (I : MI) (H : Heap) (locs : List Loc) (ls : Array Slot), w_L_areTagsSo_b148 K R o0 Q  I → Rep E K R I n H → va_S (AA E) s.heap H locs → hv ls 6 [] → W p l e (rmM 4 92 0 0) s m args below meth c H locs 0 0 (MQ below (QcM E (Qi K R n Q)) args s 0 0 (AA E)) (F0 m 148 ls []) := by
    intro  I H locs ls h hR hS hl
    unfold w_L_areTagsSo_b148 at h
    refine lv_iconst (v := (0:Int32)) hx hb dL_areTagsSo_148 rfl ?_
    exact w_ireti C rfl rfl hR hS h dL_areTagsSo_149
  have hJ199 : ∀ (z0_199 : Int32) (I : MI) (H : Heap) (locs : List Loc) (ls : Array Slot), w_L_areTagsSo_b199 K R o0 Q z0_199 I → Rep E K R I n H → va_S (AA E) s.heap H locs → hv ls 6 [] → W p l e (rmM 4 92 0 0) s m args below meth c H locs 0 0 (MQ below (QcM E (Qi K R n Q)) args s 0 0 (AA E)) (F0 m 199 ls [.int z0_199]) := by
    intro z0_199 I H locs ls h hR hS hl
    unfold w_L_areTagsSo_b199 at h
    obtain ⟨hb13, h⟩ := h
    exact w_ireti C rfl (bz_nar hb13) hR hS h dL_areTagsSo_199
  have hJ198 : ∀ (I : MI) (H : Heap) (locs : List Loc) (ls : Array Slot), w_L_areTagsSo_b198 K R o0 Q  I → Rep E K R I n H → va_S (AA E) s.heap H locs → hv ls 6 [] → W p l e (rmM 4 92 0 0) s m args below meth c H locs 0 0 (MQ below (QcM E (Qi K R n Q)) args s 0 0 (AA E)) (F0 m 198 ls []) := by
    intro  I H locs ls h hR hS hl
    unfold w_L_areTagsSo_b198 at h
    refine lv_iconst (v := (0:Int32)) hx hb dL_areTagsSo_198 rfl ?_
    exact hJ199 (0:Int32) I _ _ _ h hR hS (hv_sub hl [] rfl)
  have hJ94 : ∀ (y1_94 : Int32) (y2_94 : Int32) (y3_94 : Int32) (y4_94 : Int32) (I : MI) (H : Heap) (locs : List Loc) (ls : Array Slot), w_L_areTagsSo_b94 K R o0 Q y1_94 y2_94 y3_94 y4_94 I → Rep E K R I n H → va_S (AA E) s.heap H locs → hv ls 6 [(0, va_rf o0), (1, .int y1_94), (2, .int y2_94), (3, .int y3_94), (4, .int y4_94)] → W p l e (rmM 4 92 0 0) s m args below meth c H locs 0 0 (MQ below (QcM E (Qi K R n Q)) args s 0 0 (AA E)) (F0 m 94 ls []) := by
    intro y1_94 y2_94 y3_94 y4_94 I H locs ls h hR hS hl
    obtain ⟨X94, hX94⟩ : ∃ X : Int32 → Int32 → Int32 → Int32 → MI → Prop, ∀ (y1_94 : Int32) (y2_94 : Int32) (y3_94 : Int32) (y4_94 : Int32) (I : MI), X y1_94 y2_94 y3_94 y4_94 I ↔ (∀ (H : Heap) (locs : List Loc) (ls : Array Slot), Rep E K R I n H → va_S (AA E) s.heap H locs → hv ls 6 [(0, va_rf o0), (1, .int y1_94), (2, .int y2_94), (3, .int y3_94), (4, .int y4_94)] → W p l e (rmM 4 92 0 0) s m args below meth c H locs 0 0 (MQ below (QcM E (Qi K R n Q)) args s 0 0 (AA E)) (F0 m 94 ls [])) := ⟨fun y1_94 y2_94 y3_94 y4_94 I => ∀ (H : Heap) (locs : List Loc) (ls : Array Slot), Rep E K R I n H → va_S (AA E) s.heap H locs → hv ls 6 [(0, va_rf o0), (1, .int y1_94), (2, .int y2_94), (3, .int y3_94), (4, .int y4_94)] → W p l e (rmM 4 92 0 0) s m args below meth c H locs 0 0 (MQ below (QcM E (Qi K R n Q)) args s 0 0 (AA E)) (F0 m 94 ls []), fun _ _ _ _ _ => Iff.rfl⟩
    refine (hX94 y1_94 y2_94 y3_94 y4_94 I).mp (h X94 ?_) H locs ls hR hS hl
    clear h hR hS hl
    clear ls locs H I y1_94 y2_94 y3_94 y4_94
    intro y1_94 y2_94 y3_94 y4_94 I h
    refine (hX94 y1_94 y2_94 y3_94 y4_94 I).mpr ?_
    intro H locs ls hR hS hl
    unfold w_L_areTagsSo_b94_body at h
    refine lv_iload hx hb dL_areTagsSo_94 (hv_at hl 4 rfl) ?_
    refine lv_iconst (v := (4:Int32)) hx hb dL_areTagsSo_96 rfl ?_
    refine lv_icmp_ge (tgt := 156) hx hb dL_areTagsSo_97 (by decide) (fun c42 => ?_) (fun c42 => ?_)
    · replace h := h.1 c42
      refine lv_iload_n hx hb dL_areTagsSo_156 rfl (hv_at hl 1 rfl) ?_
      refine lv_iload_n hx hb dL_areTagsSo_157 rfl (hv_at hl 2 rfl) ?_
      refine lv_icmp_ne (tgt := 198) hx hb dL_areTagsSo_158 (by decide) (fun c27 => ?_) (fun c27 => ?_)
      · replace h := h.1 c27
        exact hJ198 I _ _ _ h hR hS (hv_sub hl [] rfl)
      · replace h := h.2 c27
        refine lv_iload_n hx hb dL_areTagsSo_161 rfl (hv_at hl 3 rfl) ?_
        refine lv_iload_n hx hb dL_areTagsSo_162 rfl (hv_at hl 1 rfl) ?_
        refine lv_icmp_ne (tgt := 198) hx hb dL_areTagsSo_163 (by decide) (fun c26 => ?_) (fun c26 => ?_)
        · replace h := h.1 c26
          exact hJ198 I _ _ _ h hR hS (hv_sub hl [] rfl)
        · replace h := h.2 c26
          refine v_aload_n hx hb dL_areTagsSo_166 rfl (hv_at hl 0 rfl) ?_
          refine lv_iconst (v := (5:Int32)) hx hb dL_areTagsSo_167 rfl ?_
          obtain ⟨r14, e_o0, h⟩ := h
          have hl : hv ls 6 [(0, .ref r14), (1, .int y1_94), (2, .int y2_94), (3, .int y3_94), (4, .int y4_94)] := by (try rw [e_o0] at hl); exact hl
          try rw [e_o0]
          obtain ⟨hf15, h⟩ := h
          refine v_cVi (As := [.int (5:Int32)]) C hR hS hl.1.1 ca_X6_count kml_L_43 (L_X6_count E l r14 (5:Int32) I _ h) (IsTag.k hf15) rfl rfl rfl rfl (Nat.le_of_ble_eq_true rfl) ⟨Nat.le_of_ble_eq_true rfl, Nat.le_of_ble_eq_true rfl⟩ ⟨Nat.zero_le _, Nat.zero_le _⟩ dL_areTagsSo_168 (fun v17 I16 H locs h hR hS => ?_)
          refine lv_iload_n hx hb dL_areTagsSo_171 rfl (hv_at hl 1 rfl) ?_
          refine lv_iadd hx hb dL_areTagsSo_172 ?_
          refine lv_aload_n hx hb dL_areTagsSo_173 rfl (hv_at hl 0 rfl) ?_
          refine lv_iconst (v := (1:Int32)) hx hb dL_areTagsSo_174 rfl ?_
          refine v_cVi (As := [.int (1:Int32)]) C hR hS hl.1.1 ca_X6_count kml_L_43 (L_X6_count E l r14 (1:Int32) I16 _ h) (IsTag.k hf15) rfl rfl rfl rfl (Nat.le_of_ble_eq_true rfl) ⟨Nat.le_of_ble_eq_true rfl, Nat.le_of_ble_eq_true rfl⟩ ⟨Nat.zero_le _, Nat.zero_le _⟩ dL_areTagsSo_175 (fun v19 I18 H locs h hR hS => ?_)
          refine lv_icmp_ne (tgt := 198) hx hb dL_areTagsSo_178 (by decide) (fun c25 => ?_) (fun c25 => ?_)
          · replace h := h.1 c25
            exact hJ198 I18 _ _ _ h hR hS (hv_sub hl [] rfl)
          · replace h := h.2 c25
            refine lv_aload_n hx hb dL_areTagsSo_181 rfl (hv_at hl 0 rfl) ?_
            refine lv_aload_n hx hb dL_areTagsSo_182 rfl (hv_at hl 0 rfl) ?_
            refine lv_iconst (v := (1:Int32)) hx hb dL_areTagsSo_183 rfl ?_
            refine v_cVi (As := [.int (1:Int32)]) C hR hS hl.1.1 ca_X6_count kml_L_43 (L_X6_count E l r14 (1:Int32) I18 _ h) (IsTag.k hf15) rfl rfl rfl rfl (Nat.le_of_ble_eq_true rfl) ⟨Nat.le_of_ble_eq_true rfl, Nat.le_of_ble_eq_true rfl⟩ ⟨Nat.zero_le _, Nat.zero_le _⟩ dL_areTagsSo_184 (fun v21 I20 H locs h hR hS => ?_)
            refine v_cVi (As := [.int v21]) C hR hS hl.1.1 ca_X6_tag kml_L_46 (L_X6_tag E l r14 v21 I20 _ h) (IsTag.k hf15) rfl rfl rfl rfl (Nat.le_of_ble_eq_true rfl) ⟨Nat.le_of_ble_eq_true rfl, Nat.le_of_ble_eq_true rfl⟩ ⟨Nat.zero_le _, Nat.zero_le _⟩ dL_areTagsSo_187 (fun v23 I22 H locs h hR hS => ?_)
            refine lv_iconst (v := (-1:Int32)) hx hb dL_areTagsSo_190 rfl ?_
            refine lv_icmp_ne (tgt := 198) hx hb dL_areTagsSo_191 (by decide) (fun c24 => ?_) (fun c24 => ?_)
            · replace h := h.1 c24
              exact hJ198 I22 _ _ _ h hR hS (hv_sub hl [] rfl)
            · replace h := h.2 c24
              refine lv_iconst (v := (1:Int32)) hx hb dL_areTagsSo_194 rfl ?_
              refine lv_goto (tgt := 199) hx hb dL_areTagsSo_195 (by decide) ?_
              exact hJ199 (1:Int32) I22 _ _ _ h hR hS (hv_sub hl [] rfl)
    · replace h := h.2 c42
      refine lv_iload_n hx hb dL_areTagsSo_100 rfl (hv_at hl 2 rfl) ?_
      refine v_aload_n hx hb dL_areTagsSo_101 rfl (hv_at hl 0 rfl) ?_
      refine lv_iload hx hb dL_areTagsSo_102 (hv_at hl 4 rfl) ?_
      refine lv_iconst (v := (3:Int32)) hx hb dL_areTagsSo_104 rfl ?_
      obtain ⟨r28, e_o0, h⟩ := h
      have hl : hv ls 6 [(0, .ref r28), (1, .int y1_94), (2, .int y2_94), (3, .int y3_94), (4, .int y4_94)] := by (try rw [e_o0] at hl); exact hl
      try rw [e_o0]
      obtain ⟨hf29, h⟩ := h
      refine v_cVi (As := [.int y4_94, .int (3:Int32)]) C hR hS hl.1.1 ca_X6_target kml_L_52 (L_X6_target E l r28 y4_94 (3:Int32) I _ h) (IsTag.k hf29) rfl rfl rfl rfl (Nat.le_of_ble_eq_true rfl) ⟨Nat.le_of_ble_eq_true rfl, Nat.le_of_ble_eq_true rfl⟩ ⟨Nat.zero_le _, Nat.zero_le _⟩ dL_areTagsSo_105 (fun v31 I30 H locs h hR hS => ?_)
      refine lv_iadd hx hb dL_areTagsSo_108 ?_
      refine v_istore_n (lv' := [(2, .int (y2_94 + v31)), (0, .ref r28), (1, .int y1_94), (3, .int y3_94), (4, .int y4_94)]) hx hb dL_areTagsSo_109 rfl hl (by decide) rfl (fun ls hl => ?_)
      refine lv_iload_n hx hb dL_areTagsSo_110 rfl (hv_at hl 3 rfl) ?_
      refine lv_aload_n hx hb dL_areTagsSo_111 rfl (hv_at hl 1 rfl) ?_
      refine lv_iload hx hb dL_areTagsSo_112 (hv_at hl 4 rfl) ?_
      refine lv_iconst (v := (2:Int32)) hx hb dL_areTagsSo_114 rfl ?_
      refine v_cVi (As := [.int y4_94, .int (2:Int32)]) C hR hS hl.1.1 ca_X6_master kml_L_55 (L_X6_master E l r28 y4_94 (2:Int32) I30 _ h) (IsTag.k hf29) rfl rfl rfl rfl (Nat.le_of_ble_eq_true rfl) ⟨Nat.le_of_ble_eq_true rfl, Nat.le_of_ble_eq_true rfl⟩ ⟨Nat.zero_le _, Nat.zero_le _⟩ dL_areTagsSo_115 (fun v33 I32 H locs h hR hS => ?_)
      refine lv_iadd hx hb dL_areTagsSo_118 ?_
      refine v_istore_n (lv' := [(3, .int (y3_94 + v33)), (2, .int (y2_94 + v31)), (0, .ref r28), (1, .int y1_94), (4, .int y4_94)]) hx hb dL_areTagsSo_119 rfl hl (by decide) rfl (fun ls hl => ?_)
      refine lv_aload_n hx hb dL_areTagsSo_120 rfl (hv_at hl 2 rfl) ?_
      refine lv_iload hx hb dL_areTagsSo_121 (hv_at hl 4 rfl) ?_
      refine lv_iconst (v := (3:Int32)) hx hb dL_areTagsSo_123 rfl ?_
      refine v_cVi (As := [.int y4_94, .int (3:Int32)]) C hR hS hl.1.1 ca_X6_target kml_L_52 (L_X6_target E l r28 y4_94 (3:Int32) I32 _ h) (IsTag.k hf29) rfl rfl rfl rfl (Nat.le_of_ble_eq_true rfl) ⟨Nat.le_of_ble_eq_true rfl, Nat.le_of_ble_eq_true rfl⟩ ⟨Nat.zero_le _, Nat.zero_le _⟩ dL_areTagsSo_124 (fun v35 I34 H locs h hR hS => ?_)
      refine lv_iconst (v := (4:Int32)) hx hb dL_areTagsSo_127 rfl ?_
      refine lv_icmp_gt (tgt := 148) hx hb dL_areTagsSo_128 (by decide) (fun c41 => ?_) (fun c41 => ?_)
      · replace h := h.1 c41
        exact hJ148 I34 _ _ _ h hR hS (hv_sub hl [] rfl)
      · replace h := h.2 c41
        refine lv_aload_n hx hb dL_areTagsSo_131 rfl (hv_at hl 2 rfl) ?_
        refine lv_iload hx hb dL_areTagsSo_132 (hv_at hl 4 rfl) ?_
        refine lv_iconst (v := (4:Int32)) hx hb dL_areTagsSo_134 rfl ?_
        refine v_cVi (As := [.int y4_94, .int (4:Int32)]) C hR hS hl.1.1 ca_X6_target kml_L_52 (L_X6_target E l r28 y4_94 (4:Int32) I34 _ h) (IsTag.k hf29) rfl rfl rfl rfl (Nat.le_of_ble_eq_true rfl) ⟨Nat.le_of_ble_eq_true rfl, Nat.le_of_ble_eq_true rfl⟩ ⟨Nat.zero_le _, Nat.zero_le _⟩ dL_areTagsSo_135 (fun v37 I36 H locs h hR hS => ?_)
        refine lv_aload_n hx hb dL_areTagsSo_138 rfl (hv_at hl 2 rfl) ?_
        refine lv_iload hx hb dL_areTagsSo_139 (hv_at hl 4 rfl) ?_
        refine lv_iconst (v := (3:Int32)) hx hb dL_areTagsSo_141 rfl ?_
        refine v_cVi (As := [.int y4_94, .int (3:Int32)]) C hR hS hl.1.1 ca_X6_target kml_L_52 (L_X6_target E l r28 y4_94 (3:Int32) I36 _ h) (IsTag.k hf29) rfl rfl rfl rfl (Nat.le_of_ble_eq_true rfl) ⟨Nat.le_of_ble_eq_true rfl, Nat.le_of_ble_eq_true rfl⟩ ⟨Nat.zero_le _, Nat.zero_le _⟩ dL_areTagsSo_142 (fun v39 I38 H locs h hR hS => ?_)
        refine lv_icmp_le (tgt := 150) hx hb dL_areTagsSo_145 (by decide) (fun c40 => ?_) (fun c40 => ?_)
        · replace h := h.1 c40
          refine v_iinc (v := y4_94 + (1:Int32)) (k := 4) (lv' := [(4, .int (y4_94 + (1:Int32))), (3, .int (y3_94 + v33)), (2, .int (y2_94 + v31)), (0, .ref r28), (1, .int y1_94)]) hx hb dL_areTagsSo_150 hl rfl rfl (by decide) rfl (fun ls hl => ?_)
          refine lv_goto (tgt := 94) hx hb dL_areTagsSo_153 (by decide) ?_
          exact (hX94 y1_94 (y2_94 + v31) (y3_94 + v33) (y4_94 + (1:Int32)) I38).mp h _ _ _ hR hS (hv_sub hl [3, 4, 2, 1, 0] (by rw [e_o0]; rfl))
        · replace h := h.2 c40
          exact hJ148 I38 _ _ _ h hR hS (hv_sub hl [] rfl)
  have hJ9 : ∀ (y1_9 : Int32) (y2_9 : Int32) (y3_9 : Int32) (y4_9 : Int32) (I : MI) (H : Heap) (locs : List Loc) (ls : Array Slot), w_L_areTagsSo_b9 K R o0 Q y1_9 y2_9 y3_9 y4_9 I → Rep E K R I n H → va_S (AA E) s.heap H locs → hv ls 6 [(0, va_rf o0), (1, .int y1_9), (2, .int y2_9), (3, .int y3_9), (4, .int y4_9)] → W p l e (rmM 4 92 0 0) s m args below meth c H locs 0 0 (MQ below (QcM E (Qi K R n Q)) args s 0 0 (AA E)) (F0 m 9 ls []) := by
    intro y1_9 y2_9 y3_9 y4_9 I H locs ls h hR hS hl
    obtain ⟨X9, hX9⟩ : ∃ X : Int32 → Int32 → Int32 → Int32 → MI → Prop, ∀ (y1_9 : Int32) (y2_9 : Int32) (y3_9 : Int32) (y4_9 : Int32) (I : MI), X y1_9 y2_9 y3_9 y4_9 I ↔ (∀ (H : Heap) (locs : List Loc) (ls : Array Slot), Rep E K R I n H → va_S (AA E) s.heap H locs → hv ls 6 [(0, va_rf o0), (1, .int y1_9), (2, .int y2_9), (3, .int y3_9), (4, .int y4_9)] → W p l e (rmM 4 92 0 0) s m args below meth c H locs 0 0 (MQ below (QcM E (Qi K R n Q)) args s 0 0 (AA E)) (F0 m 9 ls [])) := ⟨fun y1_9 y2_9 y3_9 y4_9 I => ∀ (H : Heap) (locs : List Loc) (ls : Array Slot), Rep E K R I n H → va_S (AA E) s.heap H locs → hv ls 6 [(0, va_rf o0), (1, .int y1_9), (2, .int y2_9), (3, .int y3_9), (4, .int y4_9)] → W p l e (rmM 4 92 0 0) s m args below meth c H locs 0 0 (MQ below (QcM E (Qi K R n Q)) args s 0 0 (AA E)) (F0 m 9 ls []), fun _ _ _ _ _ => Iff.rfl⟩
    refine (hX9 y1_9 y2_9 y3_9 y4_9 I).mp (h X9 ?_) H locs ls hR hS hl
    clear h hR hS hl
    clear ls locs H I y1_9 y2_9 y3_9 y4_9
    have hJ85 : ∀ (y1_85 : Int32) (y2_85 : Int32) (y3_85 : Int32) (y4_85 : Int32) (I : MI) (H : Heap) (locs : List Loc) (ls : Array Slot), w_L_areTagsSo_b85 K R o0 Q X9 y1_85 y2_85 y3_85 y4_85 I → Rep E K R I n H → va_S (AA E) s.heap H locs → hv ls 6 [(0, va_rf o0), (1, .int y1_85), (2, .int y2_85), (3, .int y3_85), (4, .int y4_85)] → W p l e (rmM 4 92 0 0) s m args below meth c H locs 0 0 (MQ below (QcM E (Qi K R n Q)) args s 0 0 (AA E)) (F0 m 85 ls []) := by
      intro y1_85 y2_85 y3_85 y4_85 I H locs ls h hR hS hl
      unfold w_L_areTagsSo_b85 at h
      refine v_iinc (v := y4_85 + (1:Int32)) (k := 4) (lv' := [(4, .int (y4_85 + (1:Int32))), (0, va_rf o0), (1, .int y1_85), (2, .int y2_85), (3, .int y3_85)]) hx hb dL_areTagsSo_85 hl rfl rfl (by decide) rfl (fun ls hl => ?_)
      refine lv_goto (tgt := 9) hx hb dL_areTagsSo_88 (by decide) ?_
      exact (hX9 y1_85 y2_85 y3_85 (y4_85 + (1:Int32)) I).mp h _ _ _ hR hS (hv_sub hl [1, 2, 3, 4, 0] rfl)
    have hJ40 : ∀ (y2_40 : Int32) (y3_40 : Int32) (y4_40 : Int32) (y5_40 : Int32) (z0_40 : Int32) (z1_40 : Int32) (I : MI) (H : Heap) (locs : List Loc) (ls : Array Slot), w_L_areTagsSo_b40 K R o0 Q X9 y2_40 y3_40 y4_40 y5_40 z0_40 z1_40 I → Rep E K R I n H → va_S (AA E) s.heap H locs → hv ls 6 [(0, va_rf o0), (2, .int y2_40), (3, .int y3_40), (4, .int y4_40), (5, .int y5_40)] → W p l e (rmM 4 92 0 0) s m args below meth c H locs 0 0 (MQ below (QcM E (Qi K R n Q)) args s 0 0 (AA E)) (F0 m 40 ls [.int z0_40, .int z1_40]) := by
      intro y2_40 y3_40 y4_40 y5_40 z0_40 z1_40 I H locs ls h hR hS hl
      unfold w_L_areTagsSo_b40 at h
      refine lv_iadd hx hb dL_areTagsSo_40 ?_
      refine v_istore_n (lv' := [(1, .int (z1_40 + z0_40)), (0, va_rf o0), (2, .int y2_40), (3, .int y3_40), (4, .int y4_40), (5, .int y5_40)]) hx hb dL_areTagsSo_41 rfl hl (by decide) rfl (fun ls hl => ?_)
      refine lv_iload hx hb dL_areTagsSo_42 (hv_at hl 5 rfl) ?_
      refine lv_bipush (v := (-5:Int32)) hx hb dL_areTagsSo_44 (by decide) ?_
      refine lv_icmp_eq (tgt := 85) hx hb dL_areTagsSo_46 (by decide) (fun c12 => ?_) (fun c12 => ?_)
      · replace h := h.1 c12
        exact hJ85 (z1_40 + z0_40) y2_40 y3_40 y4_40 I _ _ _ h hR hS (hv_sub hl [1, 0, 2, 3, 4] rfl)
      · replace h := h.2 c12
        refine v_aload_n hx hb dL_areTagsSo_49 rfl (hv_at hl 1 rfl) ?_
        refine lv_iload hx hb dL_areTagsSo_50 (hv_at hl 5 rfl) ?_
        refine lv_iconst (v := (5:Int32)) hx hb dL_areTagsSo_52 rfl ?_
        obtain ⟨r1, e_o0, h⟩ := h
        have hl : hv ls 6 [(1, .int (z1_40 + z0_40)), (0, .ref r1), (2, .int y2_40), (3, .int y3_40), (4, .int y4_40), (5, .int y5_40)] := by (try rw [e_o0] at hl); exact hl
        try rw [e_o0]
        obtain ⟨hf2, h⟩ := h
        refine v_cVi (As := [.int y5_40, .int (5:Int32)]) C hR hS hl.1.1 ca_X6_question kml_L_49 (L_X6_question E l r1 y5_40 (5:Int32) I _ h) (IsTag.k hf2) rfl rfl rfl rfl (Nat.le_of_ble_eq_true rfl) ⟨Nat.le_of_ble_eq_true rfl, Nat.le_of_ble_eq_true rfl⟩ ⟨Nat.zero_le _, Nat.zero_le _⟩ dL_areTagsSo_53 (fun v4 I3 H locs h hR hS => ?_)
        refine lv_iload hx hb dL_areTagsSo_56 (hv_at hl 4 rfl) ?_
        refine lv_icmp_ne (tgt := 83) hx hb dL_areTagsSo_58 (by decide) (fun c11 => ?_) (fun c11 => ?_)
        · replace h := h.1 c11
          exact hJ83 I3 _ _ _ h hR hS (hv_sub hl [] rfl)
        · replace h := h.2 c11
          refine lv_aload_n hx hb dL_areTagsSo_61 rfl (hv_at hl 1 rfl) ?_
          refine lv_iload hx hb dL_areTagsSo_62 (hv_at hl 5 rfl) ?_
          refine lv_iconst (v := (4:Int32)) hx hb dL_areTagsSo_64 rfl ?_
          refine v_cVi (As := [.int y5_40, .int (4:Int32)]) C hR hS hl.1.1 ca_X6_question kml_L_49 (L_X6_question E l r1 y5_40 (4:Int32) I3 _ h) (IsTag.k hf2) rfl rfl rfl rfl (Nat.le_of_ble_eq_true rfl) ⟨Nat.le_of_ble_eq_true rfl, Nat.le_of_ble_eq_true rfl⟩ ⟨Nat.zero_le _, Nat.zero_le _⟩ dL_areTagsSo_65 (fun v6 I5 H locs h hR hS => ?_)
          refine lv_iconst (v := (1:Int32)) hx hb dL_areTagsSo_68 rfl ?_
          refine lv_icmp_lt (tgt := 83) hx hb dL_areTagsSo_69 (by decide) (fun c10 => ?_) (fun c10 => ?_)
          · replace h := h.1 c10
            exact hJ83 I5 _ _ _ h hR hS (hv_sub hl [] rfl)
          · replace h := h.2 c10
            refine lv_aload_n hx hb dL_areTagsSo_72 rfl (hv_at hl 1 rfl) ?_
            refine lv_iload hx hb dL_areTagsSo_73 (hv_at hl 5 rfl) ?_
            refine lv_iconst (v := (4:Int32)) hx hb dL_areTagsSo_75 rfl ?_
            refine v_cVi (As := [.int y5_40, .int (4:Int32)]) C hR hS hl.1.1 ca_X6_question kml_L_49 (L_X6_question E l r1 y5_40 (4:Int32) I5 _ h) (IsTag.k hf2) rfl rfl rfl rfl (Nat.le_of_ble_eq_true rfl) ⟨Nat.le_of_ble_eq_true rfl, Nat.le_of_ble_eq_true rfl⟩ ⟨Nat.zero_le _, Nat.zero_le _⟩ dL_areTagsSo_76 (fun v8 I7 H locs h hR hS => ?_)
            refine lv_iconst (v := (2:Int32)) hx hb dL_areTagsSo_79 rfl ?_
            refine lv_icmp_le (tgt := 85) hx hb dL_areTagsSo_80 (by decide) (fun c9 => ?_) (fun c9 => ?_)
            · replace h := h.1 c9
              exact hJ85 (z1_40 + z0_40) y2_40 y3_40 y4_40 I7 _ _ _ h hR hS (hv_sub hl [1, 0, 2, 3, 4] (by rw [e_o0]; rfl))
            · replace h := h.2 c9
              exact hJ83 I7 _ _ _ h hR hS (hv_sub hl [] rfl)
    intro y1_9 y2_9 y3_9 y4_9 I h
    refine (hX9 y1_9 y2_9 y3_9 y4_9 I).mpr ?_
    intro H locs ls hR hS hl
    unfold w_L_areTagsSo_b9_body at h
    refine lv_iload hx hb dL_areTagsSo_9 (hv_at hl 4 rfl) ?_
    refine v_aload_n hx hb dL_areTagsSo_11 rfl (hv_at hl 0 rfl) ?_
    refine lv_iconst (v := (1:Int32)) hx hb dL_areTagsSo_12 rfl ?_
    obtain ⟨r43, e_o0, h⟩ := h
    have hl : hv ls 6 [(0, .ref r43), (1, .int y1_9), (2, .int y2_9), (3, .int y3_9), (4, .int y4_9)] := by (try rw [e_o0] at hl); exact hl
    try rw [e_o0]
    obtain ⟨hf44, h⟩ := h
    refine v_cVi (As := [.int (1:Int32)]) C hR hS hl.1.1 ca_X6_count kml_L_43 (L_X6_count E l r43 (1:Int32) I _ h) (IsTag.k hf44) rfl rfl rfl rfl (Nat.le_of_ble_eq_true rfl) ⟨Nat.le_of_ble_eq_true rfl, Nat.le_of_ble_eq_true rfl⟩ ⟨Nat.zero_le _, Nat.zero_le _⟩ dL_areTagsSo_13 (fun v46 I45 H locs h hR hS => ?_)
    refine lv_icmp_ge (tgt := 91) hx hb dL_areTagsSo_16 (by decide) (fun c50 => ?_) (fun c50 => ?_)
    · replace h := h.1 c50
      refine lv_iconst (v := (0:Int32)) hx hb dL_areTagsSo_91 rfl ?_
      refine v_istore (lv' := [(4, .int (0:Int32)), (0, .ref r43), (1, .int y1_9), (2, .int y2_9), (3, .int y3_9)]) hx hb dL_areTagsSo_92 hl (by decide) rfl (fun ls hl => ?_)
      exact hJ94 y1_9 y2_9 y3_9 (0:Int32) I45 _ _ _ h hR hS (hv_sub hl [1, 2, 3, 4, 0] (by rw [e_o0]; rfl))
    · replace h := h.2 c50
      refine lv_aload_n hx hb dL_areTagsSo_19 rfl (hv_at hl 0 rfl) ?_
      refine lv_iload hx hb dL_areTagsSo_20 (hv_at hl 4 rfl) ?_
      refine v_cVi (As := [.int y4_9]) C hR hS hl.1.1 ca_X6_tag kml_L_46 (L_X6_tag E l r43 y4_9 I45 _ h) (IsTag.k hf44) rfl rfl rfl rfl (Nat.le_of_ble_eq_true rfl) ⟨Nat.le_of_ble_eq_true rfl, Nat.le_of_ble_eq_true rfl⟩ ⟨Nat.zero_le _, Nat.zero_le _⟩ dL_areTagsSo_22 (fun v48 I47 H locs h hR hS => ?_)
      refine v_istore (lv' := [(5, .int v48), (0, .ref r43), (1, .int y1_9), (2, .int y2_9), (3, .int y3_9), (4, .int y4_9)]) hx hb dL_areTagsSo_25 hl (by decide) rfl (fun ls hl => ?_)
      refine lv_iload_n hx hb dL_areTagsSo_27 rfl (hv_at hl 2 rfl) ?_
      refine lv_iload hx hb dL_areTagsSo_28 (hv_at hl 0 rfl) ?_
      refine lv_bipush (v := (-5:Int32)) hx hb dL_areTagsSo_30 (by decide) ?_
      refine lv_icmp_ne (tgt := 39) hx hb dL_areTagsSo_32 (by decide) (fun c49 => ?_) (fun c49 => ?_)
      · replace h := h.1 c49
        refine lv_iconst (v := (1:Int32)) hx hb dL_areTagsSo_39 rfl ?_
        exact hJ40 y2_9 y3_9 y4_9 v48 (1:Int32) y1_9 I47 _ _ _ h hR hS (hv_sub hl [1, 3, 4, 5, 0] (by rw [e_o0]; rfl))
      · replace h := h.2 c49
        refine lv_iconst (v := (0:Int32)) hx hb dL_areTagsSo_35 rfl ?_
        refine lv_goto (tgt := 40) hx hb dL_areTagsSo_36 (by decide) ?_
        exact hJ40 y2_9 y3_9 y4_9 v48 (0:Int32) y1_9 I47 _ _ _ h hR hS (hv_sub hl [1, 3, 4, 5, 0] (by rw [e_o0]; rfl))
  unfold w_L_areTagsSo at h
  refine lv_iconst (v := (0:Int32)) hx hb dL_areTagsSo_0 rfl ?_
  refine v_istore_n (lv' := [(1, .int (0:Int32)), (0, va_rf o0)]) hx hb dL_areTagsSo_1 rfl hl (by decide) rfl (fun ls hl => ?_)
  refine lv_iconst (v := (0:Int32)) hx hb dL_areTagsSo_2 rfl ?_
  refine v_istore_n (lv' := [(2, .int (0:Int32)), (1, .int (0:Int32)), (0, va_rf o0)]) hx hb dL_areTagsSo_3 rfl hl (by decide) rfl (fun ls hl => ?_)
  refine lv_iconst (v := (0:Int32)) hx hb dL_areTagsSo_4 rfl ?_
  refine v_istore_n (lv' := [(3, .int (0:Int32)), (2, .int (0:Int32)), (1, .int (0:Int32)), (0, va_rf o0)]) hx hb dL_areTagsSo_5 rfl hl (by decide) rfl (fun ls hl => ?_)
  refine lv_iconst (v := (0:Int32)) hx hb dL_areTagsSo_6 rfl ?_
  refine v_istore (lv' := [(4, .int (0:Int32)), (3, .int (0:Int32)), (2, .int (0:Int32)), (1, .int (0:Int32)), (0, va_rf o0)]) hx hb dL_areTagsSo_7 hl (by decide) rfl (fun ls hl => ?_)
  exact hJ9 (0:Int32) (0:Int32) (0:Int32) (0:Int32) I _ _ _ h hR hS (hv_sub hl [4, 3, 2, 1, 0] rfl)
