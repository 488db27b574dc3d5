set_option maxHeartbeats 4000000 in
set_option maxRecDepth 100000 in
theorem L_X7_tick (E : Ev) (l : Launch) {K : MK} {R : MR} {n : Nat} (a0 : Nat) (I : MI) (Q : Int32 → MI → Prop) (h : w_X7_tick K R a0 I Q) : MM E l yX7_tick cX7_tick 8 (some Jvm.ClassFile.FieldType.int) 4 88 0 0 [.ref a0] K R I n (Qi K R n Q) := by
  refine MM.of1 (by decide) RX7 rfl (cR cN) (Nat.le_of_ble_eq_true rfl) ?_
  intro p e s m args below meth c ls C hin hR hS hl
  have hx := C.1
  have hb := C.2.1
  have hml := C.2.2.1
  have hown := C.2.2.2.1
  have hts := C.2.2.2.2.1
  have hl : hv ls 8 [(0, .ref a0)] := hl
  clear hin
  have hJ133 : ∀ (y2_133 : Int32) (y5_133 : Int32) (y6_133 : Int32) (I : MI) (H : Heap) (locs : List Loc) (ls : Array Slot), w_X7_tick_b133 K R a0 Q y2_133 y5_133 y6_133 I → Rep E K R I n H → va_S (AA E) s.heap H locs → hv ls 8 [(0, .ref a0), (2, .int y2_133), (5, .int y5_133), (6, .int y6_133)] → W p l e (rmM 4 88 0 0) s m args below meth c H locs 0 0 (MQ below (QcM E (Qi K R n Q)) args s 0 0 (AA E)) (F0 m 133 ls []) := by
    intro y2_133 y5_133 y6_133 I H locs ls h hR hS hl
    obtain ⟨X133, hX133⟩ : ∃ X : Int32 → Int32 → Int32 → MI → Prop, ∀ (y2_133 : Int32) (y5_133 : Int32) (y6_133 : Int32) (I : MI), X y2_133 y5_133 y6_133 I ↔ (∀ (H : Heap) (locs : List Loc) (ls : Array Slot), Rep E K R I n H → va_S (AA E) s.heap H locs → hv ls 8 [(0, .ref a0), (2, .int y2_133), (5, .int y5_133), (6, .int y6_133)] → W p l e (rmM 4 88 0 0) s m args below meth c H locs 0 0 (MQ below (QcM E (Qi K R n Q)) args s 0 0 (AA E)) (F0 m 133 ls [])) := ⟨fun y2_133 y5_133 y6_133 I => ∀ (H : Heap) (locs : List Loc) (ls : Array Slot), Rep E K R I n H → va_S (AA E) s.heap H locs → hv ls 8 [(0, .ref a0), (2, .int y2_133), (5, .int y5_133), (6, .int y6_133)] → W p l e (rmM 4 88 0 0) s m args below meth c H locs 0 0 (MQ below (QcM E (Qi K R n Q)) args s 0 0 (AA E)) (F0 m 133 ls []), fun _ _ _ _ => Iff.rfl⟩
    refine (hX133 y2_133 y5_133 y6_133 I).mp (h X133 ?_) H locs ls hR hS hl
    clear h hR hS hl
    clear ls locs H I y2_133 y5_133 y6_133
    have hJ205 : ∀ (y2_205 : Int32) (y5_205 : Int32) (y6_205 : Int32) (z0_205 : Int32) (z1_205 : Int32) (I : MI) (H : Heap) (locs : List Loc) (ls : Array Slot), w_X7_tick_b205 K R a0 Q X133 y2_205 y5_205 y6_205 z0_205 z1_205 I → Rep E K R I n H → va_S (AA E) s.heap H locs → hv ls 8 [(0, .ref a0), (2, .int y2_205), (5, .int y5_205), (6, .int y6_205)] → W p l e (rmM 4 88 0 0) s m args below meth c H locs 0 0 (MQ below (QcM E (Qi K R n Q)) args s 0 0 (AA E)) (F0 m 205 ls [.int z0_205, .int z1_205, .ref (a0 + 1)]) := by
      intro y2_205 y5_205 y6_205 z0_205 z1_205 I H locs ls h hR hS hl
      unfold w_X7_tick_b205 at h
      obtain ⟨hf2, h⟩ := h
      obtain ⟨hi1, h⟩ := h
      obtain ⟨I3, hI3⟩ := ex_eq (upI I (a0 + 1) (ix z1_205) z0_205)
      replace h := h I3 hI3
      refine w_iast C hR hS (IsModel.a0 hf2) hi1 (j := (ix z1_205)) rfl hI3 dX7_tick_205 (fun H locs hR hS => ?_)
      refine v_iinc (v := y6_205 + (1:Int32)) (k := 3) (lv' := [(6, .int (y6_205 + (1:Int32))), (0, .ref a0), (2, .int y2_205), (5, .int y5_205)]) hx hb dX7_tick_206 hl rfl rfl (by decide) rfl (fun ls hl => ?_)
      refine lv_goto (tgt := 133) hx hb dX7_tick_209 (by decide) ?_
      exact (hX133 y2_205 y5_205 (y6_205 + (1:Int32)) I3).mp h _ _ _ hR hS (hv_sub hl [1, 2, 3, 0] rfl)
    have hJ169 : ∀ (y2_169 : Int32) (y5_169 : Int32) (y6_169 : Int32) (z0_169 : Int32) (I : MI) (H : Heap) (locs : List Loc) (ls : Array Slot), w_X7_tick_b169 K R a0 Q X133 y2_169 y5_169 y6_169 z0_169 I → Rep E K R I n H → va_S (AA E) s.heap H locs → hv ls 8 [(0, .ref a0), (2, .int y2_169), (5, .int y5_169), (6, .int y6_169)] → W p l e (rmM 4 88 0 0) s m args below meth c H locs 0 0 (MQ below (QcM E (Qi K R n Q)) args s 0 0 (AA E)) (F0 m 169 ls [.int z0_169]) := by
      intro y2_169 y5_169 y6_169 z0_169 I H locs ls h hR hS hl
      unfold w_X7_tick_b169 at h
      refine v_istore (lv' := [(7, .int z0_169), (0, .ref a0), (2, .int y2_169), (5, .int y5_169), (6, .int y6_169)]) hx hb dX7_tick_169 hl (by decide) rfl (fun ls hl => ?_)
      refine lv_aload_n hx hb dX7_tick_171 rfl (hv_at hl 1 rfl) ?_
      obtain ⟨hf4, h⟩ := h
      refine v_get (T := TX7) (v := .ref (a0 + 1)) C hR 0 kfl_X7_7 rfl inG7 (by decide) rfl (IsModel.k hf4) (rf_of (IsModel.r0 hf4 (I a0 0))) dX7_tick_172 ?_
      refine lv_iload hx hb dX7_tick_175 (hv_at hl 4 rfl) ?_
      refine lv_bipush (v := (10:Int32)) hx hb dX7_tick_177 (by decide) ?_
      refine v_cSi (As := [.int y6_169, .int (10:Int32)]) C hR hS hl.1.1 ca_X7_ofMaster kml_X7_31 (L_X7_ofMaster E l y6_169 (10:Int32) I _ h) rfl rfl (Nat.le_of_ble_eq_true rfl) ⟨Nat.le_of_ble_eq_true rfl, Nat.le_of_ble_eq_true rfl⟩ ⟨Nat.zero_le _, Nat.zero_le _⟩ dX7_tick_179 (fun v6 I5 H locs h hR hS => ?_)
      refine lv_iload hx hb dX7_tick_182 (hv_at hl 0 rfl) ?_
      refine lv_if_eq (tgt := 191) hx hb dX7_tick_184 (by decide) (fun c10 => ?_) (fun c10 => ?_)
      · replace h := h.1 c10
        refine lv_aload_n hx hb dX7_tick_191 rfl (hv_at hl 1 rfl) ?_
        refine v_get (T := TX7) (v := .ref (a0 + 1)) C hR 0 kfl_X7_7 rfl inG7 (by decide) rfl (IsModel.k hf4) (rf_of (IsModel.r0 hf4 (I5 a0 0))) dX7_tick_192 ?_
        refine lv_iload hx hb dX7_tick_195 (hv_at hl 4 rfl) ?_
        refine lv_bipush (v := (10:Int32)) hx hb dX7_tick_197 (by decide) ?_
        refine v_cSi (As := [.int y6_169, .int (10:Int32)]) C hR hS hl.1.1 ca_X7_ofMaster kml_X7_31 (L_X7_ofMaster E l y6_169 (10:Int32) I5 _ h) rfl rfl (Nat.le_of_ble_eq_true rfl) ⟨Nat.le_of_ble_eq_true rfl, Nat.le_of_ble_eq_true rfl⟩ ⟨Nat.zero_le _, Nat.zero_le _⟩ dX7_tick_199 (fun v8 I7 H locs h hR hS => ?_)
        obtain ⟨hi9, h⟩ := h
        refine w_iald C hR (IsModel.a0 hf4) hi9 (j := (ix v8)) rfl dX7_tick_202 ?_
        refine lv_iconst (v := (1:Int32)) hx hb dX7_tick_203 rfl ?_
        refine lv_iadd hx hb dX7_tick_204 ?_
        exact hJ205 y2_169 y5_169 y6_169 ((I7 (a0 + 1) (ix v8)) + (1:Int32)) v6 I7 _ _ _ h hR hS (hv_sub hl [1, 2, 3, 4] rfl)
      · replace h := h.2 c10
        refine lv_iconst (v := (0:Int32)) hx hb dX7_tick_187 rfl ?_
        refine lv_goto (tgt := 205) hx hb dX7_tick_188 (by decide) ?_
        exact hJ205 y2_169 y5_169 y6_169 (0:Int32) v6 I5 _ _ _ h hR hS (hv_sub hl [1, 2, 3, 4] rfl)
    have hJ164 : ∀ (y2_164 : Int32) (y5_164 : Int32) (y6_164 : Int32) (I : MI) (H : Heap) (locs : List Loc) (ls : Array Slot), w_X7_tick_b164 K R a0 Q X133 y2_164 y5_164 y6_164 I → Rep E K R I n H → va_S (AA E) s.heap H locs → hv ls 8 [(0, .ref a0), (2, .int y2_164), (5, .int y5_164), (6, .int y6_164)] → W p l e (rmM 4 88 0 0) s m args below meth c H locs 0 0 (MQ below (QcM E (Qi K R n Q)) args s 0 0 (AA E)) (F0 m 164 ls []) := by
      intro y2_164 y5_164 y6_164 I H locs ls h hR hS hl
      unfold w_X7_tick_b164 at h
      refine lv_iconst (v := (1:Int32)) hx hb dX7_tick_164 rfl ?_
      refine lv_goto (tgt := 169) hx hb dX7_tick_165 (by decide) ?_
      exact hJ169 y2_164 y5_164 y6_164 (1:Int32) I _ _ _ h hR hS (hv_sub hl [0, 1, 2, 3] rfl)
    have hJ168 : ∀ (y2_168 : Int32) (y5_168 : Int32) (y6_168 : Int32) (I : MI) (H : Heap) (locs : List Loc) (ls : Array Slot), w_X7_tick_b168 K R a0 Q X133 y2_168 y5_168 y6_168 I → Rep E K R I n H → va_S (AA E) s.heap H locs → hv ls 8 [(0, .ref a0), (2, .int y2_168), (5, .int y5_168), (6, .int y6_168)] → W p l e (rmM 4 88 0 0) s m args below meth c H locs 0 0 (MQ below (QcM E (Qi K R n Q)) args s 0 0 (AA E)) (F0 m 168 ls []) := by
      intro y2_168 y5_168 y6_168 I H locs ls h hR hS hl
      unfold w_X7_tick_b168 at h
      refine lv_iconst (v := (0:Int32)) hx hb dX7_tick_168 rfl ?_
      exact hJ169 y2_168 y5_168 y6_168 (0:Int32) I _ _ _ h hR hS (hv_sub hl [0, 1, 2, 3] rfl)
    intro y2_133 y5_133 y6_133 I h
    refine (hX133 y2_133 y5_133 y6_133 I).mpr ?_
    intro H locs ls hR hS hl
    unfold w_X7_tick_b133_body at h
    refine lv_iload hx hb dX7_tick_133 (hv_at hl 3 rfl) ?_
    refine lv_iconst (v := (4:Int32)) hx hb dX7_tick_135 rfl ?_
    refine lv_icmp_ge (tgt := 212) hx hb dX7_tick_136 (by decide) (fun c20 => ?_) (fun c20 => ?_)
    · replace h := h.1 c20
      refine lv_aload_n hx hb dX7_tick_212 rfl (hv_at hl 0 rfl) ?_
      obtain ⟨hf11, h⟩ := h
      refine v_get (T := TX7) (v := .ref (a0 + 1)) C hR 0 kfl_X7_7 rfl inG7 (by decide) rfl (IsModel.k hf11) (rf_of (IsModel.r0 hf11 (I a0 0))) dX7_tick_213 ?_
      refine lv_iconst (v := (0:Int32)) hx hb dX7_tick_216 rfl ?_
      refine lv_dup2_11 hx hb dX7_tick_217 rfl rfl ?_
      refine w_iald C hR (IsModel.a0 hf11) (show vp_in (0:Int32) 2361 by unfold vp_in; decide) (j := 0) (by decide) dX7_tick_218 ?_
      refine lv_iconst (v := (1:Int32)) hx hb dX7_tick_219 rfl ?_
      refine lv_iadd hx hb dX7_tick_220 ?_
      obtain ⟨I12, hI12⟩ := ex_eq (upI I (a0 + 1) 0 ((I (a0 + 1) 0) + (1:Int32)))
      replace h := h I12 hI12
      refine w_iast C hR hS (IsModel.a0 hf11) (show vp_in (0:Int32) 2361 by unfold vp_in; decide) (j := 0) (by decide) hI12 dX7_tick_221 (fun H locs hR hS => ?_)
      refine lv_iload hx hb dX7_tick_222 (hv_at hl 2 rfl) ?_
      exact w_ireti C rfl rfl hR hS h dX7_tick_224
    · replace h := h.2 c20
      refine lv_aload_n hx hb dX7_tick_139 rfl (hv_at hl 0 rfl) ?_
      obtain ⟨hf13, h⟩ := h
      refine v_get (T := TX7) (v := .ref (a0 + 1)) C hR 0 kfl_X7_7 rfl inG7 (by decide) rfl (IsModel.k hf13) (rf_of (IsModel.r0 hf13 (I a0 0))) dX7_tick_140 ?_
      refine lv_iload hx hb dX7_tick_143 (hv_at hl 3 rfl) ?_
      refine lv_iconst (v := (0:Int32)) hx hb dX7_tick_145 rfl ?_
      refine v_cSi (As := [.int y6_133, .int (0:Int32)]) C hR hS hl.1.1 ca_X7_ofMaster kml_X7_31 (L_X7_ofMaster E l y6_133 (0:Int32) I _ h) rfl rfl (Nat.le_of_ble_eq_true rfl) ⟨Nat.le_of_ble_eq_true rfl, Nat.le_of_ble_eq_true rfl⟩ ⟨Nat.zero_le _, Nat.zero_le _⟩ dX7_tick_146 (fun v15 I14 H locs h hR hS => ?_)
      obtain ⟨hi16, h⟩ := h
      refine w_iald C hR (IsModel.a0 hf13) hi16 (j := (ix v15)) rfl dX7_tick_149 ?_
      refine lv_if_eq (tgt := 164) hx hb dX7_tick_150 (by decide) (fun c19 => ?_) (fun c19 => ?_)
      · replace h := h.1 c19
        exact hJ164 y2_133 y5_133 y6_133 I14 _ _ _ h hR hS (hv_sub hl [0, 1, 2, 3] rfl)
      · replace h := h.2 c19
        refine lv_iload hx hb dX7_tick_153 (hv_at hl 2 rfl) ?_
        refine lv_if_ne (tgt := 168) hx hb dX7_tick_155 (by decide) (fun c18 => ?_) (fun c18 => ?_)
        · replace h := h.1 c18
          exact hJ168 y2_133 y5_133 y6_133 I14 _ _ _ h hR hS (hv_sub hl [0, 1, 2, 3] rfl)
        · replace h := h.2 c18
          refine lv_iload hx hb dX7_tick_158 (hv_at hl 3 rfl) ?_
          refine lv_iload_n hx hb dX7_tick_160 rfl (hv_at hl 1 rfl) ?_
          refine lv_icmp_ne (tgt := 168) hx hb dX7_tick_161 (by decide) (fun c17 => ?_) (fun c17 => ?_)
          · replace h := h.1 c17
            exact hJ168 y2_133 y5_133 y6_133 I14 _ _ _ h hR hS (hv_sub hl [0, 1, 2, 3] rfl)
          · replace h := h.2 c17
            exact hJ164 y2_133 y5_133 y6_133 I14 _ _ _ h hR hS (hv_sub hl [0, 1, 2, 3] rfl)
  have hJ128 : ∀ (y2_128 : Int32) (y5_128 : Int32) (z0_128 : Int32) (z1_128 : Int32) (z2_128 : Int32) (I : MI) (H : Heap) (locs : List Loc) (ls : Array Slot), w_X7_tick_b128 K R a0 Q y2_128 y5_128 z0_128 z1_128 z2_128 I → Rep E K R I n H → va_S (AA E) s.heap H locs → hv ls 8 [(0, .ref a0), (2, .int y2_128), (5, .int y5_128)] → W p l e (rmM 4 88 0 0) s m args below meth c H locs 0 0 (MQ below (QcM E (Qi K R n Q)) args s 0 0 (AA E)) (F0 m 128 ls [.int z0_128, .int z1_128, .int z2_128, .ref (a0 + 1)]) := by
    intro y2_128 y5_128 z0_128 z1_128 z2_128 I H locs ls h hR hS hl
    unfold w_X7_tick_b128 at h
    refine lv_iadd hx hb dX7_tick_128 ?_
    obtain ⟨hf22, h⟩ := h
    obtain ⟨hi21, h⟩ := h
    obtain ⟨I23, hI23⟩ := ex_eq (upI I (a0 + 1) (ix z2_128) (z1_128 + z0_128))
    replace h := h I23 hI23
    refine w_iast C hR hS (IsModel.a0 hf22) hi21 (j := (ix z2_128)) rfl hI23 dX7_tick_129 (fun H locs hR hS => ?_)
    refine lv_iconst (v := (0:Int32)) hx hb dX7_tick_130 rfl ?_
    refine v_istore (lv' := [(6, .int (0:Int32)), (0, .ref a0), (2, .int y2_128), (5, .int y5_128)]) hx hb dX7_tick_131 hl (by decide) rfl (fun ls hl => ?_)
    exact hJ133 y2_128 y5_128 (0:Int32) I23 _ _ _ h hR hS (hv_sub hl [1, 2, 3, 0] rfl)
  have hJ106 : ∀ (y2_106 : Int32) (z0_106 : Int32) (I : MI) (H : Heap) (locs : List Loc) (ls : Array Slot), w_X7_tick_b106 K R a0 Q y2_106 z0_106 I → Rep E K R I n H → va_S (AA E) s.heap H locs → hv ls 8 [(0, .ref a0), (2, .int y2_106)] → W p l e (rmM 4 88 0 0) s m args below meth c H locs 0 0 (MQ below (QcM E (Qi K R n Q)) args s 0 0 (AA E)) (F0 m 106 ls [.int z0_106]) := by
    intro y2_106 z0_106 I H locs ls h hR hS hl
    unfold w_X7_tick_b106 at h
    refine v_istore (lv' := [(5, .int z0_106), (0, .ref a0), (2, .int y2_106)]) hx hb dX7_tick_106 hl (by decide) rfl (fun ls hl => ?_)
    refine lv_aload_n hx hb dX7_tick_108 rfl (hv_at hl 1 rfl) ?_
    obtain ⟨hf24, h⟩ := h
    refine v_get (T := TX7) (v := .ref (a0 + 1)) C hR 0 kfl_X7_7 rfl inG7 (by decide) rfl (IsModel.k hf24) (rf_of (IsModel.r0 hf24 (I a0 0))) dX7_tick_109 ?_
    refine lv_bipush (v := (11:Int32)) hx hb dX7_tick_112 (by decide) ?_
    refine lv_dup2_11 hx hb dX7_tick_114 rfl rfl ?_
    refine w_iald C hR (IsModel.a0 hf24) (show vp_in (11:Int32) 2361 by unfold vp_in; decide) (j := 11) (by decide) dX7_tick_115 ?_
    refine lv_iload hx hb dX7_tick_116 (hv_at hl 0 rfl) ?_
    refine lv_bipush (v := (-5:Int32)) hx hb dX7_tick_118 (by decide) ?_
    refine lv_icmp_ne (tgt := 127) hx hb dX7_tick_120 (by decide) (fun c25 => ?_) (fun c25 => ?_)
    · replace h := h.1 c25
      refine lv_iconst (v := (0:Int32)) hx hb dX7_tick_127 rfl ?_
      exact hJ128 y2_106 z0_106 (0:Int32) (I (a0 + 1) 11) (11:Int32) I _ _ _ h hR hS (hv_sub hl [1, 2, 0] rfl)
    · replace h := h.2 c25
      refine lv_iconst (v := (1:Int32)) hx hb dX7_tick_123 rfl ?_
      refine lv_goto (tgt := 128) hx hb dX7_tick_124 (by decide) ?_
      exact hJ128 y2_106 z0_106 (1:Int32) (I (a0 + 1) 11) (11:Int32) I _ _ _ h hR hS (hv_sub hl [1, 2, 0] rfl)
  have hJ69 : ∀ (y1_69 : Int32) (y2_69 : Int32) (z0_69 : Int32) (I : MI) (H : Heap) (locs : List Loc) (ls : Array Slot), w_X7_tick_b69 K R a0 Q y1_69 y2_69 z0_69 I → Rep E K R I n H → va_S (AA E) s.heap H locs → hv ls 8 [(0, .ref a0), (1, .int y1_69), (2, .int y2_69)] → W p l e (rmM 4 88 0 0) s m args below meth c H locs 0 0 (MQ below (QcM E (Qi K R n Q)) args s 0 0 (AA E)) (F0 m 69 ls [.int z0_69]) := by
    intro y1_69 y2_69 z0_69 I H locs ls h hR hS hl
    unfold w_X7_tick_b69 at h
    refine v_istore (lv' := [(4, .int z0_69), (0, .ref a0), (1, .int y1_69), (2, .int y2_69)]) hx hb dX7_tick_69 hl (by decide) rfl (fun ls hl => ?_)
    refine lv_aload_n hx hb dX7_tick_71 rfl (hv_at hl 1 rfl) ?_
    refine lv_bipush (v := (-5:Int32)) hx hb dX7_tick_72 (by decide) ?_
    obtain ⟨hf26, h⟩ := h
    obtain ⟨I27, hI27⟩ := ex_eq (upI I a0 12 (-5:Int32))
    replace h := h I27 hI27
    refine v_put (T := TX7) (ty := .int) C hR hS 12 kfl_X7_106 rfl inG7 tyX7 tyX7_ok nmX7 (by decide) rfl (IsModel.k hf26) rfl (tyX7_ok 12 (by decide)) rfl rfl (fl_i_7_12 _ _ _) (Nat.le_of_ble_eq_true rfl) hI27 dX7_tick_74 (fun H locs hR hS => ?_)
    refine lv_iload hx hb dX7_tick_77 (hv_at hl 0 rfl) ?_
    refine lv_if_eq (tgt := 90) hx hb dX7_tick_79 (by decide) (fun c33 => ?_) (fun c33 => ?_)
    · replace h := h.1 c33
      refine lv_iload_n hx hb dX7_tick_90 rfl (hv_at hl 3 rfl) ?_
      refine lv_bipush (v := (-5:Int32)) hx hb dX7_tick_91 (by decide) ?_
      refine lv_icmp_eq (tgt := 104) hx hb dX7_tick_93 (by decide) (fun c30 => ?_) (fun c30 => ?_)
      · replace h := h.1 c30
        refine lv_bipush (v := (-5:Int32)) hx hb dX7_tick_104 (by decide) ?_
        exact hJ106 y2_69 (-5:Int32) I27 _ _ _ h hR hS (hv_sub hl [1, 3] rfl)
      · replace h := h.2 c30
        refine lv_aload_n hx hb dX7_tick_96 rfl (hv_at hl 1 rfl) ?_
        refine lv_iload_n hx hb dX7_tick_97 rfl (hv_at hl 3 rfl) ?_
        refine v_cVi (As := [.int y2_69]) C hR hS hl.1.1 ca_X7_sends kml_X7_121 (L_X7_sends E l a0 y2_69 I27 _ h) (IsModel.k hf26) rfl rfl rfl rfl (Nat.le_of_ble_eq_true rfl) ⟨Nat.le_of_ble_eq_true rfl, Nat.le_of_ble_eq_true rfl⟩ ⟨Nat.zero_le _, Nat.zero_le _⟩ dX7_tick_98 (fun v29 I28 H locs h hR hS => ?_)
        refine lv_goto (tgt := 106) hx hb dX7_tick_101 (by decide) ?_
        exact hJ106 y2_69 v29 I28 _ _ _ h hR hS (hv_sub hl [1, 3] rfl)
    · replace h := h.2 c33
      refine lv_aload_n hx hb dX7_tick_82 rfl (hv_at hl 1 rfl) ?_
      refine lv_iload_n hx hb dX7_tick_83 rfl (hv_at hl 2 rfl) ?_
      refine v_cVi (As := [.int y1_69]) C hR hS hl.1.1 ca_X7_answers kml_X7_118 (L_X7_answers E l a0 y1_69 I27 _ h) (IsModel.k hf26) rfl rfl rfl rfl (Nat.le_of_ble_eq_true rfl) ⟨Nat.le_of_ble_eq_true rfl, Nat.le_of_ble_eq_true rfl⟩ ⟨Nat.zero_le _, Nat.zero_le _⟩ dX7_tick_84 (fun v32 I31 H locs h hR hS => ?_)
      refine lv_goto (tgt := 106) hx hb dX7_tick_87 (by decide) ?_
      exact hJ106 y2_69 v32 I31 _ _ _ h hR hS (hv_sub hl [1, 3] rfl)
  have hJ64 : ∀ (y1_64 : Int32) (y2_64 : Int32) (I : MI) (H : Heap) (locs : List Loc) (ls : Array Slot), w_X7_tick_b64 K R a0 Q y1_64 y2_64 I → Rep E K R I n H → va_S (AA E) s.heap H locs → hv ls 8 [(0, .ref a0), (1, .int y1_64), (2, .int y2_64)] → W p l e (rmM 4 88 0 0) s m args below meth c H locs 0 0 (MQ below (QcM E (Qi K R n Q)) args s 0 0 (AA E)) (F0 m 64 ls []) := by
    intro y1_64 y2_64 I H locs ls h hR hS hl
    unfold w_X7_tick_b64 at h
    refine lv_iconst (v := (1:Int32)) hx hb dX7_tick_64 rfl ?_
    refine lv_goto (tgt := 69) hx hb dX7_tick_65 (by decide) ?_
    exact hJ69 y1_64 y2_64 (1:Int32) I _ _ _ h hR hS (hv_sub hl [0, 1, 2] rfl)
  have hJ68 : ∀ (y1_68 : Int32) (y2_68 : Int32) (I : MI) (H : Heap) (locs : List Loc) (ls : Array Slot), w_X7_tick_b68 K R a0 Q y1_68 y2_68 I → Rep E K R I n H → va_S (AA E) s.heap H locs → hv ls 8 [(0, .ref a0), (1, .int y1_68), (2, .int y2_68)] → W p l e (rmM 4 88 0 0) s m args below meth c H locs 0 0 (MQ below (QcM E (Qi K R n Q)) args s 0 0 (AA E)) (F0 m 68 ls []) := by
    intro y1_68 y2_68 I H locs ls h hR hS hl
    unfold w_X7_tick_b68 at h
    refine lv_iconst (v := (0:Int32)) hx hb dX7_tick_68 rfl ?_
    exact hJ69 y1_68 y2_68 (0:Int32) I _ _ _ h hR hS (hv_sub hl [0, 1, 2] rfl)
  have hJ47 : ∀ (y1_47 : Int32) (y2_47 : Int32) (z0_47 : Int32) (I : MI) (H : Heap) (locs : List Loc) (ls : Array Slot), w_X7_tick_b47 K R a0 Q y1_47 y2_47 z0_47 I → Rep E K R I n H → va_S (AA E) s.heap H locs → hv ls 8 [(0, .ref a0), (1, .int y1_47), (2, .int y2_47)] → W p l e (rmM 4 88 0 0) s m args below meth c H locs 0 0 (MQ below (QcM E (Qi K R n Q)) args s 0 0 (AA E)) (F0 m 47 ls [.int z0_47]) := by
    intro y1_47 y2_47 z0_47 I H locs ls h hR hS hl
    unfold w_X7_tick_b47 at h
    refine v_istore_n (lv' := [(3, .int z0_47), (0, .ref a0), (1, .int y1_47), (2, .int y2_47)]) hx hb dX7_tick_47 rfl hl (by decide) rfl (fun ls hl => ?_)
    refine lv_iload_n hx hb dX7_tick_48 rfl (hv_at hl 2 rfl) ?_
    refine lv_bipush (v := (-5:Int32)) hx hb dX7_tick_49 (by decide) ?_
    refine lv_icmp_eq (tgt := 68) hx hb dX7_tick_51 (by decide) (fun c36 => ?_) (fun c36 => ?_)
    · replace h := h.1 c36
      exact hJ68 y1_47 y2_47 I _ _ _ h hR hS (hv_sub hl [1, 2, 3] rfl)
    · replace h := h.2 c36
      refine lv_iload_n hx hb dX7_tick_54 rfl (hv_at hl 0 rfl) ?_
      refine lv_if_ne (tgt := 64) hx hb dX7_tick_55 (by decide) (fun c35 => ?_) (fun c35 => ?_)
      · replace h := h.1 c35
        exact hJ64 y1_47 y2_47 I _ _ _ h hR hS (hv_sub hl [1, 2, 3] rfl)
      · replace h := h.2 c35
        refine lv_iload_n hx hb dX7_tick_58 rfl (hv_at hl 3 rfl) ?_
        refine lv_bipush (v := (-5:Int32)) hx hb dX7_tick_59 (by decide) ?_
        refine lv_icmp_ne (tgt := 68) hx hb dX7_tick_61 (by decide) (fun c34 => ?_) (fun c34 => ?_)
        · replace h := h.1 c34
          exact hJ68 y1_47 y2_47 I _ _ _ h hR hS (hv_sub hl [1, 2, 3] rfl)
        · replace h := h.2 c34
          exact hJ64 y1_47 y2_47 I _ _ _ h hR hS (hv_sub hl [1, 2, 3] rfl)
  have hJ42 : ∀ (y1_42 : Int32) (y2_42 : Int32) (I : MI) (H : Heap) (locs : List Loc) (ls : Array Slot), w_X7_tick_b42 K R a0 Q y1_42 y2_42 I → Rep E K R I n H → va_S (AA E) s.heap H locs → hv ls 8 [(0, .ref a0), (1, .int y1_42), (2, .int y2_42)] → W p l e (rmM 4 88 0 0) s m args below meth c H locs 0 0 (MQ below (QcM E (Qi K R n Q)) args s 0 0 (AA E)) (F0 m 42 ls []) := by
    intro y1_42 y2_42 I H locs ls h hR hS hl
    unfold w_X7_tick_b42 at h
    refine lv_iconst (v := (1:Int32)) hx hb dX7_tick_42 rfl ?_
    refine lv_goto (tgt := 47) hx hb dX7_tick_43 (by decide) ?_
    exact hJ47 y1_42 y2_42 (1:Int32) I _ _ _ h hR hS (hv_sub hl [0, 1, 2] rfl)
  have hJ46 : ∀ (y1_46 : Int32) (y2_46 : Int32) (I : MI) (H : Heap) (locs : List Loc) (ls : Array Slot), w_X7_tick_b46 K R a0 Q y1_46 y2_46 I → Rep E K R I n H → va_S (AA E) s.heap H locs → hv ls 8 [(0, .ref a0), (1, .int y1_46), (2, .int y2_46)] → W p l e (rmM 4 88 0 0) s m args below meth c H locs 0 0 (MQ below (QcM E (Qi K R n Q)) args s 0 0 (AA E)) (F0 m 46 ls []) := by
    intro y1_46 y2_46 I H locs ls h hR hS hl
    unfold w_X7_tick_b46 at h
    refine lv_iconst (v := (0:Int32)) hx hb dX7_tick_46 rfl ?_
    exact hJ47 y1_46 y2_46 (0:Int32) I _ _ _ h hR hS (hv_sub hl [0, 1, 2] rfl)
  unfold w_X7_tick at h
  refine lv_aload_n hx hb dX7_tick_0 rfl (hv_at hl 0 rfl) ?_
  obtain ⟨hf37, h⟩ := h
  refine v_cVv (As := []) C hR hS hl.1.1 ca_X7_doAll kml_X7_109 (L_X7_doAll E l a0 I _ h) (IsModel.k hf37) rfl rfl rfl rfl (Nat.le_of_ble_eq_true rfl) ⟨Nat.le_of_ble_eq_true rfl, Nat.le_of_ble_eq_true rfl⟩ ⟨Nat.zero_le _, Nat.zero_le _⟩ dX7_tick_1 (fun I38 H locs h hR hS => ?_)
  refine lv_aload_n hx hb dX7_tick_4 rfl (hv_at hl 0 rfl) ?_
  refine v_cVi (As := []) C hR hS hl.1.1 ca_X7_targetThatGoes kml_X7_112 (L_X7_targetThatGoes E l a0 I38 _ h) (IsModel.k hf37) rfl rfl rfl rfl (Nat.le_of_ble_eq_true rfl) ⟨Nat.le_of_ble_eq_true rfl, Nat.le_of_ble_eq_true rfl⟩ ⟨Nat.zero_le _, Nat.zero_le _⟩ dX7_tick_5 (fun v40 I39 H locs h hR hS => ?_)
  refine v_istore_n (lv' := [(1, .int v40), (0, .ref a0)]) hx hb dX7_tick_8 rfl hl (by decide) rfl (fun ls hl => ?_)
  refine lv_aload_n hx hb dX7_tick_9 rfl (hv_at hl 1 rfl) ?_
  refine v_cVi (As := []) C hR hS hl.1.1 ca_X7_masterThatGoes kml_X7_115 (L_X7_masterThatGoes E l a0 I39 _ h) (IsModel.k hf37) rfl rfl rfl rfl (Nat.le_of_ble_eq_true rfl) ⟨Nat.le_of_ble_eq_true rfl, Nat.le_of_ble_eq_true rfl⟩ ⟨Nat.zero_le _, Nat.zero_le _⟩ dX7_tick_10 (fun v42 I41 H locs h hR hS => ?_)
  refine v_istore_n (lv' := [(2, .int v42), (1, .int v40), (0, .ref a0)]) hx hb dX7_tick_13 rfl hl (by decide) rfl (fun ls hl => ?_)
  refine lv_aload_n hx hb dX7_tick_14 rfl (hv_at hl 2 rfl) ?_
  refine v_get (T := TX7) (v := .ref (a0 + 1)) C hR 0 kfl_X7_7 rfl inG7 (by decide) rfl (IsModel.k hf37) (rf_of (IsModel.r0 hf37 (I41 a0 0))) dX7_tick_15 ?_
  refine lv_iconst (v := (2:Int32)) hx hb dX7_tick_18 rfl ?_
  refine w_iald C hR (IsModel.a0 hf37) (show vp_in (2:Int32) 2361 by unfold vp_in; decide) (j := 2) (by decide) dX7_tick_19 ?_
  refine lv_if_eq (tgt := 42) hx hb dX7_tick_20 (by decide) (fun c45 => ?_) (fun c45 => ?_)
  · replace h := h.1 c45
    exact hJ42 v40 v42 I41 _ _ _ h hR hS (hv_sub hl [2, 1, 0] rfl)
  · replace h := h.2 c45
    refine lv_aload_n hx hb dX7_tick_23 rfl (hv_at hl 2 rfl) ?_
    refine v_get (T := TX7) (v := .ref (a0 + 1)) C hR 0 kfl_X7_7 rfl inG7 (by decide) rfl (IsModel.k hf37) (rf_of (IsModel.r0 hf37 (I41 a0 0))) dX7_tick_24 ?_
    refine lv_iconst (v := (2:Int32)) hx hb dX7_tick_27 rfl ?_
    refine w_iald C hR (IsModel.a0 hf37) (show vp_in (2:Int32) 2361 by unfold vp_in; decide) (j := 2) (by decide) dX7_tick_28 ?_
    refine lv_iconst (v := (2:Int32)) hx hb dX7_tick_29 rfl ?_
    refine lv_icmp_ne (tgt := 46) hx hb dX7_tick_30 (by decide) (fun c44 => ?_) (fun c44 => ?_)
    · replace h := h.1 c44
      exact hJ46 v40 v42 I41 _ _ _ h hR hS (hv_sub hl [2, 1, 0] rfl)
    · replace h := h.2 c44
      refine lv_aload_n hx hb dX7_tick_33 rfl (hv_at hl 2 rfl) ?_
      refine v_get (T := TX7) (v := .ref (a0 + 1)) C hR 0 kfl_X7_7 rfl inG7 (by decide) rfl (IsModel.k hf37) (rf_of (IsModel.r0 hf37 (I41 a0 0))) dX7_tick_34 ?_
      refine lv_iconst (v := (5:Int32)) hx hb dX7_tick_37 rfl ?_
      refine w_iald C hR (IsModel.a0 hf37) (show vp_in (5:Int32) 2361 by unfold vp_in; decide) (j := 5) (by decide) dX7_tick_38 ?_
      refine lv_if_ne (tgt := 46) hx hb dX7_tick_39 (by decide) (fun c43 => ?_) (fun c43 => ?_)
      · replace h := h.1 c43
        exact hJ46 v40 v42 I41 _ _ _ h hR hS (hv_sub hl [2, 1, 0] rfl)
      · replace h := h.2 c43
        exact hJ42 v40 v42 I41 _ _ _ h hR hS (hv_sub hl [2, 1, 0] rfl)
set_option maxHeartbeats 4000000 in
set_option maxRecDepth 100000 in
theorem L_X7_pass (E : Ev) (l : Launch) {K : MK} {R : MR} {n : Nat} (a0 : Nat) (x1 : Int32) (I : MI) (Q : Int32 → MI → Prop) (h : w_X7_pass K R a0 x1 I Q) : MM E l yX7_pass cX7_pass 4 (some Jvm.ClassFile.FieldType.int) 5 115 0 0 [.ref a0, .int x1] K R I n (Qi K R n Q) := by
  refine MM.of1 (by decide) RX7 rfl (cR (cI cN)) (Nat.le_of_ble_eq_true rfl) ?_
  intro p e s m args below meth c ls C hin hR hS hl
  have hx := C.1
  have hb := C.2.1
  have hml := C.2.2.1
  have hown := C.2.2.2.1
  have hts := C.2.2.2.2.1
  have hl : hv ls 4 [(0, .ref a0), (1, .int x1)] := hl
  clear hin
  have hJ38 : ∀ (y2_38 : Int32) (y3_38 : Int32) (I : MI) (H : Heap) (locs : List Loc) (ls : Array Slot), w_X7_pass_b38 K R a0 x1 Q y2_38 y3_38 I → Rep E K R I n H → va_S (AA E) s.heap H locs → hv ls 4 [(0, .ref a0), (1, .int x1), (2, .int y2_38), (3, .int y3_38)] → W p l e (rmM 5 115 0 0) s m args below meth c H locs 0 0 (MQ below (QcM E (Qi K R n Q)) args s 0 0 (AA E)) (F0 m 38 ls []) := by
    intro y2_38 y3_38 I H locs ls h hR hS hl
    obtain ⟨X38, hX38⟩ : ∃ X : Int32 → Int32 → MI → Prop, ∀ (y2_38 : Int32) (y3_38 : Int32) (I : MI), X y2_38 y3_38 I ↔ (∀ (H : Heap) (locs : List Loc) (ls : Array Slot), Rep E K R I n H → va_S (AA E) s.heap H locs → hv ls 4 [(0, .ref a0), (1, .int x1), (2, .int y2_38), (3, .int y3_38)] → W p l e (rmM 5 115 0 0) s m args below meth c H locs 0 0 (MQ below (QcM E (Qi K R n Q)) args s 0 0 (AA E)) (F0 m 38 ls [])) := ⟨fun y2_38 y3_38 I => ∀ (H : Heap) (locs : List Loc) (ls : Array Slot), Rep E K R I n H → va_S (AA E) s.heap H locs → hv ls 4 [(0, .ref a0), (1, .int x1), (2, .int y2_38), (3, .int y3_38)] → W p l e (rmM 5 115 0 0) s m args below meth c H locs 0 0 (MQ below (QcM E (Qi K R n Q)) args s 0 0 (AA E)) (F0 m 38 ls []), fun _ _ _ => Iff.rfl⟩
    refine (hX38 y2_38 y3_38 I).mp (h X38 ?_) H locs ls hR hS hl
    clear h hR hS hl
    clear ls locs H I y2_38 y3_38
    have hJ58 : ∀ (y3_58 : Int32) (z0_58 : Int32) (z1_58 : Int32) (I : MI) (H : Heap) (locs : List Loc) (ls : Array Slot), w_X7_pass_b58 K R a0 x1 Q X38 y3_58 z0_58 z1_58 I → Rep E K R I n H → va_S (AA E) s.heap H locs → hv ls 4 [(0, .ref a0), (1, .int x1), (3, .int y3_58)] → W p l e (rmM 5 115 0 0) s m args below meth c H locs 0 0 (MQ below (QcM E (Qi K R n Q)) args s 0 0 (AA E)) (F0 m 58 ls [.int z0_58, .int z1_58]) := by
      intro y3_58 z0_58 z1_58 I H locs ls h hR hS hl
      unfold w_X7_pass_b58 at h
      refine lv_iadd hx hb dX7_pass_58 ?_
      refine v_istore_n (lv' := [(2, .int (z1_58 + z0_58)), (0, .ref a0), (1, .int x1), (3, .int y3_58)]) hx hb dX7_pass_59 rfl hl (by decide) rfl (fun ls hl => ?_)
      refine v_iinc (v := y3_58 + (1:Int32)) (k := 3) (lv' := [(3, .int (y3_58 + (1:Int32))), (2, .int (z1_58 + z0_58)), (0, .ref a0), (1, .int x1)]) hx hb dX7_pass_60 hl rfl rfl (by decide) rfl (fun ls hl => ?_)
      refine lv_goto (tgt := 38) hx hb dX7_pass_63 (by decide) ?_
      exact (hX38 (z1_58 + z0_58) (y3_58 + (1:Int32)) I).mp h _ _ _ hR hS (hv_sub hl [2, 3, 1, 0] rfl)
    intro y2_38 y3_38 I h
    refine (hX38 y2_38 y3_38 I).mpr ?_
    intro H locs ls hR hS hl
    unfold w_X7_pass_b38_body at h
    refine lv_iload_n hx hb dX7_pass_38 rfl (hv_at hl 3 rfl) ?_
    refine lv_iload_n hx hb dX7_pass_39 rfl (hv_at hl 1 rfl) ?_
    refine lv_icmp_ge (tgt := 66) hx hb dX7_pass_40 (by decide) (fun c5 => ?_) (fun c5 => ?_)
    · replace h := h.1 c5
      refine lv_iload_n hx hb dX7_pass_66 rfl (hv_at hl 2 rfl) ?_
      exact w_ireti C rfl rfl hR hS h dX7_pass_67
    · replace h := h.2 c5
      refine lv_iload_n hx hb dX7_pass_43 rfl (hv_at hl 2 rfl) ?_
      refine lv_aload_n hx hb dX7_pass_44 rfl (hv_at hl 0 rfl) ?_
      obtain ⟨hf1, h⟩ := h
      refine v_cVi (As := []) C hR hS hl.1.1 ca_X7_tick kml_X7_124 (L_X7_tick E l a0 I _ h) (IsModel.k hf1) rfl rfl rfl rfl (Nat.le_of_ble_eq_true rfl) ⟨Nat.le_of_ble_eq_true rfl, Nat.le_of_ble_eq_true rfl⟩ ⟨Nat.zero_le _, Nat.zero_le _⟩ dX7_pass_45 (fun v3 I2 H locs h hR hS => ?_)
      refine lv_bipush (v := (-5:Int32)) hx hb dX7_pass_48 (by decide) ?_
      refine lv_icmp_ne (tgt := 57) hx hb dX7_pass_50 (by decide) (fun c4 => ?_) (fun c4 => ?_)
      · replace h := h.1 c4
        refine lv_iconst (v := (1:Int32)) hx hb dX7_pass_57 rfl ?_
        exact hJ58 y3_38 (1:Int32) y2_38 I2 _ _ _ h hR hS (hv_sub hl [0, 1, 3] rfl)
      · replace h := h.2 c4
        refine lv_iconst (v := (0:Int32)) hx hb dX7_pass_53 rfl ?_
        refine lv_goto (tgt := 58) hx hb dX7_pass_54 (by decide) ?_
        exact hJ58 y3_38 (0:Int32) y2_38 I2 _ _ _ h hR hS (hv_sub hl [0, 1, 3] rfl)
  unfold w_X7_pass at h
  refine lv_iload_n hx hb dX7_pass_0 rfl (hv_at hl 1 rfl) ?_
  refine lv_iconst (v := (1:Int32)) hx hb dX7_pass_1 rfl ?_
  refine lv_bipush (v := (99:Int32)) hx hb dX7_pass_2 (by decide) ?_
  refine v_cSi (As := [.int x1, .int (1:Int32), .int (99:Int32)]) C hR hS hl.1.1 ca_X7_in kml_X7_38 (L_X7_in E l x1 (1:Int32) (99:Int32) I _ h) rfl rfl (Nat.le_of_ble_eq_true rfl) ⟨Nat.le_of_ble_eq_true rfl, Nat.le_of_ble_eq_true rfl⟩ ⟨Nat.zero_le _, Nat.zero_le _⟩ dX7_pass_4 (fun v7 I6 H locs h hR hS => ?_)
  refine lv_if_ne (tgt := 13) hx hb dX7_pass_7 (by decide) (fun c11 => ?_) (fun c11 => ?_)
  · replace h := h.1 c11
    refine lv_aload_n hx hb dX7_pass_13 rfl (hv_at hl 0 rfl) ?_
    obtain ⟨hf8, h⟩ := h
    refine v_get (T := TX7) (v := .ref (a0 + 1)) C hR 0 kfl_X7_7 rfl inG7 (by decide) rfl (IsModel.k hf8) (rf_of (IsModel.r0 hf8 (I6 a0 0))) dX7_pass_14 ?_
    refine lv_iconst (v := (0:Int32)) hx hb dX7_pass_17 rfl ?_
    refine w_iald C hR (IsModel.a0 hf8) (show vp_in (0:Int32) 2361 by unfold vp_in; decide) (j := 0) (by decide) dX7_pass_18 ?_
    refine lv_iload_n hx hb dX7_pass_19 rfl (hv_at hl 1 rfl) ?_
    refine lv_iadd hx hb dX7_pass_20 ?_
    refine lv_sipush (v := (9999:Int32)) hx hb dX7_pass_21 (by decide) ?_
    refine lv_icmp_le (tgt := 30) hx hb dX7_pass_24 (by decide) (fun c10 => ?_) (fun c10 => ?_)
    · replace h := h.1 c10
      refine lv_aload_n hx hb dX7_pass_30 rfl (hv_at hl 0 rfl) ?_
      refine v_cVv (As := []) C hR hS hl.1.1 ca_X7_know kml_X7_46 (L_X7_know E l a0 I6 _ h) (IsModel.k hf8) rfl rfl rfl rfl (Nat.le_of_ble_eq_true rfl) ⟨Nat.le_of_ble_eq_true rfl, Nat.le_of_ble_eq_true rfl⟩ ⟨Nat.zero_le _, Nat.zero_le _⟩ dX7_pass_31 (fun I9 H locs h hR hS => ?_)
      refine lv_iconst (v := (0:Int32)) hx hb dX7_pass_34 rfl ?_
      refine v_istore_n (lv' := [(2, .int (0:Int32)), (0, .ref a0), (1, .int x1)]) hx hb dX7_pass_35 rfl hl (by decide) rfl (fun ls hl => ?_)
      refine lv_iconst (v := (0:Int32)) hx hb dX7_pass_36 rfl ?_
      refine v_istore_n (lv' := [(3, .int (0:Int32)), (2, .int (0:Int32)), (0, .ref a0), (1, .int x1)]) hx hb dX7_pass_37 rfl hl (by decide) rfl (fun ls hl => ?_)
      exact hJ38 (0:Int32) (0:Int32) I9 _ _ _ h hR hS (hv_sub hl [2, 3, 1, 0] rfl)
    · replace h := h.2 c10
      refine lv_bipush (v := (-3:Int32)) hx hb dX7_pass_27 (by decide) ?_
      exact w_ireti C rfl rfl hR hS h dX7_pass_29
  · replace h := h.2 c11
    refine lv_bipush (v := (-2:Int32)) hx hb dX7_pass_10 (by decide) ?_
    exact w_ireti C rfl rfl hR hS h dX7_pass_12
set_option maxHeartbeats 4000000 in
set_option maxRecDepth 100000 in
theorem L_X7_undo (E : Ev) (l : Launch) {K : MK} {R : MR} {n : Nat} (a0 : Nat) (I : MI) (Q : Int32 → MI → Prop) (h : w_X7_undo K R a0 I Q) : MM E l yX7_undo cX7_undo 2 (some Jvm.ClassFile.FieldType.int) 0 0 0 0 [.ref a0] K R I n (Qi K R n Q) := by
  refine MM.of1 (by decide) RX7 rfl (cR cN) (Nat.le_of_ble_eq_true rfl) ?_
  intro p e s m args below meth c ls C hin hR hS hl
  have hx := C.1
  have hb := C.2.1
  have hml := C.2.2.1
  have hown := C.2.2.2.1
  have hts := C.2.2.2.2.1
  have hl : hv ls 2 [(0, .ref a0)] := hl
  clear hin
  have hJ22 : ∀ (y1_22 : Int32) (I : MI) (H : Heap) (locs : List Loc) (ls : Array Slot), w_X7_undo_b22 K R a0 Q y1_22 I → Rep E K R I n H → va_S (AA E) s.heap H locs → hv ls 2 [(0, .ref a0), (1, .int y1_22)] → W p l e (rmM 0 0 0 0) s m args below meth c H locs 0 0 (MQ below (QcM E (Qi K R n Q)) args s 0 0 (AA E)) (F0 m 22 ls []) := by
    intro y1_22 I H locs ls h hR hS hl
    obtain ⟨X22, hX22⟩ : ∃ X : Int32 → MI → Prop, ∀ (y1_22 : Int32) (I : MI), X y1_22 I ↔ (∀ (H : Heap) (locs : List Loc) (ls : Array Slot), Rep E K R I n H → va_S (AA E) s.heap H locs → hv ls 2 [(0, .ref a0), (1, .int y1_22)] → W p l e (rmM 0 0 0 0) s m args below meth c H locs 0 0 (MQ below (QcM E (Qi K R n Q)) args s 0 0 (AA E)) (F0 m 22 ls [])) := ⟨fun y1_22 I => ∀ (H : Heap) (locs : List Loc) (ls : Array Slot), Rep E K R I n H → va_S (AA E) s.heap H locs → hv ls 2 [(0, .ref a0), (1, .int y1_22)] → W p l e (rmM 0 0 0 0) s m args below meth c H locs 0 0 (MQ below (QcM E (Qi K R n Q)) args s 0 0 (AA E)) (F0 m 22 ls []), fun _ _ => Iff.rfl⟩
    refine (hX22 y1_22 I).mp (h X22 ?_) H locs ls hR hS hl
    clear h hR hS hl
    clear ls locs H I y1_22
    intro y1_22 I h
    refine (hX22 y1_22 I).mpr ?_
    intro H locs ls hR hS hl
    unfold w_X7_undo_b22_body at h
    refine lv_iload_n hx hb dX7_undo_22 rfl (hv_at hl 1 rfl) ?_
    refine lv_sipush (v := (2361:Int32)) hx hb dX7_undo_23 (by decide) ?_
    refine lv_icmp_ge (tgt := 56) hx hb dX7_undo_26 (by decide) (fun c6 => ?_) (fun c6 => ?_)
    · replace h := h.1 c6
      refine lv_aload_n hx hb dX7_undo_56 rfl (hv_at hl 0 rfl) ?_
      obtain ⟨hf1, h⟩ := h
      refine v_get (T := TX7) (v := .int (I a0 3)) C hR 3 kfl_X7_42 rfl inG7 (by decide) rfl (IsModel.k hf1) rfl dX7_undo_57 ?_
      exact w_ireti C rfl rfl hR hS h dX7_undo_60
    · replace h := h.2 c6
      refine lv_aload_n hx hb dX7_undo_29 rfl (hv_at hl 0 rfl) ?_
      obtain ⟨hf2, h⟩ := h
      refine v_get (T := TX7) (v := .ref (a0 + 1)) C hR 0 kfl_X7_7 rfl inG7 (by decide) rfl (IsModel.k hf2) (rf_of (IsModel.r0 hf2 (I a0 0))) dX7_undo_30 ?_
      refine lv_iload_n hx hb dX7_undo_33 rfl (hv_at hl 1 rfl) ?_
      refine lv_aload_n hx hb dX7_undo_34 rfl (hv_at hl 0 rfl) ?_
      refine v_get (T := TX7) (v := .ref (a0 + 3)) C hR 2 kfl_X7_16 rfl inG7 (by decide) rfl (IsModel.k hf2) (rf_of (IsModel.r2 hf2 (I a0 2))) dX7_undo_35 ?_
      refine lv_sipush (v := (2361:Int32)) hx hb dX7_undo_38 (by decide) ?_
      refine lv_aload_n hx hb dX7_undo_41 rfl (hv_at hl 0 rfl) ?_
      refine v_get (T := TX7) (v := .int (I a0 3)) C hR 3 kfl_X7_42 rfl inG7 (by decide) rfl (IsModel.k hf2) rfl dX7_undo_42 ?_
      refine lv_imul hx hb dX7_undo_45 ?_
      refine lv_iload_n hx hb dX7_undo_46 rfl (hv_at hl 1 rfl) ?_
      refine lv_iadd hx hb dX7_undo_47 ?_
      obtain ⟨hi3, h⟩ := h
      refine w_iald C hR (IsModel.a2 hf2) hi3 (j := (ix (((2361:Int32) * (I a0 3)) + y1_22))) rfl dX7_undo_48 ?_
      obtain ⟨hi4, h⟩ := h
      obtain ⟨I5, hI5⟩ := ex_eq (upI I (a0 + 1) (ix y1_22) (I (a0 + 3) (ix (((2361:Int32) * (I a0 3)) + y1_22))))
      replace h := h I5 hI5
      refine w_iast C hR hS (IsModel.a0 hf2) hi4 (j := (ix y1_22)) rfl hI5 dX7_undo_49 (fun H locs hR hS => ?_)
      refine v_iinc (v := y1_22 + (1:Int32)) (k := 1) (lv' := [(1, .int (y1_22 + (1:Int32))), (0, .ref a0)]) hx hb dX7_undo_50 hl rfl rfl (by decide) rfl (fun ls hl => ?_)
      refine lv_goto (tgt := 22) hx hb dX7_undo_53 (by decide) ?_
      exact (hX22 (y1_22 + (1:Int32)) I5).mp h _ _ _ hR hS (hv_sub hl [1, 0] rfl)
  unfold w_X7_undo at h
  refine lv_aload_n hx hb dX7_undo_0 rfl (hv_at hl 0 rfl) ?_
  obtain ⟨hf7, h⟩ := h
  refine v_get (T := TX7) (v := .int (I a0 3)) C hR 3 kfl_X7_42 rfl inG7 (by decide) rfl (IsModel.k hf7) rfl dX7_undo_1 ?_
  refine lv_if_ne (tgt := 10) hx hb dX7_undo_4 (by decide) (fun c9 => ?_) (fun c9 => ?_)
  · replace h := h.1 c9
    refine lv_aload_n hx hb dX7_undo_10 rfl (hv_at hl 0 rfl) ?_
    refine lv_dup hx hb dX7_undo_11 rfl ?_
    refine v_get (T := TX7) (v := .int (I a0 3)) C hR 3 kfl_X7_42 rfl inG7 (by decide) rfl (IsModel.k hf7) rfl dX7_undo_12 ?_
    refine lv_iconst (v := (1:Int32)) hx hb dX7_undo_15 rfl ?_
    refine lv_isub hx hb dX7_undo_16 ?_
    obtain ⟨I8, hI8⟩ := ex_eq (upI I a0 3 ((I a0 3) - (1:Int32)))
    replace h := h I8 hI8
    refine v_put (T := TX7) (ty := .int) C hR hS 3 kfl_X7_42 rfl inG7 tyX7 tyX7_ok nmX7 (by decide) rfl (IsModel.k hf7) rfl (tyX7_ok 3 (by decide)) rfl rfl (fl_i_7_3 _ _ _) (Nat.le_of_ble_eq_true rfl) hI8 dX7_undo_17 (fun H locs hR hS => ?_)
    refine lv_iconst (v := (0:Int32)) hx hb dX7_undo_20 rfl ?_
    refine v_istore_n (lv' := [(1, .int (0:Int32)), (0, .ref a0)]) hx hb dX7_undo_21 rfl hl (by decide) rfl (fun ls hl => ?_)
    exact hJ22 (0:Int32) I8 _ _ _ h hR hS (hv_sub hl [1, 0] rfl)
  · replace h := h.2 c9
    refine lv_bipush (v := (-5:Int32)) hx hb dX7_undo_7 (by decide) ?_
    exact w_ireti C rfl rfl hR hS h dX7_undo_9
set_option maxHeartbeats 4000000 in
set_option maxRecDepth 100000 in
theorem L_X7_keep (E : Ev) (l : Launch) {K : MK} {R : MR} {n : Nat} (a0 : Nat) (I : MI) (Q : Int32 → MI → Prop) (h : w_X7_keep K R a0 I Q) : MM E l yX7_keep cX7_keep 2 (some Jvm.ClassFile.FieldType.int) 0 0 0 0 [.ref a0] K R I n (Qi K R n Q) := by
  refine MM.of1 (by decide) RX7 rfl (cR cN) (Nat.le_of_ble_eq_true rfl) ?_
  intro p e s m args below meth c ls C hin hR hS hl
  have hx := C.1
  have hb := C.2.1
  have hml := C.2.2.1
  have hown := C.2.2.2.1
  have hts := C.2.2.2.2.1
  have hl : hv ls 2 [(0, .ref a0)] := hl
  clear hin
  have hJ2 : ∀ (y1_2 : Int32) (I : MI) (H : Heap) (locs : List Loc) (ls : Array Slot), w_X7_keep_b2 K R a0 Q y1_2 I → Rep E K R I n H → va_S (AA E) s.heap H locs → hv ls 2 [(0, .ref a0), (1, .int y1_2)] → W p l e (rmM 0 0 0 0) s m args below meth c H locs 0 0 (MQ below (QcM E (Qi K R n Q)) args s 0 0 (AA E)) (F0 m 2 ls []) := by
    intro y1_2 I H locs ls h hR hS hl
    obtain ⟨X2, hX2⟩ : ∃ X : Int32 → MI → Prop, ∀ (y1_2 : Int32) (I : MI), X y1_2 I ↔ (∀ (H : Heap) (locs : List Loc) (ls : Array Slot), Rep E K R I n H → va_S (AA E) s.heap H locs → hv ls 2 [(0, .ref a0), (1, .int y1_2)] → W p l e (rmM 0 0 0 0) s m args below meth c H locs 0 0 (MQ below (QcM E (Qi K R n Q)) args s 0 0 (AA E)) (F0 m 2 ls [])) := ⟨fun y1_2 I => ∀ (H : Heap) (locs : List Loc) (ls : Array Slot), Rep E K R I n H → va_S (AA E) s.heap H locs → hv ls 2 [(0, .ref a0), (1, .int y1_2)] → W p l e (rmM 0 0 0 0) s m args below meth c H locs 0 0 (MQ below (QcM E (Qi K R n Q)) args s 0 0 (AA E)) (F0 m 2 ls []), fun _ _ => Iff.rfl⟩
    refine (hX2 y1_2 I).mp (h X2 ?_) H locs ls hR hS hl
    clear h hR hS hl
    clear ls locs H I y1_2
    intro y1_2 I h
    refine (hX2 y1_2 I).mpr ?_
    intro H locs ls hR hS hl
    unfold w_X7_keep_b2_body at h
    refine lv_iload_n hx hb dX7_keep_2 rfl (hv_at hl 1 rfl) ?_
    refine lv_sipush (v := (2361:Int32)) hx hb dX7_keep_3 (by decide) ?_
    refine lv_icmp_ge (tgt := 27) hx hb dX7_keep_6 (by decide) (fun c7 => ?_) (fun c7 => ?_)
    · replace h := h.1 c7
      refine lv_aload_n hx hb dX7_keep_27 rfl (hv_at hl 0 rfl) ?_
      refine lv_iconst (v := (1:Int32)) hx hb dX7_keep_28 rfl ?_
      obtain ⟨hf1, h⟩ := h
      obtain ⟨I2, hI2⟩ := ex_eq (upI I a0 5 (1:Int32))
      replace h := h I2 hI2
      refine v_put (T := TX7) (ty := .boolean) C hR hS 5 kfl_X7_127 rfl inG7 tyX7 tyX7_ok nmX7 (by decide) rfl (IsModel.k hf1) rfl (tyX7_ok 5 (by decide)) rfl rfl (fl_i_7_5 _ _ _) (Nat.le_of_ble_eq_true rfl) hI2 dX7_keep_29 (fun H locs hR hS => ?_)
      refine lv_aload_n hx hb dX7_keep_32 rfl (hv_at hl 0 rfl) ?_
      refine v_get (T := TX7) (v := .ref (a0 + 1)) C hR 0 kfl_X7_7 rfl inG7 (by decide) rfl (IsModel.k hf1) (rf_of (IsModel.r0 hf1 (I2 a0 0))) dX7_keep_33 ?_
      refine lv_iconst (v := (0:Int32)) hx hb dX7_keep_36 rfl ?_
      refine w_iald C hR (IsModel.a0 hf1) (show vp_in (0:Int32) 2361 by unfold vp_in; decide) (j := 0) (by decide) dX7_keep_37 ?_
      exact w_ireti C rfl rfl hR hS h dX7_keep_38
    · replace h := h.2 c7
      refine lv_aload_n hx hb dX7_keep_9 rfl (hv_at hl 0 rfl) ?_
      obtain ⟨hf3, h⟩ := h
      refine v_get (T := TX7) (v := .ref (a0 + 4)) C hR 4 kfl_X7_19 rfl inG7 (by decide) rfl (IsModel.k hf3) (rf_of (IsModel.r4 hf3 (I a0 4))) dX7_keep_10 ?_
      refine lv_iload_n hx hb dX7_keep_13 rfl (hv_at hl 1 rfl) ?_
      refine lv_aload_n hx hb dX7_keep_14 rfl (hv_at hl 0 rfl) ?_
      refine v_get (T := TX7) (v := .ref (a0 + 1)) C hR 0 kfl_X7_7 rfl inG7 (by decide) rfl (IsModel.k hf3) (rf_of (IsModel.r0 hf3 (I a0 0))) dX7_keep_15 ?_
      refine lv_iload_n hx hb dX7_keep_18 rfl (hv_at hl 1 rfl) ?_
      obtain ⟨hi4, h⟩ := h
      refine w_iald C hR (IsModel.a0 hf3) hi4 (j := (ix y1_2)) rfl dX7_keep_19 ?_
      obtain ⟨hi5, h⟩ := h
      obtain ⟨I6, hI6⟩ := ex_eq (upI I (a0 + 4) (ix y1_2) (I (a0 + 1) (ix y1_2)))
      replace h := h I6 hI6
      refine w_iast C hR hS (IsModel.a4 hf3) hi5 (j := (ix y1_2)) rfl hI6 dX7_keep_20 (fun H locs hR hS => ?_)
      refine v_iinc (v := y1_2 + (1:Int32)) (k := 1) (lv' := [(1, .int (y1_2 + (1:Int32))), (0, .ref a0)]) hx hb dX7_keep_21 hl rfl rfl (by decide) rfl (fun ls hl => ?_)
      refine lv_goto (tgt := 2) hx hb dX7_keep_24 (by decide) ?_
      exact (hX2 (y1_2 + (1:Int32)) I6).mp h _ _ _ hR hS (hv_sub hl [1, 0] rfl)
  unfold w_X7_keep at h
  refine lv_iconst (v := (0:Int32)) hx hb dX7_keep_0 rfl ?_
  refine v_istore_n (lv' := [(1, .int (0:Int32)), (0, .ref a0)]) hx hb dX7_keep_1 rfl hl (by decide) rfl (fun ls hl => ?_)
  exact hJ2 (0:Int32) I _ _ _ h hR hS (hv_sub hl [1, 0] rfl)
set_option maxHeartbeats 4000000 in
set_option maxRecDepth 100000 in
theorem L_X7_restore (E : Ev) (l : Launch) {K : MK} {R : MR} {n : Nat} (a0 : Nat) (I : MI) (Q : Int32 → MI → Prop) (h : w_X7_restore K R a0 I Q) : MM E l yX7_restore cX7_restore 2 (some Jvm.ClassFile.FieldType.int) 1 21 0 0 [.ref a0] K R I n (Qi K R n Q) := by
  refine MM.of1 (by decide) RX7 rfl (cR cN) (Nat.le_of_ble_eq_true rfl) ?_
  intro p e s m args below meth c ls C hin hR hS hl
  have hx := C.1
  have hb := C.2.1
  have hml := C.2.2.1
  have hown := C.2.2.2.1
  have hts := C.2.2.2.2.1
  have hl : hv ls 2 [(0, .ref a0)] := hl
  clear hin
  have hJ16 : ∀ (y1_16 : Int32) (I : MI) (H : Heap) (locs : List Loc) (ls : Array Slot), w_X7_restore_b16 K R a0 Q y1_16 I → Rep E K R I n H → va_S (AA E) s.heap H locs → hv ls 2 [(0, .ref a0), (1, .int y1_16)] → W p l e (rmM 1 21 0 0) s m args below meth c H locs 0 0 (MQ below (QcM E (Qi K R n Q)) args s 0 0 (AA E)) (F0 m 16 ls []) := by
    intro y1_16 I H locs ls h hR hS hl
    obtain ⟨X16, hX16⟩ : ∃ X : Int32 → MI → Prop, ∀ (y1_16 : Int32) (I : MI), X y1_16 I ↔ (∀ (H : Heap) (locs : List Loc) (ls : Array Slot), Rep E K R I n H → va_S (AA E) s.heap H locs → hv ls 2 [(0, .ref a0), (1, .int y1_16)] → W p l e (rmM 1 21 0 0) s m args below meth c H locs 0 0 (MQ below (QcM E (Qi K R n Q)) args s 0 0 (AA E)) (F0 m 16 ls [])) := ⟨fun y1_16 I => ∀ (H : Heap) (locs : List Loc) (ls : Array Slot), Rep E K R I n H → va_S (AA E) s.heap H locs → hv ls 2 [(0, .ref a0), (1, .int y1_16)] → W p l e (rmM 1 21 0 0) s m args below meth c H locs 0 0 (MQ below (QcM E (Qi K R n Q)) args s 0 0 (AA E)) (F0 m 16 ls []), fun _ _ => Iff.rfl⟩
    refine (hX16 y1_16 I).mp (h X16 ?_) H locs ls hR hS hl
    clear h hR hS hl
    clear ls locs H I y1_16
    intro y1_16 I h
    refine (hX16 y1_16 I).mpr ?_
    intro H locs ls hR hS hl
    unfold w_X7_restore_b16_body at h
    refine lv_iload_n hx hb dX7_restore_16 rfl (hv_at hl 1 rfl) ?_
    refine lv_sipush (v := (2361:Int32)) hx hb dX7_restore_17 (by decide) ?_
    refine lv_icmp_ge (tgt := 41) hx hb dX7_restore_20 (by decide) (fun c6 => ?_) (fun c6 => ?_)
    · replace h := h.1 c6
      refine lv_aload_n hx hb dX7_restore_41 rfl (hv_at hl 0 rfl) ?_
      obtain ⟨hf1, h⟩ := h
      refine v_get (T := TX7) (v := .ref (a0 + 1)) C hR 0 kfl_X7_7 rfl inG7 (by decide) rfl (IsModel.k hf1) (rf_of (IsModel.r0 hf1 (I a0 0))) dX7_restore_42 ?_
      refine lv_iconst (v := (0:Int32)) hx hb dX7_restore_45 rfl ?_
      refine w_iald C hR (IsModel.a0 hf1) (show vp_in (0:Int32) 2361 by unfold vp_in; decide) (j := 0) (by decide) dX7_restore_46 ?_
      exact w_ireti C rfl rfl hR hS h dX7_restore_47
    · replace h := h.2 c6
      refine lv_aload_n hx hb dX7_restore_23 rfl (hv_at hl 0 rfl) ?_
      obtain ⟨hf2, h⟩ := h
      refine v_get (T := TX7) (v := .ref (a0 + 1)) C hR 0 kfl_X7_7 rfl inG7 (by decide) rfl (IsModel.k hf2) (rf_of (IsModel.r0 hf2 (I a0 0))) dX7_restore_24 ?_
      refine lv_iload_n hx hb dX7_restore_27 rfl (hv_at hl 1 rfl) ?_
      refine lv_aload_n hx hb dX7_restore_28 rfl (hv_at hl 0 rfl) ?_
      refine v_get (T := TX7) (v := .ref (a0 + 4)) C hR 4 kfl_X7_19 rfl inG7 (by decide) rfl (IsModel.k hf2) (rf_of (IsModel.r4 hf2 (I a0 4))) dX7_restore_29 ?_
      refine lv_iload_n hx hb dX7_restore_32 rfl (hv_at hl 1 rfl) ?_
      obtain ⟨hi3, h⟩ := h
      refine w_iald C hR (IsModel.a4 hf2) hi3 (j := (ix y1_16)) rfl dX7_restore_33 ?_
      obtain ⟨hi4, h⟩ := h
      obtain ⟨I5, hI5⟩ := ex_eq (upI I (a0 + 1) (ix y1_16) (I (a0 + 4) (ix y1_16)))
      replace h := h I5 hI5
      refine w_iast C hR hS (IsModel.a0 hf2) hi4 (j := (ix y1_16)) rfl hI5 dX7_restore_34 (fun H locs hR hS => ?_)
      refine v_iinc (v := y1_16 + (1:Int32)) (k := 1) (lv' := [(1, .int (y1_16 + (1:Int32))), (0, .ref a0)]) hx hb dX7_restore_35 hl rfl rfl (by decide) rfl (fun ls hl => ?_)
      refine lv_goto (tgt := 16) hx hb dX7_restore_38 (by decide) ?_
      exact (hX16 (y1_16 + (1:Int32)) I5).mp h _ _ _ hR hS (hv_sub hl [1, 0] rfl)
  unfold w_X7_restore at h
  refine lv_aload_n hx hb dX7_restore_0 rfl (hv_at hl 0 rfl) ?_
  obtain ⟨hf7, h⟩ := h
  refine v_get (T := TX7) (v := .int (I a0 5)) C hR 5 kfl_X7_127 rfl inG7 (by decide) rfl (IsModel.k hf7) rfl dX7_restore_1 ?_
  refine lv_if_ne (tgt := 10) hx hb dX7_restore_4 (by decide) (fun c9 => ?_) (fun c9 => ?_)
  · replace h := h.1 c9
    refine lv_aload_n hx hb dX7_restore_10 rfl (hv_at hl 0 rfl) ?_
    refine v_cVv (As := []) C hR hS hl.1.1 ca_X7_know kml_X7_46 (L_X7_know E l a0 I _ h) (IsModel.k hf7) rfl rfl rfl rfl (Nat.le_of_ble_eq_true rfl) ⟨Nat.le_of_ble_eq_true rfl, Nat.le_of_ble_eq_true rfl⟩ ⟨Nat.zero_le _, Nat.zero_le _⟩ dX7_restore_11 (fun I8 H locs h hR hS => ?_)
    refine lv_iconst (v := (0:Int32)) hx hb dX7_restore_14 rfl ?_
    refine v_istore_n (lv' := [(1, .int (0:Int32)), (0, .ref a0)]) hx hb dX7_restore_15 rfl hl (by decide) rfl (fun ls hl => ?_)
    exact hJ16 (0:Int32) I8 _ _ _ h hR hS (hv_sub hl [1, 0] rfl)
  · replace h := h.2 c9
    refine lv_bipush (v := (-5:Int32)) hx hb dX7_restore_7 (by decide) ?_
    exact w_ireti C rfl rfl hR hS h dX7_restore_9
set_option maxHeartbeats 4000000 in
set_option maxRecDepth 100000 in
theorem L_X7_isQuestion (E : Ev) (l : Launch) {K : MK} {R : MR} {n : Nat} (a0 : Nat) (x1 : Int32) (I : MI) (Q : Int32 → MI → Prop) (h : w_X7_isQuestion K R a0 x1 I Q) : MM E l yX7_isQuestion cX7_isQuestion 2 (some Jvm.ClassFile.FieldType.boolean) 1 22 0 0 [.ref a0, .int x1] K R I n (Qi K R n Q) := by
  refine MM.of1 (by decide) RX7 rfl (cR (cI cN)) (Nat.le_of_ble_eq_true rfl) ?_
  intro p e s m args below meth c ls C hin hR hS hl
  have hx := C.1
  have hb := C.2.1
  have hml := C.2.2.1
  have hown := C.2.2.2.1
  have hts := C.2.2.2.2.1
  have hl : hv ls 2 [(0, .ref a0), (1, .int x1)] := hl
  clear hin
  unfold w_X7_isQuestion at h
  refine lv_iload_n hx hb dX7_isQuestion_0 rfl (hv_at hl 1 rfl) ?_
  refine lv_iconst (v := (0:Int32)) hx hb dX7_isQuestion_1 rfl ?_
  refine lv_aload_n hx hb dX7_isQuestion_2 rfl (hv_at hl 0 rfl) ?_
  obtain ⟨hf1, h⟩ := h
  refine v_get (T := TX7) (v := .ref (a0 + 1)) C hR 0 kfl_X7_7 rfl inG7 (by decide) rfl (IsModel.k hf1) (rf_of (IsModel.r0 hf1 (I a0 0))) dX7_isQuestion_3 ?_
  refine lv_iconst (v := (4:Int32)) hx hb dX7_isQuestion_6 rfl ?_
  refine w_iald C hR (IsModel.a0 hf1) (show vp_in (4:Int32) 2361 by unfold vp_in; decide) (j := 4) (by decide) dX7_isQuestion_7 ?_
  refine lv_iconst (v := (1:Int32)) hx hb dX7_isQuestion_8 rfl ?_
  refine lv_isub hx hb dX7_isQuestion_9 ?_
  refine v_cSi (As := [.int x1, .int (0:Int32), .int ((I (a0 + 1) 4) - (1:Int32))]) C hR hS hl.1.1 ca_X7_in kml_X7_38 (L_X7_in E l x1 (0:Int32) ((I (a0 + 1) 4) - (1:Int32)) I _ h) rfl rfl (Nat.le_of_ble_eq_true rfl) ⟨Nat.le_of_ble_eq_true rfl, Nat.le_of_ble_eq_true rfl⟩ ⟨Nat.zero_le _, Nat.zero_le _⟩ dX7_isQuestion_10 (fun v3 I2 H locs h hR hS => ?_)
  obtain ⟨hb4, h⟩ := h
  exact w_ireti C rfl (bz_nar hb4) hR hS h dX7_isQuestion_13
set_option maxHeartbeats 4000000 in
set_option maxRecDepth 100000 in
theorem L_X7_question_ (E : Ev) (l : Launch) {K : MK} {R : MR} {n : Nat} (a0 : Nat) (x1 : Int32) (x2 : Int32) (I : MI) (Q : Int32 → MI → Prop) (h : w_X7_question_ K R a0 x1 x2 I Q) : MM E l yX7_question_ cX7_question_ 3 (some Jvm.ClassFile.FieldType.int) 2 43 0 0 [.ref a0, .int x1, .int x2] K R I n (Qi K R n Q) := by
  refine MM.of1 (by decide) RX7 rfl (cR (cI (cI cN))) (Nat.le_of_ble_eq_true rfl) ?_
  intro p e s m args below meth c ls C hin hR hS hl
  have hx := C.1
  have hb := C.2.1
  have hml := C.2.2.1
  have hown := C.2.2.2.1
  have hts := C.2.2.2.2.1
  have hl : hv ls 3 [(0, .ref a0), (1, .int x1), (2, .int x2)] := hl
  clear hin
  have hJ73 : ∀ (z0_73 : Int32) (I : MI) (H : Heap) (locs : List Loc) (ls : Array Slot), w_X7_question__b73 K R a0 x1 x2 Q z0_73 I → Rep E K R I n H → va_S (AA E) s.heap H locs → hv ls 3 [] → W p l e (rmM 2 43 0 0) s m args below meth c H locs 0 0 (MQ below (QcM E (Qi K R n Q)) args s 0 0 (AA E)) (F0 m 73 ls [.int z0_73]) := by
    intro z0_73 I H locs ls h hR hS hl
    unfold w_X7_question__b73 at h
    exact w_ireti C rfl rfl hR hS h dX7_question__73
  unfold w_X7_question_ at h
  refine lv_aload_n hx hb dX7_question__0 rfl (hv_at hl 0 rfl) ?_
  refine lv_iload_n hx hb dX7_question__1 rfl (hv_at hl 1 rfl) ?_
  obtain ⟨hf1, h⟩ := h
  refine v_cVi (As := [.int x1]) C hR hS hl.1.1 ca_X7_isQuestion kml_X7_130 (L_X7_isQuestion E l a0 x1 I _ h) (IsModel.k hf1) rfl rfl rfl rfl (Nat.le_of_ble_eq_true rfl) ⟨Nat.le_of_ble_eq_true rfl, Nat.le_of_ble_eq_true rfl⟩ ⟨Nat.zero_le _, Nat.zero_le _⟩ dX7_question__2 (fun v3 I2 H locs h hR hS => ?_)
  refine lv_if_ne (tgt := 10) hx hb dX7_question__5 (by decide) (fun c18 => ?_) (fun c18 => ?_)
  · replace h := h.1 c18
    refine lv_iload_n hx hb dX7_question__10 rfl (hv_at hl 2 rfl) ?_
    refine lv_iconst (v := (0:Int32)) hx hb dX7_question__11 rfl ?_
    refine lv_bipush (v := (8:Int32)) hx hb dX7_question__12 (by decide) ?_
    refine v_cSi (As := [.int x2, .int (0:Int32), .int (8:Int32)]) C hR hS hl.1.1 ca_X7_in kml_X7_38 (L_X7_in E l x2 (0:Int32) (8:Int32) I2 _ h) rfl rfl (Nat.le_of_ble_eq_true rfl) ⟨Nat.le_of_ble_eq_true rfl, Nat.le_of_ble_eq_true rfl⟩ ⟨Nat.zero_le _, Nat.zero_le _⟩ dX7_question__14 (fun v5 I4 H locs h hR hS => ?_)
    refine lv_if_ne (tgt := 23) hx hb dX7_question__17 (by decide) (fun c17 => ?_) (fun c17 => ?_)
    · replace h := h.1 c17
      refine lv_iload_n hx hb dX7_question__23 rfl (hv_at hl 2 rfl) ?_
      refine lv_bipush (v := (7:Int32)) hx hb dX7_question__24 (by decide) ?_
      refine lv_icmp_ne (tgt := 43) hx hb dX7_question__26 (by decide) (fun c16 => ?_) (fun c16 => ?_)
      · replace h := h.1 c16
        refine lv_iload_n hx hb dX7_question__43 rfl (hv_at hl 2 rfl) ?_
        refine lv_bipush (v := (8:Int32)) hx hb dX7_question__44 (by decide) ?_
        refine lv_icmp_ne (tgt := 63) hx hb dX7_question__46 (by decide) (fun c12 => ?_) (fun c12 => ?_)
        · replace h := h.1 c12
          refine lv_aload_n hx hb dX7_question__63 rfl (hv_at hl 0 rfl) ?_
          refine v_get (T := TX7) (v := .ref (a0 + 1)) C hR 0 kfl_X7_7 rfl inG7 (by decide) rfl (IsModel.k hf1) (rf_of (IsModel.r0 hf1 (I4 a0 0))) dX7_question__64 ?_
          refine lv_iload_n hx hb dX7_question__67 rfl (hv_at hl 1 rfl) ?_
          refine lv_iload_n hx hb dX7_question__68 rfl (hv_at hl 2 rfl) ?_
          refine v_cSi (As := [.int x1, .int x2]) C hR hS hl.1.1 ca_X7_of kml_X7_59 (L_X7_of E l x1 x2 I4 _ h) rfl rfl (Nat.le_of_ble_eq_true rfl) ⟨Nat.le_of_ble_eq_true rfl, Nat.le_of_ble_eq_true rfl⟩ ⟨Nat.zero_le _, Nat.zero_le _⟩ dX7_question__69 (fun v7 I6 H locs h hR hS => ?_)
          obtain ⟨hi8, h⟩ := h
          refine w_iald C hR (IsModel.a0 hf1) hi8 (j := (ix v7)) rfl dX7_question__72 ?_
          exact hJ73 (I6 (a0 + 1) (ix v7)) I6 _ _ _ h hR hS (hv_sub hl [] rfl)
        · replace h := h.2 c12
          refine lv_aload_n hx hb dX7_question__49 rfl (hv_at hl 0 rfl) ?_
          refine v_get (T := TX7) (v := .ref (a0 + 1)) C hR 0 kfl_X7_7 rfl inG7 (by decide) rfl (IsModel.k hf1) (rf_of (IsModel.r0 hf1 (I4 a0 0))) dX7_question__50 ?_
          refine lv_iload_n hx hb dX7_question__53 rfl (hv_at hl 1 rfl) ?_
          refine lv_bipush (v := (9:Int32)) hx hb dX7_question__54 (by decide) ?_
          refine v_cSi (As := [.int x1, .int (9:Int32)]) C hR hS hl.1.1 ca_X7_of kml_X7_59 (L_X7_of E l x1 (9:Int32) I4 _ h) rfl rfl (Nat.le_of_ble_eq_true rfl) ⟨Nat.le_of_ble_eq_true rfl, Nat.le_of_ble_eq_true rfl⟩ ⟨Nat.zero_le _, Nat.zero_le _⟩ dX7_question__56 (fun v10 I9 H locs h hR hS => ?_)
          obtain ⟨hi11, h⟩ := h
          refine w_iald C hR (IsModel.a0 hf1) hi11 (j := (ix v10)) rfl dX7_question__59 ?_
          refine lv_goto (tgt := 73) hx hb dX7_question__60 (by decide) ?_
          exact hJ73 (I9 (a0 + 1) (ix v10)) I9 _ _ _ h hR hS (hv_sub hl [] rfl)
      · replace h := h.2 c16
        refine lv_aload_n hx hb dX7_question__29 rfl (hv_at hl 0 rfl) ?_
        refine v_get (T := TX7) (v := .ref (a0 + 1)) C hR 0 kfl_X7_7 rfl inG7 (by decide) rfl (IsModel.k hf1) (rf_of (IsModel.r0 hf1 (I4 a0 0))) dX7_question__30 ?_
        refine lv_iload_n hx hb dX7_question__33 rfl (hv_at hl 1 rfl) ?_
        refine lv_bipush (v := (8:Int32)) hx hb dX7_question__34 (by decide) ?_
        refine v_cSi (As := [.int x1, .int (8:Int32)]) C hR hS hl.1.1 ca_X7_of kml_X7_59 (L_X7_of E l x1 (8:Int32) I4 _ h) rfl rfl (Nat.le_of_ble_eq_true rfl) ⟨Nat.le_of_ble_eq_true rfl, Nat.le_of_ble_eq_true rfl⟩ ⟨Nat.zero_le _, Nat.zero_le _⟩ dX7_question__36 (fun v14 I13 H locs h hR hS => ?_)
        obtain ⟨hi15, h⟩ := h
        refine w_iald C hR (IsModel.a0 hf1) hi15 (j := (ix v14)) rfl dX7_question__39 ?_
        refine lv_goto (tgt := 73) hx hb dX7_question__40 (by decide) ?_
        exact hJ73 (I13 (a0 + 1) (ix v14)) I13 _ _ _ h hR hS (hv_sub hl [] rfl)
    · replace h := h.2 c17
      refine lv_bipush (v := (-2:Int32)) hx hb dX7_question__20 (by decide) ?_
      exact w_ireti C rfl rfl hR hS h dX7_question__22
  · replace h := h.2 c18
    refine lv_iconst (v := (-1:Int32)) hx hb dX7_question__8 rfl ?_
    exact w_ireti C rfl rfl hR hS h dX7_question__9
set_option maxHeartbeats 4000000 in
set_option maxRecDepth 100000 in
theorem L_X7_tag (E : Ev) (l : Launch) {K : MK} {R : MR} {n : Nat} (a0 : Nat) (x1 : Int32) (I : MI) (Q : Int32 → MI → Prop) (h : w_X7_tag K R a0 x1 I Q) : MM E l yX7_tag cX7_tag 2 (some Jvm.ClassFile.FieldType.int) 1 22 0 0 [.ref a0, .int x1] K R I n (Qi K R n Q) := by
  refine MM.of1 (by decide) RX7 rfl (cR (cI cN)) (Nat.le_of_ble_eq_true rfl) ?_
  intro p e s m args below meth c ls C hin hR hS hl
  have hx := C.1
  have hb := C.2.1
  have hml := C.2.2.1
  have hown := C.2.2.2.1
  have hts := C.2.2.2.2.1
  have hl : hv ls 2 [(0, .ref a0), (1, .int x1)] := hl
  clear hin
  have hJ29 : ∀ (z0_29 : Int32) (I : MI) (H : Heap) (locs : List Loc) (ls : Array Slot), w_X7_tag_b29 K R a0 x1 Q z0_29 I → Rep E K R I n H → va_S (AA E) s.heap H locs → hv ls 2 [] → W p l e (rmM 1 22 0 0) s m args below meth c H locs 0 0 (MQ below (QcM E (Qi K R n Q)) args s 0 0 (AA E)) (F0 m 29 ls [.int z0_29]) := by
    intro z0_29 I H locs ls h hR hS hl
    unfold w_X7_tag_b29 at h
    exact w_ireti C rfl rfl hR hS h dX7_tag_29
  unfold w_X7_tag at h
  refine lv_iload_n hx hb dX7_tag_0 rfl (hv_at hl 1 rfl) ?_
  refine lv_iconst (v := (0:Int32)) hx hb dX7_tag_1 rfl ?_
  refine lv_aload_n hx hb dX7_tag_2 rfl (hv_at hl 0 rfl) ?_
  obtain ⟨hf1, h⟩ := h
  refine v_get (T := TX7) (v := .ref (a0 + 1)) C hR 0 kfl_X7_7 rfl inG7 (by decide) rfl (IsModel.k hf1) (rf_of (IsModel.r0 hf1 (I a0 0))) dX7_tag_3 ?_
  refine lv_iconst (v := (1:Int32)) hx hb dX7_tag_6 rfl ?_
  refine w_iald C hR (IsModel.a0 hf1) (show vp_in (1:Int32) 2361 by unfold vp_in; decide) (j := 1) (by decide) dX7_tag_7 ?_
  refine lv_iconst (v := (1:Int32)) hx hb dX7_tag_8 rfl ?_
  refine lv_isub hx hb dX7_tag_9 ?_
  refine v_cSi (As := [.int x1, .int (0:Int32), .int ((I (a0 + 1) 1) - (1:Int32))]) C hR hS hl.1.1 ca_X7_in kml_X7_38 (L_X7_in E l x1 (0:Int32) ((I (a0 + 1) 1) - (1:Int32)) I _ h) rfl rfl (Nat.le_of_ble_eq_true rfl) ⟨Nat.le_of_ble_eq_true rfl, Nat.le_of_ble_eq_true rfl⟩ ⟨Nat.zero_le _, Nat.zero_le _⟩ dX7_tag_10 (fun v3 I2 H locs h hR hS => ?_)
  refine lv_if_eq (tgt := 28) hx hb dX7_tag_13 (by decide) (fun c5 => ?_) (fun c5 => ?_)
  · replace h := h.1 c5
    refine lv_iconst (v := (-1:Int32)) hx hb dX7_tag_28 rfl ?_
    exact hJ29 (-1:Int32) I2 _ _ _ h hR hS (hv_sub hl [] rfl)
  · replace h := h.2 c5
    refine lv_aload_n hx hb dX7_tag_16 rfl (hv_at hl 0 rfl) ?_
    refine v_get (T := TX7) (v := .ref (a0 + 1)) C hR 0 kfl_X7_7 rfl inG7 (by decide) rfl (IsModel.k hf1) (rf_of (IsModel.r0 hf1 (I2 a0 0))) dX7_tag_17 ?_
    refine lv_bipush (v := (13:Int32)) hx hb dX7_tag_20 (by decide) ?_
    refine lv_iload_n hx hb dX7_tag_22 rfl (hv_at hl 1 rfl) ?_
    refine lv_iadd hx hb dX7_tag_23 ?_
    obtain ⟨hi4, h⟩ := h
    refine w_iald C hR (IsModel.a0 hf1) hi4 (j := (ix ((13:Int32) + x1))) rfl dX7_tag_24 ?_
    refine lv_goto (tgt := 29) hx hb dX7_tag_25 (by decide) ?_
    exact hJ29 (I2 (a0 + 1) (ix ((13:Int32) + x1))) I2 _ _ _ h hR hS (hv_sub hl [] rfl)
set_option maxHeartbeats 4000000 in
set_option maxRecDepth 100000 in
theorem L_X7_answered (E : Ev) (l : Launch) {K : MK} {R : MR} {n : Nat} (a0 : Nat) (x1 : Int32) (x2 : Int32) (I : MI) (Q : Int32 → MI → Prop) (h : w_X7_answered K R a0 x1 x2 I Q) : MM E l yX7_answered cX7_answered 6 (some Jvm.ClassFile.FieldType.int) 1 21 0 0 [.ref a0, .int x1, .int x2] K R I n (Qi K R n Q) := by
  refine MM.of1 (by decide) RX7 rfl (cR (cI (cI cN))) (Nat.le_of_ble_eq_true rfl) ?_
  intro p e s m args below meth c ls C hin hR hS hl
  have hx := C.1
  have hb := C.2.1
  have hml := C.2.2.1
  have hown := C.2.2.2.1
  have hts := C.2.2.2.2.1
  have hl : hv ls 6 [(0, .ref a0), (1, .int x1), (2, .int x2)] := hl
  clear hin
  have hJ105 : ∀ (z0_105 : Int32) (I : MI) (H : Heap) (locs : List Loc) (ls : Array Slot), w_X7_answered_b105 K R a0 x1 x2 Q z0_105 I → Rep E K R I n H → va_S (AA E) s.heap H locs → hv ls 6 [] → W p l e (rmM 1 21 0 0) s m args below meth c H locs 0 0 (MQ below (QcM E (Qi K R n Q)) args s 0 0 (AA E)) (F0 m 105 ls [.int z0_105]) := by
    intro z0_105 I H locs ls h hR hS hl
    unfold w_X7_answered_b105 at h
    exact w_ireti C rfl rfl hR hS h dX7_answered_105
  have hJ9 : ∀ (y3_9 : Int32) (y4_9 : Int32) (y5_9 : Int32) (I : MI) (H : Heap) (locs : List Loc) (ls : Array Slot), w_X7_answered_b9 K R a0 x1 x2 Q y3_9 y4_9 y5_9 I → Rep E K R I n H → va_S (AA E) s.heap H locs → hv ls 6 [(0, .ref a0), (1, .int x1), (2, .int x2), (3, .int y3_9), (4, .int y4_9), (5, .int y5_9)] → W p l e (rmM 1 21 0 0) s m args below meth c H locs 0 0 (MQ below (QcM E (Qi K R n Q)) args s 0 0 (AA E)) (F0 m 9 ls []) := by
    intro y3_9 y4_9 y5_9 I H locs ls h hR hS hl
    obtain ⟨X9, hX9⟩ : ∃ X : Int32 → Int32 → Int32 → MI → Prop, ∀ (y3_9 : Int32) (y4_9 : Int32) (y5_9 : Int32) (I : MI), X y3_9 y4_9 y5_9 I ↔ (∀ (H : Heap) (locs : List Loc) (ls : Array Slot), Rep E K R I n H → va_S (AA E) s.heap H locs → hv ls 6 [(0, .ref a0), (1, .int x1), (2, .int x2), (3, .int y3_9), (4, .int y4_9), (5, .int y5_9)] → W p l e (rmM 1 21 0 0) s m args below meth c H locs 0 0 (MQ below (QcM E (Qi K R n Q)) args s 0 0 (AA E)) (F0 m 9 ls [])) := ⟨fun y3_9 y4_9 y5_9 I => ∀ (H : Heap) (locs : List Loc) (ls : Array Slot), Rep E K R I n H → va_S (AA E) s.heap H locs → hv ls 6 [(0, .ref a0), (1, .int x1), (2, .int x2), (3, .int y3_9), (4, .int y4_9), (5, .int y5_9)] → W p l e (rmM 1 21 0 0) s m args below meth c H locs 0 0 (MQ below (QcM E (Qi K R n Q)) args s 0 0 (AA E)) (F0 m 9 ls []), fun _ _ _ _ => Iff.rfl⟩
    refine (hX9 y3_9 y4_9 y5_9 I).mp (h X9 ?_) H locs ls hR hS hl
    clear h hR hS hl
    clear ls locs H I y3_9 y4_9 y5_9
    have hJ89 : ∀ (y3_89 : Int32) (y4_89 : Int32) (y5_89 : Int32) (I : MI) (H : Heap) (locs : List Loc) (ls : Array Slot), w_X7_answered_b89 K R a0 x1 x2 Q X9 y3_89 y4_89 y5_89 I → Rep E K R I n H → va_S (AA E) s.heap H locs → hv ls 6 [(0, .ref a0), (1, .int x1), (2, .int x2), (3, .int y3_89), (4, .int y4_89), (5, .int y5_89)] → W p l e (rmM 1 21 0 0) s m args below meth c H locs 0 0 (MQ below (QcM E (Qi K R n Q)) args s 0 0 (AA E)) (F0 m 89 ls []) := by
      intro y3_89 y4_89 y5_89 I H locs ls h hR hS hl
      unfold w_X7_answered_b89 at h
      refine v_iinc (v := y5_89 + (1:Int32)) (k := 5) (lv' := [(5, .int (y5_89 + (1:Int32))), (0, .ref a0), (1, .int x1), (2, .int x2), (3, .int y3_89), (4, .int y4_89)]) hx hb dX7_answered_89 hl rfl rfl (by decide) rfl (fun ls hl => ?_)
      refine lv_goto (tgt := 9) hx hb dX7_answered_92 (by decide) ?_
      exact (hX9 y3_89 y4_89 (y5_89 + (1:Int32)) I).mp h _ _ _ hR hS (hv_sub hl [1, 2, 3, 4, 5, 0] rfl)
    have hJ87 : ∀ (y3_87 : Int32) (y5_87 : Int32) (z0_87 : Int32) (I : MI) (H : Heap) (locs : List Loc) (ls : Array Slot), w_X7_answered_b87 K R a0 x1 x2 Q X9 y3_87 y5_87 z0_87 I → Rep E K R I n H → va_S (AA E) s.heap H locs → hv ls 6 [(0, .ref a0), (1, .int x1), (2, .int x2), (3, .int y3_87), (5, .int y5_87)] → W p l e (rmM 1 21 0 0) s m args below meth c H locs 0 0 (MQ below (QcM E (Qi K R n Q)) args s 0 0 (AA E)) (F0 m 87 ls [.int z0_87]) := by
      intro y3_87 y5_87 z0_87 I H locs ls h hR hS hl
      unfold w_X7_answered_b87 at h
      refine v_istore (lv' := [(4, .int z0_87), (0, .ref a0), (1, .int x1), (2, .int x2), (3, .int y3_87), (5, .int y5_87)]) hx hb dX7_answered_87 hl (by decide) rfl (fun ls hl => ?_)
      exact hJ89 y3_87 z0_87 y5_87 I _ _ _ h hR hS (hv_sub hl [1, 2, 3, 4, 0, 5] rfl)
    intro y3_9 y4_9 y5_9 I h
    refine (hX9 y3_9 y4_9 y5_9 I).mpr ?_
    intro H locs ls hR hS hl
    unfold w_X7_answered_b9_body at h
    refine lv_iload hx hb dX7_answered_9 (hv_at hl 5 rfl) ?_
    refine lv_aload_n hx hb dX7_answered_11 rfl (hv_at hl 0 rfl) ?_
    obtain ⟨hf1, h⟩ := h
    refine v_get (T := TX7) (v := .ref (a0 + 1)) C hR 0 kfl_X7_7 rfl inG7 (by decide) rfl (IsModel.k hf1) (rf_of (IsModel.r0 hf1 (I a0 0))) dX7_answered_12 ?_
    refine lv_iconst (v := (4:Int32)) hx hb dX7_answered_15 rfl ?_
    refine w_iald C hR (IsModel.a0 hf1) (show vp_in (4:Int32) 2361 by unfold vp_in; decide) (j := 4) (by decide) dX7_answered_16 ?_
    refine lv_icmp_ge (tgt := 95) hx hb dX7_answered_17 (by decide) (fun c18 => ?_) (fun c18 => ?_)
    · replace h := h.1 c18
      refine lv_iload_n hx hb dX7_answered_95 rfl (hv_at hl 2 rfl) ?_
      refine lv_if_eq (tgt := 104) hx hb dX7_answered_96 (by decide) (fun c2 => ?_) (fun c2 => ?_)
      · replace h := h.1 c2
        refine lv_iload_n hx hb dX7_answered_104 rfl (hv_at hl 3 rfl) ?_
        exact hJ105 y3_9 I _ _ _ h hR hS (hv_sub hl [] rfl)
      · replace h := h.2 c2
        refine lv_iload hx hb dX7_answered_99 (hv_at hl 4 rfl) ?_
        refine lv_goto (tgt := 105) hx hb dX7_answered_101 (by decide) ?_
        exact hJ105 y4_9 I _ _ _ h hR hS (hv_sub hl [] rfl)
    · replace h := h.2 c18
      refine lv_aload_n hx hb dX7_answered_20 rfl (hv_at hl 0 rfl) ?_
      refine v_get (T := TX7) (v := .ref (a0 + 1)) C hR 0 kfl_X7_7 rfl inG7 (by decide) rfl (IsModel.k hf1) (rf_of (IsModel.r0 hf1 (I a0 0))) dX7_answered_21 ?_
      refine lv_iload hx hb dX7_answered_24 (hv_at hl 5 rfl) ?_
      refine lv_iconst (v := (0:Int32)) hx hb dX7_answered_26 rfl ?_
      refine v_cSi (As := [.int y5_9, .int (0:Int32)]) C hR hS hl.1.1 ca_X7_of kml_X7_59 (L_X7_of E l y5_9 (0:Int32) I _ h) rfl rfl (Nat.le_of_ble_eq_true rfl) ⟨Nat.le_of_ble_eq_true rfl, Nat.le_of_ble_eq_true rfl⟩ ⟨Nat.zero_le _, Nat.zero_le _⟩ dX7_answered_27 (fun v4 I3 H locs h hR hS => ?_)
      obtain ⟨hi5, h⟩ := h
      refine w_iald C hR (IsModel.a0 hf1) hi5 (j := (ix v4)) rfl dX7_answered_30 ?_
      refine lv_iload_n hx hb dX7_answered_31 rfl (hv_at hl 1 rfl) ?_
      refine lv_icmp_ne (tgt := 89) hx hb dX7_answered_32 (by decide) (fun c17 => ?_) (fun c17 => ?_)
      · replace h := h.1 c17
        exact hJ89 y3_9 y4_9 y5_9 I3 _ _ _ h hR hS (hv_sub hl [0, 1, 2, 3, 4, 5] rfl)
      · replace h := h.2 c17
        refine lv_aload_n hx hb dX7_answered_35 rfl (hv_at hl 0 rfl) ?_
        refine v_get (T := TX7) (v := .ref (a0 + 1)) C hR 0 kfl_X7_7 rfl inG7 (by decide) rfl (IsModel.k hf1) (rf_of (IsModel.r0 hf1 (I3 a0 0))) dX7_answered_36 ?_
        refine lv_iload hx hb dX7_answered_39 (hv_at hl 5 rfl) ?_
        refine lv_iconst (v := (4:Int32)) hx hb dX7_answered_41 rfl ?_
        refine v_cSi (As := [.int y5_9, .int (4:Int32)]) C hR hS hl.1.1 ca_X7_of kml_X7_59 (L_X7_of E l y5_9 (4:Int32) I3 _ h) rfl rfl (Nat.le_of_ble_eq_true rfl) ⟨Nat.le_of_ble_eq_true rfl, Nat.le_of_ble_eq_true rfl⟩ ⟨Nat.zero_le _, Nat.zero_le _⟩ dX7_answered_42 (fun v7 I6 H locs h hR hS => ?_)
        obtain ⟨hi8, h⟩ := h
        refine w_iald C hR (IsModel.a0 hf1) hi8 (j := (ix v7)) rfl dX7_answered_45 ?_
        refine lv_iconst (v := (3:Int32)) hx hb dX7_answered_46 rfl ?_
        refine lv_icmp_ne (tgt := 89) hx hb dX7_answered_47 (by decide) (fun c16 => ?_) (fun c16 => ?_)
        · replace h := h.1 c16
          exact hJ89 y3_9 y4_9 y5_9 I6 _ _ _ h hR hS (hv_sub hl [0, 1, 2, 3, 4, 5] rfl)
        · replace h := h.2 c16
          refine v_iinc (v := y3_9 + (1:Int32)) (k := 3) (lv' := [(3, .int (y3_9 + (1:Int32))), (0, .ref a0), (1, .int x1), (2, .int x2), (4, .int y4_9), (5, .int y5_9)]) hx hb dX7_answered_50 hl rfl rfl (by decide) rfl (fun ls hl => ?_)
          refine lv_aload_n hx hb dX7_answered_53 rfl (hv_at hl 1 rfl) ?_
          refine v_get (T := TX7) (v := .ref (a0 + 1)) C hR 0 kfl_X7_7 rfl inG7 (by decide) rfl (IsModel.k hf1) (rf_of (IsModel.r0 hf1 (I6 a0 0))) dX7_answered_54 ?_
          refine lv_iload hx hb dX7_answered_57 (hv_at hl 5 rfl) ?_
          refine lv_bipush (v := (8:Int32)) hx hb dX7_answered_59 (by decide) ?_
          refine v_cSi (As := [.int y5_9, .int (8:Int32)]) C hR hS hl.1.1 ca_X7_of kml_X7_59 (L_X7_of E l y5_9 (8:Int32) I6 _ h) rfl rfl (Nat.le_of_ble_eq_true rfl) ⟨Nat.le_of_ble_eq_true rfl, Nat.le_of_ble_eq_true rfl⟩ ⟨Nat.zero_le _, Nat.zero_le _⟩ dX7_answered_61 (fun v10 I9 H locs h hR hS => ?_)
          obtain ⟨hi11, h⟩ := h
          refine w_iald C hR (IsModel.a0 hf1) hi11 (j := (ix v10)) rfl dX7_answered_64 ?_
          refine lv_iload hx hb dX7_answered_65 (hv_at hl 4 rfl) ?_
          refine lv_icmp_le (tgt := 85) hx hb dX7_answered_67 (by decide) (fun c15 => ?_) (fun c15 => ?_)
          · replace h := h.1 c15
            refine lv_iload hx hb dX7_answered_85 (hv_at hl 4 rfl) ?_
            exact hJ87 (y3_9 + (1:Int32)) y5_9 y4_9 I9 _ _ _ h hR hS (hv_sub hl [1, 2, 3, 0, 5] rfl)
          · replace h := h.2 c15
            refine lv_aload_n hx hb dX7_answered_70 rfl (hv_at hl 1 rfl) ?_
            refine v_get (T := TX7) (v := .ref (a0 + 1)) C hR 0 kfl_X7_7 rfl inG7 (by decide) rfl (IsModel.k hf1) (rf_of (IsModel.r0 hf1 (I9 a0 0))) dX7_answered_71 ?_
            refine lv_iload hx hb dX7_answered_74 (hv_at hl 5 rfl) ?_
            refine lv_bipush (v := (8:Int32)) hx hb dX7_answered_76 (by decide) ?_
            refine v_cSi (As := [.int y5_9, .int (8:Int32)]) C hR hS hl.1.1 ca_X7_of kml_X7_59 (L_X7_of E l y5_9 (8:Int32) I9 _ h) rfl rfl (Nat.le_of_ble_eq_true rfl) ⟨Nat.le_of_ble_eq_true rfl, Nat.le_of_ble_eq_true rfl⟩ ⟨Nat.zero_le _, Nat.zero_le _⟩ dX7_answered_78 (fun v13 I12 H locs h hR hS => ?_)
            obtain ⟨hi14, h⟩ := h
            refine w_iald C hR (IsModel.a0 hf1) hi14 (j := (ix v13)) rfl dX7_answered_81 ?_
            refine lv_goto (tgt := 87) hx hb dX7_answered_82 (by decide) ?_
            exact hJ87 (y3_9 + (1:Int32)) y5_9 (I12 (a0 + 1) (ix v13)) I12 _ _ _ h hR hS (hv_sub hl [1, 2, 3, 0, 5] rfl)
  unfold w_X7_answered at h
  refine lv_iconst (v := (0:Int32)) hx hb dX7_answered_0 rfl ?_
  refine v_istore_n (lv' := [(3, .int (0:Int32)), (0, .ref a0), (1, .int x1), (2, .int x2)]) hx hb dX7_answered_1 rfl hl (by decide) rfl (fun ls hl => ?_)
  refine lv_bipush (v := (-5:Int32)) hx hb dX7_answered_2 (by decide) ?_
  refine v_istore (lv' := [(4, .int (-5:Int32)), (3, .int (0:Int32)), (0, .ref a0), (1, .int x1), (2, .int x2)]) hx hb dX7_answered_4 hl (by decide) rfl (fun ls hl => ?_)
  refine lv_iconst (v := (0:Int32)) hx hb dX7_answered_6 rfl ?_
  refine v_istore (lv' := [(5, .int (0:Int32)), (4, .int (-5:Int32)), (3, .int (0:Int32)), (0, .ref a0), (1, .int x1), (2, .int x2)]) hx hb dX7_answered_7 hl (by decide) rfl (fun ls hl => ?_)
  exact hJ9 (0:Int32) (-5:Int32) (0:Int32) I _ _ _ h hR hS (hv_sub hl [3, 4, 5, 2, 1, 0] rfl)
set_option maxHeartbeats 4000000 in
set_option maxRecDepth 100000 in
theorem L_X7_master (E : Ev) (l : Launch) {K : MK} {R : MR} {n : Nat} (a0 : Nat) (x1 : Int32) (x2 : Int32) (I : MI) (Q : Int32 → MI → Prop) (h : w_X7_master K R a0 x1 x2 I Q) : MM E l yX7_master cX7_master 5 (some Jvm.ClassFile.FieldType.int) 2 46 0 0 [.ref a0, .int x1, .int x2] K R I n (Qi K R n Q) := by
  refine MM.of1 (by decide) RX7 rfl (cR (cI (cI cN))) (Nat.le_of_ble_eq_true rfl) ?_
  intro p e s m args below meth c ls C hin hR hS hl
  have hx := C.1
  have hb := C.2.1
  have hml := C.2.2.1
  have hown := C.2.2.2.1
  have hts := C.2.2.2.2.1
  have hl : hv ls 5 [(0, .ref a0), (1, .int x1), (2, .int x2)] := hl
  clear hin
  have hJ144 : ∀ (z0_144 : Int32) (I : MI) (H : Heap) (locs : List Loc) (ls : Array Slot), w_X7_master_b144 K R a0 x1 x2 Q z0_144 I → Rep E K R I n H → va_S (AA E) s.heap H locs → hv ls 5 [] → W p l e (rmM 2 46 0 0) s m args below meth c H locs 0 0 (MQ below (QcM E (Qi K R n Q)) args s 0 0 (AA E)) (F0 m 144 ls [.int z0_144]) := by
    intro z0_144 I H locs ls h hR hS hl
    unfold w_X7_master_b144 at h
    exact w_ireti C rfl rfl hR hS h dX7_master_144
  have hJ160 : ∀ (z0_160 : Int32) (I : MI) (H : Heap) (locs : List Loc) (ls : Array Slot), w_X7_master_b160 K R a0 x1 x2 Q z0_160 I → Rep E K R I n H → va_S (AA E) s.heap H locs → hv ls 5 [] → W p l e (rmM 2 46 0 0) s m args below meth c H locs 0 0 (MQ below (QcM E (Qi K R n Q)) args s 0 0 (AA E)) (F0 m 160 ls [.int z0_160, .int x1, .ref a0]) := by
    intro z0_160 I H locs ls h hR hS hl
    unfold w_X7_master_b160 at h
    obtain ⟨hf1, h⟩ := h
    refine v_cVi (As := [.int x1, .int z0_160]) C hR hS hl.1.1 ca_X7_answered kml_X7_133 (L_X7_answered E l a0 x1 z0_160 I _ h) (IsModel.k hf1) rfl rfl rfl rfl (Nat.le_of_ble_eq_true rfl) ⟨Nat.le_of_ble_eq_true rfl, Nat.le_of_ble_eq_true rfl⟩ ⟨Nat.zero_le _, Nat.zero_le _⟩ dX7_master_160 (fun v3 I2 H locs h hR hS => ?_)
    exact w_ireti C rfl rfl hR hS h dX7_master_163
  have hJ147 : ∀ (I : MI) (H : Heap) (locs : List Loc) (ls : Array Slot), w_X7_master_b147 K R a0 x1 x2 Q  I → Rep E K R I n H → va_S (AA E) s.heap H locs → hv ls 5 [(0, .ref a0), (1, .int x1), (2, .int x2)] → W p l e (rmM 2 46 0 0) s m args below meth c H locs 0 0 (MQ below (QcM E (Qi K R n Q)) args s 0 0 (AA E)) (F0 m 147 ls []) := by
    intro  I H locs ls h hR hS hl
    unfold w_X7_master_b147 at h
    refine lv_aload_n hx hb dX7_master_147 rfl (hv_at hl 0 rfl) ?_
    refine lv_iload_n hx hb dX7_master_148 rfl (hv_at hl 1 rfl) ?_
    refine lv_iload_n hx hb dX7_master_149 rfl (hv_at hl 2 rfl) ?_
    refine lv_bipush (v := (7:Int32)) hx hb dX7_master_150 (by decide) ?_
    refine lv_icmp_ne (tgt := 159) hx hb dX7_master_152 (by decide) (fun c4 => ?_) (fun c4 => ?_)
    · replace h := h.1 c4
      refine lv_iconst (v := (0:Int32)) hx hb dX7_master_159 rfl ?_
      exact hJ160 (0:Int32) I _ _ _ h hR hS (hv_sub hl [] rfl)
    · replace h := h.2 c4
      refine lv_iconst (v := (1:Int32)) hx hb dX7_master_155 rfl ?_
      refine lv_goto (tgt := 160) hx hb dX7_master_156 (by decide) ?_
      exact hJ160 (1:Int32) I _ _ _ h hR hS (hv_sub hl [] rfl)
  have hJ179 : ∀ (z0_179 : Int32) (I : MI) (H : Heap) (locs : List Loc) (ls : Array Slot), w_X7_master_b179 K R a0 x1 x2 Q z0_179 I → Rep E K R I n H → va_S (AA E) s.heap H locs → hv ls 5 [] → W p l e (rmM 2 46 0 0) s m args below meth c H locs 0 0 (MQ below (QcM E (Qi K R n Q)) args s 0 0 (AA E)) (F0 m 179 ls [.int z0_179]) := by
    intro z0_179 I H locs ls h hR hS hl
    unfold w_X7_master_b179 at h
    exact w_ireti C rfl rfl hR hS h dX7_master_179
  unfold w_X7_master at h
  refine lv_iload_n hx hb dX7_master_0 rfl (hv_at hl 1 rfl) ?_
  refine v_cSi (As := [.int x1]) C hR hS hl.1.1 ca_X7_isPort kml_X7_56 (L_X7_isPort E l x1 I _ h) rfl rfl (Nat.le_of_ble_eq_true rfl) ⟨Nat.le_of_ble_eq_true rfl, Nat.le_of_ble_eq_true rfl⟩ ⟨Nat.zero_le _, Nat.zero_le _⟩ dX7_master_1 (fun v6 I5 H locs h hR hS => ?_)
  refine lv_if_ne (tgt := 9) hx hb dX7_master_4 (by decide) (fun c28 => ?_) (fun c28 => ?_)
  · replace h := h.1 c28
    refine lv_aload_n hx hb dX7_master_9 rfl (hv_at hl 0 rfl) ?_
    obtain ⟨hf7, h⟩ := h
    refine v_get (T := TX7) (v := .ref (a0 + 1)) C hR 0 kfl_X7_7 rfl inG7 (by decide) rfl (IsModel.k hf7) (rf_of (IsModel.r0 hf7 (I5 a0 0))) dX7_master_10 ?_
    refine lv_iload_n hx hb dX7_master_13 rfl (hv_at hl 1 rfl) ?_
    refine lv_bipush (v := (10:Int32)) hx hb dX7_master_14 (by decide) ?_
    refine v_cSi (As := [.int x1, .int (10:Int32)]) C hR hS hl.1.1 ca_X7_ofMaster kml_X7_31 (L_X7_ofMaster E l x1 (10:Int32) I5 _ h) rfl rfl (Nat.le_of_ble_eq_true rfl) ⟨Nat.le_of_ble_eq_true rfl, Nat.le_of_ble_eq_true rfl⟩ ⟨Nat.zero_le _, Nat.zero_le _⟩ dX7_master_16 (fun v9 I8 H locs h hR hS => ?_)
    obtain ⟨hi10, h⟩ := h
    refine w_iald C hR (IsModel.a0 hf7) hi10 (j := (ix v9)) rfl dX7_master_19 ?_
    refine v_istore_n (lv' := [(3, .int (I8 (a0 + 1) (ix v9))), (0, .ref a0), (1, .int x1), (2, .int x2)]) hx hb dX7_master_20 rfl hl (by decide) rfl (fun ls hl => ?_)
    refine lv_iload_n hx hb dX7_master_21 rfl (hv_at hl 3 rfl) ?_
    rcases sw_0_8 x2 with c11 | c11 | c11 | c11 | c11 | c11 | c11 | c11 | c11 | c11
    · replace h := h.1 c11
      refine v_tblIn (tgt := 72) hx hb (v := (0:Int32)) dX7_master_22 c11 (by decide) (by decide) rfl (by decide) ?_
      refine lv_aload_n hx hb dX7_master_72 rfl (hv_at hl 1 rfl) ?_
      refine v_get (T := TX7) (v := .ref (a0 + 1)) C hR 0 kfl_X7_7 rfl inG7 (by decide) rfl (IsModel.k hf7) (rf_of (IsModel.r0 hf7 (I8 a0 0))) dX7_master_73 ?_
      refine lv_iload_n hx hb dX7_master_76 rfl (hv_at hl 2 rfl) ?_
      refine lv_iconst (v := (0:Int32)) hx hb dX7_master_77 rfl ?_
      refine v_cSi (As := [.int x1, .int (0:Int32)]) C hR hS hl.1.1 ca_X7_ofMaster kml_X7_31 (L_X7_ofMaster E l x1 (0:Int32) I8 _ h) rfl rfl (Nat.le_of_ble_eq_true rfl) ⟨Nat.le_of_ble_eq_true rfl, Nat.le_of_ble_eq_true rfl⟩ ⟨Nat.zero_le _, Nat.zero_le _⟩ dX7_master_78 (fun v13 I12 H locs h hR hS => ?_)
      obtain ⟨hi14, h⟩ := h
      refine w_iald C hR (IsModel.a0 hf7) hi14 (j := (ix v13)) rfl dX7_master_81 ?_
      exact w_ireti C rfl rfl hR hS h dX7_master_82
    · replace h := h.2.1 c11
      refine v_tblIn (tgt := 83) hx hb (v := (1:Int32)) dX7_master_22 c11 (by decide) (by decide) rfl (by decide) ?_
      refine lv_aload_n hx hb dX7_master_83 rfl (hv_at hl 1 rfl) ?_
      refine v_get (T := TX7) (v := .ref (a0 + 1)) C hR 0 kfl_X7_7 rfl inG7 (by decide) rfl (IsModel.k hf7) (rf_of (IsModel.r0 hf7 (I8 a0 0))) dX7_master_84 ?_
      refine lv_iload_n hx hb dX7_master_87 rfl (hv_at hl 2 rfl) ?_
      refine lv_bipush (v := (7:Int32)) hx hb dX7_master_88 (by decide) ?_
      refine v_cSi (As := [.int x1, .int (7:Int32)]) C hR hS hl.1.1 ca_X7_ofMaster kml_X7_31 (L_X7_ofMaster E l x1 (7:Int32) I8 _ h) rfl rfl (Nat.le_of_ble_eq_true rfl) ⟨Nat.le_of_ble_eq_true rfl, Nat.le_of_ble_eq_true rfl⟩ ⟨Nat.zero_le _, Nat.zero_le _⟩ dX7_master_90 (fun v16 I15 H locs h hR hS => ?_)
      obtain ⟨hi17, h⟩ := h
      refine w_iald C hR (IsModel.a0 hf7) hi17 (j := (ix v16)) rfl dX7_master_93 ?_
      exact w_ireti C rfl rfl hR hS h dX7_master_94
    · replace h := h.2.2.1 c11
      refine v_tblIn (tgt := 95) hx hb (v := (2:Int32)) dX7_master_22 c11 (by decide) (by decide) rfl (by decide) ?_
      refine lv_aload_n hx hb dX7_master_95 rfl (hv_at hl 1 rfl) ?_
      refine lv_iload_n hx hb dX7_master_96 rfl (hv_at hl 2 rfl) ?_
      refine v_cVi (As := [.int x1]) C hR hS hl.1.1 ca_X7_holds kml_X7_100 (L_X7_holds E l a0 x1 I8 _ h) (IsModel.k hf7) rfl rfl rfl rfl (Nat.le_of_ble_eq_true rfl) ⟨Nat.le_of_ble_eq_true rfl, Nat.le_of_ble_eq_true rfl⟩ ⟨Nat.zero_le _, Nat.zero_le _⟩ dX7_master_97 (fun v19 I18 H locs h hR hS => ?_)
      exact w_ireti C rfl rfl hR hS h dX7_master_100
    · replace h := h.2.2.2.1 c11
      refine v_tblIn (tgt := 101) hx hb (v := (3:Int32)) dX7_master_22 c11 (by decide) (by decide) rfl (by decide) ?_
      refine lv_aload_n hx hb dX7_master_101 rfl (hv_at hl 1 rfl) ?_
      refine v_get (T := TX7) (v := .ref (a0 + 1)) C hR 0 kfl_X7_7 rfl inG7 (by decide) rfl (IsModel.k hf7) (rf_of (IsModel.r0 hf7 (I8 a0 0))) dX7_master_102 ?_
      refine lv_iload_n hx hb dX7_master_105 rfl (hv_at hl 2 rfl) ?_
      refine lv_bipush (v := (8:Int32)) hx hb dX7_master_106 (by decide) ?_
      refine v_cSi (As := [.int x1, .int (8:Int32)]) C hR hS hl.1.1 ca_X7_ofMaster kml_X7_31 (L_X7_ofMaster E l x1 (8:Int32) I8 _ h) rfl rfl (Nat.le_of_ble_eq_true rfl) ⟨Nat.le_of_ble_eq_true rfl, Nat.le_of_ble_eq_true rfl⟩ ⟨Nat.zero_le _, Nat.zero_le _⟩ dX7_master_108 (fun v21 I20 H locs h hR hS => ?_)
      obtain ⟨hi22, h⟩ := h
      refine w_iald C hR (IsModel.a0 hf7) hi22 (j := (ix v21)) rfl dX7_master_111 ?_
      exact w_ireti C rfl rfl hR hS h dX7_master_112
    · replace h := h.2.2.2.2.1 c11
      refine v_tblIn (tgt := 113) hx hb (v := (4:Int32)) dX7_master_22 c11 (by decide) (by decide) rfl (by decide) ?_
      refine lv_aload_n hx hb dX7_master_113 rfl (hv_at hl 1 rfl) ?_
      refine v_get (T := TX7) (v := .ref (a0 + 1)) C hR 0 kfl_X7_7 rfl inG7 (by decide) rfl (IsModel.k hf7) (rf_of (IsModel.r0 hf7 (I8 a0 0))) dX7_master_114 ?_
      refine lv_iload_n hx hb dX7_master_117 rfl (hv_at hl 2 rfl) ?_
      refine lv_bipush (v := (9:Int32)) hx hb dX7_master_118 (by decide) ?_
      refine v_cSi (As := [.int x1, .int (9:Int32)]) C hR hS hl.1.1 ca_X7_ofMaster kml_X7_31 (L_X7_ofMaster E l x1 (9:Int32) I8 _ h) rfl rfl (Nat.le_of_ble_eq_true rfl) ⟨Nat.le_of_ble_eq_true rfl, Nat.le_of_ble_eq_true rfl⟩ ⟨Nat.zero_le _, Nat.zero_le _⟩ dX7_master_120 (fun v24 I23 H locs h hR hS => ?_)
      obtain ⟨hi25, h⟩ := h
      refine w_iald C hR (IsModel.a0 hf7) hi25 (j := (ix v24)) rfl dX7_master_123 ?_
      refine lv_aload_n hx hb dX7_master_124 rfl (hv_at hl 1 rfl) ?_
      refine v_get (T := TX7) (v := .ref (a0 + 1)) C hR 0 kfl_X7_7 rfl inG7 (by decide) rfl (IsModel.k hf7) (rf_of (IsModel.r0 hf7 (I23 a0 0))) dX7_master_125 ?_
      refine lv_iconst (v := (0:Int32)) hx hb dX7_master_128 rfl ?_
      refine w_iald C hR (IsModel.a0 hf7) (show vp_in (0:Int32) 2361 by unfold vp_in; decide) (j := 0) (by decide) dX7_master_129 ?_
      refine lv_isub hx hb dX7_master_130 ?_
      refine v_istore (lv' := [(4, .int ((I23 (a0 + 1) (ix v24)) - (I23 (a0 + 1) 0))), (3, .int (I8 (a0 + 1) (ix v9))), (0, .ref a0), (1, .int x1), (2, .int x2)]) hx hb dX7_master_131 hl (by decide) rfl (fun ls hl => ?_)
      refine lv_iload hx hb dX7_master_133 (hv_at hl 0 rfl) ?_
      refine lv_if_ge (tgt := 142) hx hb dX7_master_135 (by decide) (fun c26 => ?_) (fun c26 => ?_)
      · replace h := h.1 c26
        refine lv_iload hx hb dX7_master_142 (hv_at hl 0 rfl) ?_
        exact hJ144 ((I23 (a0 + 1) (ix v24)) - (I23 (a0 + 1) 0)) I23 _ _ _ h hR hS (hv_sub hl [] rfl)
      · replace h := h.2 c26
        refine lv_iconst (v := (0:Int32)) hx hb dX7_master_138 rfl ?_
        refine lv_goto (tgt := 144) hx hb dX7_master_139 (by decide) ?_
        exact hJ144 (0:Int32) I23 _ _ _ h hR hS (hv_sub hl [] rfl)
    · replace h := h.2.2.2.2.2.1 c11
      refine v_tblIn (tgt := 145) hx hb (v := (5:Int32)) dX7_master_22 c11 (by decide) (by decide) rfl (by decide) ?_
      refine lv_iload_n hx hb dX7_master_145 rfl (hv_at hl 0 rfl) ?_
      exact w_ireti C rfl rfl hR hS h dX7_master_146
    · replace h := h.2.2.2.2.2.2.1 c11
      refine v_tblIn (tgt := 147) hx hb (v := (6:Int32)) dX7_master_22 c11 (by decide) (by decide) rfl (by decide) ?_
      exact hJ147 I8 _ _ _ h hR hS (hv_sub hl [1, 2, 3] rfl)
    · replace h := h.2.2.2.2.2.2.2.1 c11
      refine v_tblIn (tgt := 147) hx hb (v := (7:Int32)) dX7_master_22 c11 (by decide) (by decide) rfl (by decide) ?_
      exact hJ147 I8 _ _ _ h hR hS (hv_sub hl [1, 2, 3] rfl)
    · replace h := h.2.2.2.2.2.2.2.2.1 c11
      refine v_tblIn (tgt := 164) hx hb (v := (8:Int32)) dX7_master_22 c11 (by decide) (by decide) rfl (by decide) ?_
      refine lv_iload_n hx hb dX7_master_164 rfl (hv_at hl 0 rfl) ?_
      refine lv_aload_n hx hb dX7_master_165 rfl (hv_at hl 1 rfl) ?_
      refine v_get (T := TX7) (v := .ref (a0 + 1)) C hR 0 kfl_X7_7 rfl inG7 (by decide) rfl (IsModel.k hf7) (rf_of (IsModel.r0 hf7 (I8 a0 0))) dX7_master_166 ?_
      refine lv_iconst (v := (3:Int32)) hx hb dX7_master_169 rfl ?_
      refine w_iald C hR (IsModel.a0 hf7) (show vp_in (3:Int32) 2361 by unfold vp_in; decide) (j := 3) (by decide) dX7_master_170 ?_
      refine lv_icmp_lt (tgt := 178) hx hb dX7_master_171 (by decide) (fun c27 => ?_) (fun c27 => ?_)
      · replace h := h.1 c27
        refine lv_iconst (v := (0:Int32)) hx hb dX7_master_178 rfl ?_
        exact hJ179 (0:Int32) I8 _ _ _ h hR hS (hv_sub hl [] rfl)
      · replace h := h.2 c27
        refine lv_iconst (v := (1:Int32)) hx hb dX7_master_174 rfl ?_
        refine lv_goto (tgt := 179) hx hb dX7_master_175 (by decide) ?_
        exact hJ179 (1:Int32) I8 _ _ _ h hR hS (hv_sub hl [] rfl)
    · replace h := h.2.2.2.2.2.2.2.2.2 c11
      refine lv_tableOut (tgt := 180) hx hb dX7_master_22 c11 (by decide) ?_
      refine lv_bipush (v := (-2:Int32)) hx hb dX7_master_180 (by decide) ?_
      exact w_ireti C rfl rfl hR hS h dX7_master_182
  · replace h := h.2 c28
    refine lv_iconst (v := (-1:Int32)) hx hb dX7_master_7 rfl ?_
    exact w_ireti C rfl rfl hR hS h dX7_master_8
set_option maxHeartbeats 4000000 in
set_option maxRecDepth 100000 in
theorem L_X7_row (E : Ev) (l : Launch) {K : MK} {R : MR} {n : Nat} (a0 : Nat) (x1 : Int32) (x2 : Int32) (I : MI) (Q : Int32 → MI → Prop) (h : w_X7_row K R a0 x1 x2 I Q) : MM E l yX7_row cX7_row 3 (some Jvm.ClassFile.FieldType.int) 2 42 0 0 [.ref a0, .int x1, .int x2] K R I n (Qi K R n Q) := by
  refine MM.of1 (by decide) RX7 rfl (cR (cI (cI cN))) (Nat.le_of_ble_eq_true rfl) ?_
  intro p e s m args below meth c ls C hin hR hS hl
  have hx := C.1
  have hb := C.2.1
  have hml := C.2.2.1
  have hown := C.2.2.2.1
  have hts := C.2.2.2.2.1
  have hl : hv ls 3 [(0, .ref a0), (1, .int x1), (2, .int x2)] := hl
  clear hin
  have hJ47 : ∀ (z0_47 : Int32) (I : MI) (H : Heap) (locs : List Loc) (ls : Array Slot), w_X7_row_b47 K R a0 x1 x2 Q z0_47 I → Rep E K R I n H → va_S (AA E) s.heap H locs → hv ls 3 [] → W p l e (rmM 2 42 0 0) s m args below meth c H locs 0 0 (MQ below (QcM E (Qi K R n Q)) args s 0 0 (AA E)) (F0 m 47 ls [.int z0_47]) := by
    intro z0_47 I H locs ls h hR hS hl
    unfold w_X7_row_b47 at h
    exact w_ireti C rfl rfl hR hS h dX7_row_47
  unfold w_X7_row at h
  refine lv_iload_n hx hb dX7_row_0 rfl (hv_at hl 1 rfl) ?_
  refine v_cSi (As := [.int x1]) C hR hS hl.1.1 ca_X7_isPort kml_X7_56 (L_X7_isPort E l x1 I _ h) rfl rfl (Nat.le_of_ble_eq_true rfl) ⟨Nat.le_of_ble_eq_true rfl, Nat.le_of_ble_eq_true rfl⟩ ⟨Nat.zero_le _, Nat.zero_le _⟩ dX7_row_1 (fun v2 I1 H locs h hR hS => ?_)
  refine lv_if_ne (tgt := 9) hx hb dX7_row_4 (by decide) (fun c12 => ?_) (fun c12 => ?_)
  · replace h := h.1 c12
    refine lv_iload_n hx hb dX7_row_9 rfl (hv_at hl 2 rfl) ?_
    refine lv_if_ge (tgt := 16) hx hb dX7_row_10 (by decide) (fun c11 => ?_) (fun c11 => ?_)
    · replace h := h.1 c11
      refine lv_iload_n hx hb dX7_row_16 rfl (hv_at hl 2 rfl) ?_
      refine lv_aload_n hx hb dX7_row_17 rfl (hv_at hl 0 rfl) ?_
      obtain ⟨hf3, h⟩ := h
      refine v_get (T := TX7) (v := .ref (a0 + 1)) C hR 0 kfl_X7_7 rfl inG7 (by decide) rfl (IsModel.k hf3) (rf_of (IsModel.r0 hf3 (I1 a0 0))) dX7_row_18 ?_
      refine lv_iload_n hx hb dX7_row_21 rfl (hv_at hl 1 rfl) ?_
      refine lv_iconst (v := (0:Int32)) hx hb dX7_row_22 rfl ?_
      refine v_cSi (As := [.int x1, .int (0:Int32)]) C hR hS hl.1.1 ca_X7_ofMaster kml_X7_31 (L_X7_ofMaster E l x1 (0:Int32) I1 _ h) rfl rfl (Nat.le_of_ble_eq_true rfl) ⟨Nat.le_of_ble_eq_true rfl, Nat.le_of_ble_eq_true rfl⟩ ⟨Nat.zero_le _, Nat.zero_le _⟩ dX7_row_23 (fun v5 I4 H locs h hR hS => ?_)
      obtain ⟨hi6, h⟩ := h
      refine w_iald C hR (IsModel.a0 hf3) hi6 (j := (ix v5)) rfl dX7_row_26 ?_
      refine lv_icmp_ge (tgt := 45) hx hb dX7_row_27 (by decide) (fun c10 => ?_) (fun c10 => ?_)
      · replace h := h.1 c10
        refine lv_bipush (v := (-5:Int32)) hx hb dX7_row_45 (by decide) ?_
        exact hJ47 (-5:Int32) I4 _ _ _ h hR hS (hv_sub hl [] rfl)
      · replace h := h.2 c10
        refine lv_aload_n hx hb dX7_row_30 rfl (hv_at hl 0 rfl) ?_
        refine v_get (T := TX7) (v := .ref (a0 + 1)) C hR 0 kfl_X7_7 rfl inG7 (by decide) rfl (IsModel.k hf3) (rf_of (IsModel.r0 hf3 (I4 a0 0))) dX7_row_31 ?_
        refine lv_iload_n hx hb dX7_row_34 rfl (hv_at hl 1 rfl) ?_
        refine lv_iconst (v := (1:Int32)) hx hb dX7_row_35 rfl ?_
        refine lv_iload_n hx hb dX7_row_36 rfl (hv_at hl 2 rfl) ?_
        refine lv_iadd hx hb dX7_row_37 ?_
        refine v_cSi (As := [.int x1, .int ((1:Int32) + x2)]) C hR hS hl.1.1 ca_X7_ofMaster kml_X7_31 (L_X7_ofMaster E l x1 ((1:Int32) + x2) I4 _ h) rfl rfl (Nat.le_of_ble_eq_true rfl) ⟨Nat.le_of_ble_eq_true rfl, Nat.le_of_ble_eq_true rfl⟩ ⟨Nat.zero_le _, Nat.zero_le _⟩ dX7_row_38 (fun v8 I7 H locs h hR hS => ?_)
        obtain ⟨hi9, h⟩ := h
        refine w_iald C hR (IsModel.a0 hf3) hi9 (j := (ix v8)) rfl dX7_row_41 ?_
        refine lv_goto (tgt := 47) hx hb dX7_row_42 (by decide) ?_
        exact hJ47 (I7 (a0 + 1) (ix v8)) I7 _ _ _ h hR hS (hv_sub hl [] rfl)
    · replace h := h.2 c11
      refine lv_bipush (v := (-2:Int32)) hx hb dX7_row_13 (by decide) ?_
      exact w_ireti C rfl rfl hR hS h dX7_row_15
  · replace h := h.2 c12
    refine lv_iconst (v := (-1:Int32)) hx hb dX7_row_7 rfl ?_
    exact w_ireti C rfl rfl hR hS h dX7_row_8
