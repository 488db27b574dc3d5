set_option maxHeartbeats 4000000 in
set_option maxRecDepth 100000 in
theorem L_L_areRowsSo (E : Ev) (l : Launch) {K : MK} {R : MR} {n : Nat} (o0 : Option Nat) (I : MI) (Q : Int32 → MI → Prop) (h : w_L_areRowsSo K R o0 I Q) : MM E l yL_areRowsSo cL_areRowsSo 8 (some Jvm.ClassFile.FieldType.boolean) 3 65 0 0 [va_rf o0] K R I n (Qi K R n Q) := by
  refine MM.of1 (by decide) RL rfl (cO cN) (Nat.le_of_ble_eq_true rfl) ?_
  intro p e s m args below meth c ls C hin hR hS hl
  have hx := C.1
  have hb := C.2.1
  have hml := C.2.2.1
  have hown := C.2.2.2.1
  have hts := C.2.2.2.2.1
  have hl : hv ls 8 [(0, va_rf o0)] := hl
  clear hin
  have hJ102 : ∀ (I : MI) (H : Heap) (locs : List Loc) (ls : Array Slot), w_L_areRowsSo_b102 K R o0 Q  I → Rep E K R I n H → va_S (AA E) s.heap H locs → hv ls 8 [] → W p l e (rmM 3 65 0 0) s m args below meth c H locs 0 0 (MQ below (QcM E (Qi K R n Q)) args s 0 0 (AA E)) (F0 m 102 ls []) := by
    intro  I H locs ls h hR hS hl
    unfold w_L_areRowsSo_b102 at h
    refine lv_iconst (v := (0:Int32)) hx hb dL_areRowsSo_102 rfl ?_
    exact w_ireti C rfl rfl hR hS h dL_areRowsSo_103
  have hJ130 : ∀ (I : MI) (H : Heap) (locs : List Loc) (ls : Array Slot), w_L_areRowsSo_b130 K R o0 Q  I → Rep E K R I n H → va_S (AA E) s.heap H locs → hv ls 8 [] → W p l e (rmM 3 65 0 0) s m args below meth c H locs 0 0 (MQ below (QcM E (Qi K R n Q)) args s 0 0 (AA E)) (F0 m 130 ls []) := by
    intro  I H locs ls h hR hS hl
    unfold w_L_areRowsSo_b130 at h
    refine lv_iconst (v := (0:Int32)) hx hb dL_areRowsSo_130 rfl ?_
    exact w_ireti C rfl rfl hR hS h dL_areRowsSo_131
  have hJ327 : ∀ (z0_327 : Int32) (I : MI) (H : Heap) (locs : List Loc) (ls : Array Slot), w_L_areRowsSo_b327 K R o0 Q z0_327 I → Rep E K R I n H → va_S (AA E) s.heap H locs → hv ls 8 [] → W p l e (rmM 3 65 0 0) s m args below meth c H locs 0 0 (MQ below (QcM E (Qi K R n Q)) args s 0 0 (AA E)) (F0 m 327 ls [.int z0_327]) := by
    intro z0_327 I H locs ls h hR hS hl
    unfold w_L_areRowsSo_b327 at h
    obtain ⟨hb24, h⟩ := h
    exact w_ireti C rfl (bz_nar hb24) hR hS h dL_areRowsSo_327
  have hJ326 : ∀ (I : MI) (H : Heap) (locs : List Loc) (ls : Array Slot), w_L_areRowsSo_b326 K R o0 Q  I → Rep E K R I n H → va_S (AA E) s.heap H locs → hv ls 8 [] → W p l e (rmM 3 65 0 0) s m args below meth c H locs 0 0 (MQ below (QcM E (Qi K R n Q)) args s 0 0 (AA E)) (F0 m 326 ls []) := by
    intro  I H locs ls h hR hS hl
    unfold w_L_areRowsSo_b326 at h
    refine lv_iconst (v := (0:Int32)) hx hb dL_areRowsSo_326 rfl ?_
    exact hJ327 (0:Int32) I _ _ _ h hR hS (hv_sub hl [] rfl)
  have hJ264 : ∀ (y1_264 : Int32) (y2_264 : Int32) (y3_264 : Int32) (y5_264 : Int32) (z0_264 : Int32) (I : MI) (H : Heap) (locs : List Loc) (ls : Array Slot), w_L_areRowsSo_b264 K R o0 Q y1_264 y2_264 y3_264 y5_264 z0_264 I → Rep E K R I n H → va_S (AA E) s.heap H locs → hv ls 8 [(0, va_rf o0), (1, .int y1_264), (2, .int y2_264), (3, .int y3_264), (5, .int y5_264)] → W p l e (rmM 3 65 0 0) s m args below meth c H locs 0 0 (MQ below (QcM E (Qi K R n Q)) args s 0 0 (AA E)) (F0 m 264 ls [.int z0_264]) := by
    intro y1_264 y2_264 y3_264 y5_264 z0_264 I H locs ls h hR hS hl
    unfold w_L_areRowsSo_b264 at h
    refine v_istore (lv' := [(6, .int z0_264), (0, va_rf o0), (1, .int y1_264), (2, .int y2_264), (3, .int y3_264), (5, .int y5_264)]) hx hb dL_areRowsSo_264 hl (by decide) rfl (fun ls hl => ?_)
    refine lv_iload hx hb dL_areRowsSo_266 (hv_at hl 0 rfl) ?_
    refine lv_if_eq (tgt := 326) hx hb dL_areRowsSo_268 (by decide) (fun c41 => ?_) (fun c41 => ?_)
    · replace h := h.1 c41
      exact hJ326 I _ _ _ h hR hS (hv_sub hl [] rfl)
    · replace h := h.2 c41
      refine lv_iload_n hx hb dL_areRowsSo_271 rfl (hv_at hl 2 rfl) ?_
      refine lv_iload_n hx hb dL_areRowsSo_272 rfl (hv_at hl 3 rfl) ?_
      refine lv_iadd hx hb dL_areRowsSo_273 ?_
      refine lv_iload_n hx hb dL_areRowsSo_274 rfl (hv_at hl 4 rfl) ?_
      refine lv_iadd hx hb dL_areRowsSo_275 ?_
      refine lv_iload hx hb dL_areRowsSo_276 (hv_at hl 5 rfl) ?_
      refine lv_iadd hx hb dL_areRowsSo_278 ?_
      refine v_aload_n hx hb dL_areRowsSo_279 rfl (hv_at hl 1 rfl) ?_
      refine lv_iconst (v := (4:Int32)) hx hb dL_areRowsSo_280 rfl ?_
      obtain ⟨r25, e_o0, h⟩ := h
      have hl : hv ls 8 [(6, .int z0_264), (0, .ref r25), (1, .int y1_264), (2, .int y2_264), (3, .int y3_264), (5, .int y5_264)] := by (try rw [e_o0] at hl); exact hl
      try rw [e_o0]
      obtain ⟨hf26, h⟩ := h
      refine v_cVi (As := [.int (4:Int32)]) C hR hS hl.1.1 ca_X6_count kml_L_43 (L_X6_count E l r25 (4:Int32) I _ h) (IsTag.k hf26) rfl rfl rfl rfl (Nat.le_of_ble_eq_true rfl) ⟨Nat.le_of_ble_eq_true rfl, Nat.le_of_ble_eq_true rfl⟩ ⟨Nat.zero_le _, Nat.zero_le _⟩ dL_areRowsSo_281 (fun v28 I27 H locs h hR hS => ?_)
      refine lv_icmp_ne (tgt := 326) hx hb dL_areRowsSo_284 (by decide) (fun c40 => ?_) (fun c40 => ?_)
      · replace h := h.1 c40
        exact hJ326 I27 _ _ _ h hR hS (hv_sub hl [] rfl)
      · replace h := h.2 c40
        refine lv_aload_n hx hb dL_areRowsSo_287 rfl (hv_at hl 1 rfl) ?_
        refine lv_iconst (v := (0:Int32)) hx hb dL_areRowsSo_288 rfl ?_
        refine v_cVi (As := [.int (0:Int32)]) C hR hS hl.1.1 ca_X6_count kml_L_43 (L_X6_count E l r25 (0:Int32) I27 _ h) (IsTag.k hf26) rfl rfl rfl rfl (Nat.le_of_ble_eq_true rfl) ⟨Nat.le_of_ble_eq_true rfl, Nat.le_of_ble_eq_true rfl⟩ ⟨Nat.zero_le _, Nat.zero_le _⟩ dL_areRowsSo_289 (fun v30 I29 H locs h hR hS => ?_)
        refine lv_aload_n hx hb dL_areRowsSo_292 rfl (hv_at hl 1 rfl) ?_
        refine lv_bipush (v := (6:Int32)) hx hb dL_areRowsSo_293 (by decide) ?_
        refine v_cVi (As := [.int (6:Int32)]) C hR hS hl.1.1 ca_X6_count kml_L_43 (L_X6_count E l r25 (6:Int32) I29 _ h) (IsTag.k hf26) rfl rfl rfl rfl (Nat.le_of_ble_eq_true rfl) ⟨Nat.le_of_ble_eq_true rfl, Nat.le_of_ble_eq_true rfl⟩ ⟨Nat.zero_le _, Nat.zero_le _⟩ dL_areRowsSo_295 (fun v32 I31 H locs h hR hS => ?_)
        refine lv_aload_n hx hb dL_areRowsSo_298 rfl (hv_at hl 1 rfl) ?_
        refine lv_bipush (v := (7:Int32)) hx hb dL_areRowsSo_299 (by decide) ?_
        refine v_cVi (As := [.int (7:Int32)]) C hR hS hl.1.1 ca_X6_count kml_L_43 (L_X6_count E l r25 (7:Int32) I31 _ h) (IsTag.k hf26) rfl rfl rfl rfl (Nat.le_of_ble_eq_true rfl) ⟨Nat.le_of_ble_eq_true rfl, Nat.le_of_ble_eq_true rfl⟩ ⟨Nat.zero_le _, Nat.zero_le _⟩ dL_areRowsSo_301 (fun v34 I33 H locs h hR hS => ?_)
        refine lv_iadd hx hb dL_areRowsSo_304 ?_
        refine lv_aload_n hx hb dL_areRowsSo_305 rfl (hv_at hl 1 rfl) ?_
        refine lv_bipush (v := (8:Int32)) hx hb dL_areRowsSo_306 (by decide) ?_
        refine v_cVi (As := [.int (8:Int32)]) C hR hS hl.1.1 ca_X6_count kml_L_43 (L_X6_count E l r25 (8:Int32) I33 _ h) (IsTag.k hf26) rfl rfl rfl rfl (Nat.le_of_ble_eq_true rfl) ⟨Nat.le_of_ble_eq_true rfl, Nat.le_of_ble_eq_true rfl⟩ ⟨Nat.zero_le _, Nat.zero_le _⟩ dL_areRowsSo_308 (fun v36 I35 H locs h hR hS => ?_)
        refine lv_iadd hx hb dL_areRowsSo_311 ?_
        refine lv_aload_n hx hb dL_areRowsSo_312 rfl (hv_at hl 1 rfl) ?_
        refine lv_bipush (v := (9:Int32)) hx hb dL_areRowsSo_313 (by decide) ?_
        refine v_cVi (As := [.int (9:Int32)]) C hR hS hl.1.1 ca_X6_count kml_L_43 (L_X6_count E l r25 (9:Int32) I35 _ h) (IsTag.k hf26) rfl rfl rfl rfl (Nat.le_of_ble_eq_true rfl) ⟨Nat.le_of_ble_eq_true rfl, Nat.le_of_ble_eq_true rfl⟩ ⟨Nat.zero_le _, Nat.zero_le _⟩ dL_areRowsSo_315 (fun v38 I37 H locs h hR hS => ?_)
        refine lv_iadd hx hb dL_areRowsSo_318 ?_
        refine lv_icmp_ne (tgt := 326) hx hb dL_areRowsSo_319 (by decide) (fun c39 => ?_) (fun c39 => ?_)
        · replace h := h.1 c39
          exact hJ326 I37 _ _ _ h hR hS (hv_sub hl [] rfl)
        · replace h := h.2 c39
          refine lv_iconst (v := (1:Int32)) hx hb dL_areRowsSo_322 rfl ?_
          refine lv_goto (tgt := 327) hx hb dL_areRowsSo_323 (by decide) ?_
          exact hJ327 (1:Int32) I37 _ _ _ h hR hS (hv_sub hl [] rfl)
  have hJ263 : ∀ (y1_263 : Int32) (y2_263 : Int32) (y3_263 : Int32) (y5_263 : Int32) (I : MI) (H : Heap) (locs : List Loc) (ls : Array Slot), w_L_areRowsSo_b263 K R o0 Q y1_263 y2_263 y3_263 y5_263 I → Rep E K R I n H → va_S (AA E) s.heap H locs → hv ls 8 [(0, va_rf o0), (1, .int y1_263), (2, .int y2_263), (3, .int y3_263), (5, .int y5_263)] → W p l e (rmM 3 65 0 0) s m args below meth c H locs 0 0 (MQ below (QcM E (Qi K R n Q)) args s 0 0 (AA E)) (F0 m 263 ls []) := by
    intro y1_263 y2_263 y3_263 y5_263 I H locs ls h hR hS hl
    unfold w_L_areRowsSo_b263 at h
    refine lv_iconst (v := (0:Int32)) hx hb dL_areRowsSo_263 rfl ?_
    exact hJ264 y1_263 y2_263 y3_263 y5_263 (0:Int32) I _ _ _ h hR hS (hv_sub hl [0, 1, 2, 3, 4] rfl)
  have hJ147 : ∀ (y1_147 : Int32) (y2_147 : Int32) (y3_147 : Int32) (y4_147 : Int32) (y5_147 : Int32) (y6_147 : Int32) (I : MI) (H : Heap) (locs : List Loc) (ls : Array Slot), w_L_areRowsSo_b147 K R o0 Q y1_147 y2_147 y3_147 y4_147 y5_147 y6_147 I → Rep E K R I n H → va_S (AA E) s.heap H locs → hv ls 8 [(0, va_rf o0), (1, .int y1_147), (2, .int y2_147), (3, .int y3_147), (4, .int y4_147), (5, .int y5_147), (6, .int y6_147)] → W p l e (rmM 3 65 0 0) s m args below meth c H locs 0 0 (MQ below (QcM E (Qi K R n Q)) args s 0 0 (AA E)) (F0 m 147 ls []) := by
    intro y1_147 y2_147 y3_147 y4_147 y5_147 y6_147 I H locs ls h hR hS hl
    obtain ⟨X147, hX147⟩ : ∃ X : Int32 → Int32 → Int32 → Int32 → Int32 → Int32 → MI → Prop, ∀ (y1_147 : Int32) (y2_147 : Int32) (y3_147 : Int32) (y4_147 : Int32) (y5_147 : Int32) (y6_147 : Int32) (I : MI), X y1_147 y2_147 y3_147 y4_147 y5_147 y6_147 I ↔ (∀ (H : Heap) (locs : List Loc) (ls : Array Slot), Rep E K R I n H → va_S (AA E) s.heap H locs → hv ls 8 [(0, va_rf o0), (1, .int y1_147), (2, .int y2_147), (3, .int y3_147), (4, .int y4_147), (5, .int y5_147), (6, .int y6_147)] → W p l e (rmM 3 65 0 0) s m args below meth c H locs 0 0 (MQ below (QcM E (Qi K R n Q)) args s 0 0 (AA E)) (F0 m 147 ls [])) := ⟨fun y1_147 y2_147 y3_147 y4_147 y5_147 y6_147 I => ∀ (H : Heap) (locs : List Loc) (ls : Array Slot), Rep E K R I n H → va_S (AA E) s.heap H locs → hv ls 8 [(0, va_rf o0), (1, .int y1_147), (2, .int y2_147), (3, .int y3_147), (4, .int y4_147), (5, .int y5_147), (6, .int y6_147)] → W p l e (rmM 3 65 0 0) s m args below meth c H locs 0 0 (MQ below (QcM E (Qi K R n Q)) args s 0 0 (AA E)) (F0 m 147 ls []), fun _ _ _ _ _ _ _ => Iff.rfl⟩
    refine (hX147 y1_147 y2_147 y3_147 y4_147 y5_147 y6_147 I).mp (h X147 ?_) H locs ls hR hS hl
    clear h hR hS hl
    clear ls locs H I y1_147 y2_147 y3_147 y4_147 y5_147 y6_147
    have hJ213 : ∀ (y1_213 : Int32) (y3_213 : Int32) (y4_213 : Int32) (y5_213 : Int32) (y6_213 : Int32) (z0_213 : Int32) (z1_213 : Int32) (I : MI) (H : Heap) (locs : List Loc) (ls : Array Slot), w_L_areRowsSo_b213 K R o0 Q X147 y1_213 y3_213 y4_213 y5_213 y6_213 z0_213 z1_213 I → Rep E K R I n H → va_S (AA E) s.heap H locs → hv ls 8 [(0, va_rf o0), (1, .int y1_213), (3, .int y3_213), (4, .int y4_213), (5, .int y5_213), (6, .int y6_213)] → W p l e (rmM 3 65 0 0) s m args below meth c H locs 0 0 (MQ below (QcM E (Qi K R n Q)) args s 0 0 (AA E)) (F0 m 213 ls [.int z0_213, .int z1_213]) := by
      intro y1_213 y3_213 y4_213 y5_213 y6_213 z0_213 z1_213 I H locs ls h hR hS hl
      unfold w_L_areRowsSo_b213 at h
      refine lv_iadd hx hb dL_areRowsSo_213 ?_
      refine v_istore_n (lv' := [(2, .int (z1_213 + z0_213)), (0, va_rf o0), (1, .int y1_213), (3, .int y3_213), (4, .int y4_213), (5, .int y5_213), (6, .int y6_213)]) hx hb dL_areRowsSo_214 rfl hl (by decide) rfl (fun ls hl => ?_)
      refine v_iinc (v := y6_213 + (1:Int32)) (k := 6) (lv' := [(6, .int (y6_213 + (1:Int32))), (2, .int (z1_213 + z0_213)), (0, va_rf o0), (1, .int y1_213), (3, .int y3_213), (4, .int y4_213), (5, .int y5_213)]) hx hb dL_areRowsSo_215 hl rfl rfl (by decide) rfl (fun ls hl => ?_)
      refine lv_goto (tgt := 147) hx hb dL_areRowsSo_218 (by decide) ?_
      exact (hX147 y1_213 (z1_213 + z0_213) y3_213 y4_213 y5_213 (y6_213 + (1:Int32)) I).mp h _ _ _ hR hS (hv_sub hl [2, 3, 1, 4, 5, 6, 0] rfl)
    have hJ208 : ∀ (y1_208 : Int32) (y3_208 : Int32) (y4_208 : Int32) (y5_208 : Int32) (y6_208 : Int32) (z0_208 : Int32) (I : MI) (H : Heap) (locs : List Loc) (ls : Array Slot), w_L_areRowsSo_b208 K R o0 Q X147 y1_208 y3_208 y4_208 y5_208 y6_208 z0_208 I → Rep E K R I n H → va_S (AA E) s.heap H locs → hv ls 8 [(0, va_rf o0), (1, .int y1_208), (3, .int y3_208), (4, .int y4_208), (5, .int y5_208), (6, .int y6_208)] → W p l e (rmM 3 65 0 0) s m args below meth c H locs 0 0 (MQ below (QcM E (Qi K R n Q)) args s 0 0 (AA E)) (F0 m 208 ls [.int z0_208]) := by
      intro y1_208 y3_208 y4_208 y5_208 y6_208 z0_208 I H locs ls h hR hS hl
      unfold w_L_areRowsSo_b208 at h
      refine lv_iconst (v := (1:Int32)) hx hb dL_areRowsSo_208 rfl ?_
      refine lv_goto (tgt := 213) hx hb dL_areRowsSo_209 (by decide) ?_
      exact hJ213 y1_208 y3_208 y4_208 y5_208 y6_208 (1:Int32) z0_208 I _ _ _ h hR hS (hv_sub hl [0, 1, 2, 3, 4, 5] rfl)
    have hJ192 : ∀ (y1_192 : Int32) (y2_192 : Int32) (y3_192 : Int32) (y4_192 : Int32) (y6_192 : Int32) (y7_192 : Int32) (z0_192 : Int32) (z1_192 : Int32) (I : MI) (H : Heap) (locs : List Loc) (ls : Array Slot), w_L_areRowsSo_b192 K R o0 Q X147 y1_192 y2_192 y3_192 y4_192 y6_192 y7_192 z0_192 z1_192 I → Rep E K R I n H → va_S (AA E) s.heap H locs → hv ls 8 [(0, va_rf o0), (1, .int y1_192), (2, .int y2_192), (3, .int y3_192), (4, .int y4_192), (6, .int y6_192), (7, .int y7_192)] → W p l e (rmM 3 65 0 0) s m args below meth c H locs 0 0 (MQ below (QcM E (Qi K R n Q)) args s 0 0 (AA E)) (F0 m 192 ls [.int z0_192, .int z1_192]) := by
      intro y1_192 y2_192 y3_192 y4_192 y6_192 y7_192 z0_192 z1_192 I H locs ls h hR hS hl
      unfold w_L_areRowsSo_b192 at h
      refine lv_iadd hx hb dL_areRowsSo_192 ?_
      refine v_istore (lv' := [(5, .int (z1_192 + z0_192)), (0, va_rf o0), (1, .int y1_192), (2, .int y2_192), (3, .int y3_192), (4, .int y4_192), (6, .int y6_192), (7, .int y7_192)]) hx hb dL_areRowsSo_193 hl (by decide) rfl (fun ls hl => ?_)
      refine lv_iload_n hx hb dL_areRowsSo_195 rfl (hv_at hl 3 rfl) ?_
      refine lv_iload hx hb dL_areRowsSo_196 (hv_at hl 7 rfl) ?_
      refine lv_iconst (v := (1:Int32)) hx hb dL_areRowsSo_198 rfl ?_
      refine lv_icmp_eq (tgt := 208) hx hb dL_areRowsSo_199 (by decide) (fun c23 => ?_) (fun c23 => ?_)
      · replace h := h.1 c23
        exact hJ208 y1_192 y3_192 y4_192 (z1_192 + z0_192) y6_192 y2_192 I _ _ _ h hR hS (hv_sub hl [1, 2, 4, 5, 0, 6] rfl)
      · replace h := h.2 c23
        refine lv_iload hx hb dL_areRowsSo_202 (hv_at hl 7 rfl) ?_
        refine lv_iconst (v := (2:Int32)) hx hb dL_areRowsSo_204 rfl ?_
        refine lv_icmp_ne (tgt := 212) hx hb dL_areRowsSo_205 (by decide) (fun c22 => ?_) (fun c22 => ?_)
        · replace h := h.1 c22
          refine lv_iconst (v := (0:Int32)) hx hb dL_areRowsSo_212 rfl ?_
          exact hJ213 y1_192 y3_192 y4_192 (z1_192 + z0_192) y6_192 (0:Int32) y2_192 I _ _ _ h hR hS (hv_sub hl [1, 2, 4, 5, 0, 6] rfl)
        · replace h := h.2 c22
          exact hJ208 y1_192 y3_192 y4_192 (z1_192 + z0_192) y6_192 y2_192 I _ _ _ h hR hS (hv_sub hl [1, 2, 4, 5, 0, 6] rfl)
    intro y1_147 y2_147 y3_147 y4_147 y5_147 y6_147 I h
    refine (hX147 y1_147 y2_147 y3_147 y4_147 y5_147 y6_147 I).mpr ?_
    intro H locs ls hR hS hl
    unfold w_L_areRowsSo_b147_body at h
    refine lv_iload hx hb dL_areRowsSo_147 (hv_at hl 6 rfl) ?_
    refine v_aload_n hx hb dL_areRowsSo_149 rfl (hv_at hl 0 rfl) ?_
    refine lv_iconst (v := (4:Int32)) hx hb dL_areRowsSo_150 rfl ?_
    obtain ⟨r42, e_o0, h⟩ := h
    have hl : hv ls 8 [(0, .ref r42), (1, .int y1_147), (2, .int y2_147), (3, .int y3_147), (4, .int y4_147), (5, .int y5_147), (6, .int y6_147)] := by (try rw [e_o0] at hl); exact hl
    try rw [e_o0]
    obtain ⟨hf43, h⟩ := h
    refine v_cVi (As := [.int (4:Int32)]) C hR hS hl.1.1 ca_X6_count kml_L_43 (L_X6_count E l r42 (4:Int32) I _ h) (IsTag.k hf43) rfl rfl rfl rfl (Nat.le_of_ble_eq_true rfl) ⟨Nat.le_of_ble_eq_true rfl, Nat.le_of_ble_eq_true rfl⟩ ⟨Nat.zero_le _, Nat.zero_le _⟩ dL_areRowsSo_151 (fun v45 I44 H locs h hR hS => ?_)
    refine lv_icmp_ge (tgt := 221) hx hb dL_areRowsSo_154 (by decide) (fun c62 => ?_) (fun c62 => ?_)
    · replace h := h.1 c62
      refine lv_iload_n hx hb dL_areRowsSo_221 rfl (hv_at hl 3 rfl) ?_
      refine lv_aload_n hx hb dL_areRowsSo_222 rfl (hv_at hl 0 rfl) ?_
      refine lv_bipush (v := (6:Int32)) hx hb dL_areRowsSo_223 (by decide) ?_
      refine v_cVi (As := [.int (6:Int32)]) C hR hS hl.1.1 ca_X6_count kml_L_43 (L_X6_count E l r42 (6:Int32) I44 _ h) (IsTag.k hf43) rfl rfl rfl rfl (Nat.le_of_ble_eq_true rfl) ⟨Nat.le_of_ble_eq_true rfl, Nat.le_of_ble_eq_true rfl⟩ ⟨Nat.zero_le _, Nat.zero_le _⟩ dL_areRowsSo_225 (fun v47 I46 H locs h hR hS => ?_)
      refine lv_icmp_ne (tgt := 263) hx hb dL_areRowsSo_228 (by decide) (fun c56 => ?_) (fun c56 => ?_)
      · replace h := h.1 c56
        exact hJ263 y1_147 y2_147 y3_147 y5_147 I46 _ _ _ h hR hS (hv_sub hl [0, 1, 2, 3, 5] (by rw [e_o0]; rfl))
      · replace h := h.2 c56
        refine lv_iload hx hb dL_areRowsSo_231 (hv_at hl 4 rfl) ?_
        refine lv_aload_n hx hb dL_areRowsSo_233 rfl (hv_at hl 0 rfl) ?_
        refine lv_bipush (v := (8:Int32)) hx hb dL_areRowsSo_234 (by decide) ?_
        refine v_cVi (As := [.int (8:Int32)]) C hR hS hl.1.1 ca_X6_count kml_L_43 (L_X6_count E l r42 (8:Int32) I46 _ h) (IsTag.k hf43) rfl rfl rfl rfl (Nat.le_of_ble_eq_true rfl) ⟨Nat.le_of_ble_eq_true rfl, Nat.le_of_ble_eq_true rfl⟩ ⟨Nat.zero_le _, Nat.zero_le _⟩ dL_areRowsSo_236 (fun v49 I48 H locs h hR hS => ?_)
        refine lv_icmp_ne (tgt := 263) hx hb dL_areRowsSo_239 (by decide) (fun c55 => ?_) (fun c55 => ?_)
        · replace h := h.1 c55
          exact hJ263 y1_147 y2_147 y3_147 y5_147 I48 _ _ _ h hR hS (hv_sub hl [0, 1, 2, 3, 5] (by rw [e_o0]; rfl))
        · replace h := h.2 c55
          refine lv_aload_n hx hb dL_areRowsSo_242 rfl (hv_at hl 0 rfl) ?_
          refine lv_bipush (v := (7:Int32)) hx hb dL_areRowsSo_243 (by decide) ?_
          refine v_cVi (As := [.int (7:Int32)]) C hR hS hl.1.1 ca_X6_count kml_L_43 (L_X6_count E l r42 (7:Int32) I48 _ h) (IsTag.k hf43) rfl rfl rfl rfl (Nat.le_of_ble_eq_true rfl) ⟨Nat.le_of_ble_eq_true rfl, Nat.le_of_ble_eq_true rfl⟩ ⟨Nat.zero_le _, Nat.zero_le _⟩ dL_areRowsSo_245 (fun v51 I50 H locs h hR hS => ?_)
          refine lv_aload_n hx hb dL_areRowsSo_248 rfl (hv_at hl 0 rfl) ?_
          refine lv_bipush (v := (6:Int32)) hx hb dL_areRowsSo_249 (by decide) ?_
          refine v_cVi (As := [.int (6:Int32)]) C hR hS hl.1.1 ca_X6_count kml_L_43 (L_X6_count E l r42 (6:Int32) I50 _ h) (IsTag.k hf43) rfl rfl rfl rfl (Nat.le_of_ble_eq_true rfl) ⟨Nat.le_of_ble_eq_true rfl, Nat.le_of_ble_eq_true rfl⟩ ⟨Nat.zero_le _, Nat.zero_le _⟩ dL_areRowsSo_251 (fun v53 I52 H locs h hR hS => ?_)
          refine lv_iload_n hx hb dL_areRowsSo_254 rfl (hv_at hl 2 rfl) ?_
          refine lv_iadd hx hb dL_areRowsSo_255 ?_
          refine lv_icmp_ne (tgt := 263) hx hb dL_areRowsSo_256 (by decide) (fun c54 => ?_) (fun c54 => ?_)
          · replace h := h.1 c54
            exact hJ263 y1_147 y2_147 y3_147 y5_147 I52 _ _ _ h hR hS (hv_sub hl [0, 1, 2, 3, 5] (by rw [e_o0]; rfl))
          · replace h := h.2 c54
            refine lv_iconst (v := (1:Int32)) hx hb dL_areRowsSo_259 rfl ?_
            refine lv_goto (tgt := 264) hx hb dL_areRowsSo_260 (by decide) ?_
            exact hJ264 y1_147 y2_147 y3_147 y5_147 (1:Int32) I52 _ _ _ h hR hS (hv_sub hl [0, 1, 2, 3, 5] (by rw [e_o0]; rfl))
    · replace h := h.2 c62
      refine lv_aload_n hx hb dL_areRowsSo_157 rfl (hv_at hl 0 rfl) ?_
      refine lv_iload hx hb dL_areRowsSo_158 (hv_at hl 6 rfl) ?_
      refine lv_iconst (v := (4:Int32)) hx hb dL_areRowsSo_160 rfl ?_
      refine v_cVi (As := [.int y6_147, .int (4:Int32)]) C hR hS hl.1.1 ca_X6_question kml_L_49 (L_X6_question E l r42 y6_147 (4:Int32) I44 _ h) (IsTag.k hf43) rfl rfl rfl rfl (Nat.le_of_ble_eq_true rfl) ⟨Nat.le_of_ble_eq_true rfl, Nat.le_of_ble_eq_true rfl⟩ ⟨Nat.zero_le _, Nat.zero_le _⟩ dL_areRowsSo_161 (fun v58 I57 H locs h hR hS => ?_)
      refine v_istore (lv' := [(7, .int v58), (0, .ref r42), (1, .int y1_147), (2, .int y2_147), (3, .int y3_147), (4, .int y4_147), (5, .int y5_147), (6, .int y6_147)]) hx hb dL_areRowsSo_164 hl (by decide) rfl (fun ls hl => ?_)
      refine lv_iload hx hb dL_areRowsSo_166 (hv_at hl 5 rfl) ?_
      refine lv_aload_n hx hb dL_areRowsSo_168 rfl (hv_at hl 1 rfl) ?_
      refine lv_iload hx hb dL_areRowsSo_169 (hv_at hl 7 rfl) ?_
      refine lv_bipush (v := (8:Int32)) hx hb dL_areRowsSo_171 (by decide) ?_
      refine v_cVi (As := [.int y6_147, .int (8:Int32)]) C hR hS hl.1.1 ca_X6_question kml_L_49 (L_X6_question E l r42 y6_147 (8:Int32) I57 _ h) (IsTag.k hf43) rfl rfl rfl rfl (Nat.le_of_ble_eq_true rfl) ⟨Nat.le_of_ble_eq_true rfl, Nat.le_of_ble_eq_true rfl⟩ ⟨Nat.zero_le _, Nat.zero_le _⟩ dL_areRowsSo_173 (fun v60 I59 H locs h hR hS => ?_)
      refine lv_iadd hx hb dL_areRowsSo_176 ?_
      refine v_istore (lv' := [(4, .int (y4_147 + v60)), (7, .int v58), (0, .ref r42), (1, .int y1_147), (2, .int y2_147), (3, .int y3_147), (5, .int y5_147), (6, .int y6_147)]) hx hb dL_areRowsSo_177 hl (by decide) rfl (fun ls hl => ?_)
      refine lv_iload hx hb dL_areRowsSo_179 (hv_at hl 6 rfl) ?_
      refine lv_iload hx hb dL_areRowsSo_181 (hv_at hl 1 rfl) ?_
      refine lv_iconst (v := (4:Int32)) hx hb dL_areRowsSo_183 rfl ?_
      refine lv_icmp_ne (tgt := 191) hx hb dL_areRowsSo_184 (by decide) (fun c61 => ?_) (fun c61 => ?_)
      · replace h := h.1 c61
        refine lv_iconst (v := (0:Int32)) hx hb dL_areRowsSo_191 rfl ?_
        exact hJ192 y1_147 y2_147 y3_147 (y4_147 + v60) y6_147 v58 (0:Int32) y5_147 I59 _ _ _ h hR hS (hv_sub hl [2, 3, 4, 5, 0, 7, 1] (by rw [e_o0]; rfl))
      · replace h := h.2 c61
        refine lv_iconst (v := (1:Int32)) hx hb dL_areRowsSo_187 rfl ?_
        refine lv_goto (tgt := 192) hx hb dL_areRowsSo_188 (by decide) ?_
        exact hJ192 y1_147 y2_147 y3_147 (y4_147 + v60) y6_147 v58 (1:Int32) y5_147 I59 _ _ _ h hR hS (hv_sub hl [2, 3, 4, 5, 0, 7, 1] (by rw [e_o0]; rfl))
  have hJ9 : ∀ (y1_9 : Int32) (y2_9 : Int32) (y3_9 : Int32) (y4_9 : Int32) (I : MI) (H : Heap) (locs : List Loc) (ls : Array Slot), w_L_areRowsSo_b9 K R o0 Q y1_9 y2_9 y3_9 y4_9 I → Rep E K R I n H → va_S (AA E) s.heap H locs → hv ls 8 [(0, va_rf o0), (1, .int y1_9), (2, .int y2_9), (3, .int y3_9), (4, .int y4_9)] → W p l e (rmM 3 65 0 0) s m args below meth c H locs 0 0 (MQ below (QcM E (Qi K R n Q)) args s 0 0 (AA E)) (F0 m 9 ls []) := by
    intro y1_9 y2_9 y3_9 y4_9 I H locs ls h hR hS hl
    obtain ⟨X9, hX9⟩ : ∃ X : Int32 → Int32 → Int32 → Int32 → MI → Prop, ∀ (y1_9 : Int32) (y2_9 : Int32) (y3_9 : Int32) (y4_9 : Int32) (I : MI), X y1_9 y2_9 y3_9 y4_9 I ↔ (∀ (H : Heap) (locs : List Loc) (ls : Array Slot), Rep E K R I n H → va_S (AA E) s.heap H locs → hv ls 8 [(0, va_rf o0), (1, .int y1_9), (2, .int y2_9), (3, .int y3_9), (4, .int y4_9)] → W p l e (rmM 3 65 0 0) s m args below meth c H locs 0 0 (MQ below (QcM E (Qi K R n Q)) args s 0 0 (AA E)) (F0 m 9 ls [])) := ⟨fun y1_9 y2_9 y3_9 y4_9 I => ∀ (H : Heap) (locs : List Loc) (ls : Array Slot), Rep E K R I n H → va_S (AA E) s.heap H locs → hv ls 8 [(0, va_rf o0), (1, .int y1_9), (2, .int y2_9), (3, .int y3_9), (4, .int y4_9)] → W p l e (rmM 3 65 0 0) s m args below meth c H locs 0 0 (MQ below (QcM E (Qi K R n Q)) args s 0 0 (AA E)) (F0 m 9 ls []), fun _ _ _ _ _ => Iff.rfl⟩
    refine (hX9 y1_9 y2_9 y3_9 y4_9 I).mp (h X9 ?_) H locs ls hR hS hl
    clear h hR hS hl
    clear ls locs H I y1_9 y2_9 y3_9 y4_9
    have hJ43 : ∀ (y1_43 : Int32) (y2_43 : Int32) (y3_43 : Int32) (y4_43 : Int32) (y5_43 : Int32) (y6_43 : Int32) (I : MI) (H : Heap) (locs : List Loc) (ls : Array Slot), w_L_areRowsSo_b43 K R o0 Q X9 y1_43 y2_43 y3_43 y4_43 y5_43 y6_43 I → Rep E K R I n H → va_S (AA E) s.heap H locs → hv ls 8 [(0, va_rf o0), (1, .int y1_43), (2, .int y2_43), (3, .int y3_43), (4, .int y4_43), (5, .int y5_43), (6, .int y6_43)] → W p l e (rmM 3 65 0 0) s m args below meth c H locs 0 0 (MQ below (QcM E (Qi K R n Q)) args s 0 0 (AA E)) (F0 m 43 ls []) := by
      intro y1_43 y2_43 y3_43 y4_43 y5_43 y6_43 I H locs ls h hR hS hl
      obtain ⟨X43, hX43⟩ : ∃ X : Int32 → Int32 → Int32 → Int32 → Int32 → Int32 → MI → Prop, ∀ (y1_43 : Int32) (y2_43 : Int32) (y3_43 : Int32) (y4_43 : Int32) (y5_43 : Int32) (y6_43 : Int32) (I : MI), X y1_43 y2_43 y3_43 y4_43 y5_43 y6_43 I ↔ (∀ (H : Heap) (locs : List Loc) (ls : Array Slot), Rep E K R I n H → va_S (AA E) s.heap H locs → hv ls 8 [(0, va_rf o0), (1, .int y1_43), (2, .int y2_43), (3, .int y3_43), (4, .int y4_43), (5, .int y5_43), (6, .int y6_43)] → W p l e (rmM 3 65 0 0) s m args below meth c H locs 0 0 (MQ below (QcM E (Qi K R n Q)) args s 0 0 (AA E)) (F0 m 43 ls [])) := ⟨fun y1_43 y2_43 y3_43 y4_43 y5_43 y6_43 I => ∀ (H : Heap) (locs : List Loc) (ls : Array Slot), Rep E K R I n H → va_S (AA E) s.heap H locs → hv ls 8 [(0, va_rf o0), (1, .int y1_43), (2, .int y2_43), (3, .int y3_43), (4, .int y4_43), (5, .int y5_43), (6, .int y6_43)] → W p l e (rmM 3 65 0 0) s m args below meth c H locs 0 0 (MQ below (QcM E (Qi K R n Q)) args s 0 0 (AA E)) (F0 m 43 ls []), fun _ _ _ _ _ _ _ => Iff.rfl⟩
      refine (hX43 y1_43 y2_43 y3_43 y4_43 y5_43 y6_43 I).mp (h X43 ?_) H locs ls hR hS hl
      clear h hR hS hl
      clear ls locs H I y1_43 y2_43 y3_43 y4_43 y5_43 y6_43
      have hJ104 : ∀ (y1_104 : Int32) (y2_104 : Int32) (y3_104 : Int32) (y4_104 : Int32) (y5_104 : Int32) (y6_104 : Int32) (I : MI) (H : Heap) (locs : List Loc) (ls : Array Slot), w_L_areRowsSo_b104 K R o0 Q X9 X43 y1_104 y2_104 y3_104 y4_104 y5_104 y6_104 I → Rep E K R I n H → va_S (AA E) s.heap H locs → hv ls 8 [(0, va_rf o0), (1, .int y1_104), (2, .int y2_104), (3, .int y3_104), (4, .int y4_104), (5, .int y5_104), (6, .int y6_104)] → W p l e (rmM 3 65 0 0) s m args below meth c H locs 0 0 (MQ below (QcM E (Qi K R n Q)) args s 0 0 (AA E)) (F0 m 104 ls []) := by
        intro y1_104 y2_104 y3_104 y4_104 y5_104 y6_104 I H locs ls h hR hS hl
        unfold w_L_areRowsSo_b104 at h
        refine v_iinc (v := y6_104 + (1:Int32)) (k := 6) (lv' := [(6, .int (y6_104 + (1:Int32))), (0, va_rf o0), (1, .int y1_104), (2, .int y2_104), (3, .int y3_104), (4, .int y4_104), (5, .int y5_104)]) hx hb dL_areRowsSo_104 hl rfl rfl (by decide) rfl (fun ls hl => ?_)
        refine lv_goto (tgt := 43) hx hb dL_areRowsSo_107 (by decide) ?_
        exact (hX43 y1_104 y2_104 y3_104 y4_104 y5_104 (y6_104 + (1:Int32)) I).mp h _ _ _ hR hS (hv_sub hl [1, 2, 3, 4, 5, 6, 0] rfl)
      intro y1_43 y2_43 y3_43 y4_43 y5_43 y6_43 I h
      refine (hX43 y1_43 y2_43 y3_43 y4_43 y5_43 y6_43 I).mpr ?_
      intro H locs ls hR hS hl
      unfold w_L_areRowsSo_b43_body at h
      refine lv_iload hx hb dL_areRowsSo_43 (hv_at hl 6 rfl) ?_
      refine lv_iload hx hb dL_areRowsSo_45 (hv_at hl 5 rfl) ?_
      refine lv_icmp_ge (tgt := 110) hx hb dL_areRowsSo_47 (by decide) (fun c21 => ?_) (fun c21 => ?_)
      · replace h := h.1 c21
        refine lv_iload hx hb dL_areRowsSo_110 (hv_at hl 5 rfl) ?_
        refine lv_bipush (v := (6:Int32)) hx hb dL_areRowsSo_112 (by decide) ?_
        refine lv_icmp_gt (tgt := 130) hx hb dL_areRowsSo_114 (by decide) (fun c6 => ?_) (fun c6 => ?_)
        · replace h := h.1 c6
          exact hJ130 I _ _ _ h hR hS (hv_sub hl [] rfl)
        · replace h := h.2 c6
          refine v_aload_n hx hb dL_areRowsSo_117 rfl (hv_at hl 0 rfl) ?_
          refine lv_iload hx hb dL_areRowsSo_118 (hv_at hl 4 rfl) ?_
          refine lv_iload hx hb dL_areRowsSo_120 (hv_at hl 5 rfl) ?_
          obtain ⟨r1, e_o0, h⟩ := h
          have hl : hv ls 8 [(0, .ref r1), (1, .int y1_43), (2, .int y2_43), (3, .int y3_43), (4, .int y4_43), (5, .int y5_43), (6, .int y6_43)] := by (try rw [e_o0] at hl); exact hl
          try rw [e_o0]
          obtain ⟨hf2, h⟩ := h
          refine v_cVi (As := [.int y4_43, .int y5_43]) C hR hS hl.1.1 ca_X6_row kml_L_58 (L_X6_row E l r1 y4_43 y5_43 I _ h) (IsTag.k hf2) rfl rfl rfl rfl (Nat.le_of_ble_eq_true rfl) ⟨Nat.le_of_ble_eq_true rfl, Nat.le_of_ble_eq_true rfl⟩ ⟨Nat.zero_le _, Nat.zero_le _⟩ dL_areRowsSo_122 (fun v4 I3 H locs h hR hS => ?_)
          refine lv_bipush (v := (-5:Int32)) hx hb dL_areRowsSo_125 (by decide) ?_
          refine lv_icmp_eq (tgt := 132) hx hb dL_areRowsSo_127 (by decide) (fun c5 => ?_) (fun c5 => ?_)
          · replace h := h.1 c5
            refine v_iinc (v := y4_43 + (1:Int32)) (k := 4) (lv' := [(4, .int (y4_43 + (1:Int32))), (0, .ref r1), (1, .int y1_43), (2, .int y2_43), (3, .int y3_43), (5, .int y5_43), (6, .int y6_43)]) hx hb dL_areRowsSo_132 hl rfl rfl (by decide) rfl (fun ls hl => ?_)
            refine lv_goto (tgt := 9) hx hb dL_areRowsSo_135 (by decide) ?_
            exact (hX9 y1_43 y2_43 y3_43 (y4_43 + (1:Int32)) I3).mp h _ _ _ hR hS (hv_sub hl [1, 2, 3, 4, 0] (by rw [e_o0]; rfl))
          · replace h := h.2 c5
            exact hJ130 I3 _ _ _ h hR hS (hv_sub hl [] rfl)
      · replace h := h.2 c21
        refine v_aload_n hx hb dL_areRowsSo_50 rfl (hv_at hl 0 rfl) ?_
        refine lv_iload hx hb dL_areRowsSo_51 (hv_at hl 4 rfl) ?_
        refine lv_iload hx hb dL_areRowsSo_53 (hv_at hl 6 rfl) ?_
        obtain ⟨r7, e_o0, h⟩ := h
        have hl : hv ls 8 [(0, .ref r7), (1, .int y1_43), (2, .int y2_43), (3, .int y3_43), (4, .int y4_43), (5, .int y5_43), (6, .int y6_43)] := by (try rw [e_o0] at hl); exact hl
        try rw [e_o0]
        obtain ⟨hf8, h⟩ := h
        refine v_cVi (As := [.int y4_43, .int y6_43]) C hR hS hl.1.1 ca_X6_row kml_L_58 (L_X6_row E l r7 y4_43 y6_43 I _ h) (IsTag.k hf8) rfl rfl rfl rfl (Nat.le_of_ble_eq_true rfl) ⟨Nat.le_of_ble_eq_true rfl, Nat.le_of_ble_eq_true rfl⟩ ⟨Nat.zero_le _, Nat.zero_le _⟩ dL_areRowsSo_55 (fun v10 I9 H locs h hR hS => ?_)
        refine v_istore (lv' := [(7, .int v10), (0, .ref r7), (1, .int y1_43), (2, .int y2_43), (3, .int y3_43), (4, .int y4_43), (5, .int y5_43), (6, .int y6_43)]) hx hb dL_areRowsSo_58 hl (by decide) rfl (fun ls hl => ?_)
        refine lv_aload_n hx hb dL_areRowsSo_60 rfl (hv_at hl 1 rfl) ?_
        refine lv_iload hx hb dL_areRowsSo_61 (hv_at hl 0 rfl) ?_
        refine lv_iconst (v := (4:Int32)) hx hb dL_areRowsSo_63 rfl ?_
        refine v_cVi (As := [.int v10, .int (4:Int32)]) C hR hS hl.1.1 ca_X6_question kml_L_49 (L_X6_question E l r7 v10 (4:Int32) I9 _ h) (IsTag.k hf8) rfl rfl rfl rfl (Nat.le_of_ble_eq_true rfl) ⟨Nat.le_of_ble_eq_true rfl, Nat.le_of_ble_eq_true rfl⟩ ⟨Nat.zero_le _, Nat.zero_le _⟩ dL_areRowsSo_64 (fun v12 I11 H locs h hR hS => ?_)
        refine lv_if_ne (tgt := 102) hx hb dL_areRowsSo_67 (by decide) (fun c20 => ?_) (fun c20 => ?_)
        · replace h := h.1 c20
          exact hJ102 I11 _ _ _ h hR hS (hv_sub hl [] rfl)
        · replace h := h.2 c20
          refine lv_aload_n hx hb dL_areRowsSo_70 rfl (hv_at hl 1 rfl) ?_
          refine lv_iload hx hb dL_areRowsSo_71 (hv_at hl 0 rfl) ?_
          refine lv_iconst (v := (0:Int32)) hx hb dL_areRowsSo_73 rfl ?_
          refine v_cVi (As := [.int v10, .int (0:Int32)]) C hR hS hl.1.1 ca_X6_question kml_L_49 (L_X6_question E l r7 v10 (0:Int32) I11 _ h) (IsTag.k hf8) rfl rfl rfl rfl (Nat.le_of_ble_eq_true rfl) ⟨Nat.le_of_ble_eq_true rfl, Nat.le_of_ble_eq_true rfl⟩ ⟨Nat.zero_le _, Nat.zero_le _⟩ dL_areRowsSo_74 (fun v14 I13 H locs h hR hS => ?_)
          refine lv_iload hx hb dL_areRowsSo_77 (hv_at hl 5 rfl) ?_
          refine lv_icmp_ne (tgt := 102) hx hb dL_areRowsSo_79 (by decide) (fun c19 => ?_) (fun c19 => ?_)
          · replace h := h.1 c19
            exact hJ102 I13 _ _ _ h hR hS (hv_sub hl [] rfl)
          · replace h := h.2 c19
            refine lv_iload hx hb dL_areRowsSo_82 (hv_at hl 7 rfl) ?_
            refine lv_if_le (tgt := 104) hx hb dL_areRowsSo_84 (by decide) (fun c18 => ?_) (fun c18 => ?_)
            · replace h := h.1 c18
              exact hJ104 y1_43 y2_43 y3_43 y4_43 y5_43 y6_43 I13 _ _ _ h hR hS (hv_sub hl [1, 2, 3, 4, 5, 6, 7] (by rw [e_o0]; rfl))
            · replace h := h.2 c18
              refine lv_iload hx hb dL_areRowsSo_87 (hv_at hl 0 rfl) ?_
              refine lv_aload_n hx hb dL_areRowsSo_89 rfl (hv_at hl 1 rfl) ?_
              refine lv_iload hx hb dL_areRowsSo_90 (hv_at hl 5 rfl) ?_
              refine lv_iload hx hb dL_areRowsSo_92 (hv_at hl 7 rfl) ?_
              refine lv_iconst (v := (1:Int32)) hx hb dL_areRowsSo_94 rfl ?_
              refine lv_isub hx hb dL_areRowsSo_95 ?_
              refine v_cVi (As := [.int y4_43, .int (y6_43 - (1:Int32))]) C hR hS hl.1.1 ca_X6_row kml_L_58 (L_X6_row E l r7 y4_43 (y6_43 - (1:Int32)) I13 _ h) (IsTag.k hf8) rfl rfl rfl rfl (Nat.le_of_ble_eq_true rfl) ⟨Nat.le_of_ble_eq_true rfl, Nat.le_of_ble_eq_true rfl⟩ ⟨Nat.zero_le _, Nat.zero_le _⟩ dL_areRowsSo_96 (fun v16 I15 H locs h hR hS => ?_)
              refine lv_icmp_gt (tgt := 104) hx hb dL_areRowsSo_99 (by decide) (fun c17 => ?_) (fun c17 => ?_)
              · replace h := h.1 c17
                exact hJ104 y1_43 y2_43 y3_43 y4_43 y5_43 y6_43 I15 _ _ _ h hR hS (hv_sub hl [1, 2, 3, 4, 5, 6, 7] (by rw [e_o0]; rfl))
              · replace h := h.2 c17
                exact hJ102 I15 _ _ _ h hR hS (hv_sub hl [] rfl)
    intro y1_9 y2_9 y3_9 y4_9 I h
    refine (hX9 y1_9 y2_9 y3_9 y4_9 I).mpr ?_
    intro H locs ls hR hS hl
    unfold w_L_areRowsSo_b9_body at h
    refine lv_iload hx hb dL_areRowsSo_9 (hv_at hl 4 rfl) ?_
    refine lv_iconst (v := (4:Int32)) hx hb dL_areRowsSo_11 rfl ?_
    refine lv_icmp_ge (tgt := 138) hx hb dL_areRowsSo_12 (by decide) (fun c69 => ?_) (fun c69 => ?_)
    · replace h := h.1 c69
      refine lv_iconst (v := (0:Int32)) hx hb dL_areRowsSo_138 rfl ?_
      refine v_istore (lv' := [(4, .int (0:Int32)), (0, va_rf o0), (1, .int y1_9), (2, .int y2_9), (3, .int y3_9)]) hx hb dL_areRowsSo_139 hl (by decide) rfl (fun ls hl => ?_)
      refine lv_iconst (v := (0:Int32)) hx hb dL_areRowsSo_141 rfl ?_
      refine v_istore (lv' := [(5, .int (0:Int32)), (4, .int (0:Int32)), (0, va_rf o0), (1, .int y1_9), (2, .int y2_9), (3, .int y3_9)]) hx hb dL_areRowsSo_142 hl (by decide) rfl (fun ls hl => ?_)
      refine lv_iconst (v := (0:Int32)) hx hb dL_areRowsSo_144 rfl ?_
      refine v_istore (lv' := [(6, .int (0:Int32)), (5, .int (0:Int32)), (4, .int (0:Int32)), (0, va_rf o0), (1, .int y1_9), (2, .int y2_9), (3, .int y3_9)]) hx hb dL_areRowsSo_145 hl (by decide) rfl (fun ls hl => ?_)
      exact hJ147 y1_9 y2_9 y3_9 (0:Int32) (0:Int32) (0:Int32) I _ _ _ h hR hS (hv_sub hl [3, 4, 5, 6, 2, 1, 0] rfl)
    · replace h := h.2 c69
      refine v_aload_n hx hb dL_areRowsSo_15 rfl (hv_at hl 0 rfl) ?_
      refine lv_iload hx hb dL_areRowsSo_16 (hv_at hl 4 rfl) ?_
      refine lv_iconst (v := (0:Int32)) hx hb dL_areRowsSo_18 rfl ?_
      obtain ⟨r63, e_o0, h⟩ := h
      have hl : hv ls 8 [(0, .ref r63), (1, .int y1_9), (2, .int y2_9), (3, .int y3_9), (4, .int y4_9)] := by (try rw [e_o0] at hl); exact hl
      try rw [e_o0]
      obtain ⟨hf64, h⟩ := h
      refine v_cVi (As := [.int y4_9, .int (0:Int32)]) C hR hS hl.1.1 ca_X6_master kml_L_55 (L_X6_master E l r63 y4_9 (0:Int32) I _ h) (IsTag.k hf64) rfl rfl rfl rfl (Nat.le_of_ble_eq_true rfl) ⟨Nat.le_of_ble_eq_true rfl, Nat.le_of_ble_eq_true rfl⟩ ⟨Nat.zero_le _, Nat.zero_le _⟩ dL_areRowsSo_19 (fun v66 I65 H locs h hR hS => ?_)
      refine v_istore (lv' := [(5, .int v66), (0, .ref r63), (1, .int y1_9), (2, .int y2_9), (3, .int y3_9), (4, .int y4_9)]) hx hb dL_areRowsSo_22 hl (by decide) rfl (fun ls hl => ?_)
      refine lv_iload_n hx hb dL_areRowsSo_24 rfl (hv_at hl 2 rfl) ?_
      refine lv_iload hx hb dL_areRowsSo_25 (hv_at hl 0 rfl) ?_
      refine lv_iadd hx hb dL_areRowsSo_27 ?_
      refine v_istore_n (lv' := [(1, .int (y1_9 + v66)), (5, .int v66), (0, .ref r63), (2, .int y2_9), (3, .int y3_9), (4, .int y4_9)]) hx hb dL_areRowsSo_28 rfl hl (by decide) rfl (fun ls hl => ?_)
      refine lv_iload_n hx hb dL_areRowsSo_29 rfl (hv_at hl 4 rfl) ?_
      refine lv_aload_n hx hb dL_areRowsSo_30 rfl (hv_at hl 2 rfl) ?_
      refine lv_iload hx hb dL_areRowsSo_31 (hv_at hl 5 rfl) ?_
      refine lv_bipush (v := (6:Int32)) hx hb dL_areRowsSo_33 (by decide) ?_
      refine v_cVi (As := [.int y4_9, .int (6:Int32)]) C hR hS hl.1.1 ca_X6_master kml_L_55 (L_X6_master E l r63 y4_9 (6:Int32) I65 _ h) (IsTag.k hf64) rfl rfl rfl rfl (Nat.le_of_ble_eq_true rfl) ⟨Nat.le_of_ble_eq_true rfl, Nat.le_of_ble_eq_true rfl⟩ ⟨Nat.zero_le _, Nat.zero_le _⟩ dL_areRowsSo_35 (fun v68 I67 H locs h hR hS => ?_)
      refine lv_iadd hx hb dL_areRowsSo_38 ?_
      refine v_istore_n (lv' := [(3, .int (y3_9 + v68)), (1, .int (y1_9 + v66)), (5, .int v66), (0, .ref r63), (2, .int y2_9), (4, .int y4_9)]) hx hb dL_areRowsSo_39 rfl hl (by decide) rfl (fun ls hl => ?_)
      refine lv_iconst (v := (0:Int32)) hx hb dL_areRowsSo_40 rfl ?_
      refine v_istore (lv' := [(6, .int (0:Int32)), (3, .int (y3_9 + v68)), (1, .int (y1_9 + v66)), (5, .int v66), (0, .ref r63), (2, .int y2_9), (4, .int y4_9)]) hx hb dL_areRowsSo_41 hl (by decide) rfl (fun ls hl => ?_)
      exact hJ43 (y1_9 + v66) y2_9 (y3_9 + v68) y4_9 v66 (0:Int32) I67 _ _ _ h hR hS (hv_sub hl [4, 2, 5, 1, 6, 3, 0] (by rw [e_o0]; rfl))
  unfold w_L_areRowsSo at h
  refine lv_iconst (v := (0:Int32)) hx hb dL_areRowsSo_0 rfl ?_
  refine v_istore_n (lv' := [(1, .int (0:Int32)), (0, va_rf o0)]) hx hb dL_areRowsSo_1 rfl hl (by decide) rfl (fun ls hl => ?_)
  refine lv_iconst (v := (0:Int32)) hx hb dL_areRowsSo_2 rfl ?_
  refine v_istore_n (lv' := [(2, .int (0:Int32)), (1, .int (0:Int32)), (0, va_rf o0)]) hx hb dL_areRowsSo_3 rfl hl (by decide) rfl (fun ls hl => ?_)
  refine lv_iconst (v := (0:Int32)) hx hb dL_areRowsSo_4 rfl ?_
  refine v_istore_n (lv' := [(3, .int (0:Int32)), (2, .int (0:Int32)), (1, .int (0:Int32)), (0, va_rf o0)]) hx hb dL_areRowsSo_5 rfl hl (by decide) rfl (fun ls hl => ?_)
  refine lv_iconst (v := (0:Int32)) hx hb dL_areRowsSo_6 rfl ?_
  refine v_istore (lv' := [(4, .int (0:Int32)), (3, .int (0:Int32)), (2, .int (0:Int32)), (1, .int (0:Int32)), (0, va_rf o0)]) hx hb dL_areRowsSo_7 hl (by decide) rfl (fun ls hl => ?_)
  exact hJ9 (0:Int32) (0:Int32) (0:Int32) (0:Int32) I _ _ _ h hR hS (hv_sub hl [4, 3, 2, 1, 0] rfl)
set_option maxHeartbeats 4000000 in
set_option maxRecDepth 100000 in
theorem L_L_isNextSo (E : Ev) (l : Launch) {K : MK} {R : MR} {n : Nat} (o0 : Option Nat) (I : MI) (Q : Int32 → MI → Prop) (h : w_L_isNextSo K R o0 I Q) : MM E l yL_isNextSo cL_isNextSo 5 (some Jvm.ClassFile.FieldType.boolean) 7 161 0 0 [va_rf o0] K R I n (Qi K R n Q) := by
  refine MM.of1 (by decide) RL rfl (cO cN) (Nat.le_of_ble_eq_true rfl) ?_
  intro p e s m args below meth c ls C hin hR hS hl
  have hx := C.1
  have hb := C.2.1
  have hml := C.2.2.1
  have hown := C.2.2.2.1
  have hts := C.2.2.2.2.1
  have hl : hv ls 5 [(0, va_rf o0)] := hl
  clear hin
  have hJ56 : ∀ (z0_56 : Int32) (I : MI) (H : Heap) (locs : List Loc) (ls : Array Slot), w_L_isNextSo_b56 K R o0 Q z0_56 I → Rep E K R I n H → va_S (AA E) s.heap H locs → hv ls 5 [(0, va_rf o0)] → W p l e (rmM 7 161 0 0) s m args below meth c H locs 0 0 (MQ below (QcM E (Qi K R n Q)) args s 0 0 (AA E)) (F0 m 56 ls [.int z0_56]) := by
    intro z0_56 I H locs ls h hR hS hl
    unfold w_L_isNextSo_b56 at h
    refine v_istore (lv' := [(4, .int z0_56), (0, va_rf o0)]) hx hb dL_isNextSo_56 hl (by decide) rfl (fun ls hl => ?_)
    refine v_aload_n hx hb dL_isNextSo_58 rfl (hv_at hl 1 rfl) ?_
    obtain ⟨r1, e_o0, h⟩ := h
    have hl : hv ls 5 [(4, .int z0_56), (0, .ref r1)] := by (try rw [e_o0] at hl); exact hl
    try rw [e_o0]
    obtain ⟨hf2, h⟩ := h
    refine v_cVi (As := []) C hR hS hl.1.1 ca_X6_undo kml_L_64 (L_X6_undo E l r1 I _ h) (IsTag.k hf2) rfl rfl rfl rfl (Nat.le_of_ble_eq_true rfl) ⟨Nat.le_of_ble_eq_true rfl, Nat.le_of_ble_eq_true rfl⟩ ⟨Nat.zero_le _, Nat.zero_le _⟩ dL_isNextSo_59 (fun v4 I3 H locs h hR hS => ?_)
    refine lv_pop hx hb dL_isNextSo_62 rfl ?_
    refine lv_iload hx hb dL_isNextSo_63 (hv_at hl 0 rfl) ?_
    obtain ⟨hb5, h⟩ := h
    exact w_ireti C rfl (bz_nar hb5) hR hS h dL_isNextSo_65
  have hJ55 : ∀ (I : MI) (H : Heap) (locs : List Loc) (ls : Array Slot), w_L_isNextSo_b55 K R o0 Q  I → Rep E K R I n H → va_S (AA E) s.heap H locs → hv ls 5 [(0, va_rf o0)] → W p l e (rmM 7 161 0 0) s m args below meth c H locs 0 0 (MQ below (QcM E (Qi K R n Q)) args s 0 0 (AA E)) (F0 m 55 ls []) := by
    intro  I H locs ls h hR hS hl
    unfold w_L_isNextSo_b55 at h
    refine lv_iconst (v := (0:Int32)) hx hb dL_isNextSo_55 rfl ?_
    exact hJ56 (0:Int32) I _ _ _ h hR hS (hv_sub hl [0] rfl)
  have hJ137 : ∀ (z0_137 : Int32) (I : MI) (H : Heap) (locs : List Loc) (ls : Array Slot), w_L_isNextSo_b137 K R o0 Q z0_137 I → Rep E K R I n H → va_S (AA E) s.heap H locs → hv ls 5 [(0, va_rf o0)] → W p l e (rmM 7 161 0 0) s m args below meth c H locs 0 0 (MQ below (QcM E (Qi K R n Q)) args s 0 0 (AA E)) (F0 m 137 ls [.int z0_137]) := by
    intro z0_137 I H locs ls h hR hS hl
    unfold w_L_isNextSo_b137 at h
    refine v_istore (lv' := [(4, .int z0_137), (0, va_rf o0)]) hx hb dL_isNextSo_137 hl (by decide) rfl (fun ls hl => ?_)
    refine v_aload_n hx hb dL_isNextSo_139 rfl (hv_at hl 1 rfl) ?_
    obtain ⟨r6, e_o0, h⟩ := h
    have hl : hv ls 5 [(4, .int z0_137), (0, .ref r6)] := by (try rw [e_o0] at hl); exact hl
    try rw [e_o0]
    obtain ⟨hf7, h⟩ := h
    refine v_cVi (As := []) C hR hS hl.1.1 ca_X6_undo kml_L_64 (L_X6_undo E l r6 I _ h) (IsTag.k hf7) rfl rfl rfl rfl (Nat.le_of_ble_eq_true rfl) ⟨Nat.le_of_ble_eq_true rfl, Nat.le_of_ble_eq_true rfl⟩ ⟨Nat.zero_le _, Nat.zero_le _⟩ dL_isNextSo_140 (fun v9 I8 H locs h hR hS => ?_)
    refine lv_pop hx hb dL_isNextSo_143 rfl ?_
    refine lv_iload hx hb dL_isNextSo_144 (hv_at hl 0 rfl) ?_
    obtain ⟨hb10, h⟩ := h
    exact w_ireti C rfl (bz_nar hb10) hR hS h dL_isNextSo_146
  have hJ136 : ∀ (I : MI) (H : Heap) (locs : List Loc) (ls : Array Slot), w_L_isNextSo_b136 K R o0 Q  I → Rep E K R I n H → va_S (AA E) s.heap H locs → hv ls 5 [(0, va_rf o0)] → W p l e (rmM 7 161 0 0) s m args below meth c H locs 0 0 (MQ below (QcM E (Qi K R n Q)) args s 0 0 (AA E)) (F0 m 136 ls []) := by
    intro  I H locs ls h hR hS hl
    unfold w_L_isNextSo_b136 at h
    refine lv_iconst (v := (0:Int32)) hx hb dL_isNextSo_136 rfl ?_
    exact hJ137 (0:Int32) I _ _ _ h hR hS (hv_sub hl [0] rfl)
  have hJ128 : ∀ (z0_128 : Int32) (z1_128 : Int32) (z2_128 : Int32) (I : MI) (H : Heap) (locs : List Loc) (ls : Array Slot), w_L_isNextSo_b128 K R o0 Q z0_128 z1_128 z2_128 I → Rep E K R I n H → va_S (AA E) s.heap H locs → hv ls 5 [(0, va_rf o0)] → W p l e (rmM 7 161 0 0) s m args below meth c H locs 0 0 (MQ below (QcM E (Qi K R n Q)) args s 0 0 (AA E)) (F0 m 128 ls [.int z0_128, .int z1_128, .int z2_128]) := by
    intro z0_128 z1_128 z2_128 I H locs ls h hR hS hl
    unfold w_L_isNextSo_b128 at h
    refine lv_iadd hx hb dL_isNextSo_128 ?_
    refine lv_icmp_ne (tgt := 136) hx hb dL_isNextSo_129 (by decide) (fun c11 => ?_) (fun c11 => ?_)
    · replace h := h.1 c11
      exact hJ136 I _ _ _ h hR hS (hv_sub hl [0] rfl)
    · replace h := h.2 c11
      refine lv_iconst (v := (1:Int32)) hx hb dL_isNextSo_132 rfl ?_
      refine lv_goto (tgt := 137) hx hb dL_isNextSo_133 (by decide) ?_
      exact hJ137 (1:Int32) I _ _ _ h hR hS (hv_sub hl [0] rfl)
  have hJ107 : ∀ (y1_107 : Int32) (y2_107 : Int32) (y3_107 : Int32) (z0_107 : Int32) (z1_107 : Int32) (I : MI) (H : Heap) (locs : List Loc) (ls : Array Slot), w_L_isNextSo_b107 K R o0 Q y1_107 y2_107 y3_107 z0_107 z1_107 I → Rep E K R I n H → va_S (AA E) s.heap H locs → hv ls 5 [(0, va_rf o0), (1, .int y1_107), (2, .int y2_107), (3, .int y3_107)] → W p l e (rmM 7 161 0 0) s m args below meth c H locs 0 0 (MQ below (QcM E (Qi K R n Q)) args s 0 0 (AA E)) (F0 m 107 ls [.int z0_107, .int z1_107]) := by
    intro y1_107 y2_107 y3_107 z0_107 z1_107 I H locs ls h hR hS hl
    unfold w_L_isNextSo_b107 at h
    refine lv_icmp_ne (tgt := 136) hx hb dL_isNextSo_107 (by decide) (fun c17 => ?_) (fun c17 => ?_)
    · replace h := h.1 c17
      exact hJ136 I _ _ _ h hR hS (hv_sub hl [0] rfl)
    · replace h := h.2 c17
      refine v_aload_n hx hb dL_isNextSo_110 rfl (hv_at hl 0 rfl) ?_
      refine lv_iload_n hx hb dL_isNextSo_111 rfl (hv_at hl 1 rfl) ?_
      refine lv_bipush (v := (8:Int32)) hx hb dL_isNextSo_112 (by decide) ?_
      obtain ⟨r12, e_o0, h⟩ := h
      have hl : hv ls 5 [(0, .ref r12), (1, .int y1_107), (2, .int y2_107), (3, .int y3_107)] := by (try rw [e_o0] at hl); exact hl
      try rw [e_o0]
      obtain ⟨hf13, h⟩ := h
      refine v_cVi (As := [.int y1_107, .int (8:Int32)]) C hR hS hl.1.1 ca_X6_question kml_L_49 (L_X6_question E l r12 y1_107 (8:Int32) I _ h) (IsTag.k hf13) rfl rfl rfl rfl (Nat.le_of_ble_eq_true rfl) ⟨Nat.le_of_ble_eq_true rfl, Nat.le_of_ble_eq_true rfl⟩ ⟨Nat.zero_le _, Nat.zero_le _⟩ dL_isNextSo_114 (fun v15 I14 H locs h hR hS => ?_)
      refine lv_iload_n hx hb dL_isNextSo_117 rfl (hv_at hl 3 rfl) ?_
      refine lv_iload_n hx hb dL_isNextSo_118 rfl (hv_at hl 2 rfl) ?_
      refine lv_iconst (v := (2:Int32)) hx hb dL_isNextSo_119 rfl ?_
      refine lv_icmp_ne (tgt := 127) hx hb dL_isNextSo_120 (by decide) (fun c16 => ?_) (fun c16 => ?_)
      · replace h := h.1 c16
        refine lv_iconst (v := (0:Int32)) hx hb dL_isNextSo_127 rfl ?_
        exact hJ128 (0:Int32) y3_107 v15 I14 _ _ _ h hR hS (hv_sub hl [0] (by rw [e_o0]; rfl))
      · replace h := h.2 c16
        refine lv_iconst (v := (1:Int32)) hx hb dL_isNextSo_123 rfl ?_
        refine lv_goto (tgt := 128) hx hb dL_isNextSo_124 (by decide) ?_
        exact hJ128 (1:Int32) y3_107 v15 I14 _ _ _ h hR hS (hv_sub hl [0] (by rw [e_o0]; rfl))
  unfold w_L_isNextSo at h
  refine v_aload_n hx hb dL_isNextSo_0 rfl (hv_at hl 0 rfl) ?_
  refine lv_iconst (v := (0:Int32)) hx hb dL_isNextSo_1 rfl ?_
  obtain ⟨r18, e_o0, h⟩ := h
  have hl : hv ls 5 [(0, .ref r18)] := by (try rw [e_o0] at hl); exact hl
  try rw [e_o0]
  obtain ⟨hf19, h⟩ := h
  refine v_cVi (As := [.int (0:Int32)]) C hR hS hl.1.1 ca_X6_next kml_L_61 (L_X6_next E l r18 (0:Int32) I _ h) (IsTag.k hf19) rfl rfl rfl rfl (Nat.le_of_ble_eq_true rfl) ⟨Nat.le_of_ble_eq_true rfl, Nat.le_of_ble_eq_true rfl⟩ ⟨Nat.zero_le _, Nat.zero_le _⟩ dL_isNextSo_2 (fun v21 I20 H locs h hR hS => ?_)
  refine v_istore_n (lv' := [(1, .int v21), (0, .ref r18)]) hx hb dL_isNextSo_5 rfl hl (by decide) rfl (fun ls hl => ?_)
  refine lv_aload_n hx hb dL_isNextSo_6 rfl (hv_at hl 1 rfl) ?_
  refine lv_iconst (v := (1:Int32)) hx hb dL_isNextSo_7 rfl ?_
  refine v_cVi (As := [.int (1:Int32)]) C hR hS hl.1.1 ca_X6_next kml_L_61 (L_X6_next E l r18 (1:Int32) I20 _ h) (IsTag.k hf19) rfl rfl rfl rfl (Nat.le_of_ble_eq_true rfl) ⟨Nat.le_of_ble_eq_true rfl, Nat.le_of_ble_eq_true rfl⟩ ⟨Nat.zero_le _, Nat.zero_le _⟩ dL_isNextSo_8 (fun v23 I22 H locs h hR hS => ?_)
  refine v_istore_n (lv' := [(2, .int v23), (1, .int v21), (0, .ref r18)]) hx hb dL_isNextSo_11 rfl hl (by decide) rfl (fun ls hl => ?_)
  refine lv_iload_n hx hb dL_isNextSo_12 rfl (hv_at hl 0 rfl) ?_
  refine lv_bipush (v := (-5:Int32)) hx hb dL_isNextSo_13 (by decide) ?_
  refine lv_icmp_ne (tgt := 66) hx hb dL_isNextSo_15 (by decide) (fun c42 => ?_) (fun c42 => ?_)
  · replace h := h.1 c42
    refine lv_aload_n hx hb dL_isNextSo_66 rfl (hv_at hl 2 rfl) ?_
    refine lv_iload_n hx hb dL_isNextSo_67 rfl (hv_at hl 1 rfl) ?_
    refine lv_bipush (v := (8:Int32)) hx hb dL_isNextSo_68 (by decide) ?_
    refine v_cVi (As := [.int v21, .int (8:Int32)]) C hR hS hl.1.1 ca_X6_question kml_L_49 (L_X6_question E l r18 v21 (8:Int32) I22 _ h) (IsTag.k hf19) rfl rfl rfl rfl (Nat.le_of_ble_eq_true rfl) ⟨Nat.le_of_ble_eq_true rfl, Nat.le_of_ble_eq_true rfl⟩ ⟨Nat.zero_le _, Nat.zero_le _⟩ dL_isNextSo_70 (fun v25 I24 H locs h hR hS => ?_)
    refine v_istore_n (lv' := [(3, .int v25), (2, .int v23), (1, .int v21), (0, .ref r18)]) hx hb dL_isNextSo_73 rfl hl (by decide) rfl (fun ls hl => ?_)
    refine lv_aload_n hx hb dL_isNextSo_74 rfl (hv_at hl 3 rfl) ?_
    refine lv_iconst (v := (1:Int32)) hx hb dL_isNextSo_75 rfl ?_
    refine v_cVi (As := [.int (1:Int32)]) C hR hS hl.1.1 ca_X6_pass kml_L_40 (L_X6_pass E l r18 (1:Int32) I24 _ h) (IsTag.k hf19) rfl rfl rfl rfl (Nat.le_of_ble_eq_true rfl) ⟨Nat.le_of_ble_eq_true rfl, Nat.le_of_ble_eq_true rfl⟩ ⟨Nat.zero_le _, Nat.zero_le _⟩ dL_isNextSo_76 (fun v27 I26 H locs h hR hS => ?_)
    refine lv_iconst (v := (1:Int32)) hx hb dL_isNextSo_79 rfl ?_
    refine lv_icmp_ne (tgt := 136) hx hb dL_isNextSo_80 (by decide) (fun c32 => ?_) (fun c32 => ?_)
    · replace h := h.1 c32
      exact hJ136 I26 _ _ _ h hR hS (hv_sub hl [3] (by rw [e_o0]; rfl))
    · replace h := h.2 c32
      refine lv_aload_n hx hb dL_isNextSo_83 rfl (hv_at hl 3 rfl) ?_
      refine lv_iload_n hx hb dL_isNextSo_84 rfl (hv_at hl 2 rfl) ?_
      refine lv_iconst (v := (4:Int32)) hx hb dL_isNextSo_85 rfl ?_
      refine v_cVi (As := [.int v21, .int (4:Int32)]) C hR hS hl.1.1 ca_X6_question kml_L_49 (L_X6_question E l r18 v21 (4:Int32) I26 _ h) (IsTag.k hf19) rfl rfl rfl rfl (Nat.le_of_ble_eq_true rfl) ⟨Nat.le_of_ble_eq_true rfl, Nat.le_of_ble_eq_true rfl⟩ ⟨Nat.zero_le _, Nat.zero_le _⟩ dL_isNextSo_86 (fun v29 I28 H locs h hR hS => ?_)
      refine lv_iload_n hx hb dL_isNextSo_89 rfl (hv_at hl 1 rfl) ?_
      refine lv_iconst (v := (1:Int32)) hx hb dL_isNextSo_90 rfl ?_
      refine lv_icmp_ne (tgt := 98) hx hb dL_isNextSo_91 (by decide) (fun c31 => ?_) (fun c31 => ?_)
      · replace h := h.1 c31
        refine lv_iload_n hx hb dL_isNextSo_98 rfl (hv_at hl 1 rfl) ?_
        refine lv_if_ne (tgt := 106) hx hb dL_isNextSo_99 (by decide) (fun c30 => ?_) (fun c30 => ?_)
        · replace h := h.1 c30
          refine lv_iconst (v := (0:Int32)) hx hb dL_isNextSo_106 rfl ?_
          exact hJ107 v21 v23 v25 (0:Int32) v29 I28 _ _ _ h hR hS (hv_sub hl [3, 2, 1, 0] (by rw [e_o0]; rfl))
        · replace h := h.2 c30
          refine lv_iconst (v := (1:Int32)) hx hb dL_isNextSo_102 rfl ?_
          refine lv_goto (tgt := 107) hx hb dL_isNextSo_103 (by decide) ?_
          exact hJ107 v21 v23 v25 (1:Int32) v29 I28 _ _ _ h hR hS (hv_sub hl [3, 2, 1, 0] (by rw [e_o0]; rfl))
      · replace h := h.2 c31
        refine lv_iconst (v := (3:Int32)) hx hb dL_isNextSo_94 rfl ?_
        refine lv_goto (tgt := 107) hx hb dL_isNextSo_95 (by decide) ?_
        exact hJ107 v21 v23 v25 (3:Int32) v29 I28 _ _ _ h hR hS (hv_sub hl [3, 2, 1, 0] (by rw [e_o0]; rfl))
  · replace h := h.2 c42
    refine lv_aload_n hx hb dL_isNextSo_18 rfl (hv_at hl 2 rfl) ?_
    refine lv_bipush (v := (9:Int32)) hx hb dL_isNextSo_19 (by decide) ?_
    refine v_cVi (As := [.int (9:Int32)]) C hR hS hl.1.1 ca_X6_count kml_L_43 (L_X6_count E l r18 (9:Int32) I22 _ h) (IsTag.k hf19) rfl rfl rfl rfl (Nat.le_of_ble_eq_true rfl) ⟨Nat.le_of_ble_eq_true rfl, Nat.le_of_ble_eq_true rfl⟩ ⟨Nat.zero_le _, Nat.zero_le _⟩ dL_isNextSo_21 (fun v34 I33 H locs h hR hS => ?_)
    refine v_istore_n (lv' := [(3, .int v34), (2, .int v23), (1, .int v21), (0, .ref r18)]) hx hb dL_isNextSo_24 rfl hl (by decide) rfl (fun ls hl => ?_)
    refine lv_iload_n hx hb dL_isNextSo_25 rfl (hv_at hl 2 rfl) ?_
    refine lv_bipush (v := (-5:Int32)) hx hb dL_isNextSo_26 (by decide) ?_
    refine lv_icmp_ne (tgt := 55) hx hb dL_isNextSo_28 (by decide) (fun c41 => ?_) (fun c41 => ?_)
    · replace h := h.1 c41
      exact hJ55 I33 _ _ _ h hR hS (hv_sub hl [3] (by rw [e_o0]; rfl))
    · replace h := h.2 c41
      refine lv_aload_n hx hb dL_isNextSo_31 rfl (hv_at hl 3 rfl) ?_
      refine lv_iconst (v := (1:Int32)) hx hb dL_isNextSo_32 rfl ?_
      refine v_cVi (As := [.int (1:Int32)]) C hR hS hl.1.1 ca_X6_pass kml_L_40 (L_X6_pass E l r18 (1:Int32) I33 _ h) (IsTag.k hf19) rfl rfl rfl rfl (Nat.le_of_ble_eq_true rfl) ⟨Nat.le_of_ble_eq_true rfl, Nat.le_of_ble_eq_true rfl⟩ ⟨Nat.zero_le _, Nat.zero_le _⟩ dL_isNextSo_33 (fun v36 I35 H locs h hR hS => ?_)
      refine lv_if_ne (tgt := 55) hx hb dL_isNextSo_36 (by decide) (fun c40 => ?_) (fun c40 => ?_)
      · replace h := h.1 c40
        exact hJ55 I35 _ _ _ h hR hS (hv_sub hl [3] (by rw [e_o0]; rfl))
      · replace h := h.2 c40
        refine lv_aload_n hx hb dL_isNextSo_39 rfl (hv_at hl 3 rfl) ?_
        refine lv_bipush (v := (9:Int32)) hx hb dL_isNextSo_40 (by decide) ?_
        refine v_cVi (As := [.int (9:Int32)]) C hR hS hl.1.1 ca_X6_count kml_L_43 (L_X6_count E l r18 (9:Int32) I35 _ h) (IsTag.k hf19) rfl rfl rfl rfl (Nat.le_of_ble_eq_true rfl) ⟨Nat.le_of_ble_eq_true rfl, Nat.le_of_ble_eq_true rfl⟩ ⟨Nat.zero_le _, Nat.zero_le _⟩ dL_isNextSo_42 (fun v38 I37 H locs h hR hS => ?_)
        refine lv_iload_n hx hb dL_isNextSo_45 rfl (hv_at hl 0 rfl) ?_
        refine lv_iconst (v := (1:Int32)) hx hb dL_isNextSo_46 rfl ?_
        refine lv_iadd hx hb dL_isNextSo_47 ?_
        refine lv_icmp_ne (tgt := 55) hx hb dL_isNextSo_48 (by decide) (fun c39 => ?_) (fun c39 => ?_)
        · replace h := h.1 c39
          exact hJ55 I37 _ _ _ h hR hS (hv_sub hl [3] (by rw [e_o0]; rfl))
        · replace h := h.2 c39
          refine lv_iconst (v := (1:Int32)) hx hb dL_isNextSo_51 rfl ?_
          refine lv_goto (tgt := 56) hx hb dL_isNextSo_52 (by decide) ?_
          exact hJ56 (1:Int32) I37 _ _ _ h hR hS (hv_sub hl [3] (by rw [e_o0]; rfl))
