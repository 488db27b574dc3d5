set_option maxHeartbeats 4000000 in
set_option maxRecDepth 100000 in
theorem L_X7_doAll (E : Ev) (l : Launch) {K : MK} {R : MR} {n : Nat} (a0 : Nat) (I : MI) (Q : MI → Prop) (h : w_X7_doAll K R a0 I Q) : MM E l yX7_doAll cX7_doAll 5 none 1 21 0 0 [.ref a0] K R I n (Qv K R n Q) := by
  refine MM.of1 (by decide) RX7 rfl (cR cN) (Nat.le_of_ble_eq_true rfl) ?_
  intro p e s m args below meth c ls C hin hR hS hl
  have hx := C.1
  have hb := C.2.1
  have hml := C.2.2.1
  have hown := C.2.2.2.1
  have hts := C.2.2.2.2.1
  have hl : hv ls 5 [(0, .ref a0)] := hl
  clear hin
  have hJ2 : ∀ (y1_2 : Int32) (I : MI) (H : Heap) (locs : List Loc) (ls : Array Slot), w_X7_doAll_b2 K R a0 Q y1_2 I → Rep E K R I n H → va_S (AA E) s.heap H locs → hv ls 5 [(0, .ref a0), (1, .int y1_2)] → W p l e (rmM 1 21 0 0) s m args below meth c H locs 0 0 (MQ below (QcM E (Qv K R n Q)) args s 0 0 (AA E)) (F0 m 2 ls []) := by
    intro y1_2 I H locs ls h hR hS hl
    obtain ⟨X2, hX2⟩ : ∃ X : Int32 → MI → Prop, ∀ (y1_2 : Int32) (I : MI), X y1_2 I ↔ (∀ (H : Heap) (locs : List Loc) (ls : Array Slot), Rep E K R I n H → va_S (AA E) s.heap H locs → hv ls 5 [(0, .ref a0), (1, .int y1_2)] → W p l e (rmM 1 21 0 0) s m args below meth c H locs 0 0 (MQ below (QcM E (Qv K R n Q)) args s 0 0 (AA E)) (F0 m 2 ls [])) := ⟨fun y1_2 I => ∀ (H : Heap) (locs : List Loc) (ls : Array Slot), Rep E K R I n H → va_S (AA E) s.heap H locs → hv ls 5 [(0, .ref a0), (1, .int y1_2)] → W p l e (rmM 1 21 0 0) s m args below meth c H locs 0 0 (MQ below (QcM E (Qv K R n Q)) args s 0 0 (AA E)) (F0 m 2 ls []), fun _ _ => Iff.rfl⟩
    refine (hX2 y1_2 I).mp (h X2 ?_) H locs ls hR hS hl
    clear h hR hS hl
    clear ls locs H I y1_2
    have hJ9 : ∀ (y1_9 : Int32) (y2_9 : Int32) (I : MI) (H : Heap) (locs : List Loc) (ls : Array Slot), w_X7_doAll_b9 K R a0 Q X2 y1_9 y2_9 I → Rep E K R I n H → va_S (AA E) s.heap H locs → hv ls 5 [(0, .ref a0), (1, .int y1_9), (2, .int y2_9)] → W p l e (rmM 1 21 0 0) s m args below meth c H locs 0 0 (MQ below (QcM E (Qv K R n Q)) args s 0 0 (AA E)) (F0 m 9 ls []) := by
      intro y1_9 y2_9 I H locs ls h hR hS hl
      obtain ⟨X9, hX9⟩ : ∃ X : Int32 → Int32 → MI → Prop, ∀ (y1_9 : Int32) (y2_9 : Int32) (I : MI), X y1_9 y2_9 I ↔ (∀ (H : Heap) (locs : List Loc) (ls : Array Slot), Rep E K R I n H → va_S (AA E) s.heap H locs → hv ls 5 [(0, .ref a0), (1, .int y1_9), (2, .int y2_9)] → W p l e (rmM 1 21 0 0) s m args below meth c H locs 0 0 (MQ below (QcM E (Qv K R n Q)) args s 0 0 (AA E)) (F0 m 9 ls [])) := ⟨fun y1_9 y2_9 I => ∀ (H : Heap) (locs : List Loc) (ls : Array Slot), Rep E K R I n H → va_S (AA E) s.heap H locs → hv ls 5 [(0, .ref a0), (1, .int y1_9), (2, .int y2_9)] → W p l e (rmM 1 21 0 0) s m args below meth c H locs 0 0 (MQ below (QcM E (Qv K R n Q)) args s 0 0 (AA E)) (F0 m 9 ls []), fun _ _ _ => Iff.rfl⟩
      refine (hX9 y1_9 y2_9 I).mp (h X9 ?_) H locs ls hR hS hl
      clear h hR hS hl
      clear ls locs H I y1_9 y2_9
      have hJ159 : ∀ (y1_159 : Int32) (y2_159 : Int32) (I : MI) (H : Heap) (locs : List Loc) (ls : Array Slot), w_X7_doAll_b159 K R a0 Q X2 X9 y1_159 y2_159 I → Rep E K R I n H → va_S (AA E) s.heap H locs → hv ls 5 [(0, .ref a0), (1, .int y1_159), (2, .int y2_159)] → W p l e (rmM 1 21 0 0) s m args below meth c H locs 0 0 (MQ below (QcM E (Qv K R n Q)) args s 0 0 (AA E)) (F0 m 159 ls []) := by
        intro y1_159 y2_159 I H locs ls h hR hS hl
        unfold w_X7_doAll_b159 at h
        refine v_iinc (v := y2_159 + (1:Int32)) (k := 2) (lv' := [(2, .int (y2_159 + (1:Int32))), (0, .ref a0), (1, .int y1_159)]) hx hb dX7_doAll_159 hl rfl rfl (by decide) rfl (fun ls hl => ?_)
        refine lv_goto (tgt := 9) hx hb dX7_doAll_162 (by decide) ?_
        exact (hX9 y1_159 (y2_159 + (1:Int32)) I).mp h _ _ _ hR hS (hv_sub hl [1, 2, 0] rfl)
      have hJ147 : ∀ (y1_147 : Int32) (y2_147 : Int32) (y3_147 : Int32) (z0_147 : Int32) (z1_147 : Int32) (I : MI) (H : Heap) (locs : List Loc) (ls : Array Slot), w_X7_doAll_b147 K R a0 Q X2 X9 y1_147 y2_147 y3_147 z0_147 z1_147 I → Rep E K R I n H → va_S (AA E) s.heap H locs → hv ls 5 [(0, .ref a0), (1, .int y1_147), (2, .int y2_147), (3, .int y3_147)] → W p l e (rmM 1 21 0 0) s m args below meth c H locs 0 0 (MQ below (QcM E (Qv K R n Q)) args s 0 0 (AA E)) (F0 m 147 ls [.int z0_147, .int z1_147, .ref (a0 + 1)]) := by
        intro y1_147 y2_147 y3_147 z0_147 z1_147 I H locs ls h hR hS hl
        unfold w_X7_doAll_b147 at h
        obtain ⟨hf2, h⟩ := h
        obtain ⟨hi1, h⟩ := h
        obtain ⟨I3, hI3⟩ := ex_eq (upI I (a0 + 1) (ix z1_147) z0_147)
        replace h := h I3 hI3
        refine w_iast C hR hS (IsModel.a0 hf2) hi1 (j := (ix z1_147)) rfl hI3 dX7_doAll_147 (fun H locs hR hS => ?_)
        refine lv_aload_n hx hb dX7_doAll_148 rfl (hv_at hl 0 rfl) ?_
        refine v_get (T := TX7) (v := .ref (a0 + 1)) C hR 0 kfl_X7_7 rfl inG7 (by decide) rfl (IsModel.k hf2) (rf_of (IsModel.r0 hf2 (I3 a0 0))) dX7_doAll_149 ?_
        refine lv_iload_n hx hb dX7_doAll_152 rfl (hv_at hl 3 rfl) ?_
        refine lv_iconst (v := (4:Int32)) hx hb dX7_doAll_153 rfl ?_
        refine v_cSi (As := [.int y3_147, .int (4:Int32)]) C hR hS hl.1.1 ca_X7_of kml_X7_59 (L_X7_of E l y3_147 (4:Int32) I3 _ h) rfl rfl (Nat.le_of_ble_eq_true rfl) ⟨Nat.le_of_ble_eq_true rfl, Nat.le_of_ble_eq_true rfl⟩ ⟨Nat.zero_le _, Nat.zero_le _⟩ dX7_doAll_154 (fun v5 I4 H locs h hR hS => ?_)
        refine lv_iconst (v := (2:Int32)) hx hb dX7_doAll_157 rfl ?_
        obtain ⟨hi6, h⟩ := h
        obtain ⟨I7, hI7⟩ := ex_eq (upI I4 (a0 + 1) (ix v5) (2:Int32))
        replace h := h I7 hI7
        refine w_iast C hR hS (IsModel.a0 hf2) hi6 (j := (ix v5)) rfl hI7 dX7_doAll_158 (fun H locs hR hS => ?_)
        exact hJ159 y1_147 y2_147 I7 _ _ _ h hR hS (hv_sub hl [0, 1, 2] rfl)
      intro y1_9 y2_9 I h
      refine (hX9 y1_9 y2_9 I).mpr ?_
      intro H locs ls hR hS hl
      unfold w_X7_doAll_b9_body at h
      refine lv_iload_n hx hb dX7_doAll_9 rfl (hv_at hl 2 rfl) ?_
      refine lv_aload_n hx hb dX7_doAll_10 rfl (hv_at hl 0 rfl) ?_
      obtain ⟨hf8, h⟩ := h
      refine v_get (T := TX7) (v := .ref (a0 + 1)) C hR 0 kfl_X7_7 rfl inG7 (by decide) rfl (IsModel.k hf8) (rf_of (IsModel.r0 hf8 (I a0 0))) dX7_doAll_11 ?_
      refine lv_iload_n hx hb dX7_doAll_14 rfl (hv_at hl 1 rfl) ?_
      refine lv_bipush (v := (19:Int32)) hx hb dX7_doAll_15 (by decide) ?_
      refine v_cSi (As := [.int y1_9, .int (19:Int32)]) C hR hS hl.1.1 ca_X7_ofTarget kml_X7_35 (L_X7_ofTarget E l y1_9 (19:Int32) I _ h) rfl rfl (Nat.le_of_ble_eq_true rfl) ⟨Nat.le_of_ble_eq_true rfl, Nat.le_of_ble_eq_true rfl⟩ ⟨Nat.zero_le _, Nat.zero_le _⟩ dX7_doAll_17 (fun v10 I9 H locs h hR hS => ?_)
      obtain ⟨hi11, h⟩ := h
      refine w_iald C hR (IsModel.a0 hf8) hi11 (j := (ix v10)) rfl dX7_doAll_20 ?_
      refine lv_icmp_ge (tgt := 165) hx hb dX7_doAll_21 (by decide) (fun c41 => ?_) (fun c41 => ?_)
      · replace h := h.1 c41
        refine v_iinc (v := y1_9 + (1:Int32)) (k := 1) (lv' := [(1, .int (y1_9 + (1:Int32))), (0, .ref a0), (2, .int y2_9)]) hx hb dX7_doAll_165 hl rfl rfl (by decide) rfl (fun ls hl => ?_)
        refine lv_goto (tgt := 2) hx hb dX7_doAll_168 (by decide) ?_
        exact (hX2 (y1_9 + (1:Int32)) I9).mp h _ _ _ hR hS (hv_sub hl [1, 0] rfl)
      · replace h := h.2 c41
        refine lv_aload_n hx hb dX7_doAll_24 rfl (hv_at hl 0 rfl) ?_
        refine v_get (T := TX7) (v := .ref (a0 + 1)) C hR 0 kfl_X7_7 rfl inG7 (by decide) rfl (IsModel.k hf8) (rf_of (IsModel.r0 hf8 (I9 a0 0))) dX7_doAll_25 ?_
        refine lv_iload_n hx hb dX7_doAll_28 rfl (hv_at hl 1 rfl) ?_
        refine lv_bipush (v := (20:Int32)) hx hb dX7_doAll_29 (by decide) ?_
        refine lv_iload_n hx hb dX7_doAll_31 rfl (hv_at hl 2 rfl) ?_
        refine lv_iadd hx hb dX7_doAll_32 ?_
        refine v_cSi (As := [.int y1_9, .int ((20:Int32) + y2_9)]) C hR hS hl.1.1 ca_X7_ofTarget kml_X7_35 (L_X7_ofTarget E l y1_9 ((20:Int32) + y2_9) I9 _ h) rfl rfl (Nat.le_of_ble_eq_true rfl) ⟨Nat.le_of_ble_eq_true rfl, Nat.le_of_ble_eq_true rfl⟩ ⟨Nat.zero_le _, Nat.zero_le _⟩ dX7_doAll_33 (fun v13 I12 H locs h hR hS => ?_)
        obtain ⟨hi14, h⟩ := h
        refine w_iald C hR (IsModel.a0 hf8) hi14 (j := (ix v13)) rfl dX7_doAll_36 ?_
        refine v_istore_n (lv' := [(3, .int (I12 (a0 + 1) (ix v13))), (0, .ref a0), (1, .int y1_9), (2, .int y2_9)]) hx hb dX7_doAll_37 rfl hl (by decide) rfl (fun ls hl => ?_)
        refine lv_aload_n hx hb dX7_doAll_38 rfl (hv_at hl 1 rfl) ?_
        refine v_get (T := TX7) (v := .ref (a0 + 1)) C hR 0 kfl_X7_7 rfl inG7 (by decide) rfl (IsModel.k hf8) (rf_of (IsModel.r0 hf8 (I12 a0 0))) dX7_doAll_39 ?_
        refine lv_iload_n hx hb dX7_doAll_42 rfl (hv_at hl 0 rfl) ?_
        refine lv_iconst (v := (4:Int32)) hx hb dX7_doAll_43 rfl ?_
        refine v_cSi (As := [.int (I12 (a0 + 1) (ix v13)), .int (4:Int32)]) C hR hS hl.1.1 ca_X7_of kml_X7_59 (L_X7_of E l (I12 (a0 + 1) (ix v13)) (4:Int32) I12 _ h) rfl rfl (Nat.le_of_ble_eq_true rfl) ⟨Nat.le_of_ble_eq_true rfl, Nat.le_of_ble_eq_true rfl⟩ ⟨Nat.zero_le _, Nat.zero_le _⟩ dX7_doAll_44 (fun v16 I15 H locs h hR hS => ?_)
        obtain ⟨hi17, h⟩ := h
        refine w_iald C hR (IsModel.a0 hf8) hi17 (j := (ix v16)) rfl dX7_doAll_47 ?_
        refine lv_iconst (v := (1:Int32)) hx hb dX7_doAll_48 rfl ?_
        refine lv_icmp_ne (tgt := 159) hx hb dX7_doAll_49 (by decide) (fun c40 => ?_) (fun c40 => ?_)
        · replace h := h.1 c40
          exact hJ159 y1_9 y2_9 I15 _ _ _ h hR hS (hv_sub hl [1, 2, 3] rfl)
        · replace h := h.2 c40
          refine lv_aload_n hx hb dX7_doAll_52 rfl (hv_at hl 1 rfl) ?_
          refine v_get (T := TX7) (v := .ref (a0 + 1)) C hR 0 kfl_X7_7 rfl inG7 (by decide) rfl (IsModel.k hf8) (rf_of (IsModel.r0 hf8 (I15 a0 0))) dX7_doAll_53 ?_
          refine lv_iload_n hx hb dX7_doAll_56 rfl (hv_at hl 0 rfl) ?_
          refine lv_bipush (v := (10:Int32)) hx hb dX7_doAll_57 (by decide) ?_
          refine v_cSi (As := [.int (I12 (a0 + 1) (ix v13)), .int (10:Int32)]) C hR hS hl.1.1 ca_X7_of kml_X7_59 (L_X7_of E l (I12 (a0 + 1) (ix v13)) (10:Int32) I15 _ h) rfl rfl (Nat.le_of_ble_eq_true rfl) ⟨Nat.le_of_ble_eq_true rfl, Nat.le_of_ble_eq_true rfl⟩ ⟨Nat.zero_le _, Nat.zero_le _⟩ dX7_doAll_59 (fun v19 I18 H locs h hR hS => ?_)
          obtain ⟨hi20, h⟩ := h
          refine w_iald C hR (IsModel.a0 hf8) hi20 (j := (ix v19)) rfl dX7_doAll_62 ?_
          refine lv_aload_n hx hb dX7_doAll_63 rfl (hv_at hl 1 rfl) ?_
          refine v_get (T := TX7) (v := .ref (a0 + 1)) C hR 0 kfl_X7_7 rfl inG7 (by decide) rfl (IsModel.k hf8) (rf_of (IsModel.r0 hf8 (I18 a0 0))) dX7_doAll_64 ?_
          refine lv_iconst (v := (0:Int32)) hx hb dX7_doAll_67 rfl ?_
          refine w_iald C hR (IsModel.a0 hf8) (show vp_in (0:Int32) 2361 by unfold vp_in; decide) (j := 0) (by decide) dX7_doAll_68 ?_
          refine lv_icmp_ne (tgt := 159) hx hb dX7_doAll_69 (by decide) (fun c39 => ?_) (fun c39 => ?_)
          · replace h := h.1 c39
            exact hJ159 y1_9 y2_9 I18 _ _ _ h hR hS (hv_sub hl [1, 2, 3] rfl)
          · replace h := h.2 c39
            refine lv_iload_n hx hb dX7_doAll_72 rfl (hv_at hl 2 rfl) ?_
            refine lv_aload_n hx hb dX7_doAll_73 rfl (hv_at hl 1 rfl) ?_
            refine v_get (T := TX7) (v := .ref (a0 + 1)) C hR 0 kfl_X7_7 rfl inG7 (by decide) rfl (IsModel.k hf8) (rf_of (IsModel.r0 hf8 (I18 a0 0))) dX7_doAll_74 ?_
            refine lv_iload_n hx hb dX7_doAll_77 rfl (hv_at hl 0 rfl) ?_
            refine lv_iconst (v := (2:Int32)) hx hb dX7_doAll_78 rfl ?_
            refine v_cSi (As := [.int (I12 (a0 + 1) (ix v13)), .int (2:Int32)]) C hR hS hl.1.1 ca_X7_of kml_X7_59 (L_X7_of E l (I12 (a0 + 1) (ix v13)) (2:Int32) I18 _ h) rfl rfl (Nat.le_of_ble_eq_true rfl) ⟨Nat.le_of_ble_eq_true rfl, Nat.le_of_ble_eq_true rfl⟩ ⟨Nat.zero_le _, Nat.zero_le _⟩ dX7_doAll_79 (fun v22 I21 H locs h hR hS => ?_)
            obtain ⟨hi23, h⟩ := h
            refine w_iald C hR (IsModel.a0 hf8) hi23 (j := (ix v22)) rfl dX7_doAll_82 ?_
            refine v_cSi (As := [.int y1_9, .int (I21 (a0 + 1) (ix v22))]) C hR hS hl.1.1 ca_X7_ofTarget kml_X7_35 (L_X7_ofTarget E l y1_9 (I21 (a0 + 1) (ix v22)) I21 _ h) rfl rfl (Nat.le_of_ble_eq_true rfl) ⟨Nat.le_of_ble_eq_true rfl, Nat.le_of_ble_eq_true rfl⟩ ⟨Nat.zero_le _, Nat.zero_le _⟩ dX7_doAll_83 (fun v25 I24 H locs h hR hS => ?_)
            refine v_istore (lv' := [(4, .int v25), (3, .int (I12 (a0 + 1) (ix v13))), (0, .ref a0), (1, .int y1_9), (2, .int y2_9)]) hx hb dX7_doAll_86 hl (by decide) rfl (fun ls hl => ?_)
            refine lv_aload_n hx hb dX7_doAll_88 rfl (hv_at hl 2 rfl) ?_
            refine v_get (T := TX7) (v := .ref (a0 + 1)) C hR 0 kfl_X7_7 rfl inG7 (by decide) rfl (IsModel.k hf8) (rf_of (IsModel.r0 hf8 (I24 a0 0))) dX7_doAll_89 ?_
            refine lv_iload_n hx hb dX7_doAll_92 rfl (hv_at hl 1 rfl) ?_
            refine lv_bipush (v := (6:Int32)) hx hb dX7_doAll_93 (by decide) ?_
            refine v_cSi (As := [.int (I12 (a0 + 1) (ix v13)), .int (6:Int32)]) C hR hS hl.1.1 ca_X7_of kml_X7_59 (L_X7_of E l (I12 (a0 + 1) (ix v13)) (6:Int32) I24 _ h) rfl rfl (Nat.le_of_ble_eq_true rfl) ⟨Nat.le_of_ble_eq_true rfl, Nat.le_of_ble_eq_true rfl⟩ ⟨Nat.zero_le _, Nat.zero_le _⟩ dX7_doAll_95 (fun v27 I26 H locs h hR hS => ?_)
            refine lv_aload_n hx hb dX7_doAll_98 rfl (hv_at hl 2 rfl) ?_
            refine v_get (T := TX7) (v := .ref (a0 + 1)) C hR 0 kfl_X7_7 rfl inG7 (by decide) rfl (IsModel.k hf8) (rf_of (IsModel.r0 hf8 (I26 a0 0))) dX7_doAll_99 ?_
            refine lv_iload hx hb dX7_doAll_102 (hv_at hl 0 rfl) ?_
            obtain ⟨hi28, h⟩ := h
            refine w_iald C hR (IsModel.a0 hf8) hi28 (j := (ix v25)) rfl dX7_doAll_104 ?_
            obtain ⟨hi29, h⟩ := h
            obtain ⟨I30, hI30⟩ := ex_eq (upI I26 (a0 + 1) (ix v27) (I26 (a0 + 1) (ix v25)))
            replace h := h I30 hI30
            refine w_iast C hR hS (IsModel.a0 hf8) hi29 (j := (ix v27)) rfl hI30 dX7_doAll_105 (fun H locs hR hS => ?_)
            refine lv_aload_n hx hb dX7_doAll_106 rfl (hv_at hl 2 rfl) ?_
            refine v_get (T := TX7) (v := .ref (a0 + 1)) C hR 0 kfl_X7_7 rfl inG7 (by decide) rfl (IsModel.k hf8) (rf_of (IsModel.r0 hf8 (I30 a0 0))) dX7_doAll_107 ?_
            refine lv_iload hx hb dX7_doAll_110 (hv_at hl 0 rfl) ?_
            refine lv_aload_n hx hb dX7_doAll_112 rfl (hv_at hl 2 rfl) ?_
            refine v_get (T := TX7) (v := .ref (a0 + 1)) C hR 0 kfl_X7_7 rfl inG7 (by decide) rfl (IsModel.k hf8) (rf_of (IsModel.r0 hf8 (I30 a0 0))) dX7_doAll_113 ?_
            refine lv_iload_n hx hb dX7_doAll_116 rfl (hv_at hl 1 rfl) ?_
            refine lv_iconst (v := (3:Int32)) hx hb dX7_doAll_117 rfl ?_
            refine v_cSi (As := [.int (I12 (a0 + 1) (ix v13)), .int (3:Int32)]) C hR hS hl.1.1 ca_X7_of kml_X7_59 (L_X7_of E l (I12 (a0 + 1) (ix v13)) (3:Int32) I30 _ h) rfl rfl (Nat.le_of_ble_eq_true rfl) ⟨Nat.le_of_ble_eq_true rfl, Nat.le_of_ble_eq_true rfl⟩ ⟨Nat.zero_le _, Nat.zero_le _⟩ dX7_doAll_118 (fun v32 I31 H locs h hR hS => ?_)
            obtain ⟨hi33, h⟩ := h
            refine w_iald C hR (IsModel.a0 hf8) hi33 (j := (ix v32)) rfl dX7_doAll_121 ?_
            refine lv_bipush (v := (-5:Int32)) hx hb dX7_doAll_122 (by decide) ?_
            refine lv_icmp_ne (tgt := 137) hx hb dX7_doAll_124 (by decide) (fun c38 => ?_) (fun c38 => ?_)
            · replace h := h.1 c38
              refine lv_aload_n hx hb dX7_doAll_137 rfl (hv_at hl 2 rfl) ?_
              refine v_get (T := TX7) (v := .ref (a0 + 1)) C hR 0 kfl_X7_7 rfl inG7 (by decide) rfl (IsModel.k hf8) (rf_of (IsModel.r0 hf8 (I31 a0 0))) dX7_doAll_138 ?_
              refine lv_iload_n hx hb dX7_doAll_141 rfl (hv_at hl 1 rfl) ?_
              refine lv_iconst (v := (3:Int32)) hx hb dX7_doAll_142 rfl ?_
              refine v_cSi (As := [.int (I12 (a0 + 1) (ix v13)), .int (3:Int32)]) C hR hS hl.1.1 ca_X7_of kml_X7_59 (L_X7_of E l (I12 (a0 + 1) (ix v13)) (3:Int32) I31 _ h) rfl rfl (Nat.le_of_ble_eq_true rfl) ⟨Nat.le_of_ble_eq_true rfl, Nat.le_of_ble_eq_true rfl⟩ ⟨Nat.zero_le _, Nat.zero_le _⟩ dX7_doAll_143 (fun v35 I34 H locs h hR hS => ?_)
              obtain ⟨hi36, h⟩ := h
              refine w_iald C hR (IsModel.a0 hf8) hi36 (j := (ix v35)) rfl dX7_doAll_146 ?_
              exact hJ147 y1_9 y2_9 (I12 (a0 + 1) (ix v13)) (I34 (a0 + 1) (ix v35)) v25 I34 _ _ _ h hR hS (hv_sub hl [2, 3, 4, 1] rfl)
            · replace h := h.2 c38
              refine lv_aload_n hx hb dX7_doAll_127 rfl (hv_at hl 2 rfl) ?_
              refine v_get (T := TX7) (v := .ref (a0 + 1)) C hR 0 kfl_X7_7 rfl inG7 (by decide) rfl (IsModel.k hf8) (rf_of (IsModel.r0 hf8 (I31 a0 0))) dX7_doAll_128 ?_
              refine lv_iload hx hb dX7_doAll_131 (hv_at hl 0 rfl) ?_
              obtain ⟨hi37, h⟩ := h
              refine w_iald C hR (IsModel.a0 hf8) hi37 (j := (ix v25)) rfl dX7_doAll_133 ?_
              refine lv_goto (tgt := 147) hx hb dX7_doAll_134 (by decide) ?_
              exact hJ147 y1_9 y2_9 (I12 (a0 + 1) (ix v13)) (I31 (a0 + 1) (ix v25)) v25 I31 _ _ _ h hR hS (hv_sub hl [2, 3, 4, 1] rfl)
    intro y1_2 I h
    refine (hX2 y1_2 I).mpr ?_
    intro H locs ls hR hS hl
    unfold w_X7_doAll_b2_body at h
    refine lv_iload_n hx hb dX7_doAll_2 rfl (hv_at hl 1 rfl) ?_
    refine lv_iconst (v := (4:Int32)) hx hb dX7_doAll_3 rfl ?_
    refine lv_icmp_ge (tgt := 171) hx hb dX7_doAll_4 (by decide) (fun c42 => ?_) (fun c42 => ?_)
    · replace h := h.1 c42
      exact w_vret C rfl hR hS h dX7_doAll_171
    · replace h := h.2 c42
      refine lv_iconst (v := (0:Int32)) hx hb dX7_doAll_7 rfl ?_
      refine v_istore_n (lv' := [(2, .int (0:Int32)), (0, .ref a0), (1, .int y1_2)]) hx hb dX7_doAll_8 rfl hl (by decide) rfl (fun ls hl => ?_)
      exact hJ9 y1_2 (0:Int32) I _ _ _ h hR hS (hv_sub hl [1, 2, 0] rfl)
  unfold w_X7_doAll at h
  refine lv_iconst (v := (0:Int32)) hx hb dX7_doAll_0 rfl ?_
  refine v_istore_n (lv' := [(1, .int (0:Int32)), (0, .ref a0)]) hx hb dX7_doAll_1 rfl hl (by decide) rfl (fun ls hl => ?_)
  exact hJ2 (0:Int32) I _ _ _ h hR hS (hv_sub hl [1, 0] rfl)
set_option maxHeartbeats 4000000 in
set_option maxRecDepth 100000 in
theorem L_X7_answering (E : Ev) (l : Launch) {K : MK} {R : MR} {n : Nat} (a0 : Nat) (x1 : Int32) (I : MI) (Q : Int32 → MI → Prop) (h : w_X7_answering K R a0 x1 I Q) : MM E l yX7_answering cX7_answering 7 (some Jvm.ClassFile.FieldType.int) 1 21 0 0 [.ref a0, .int x1] K R I n (Qi K R n Q) := by
  refine MM.of1 (by decide) RX7 rfl (cR (cI cN)) (Nat.le_of_ble_eq_true rfl) ?_
  intro p e s m args below meth c ls C hin hR hS hl
  have hx := C.1
  have hb := C.2.1
  have hml := C.2.2.1
  have hown := C.2.2.2.1
  have hts := C.2.2.2.2.1
  have hl : hv ls 7 [(0, .ref a0), (1, .int x1)] := hl
  clear hin
  have hJ51 : ∀ (y2_51 : Int32) (y3_51 : Int32) (y4_51 : Int32) (I : MI) (H : Heap) (locs : List Loc) (ls : Array Slot), w_X7_answering_b51 K R a0 x1 Q y2_51 y3_51 y4_51 I → Rep E K R I n H → va_S (AA E) s.heap H locs → hv ls 7 [(0, .ref a0), (1, .int x1), (2, .int y2_51), (3, .int y3_51), (4, .int y4_51)] → W p l e (rmM 1 21 0 0) s m args below meth c H locs 0 0 (MQ below (QcM E (Qi K R n Q)) args s 0 0 (AA E)) (F0 m 51 ls []) := by
    intro y2_51 y3_51 y4_51 I H locs ls h hR hS hl
    obtain ⟨X51, hX51⟩ : ∃ X : Int32 → Int32 → Int32 → MI → Prop, ∀ (y2_51 : Int32) (y3_51 : Int32) (y4_51 : Int32) (I : MI), X y2_51 y3_51 y4_51 I ↔ (∀ (H : Heap) (locs : List Loc) (ls : Array Slot), Rep E K R I n H → va_S (AA E) s.heap H locs → hv ls 7 [(0, .ref a0), (1, .int x1), (2, .int y2_51), (3, .int y3_51), (4, .int y4_51)] → W p l e (rmM 1 21 0 0) s m args below meth c H locs 0 0 (MQ below (QcM E (Qi K R n Q)) args s 0 0 (AA E)) (F0 m 51 ls [])) := ⟨fun y2_51 y3_51 y4_51 I => ∀ (H : Heap) (locs : List Loc) (ls : Array Slot), Rep E K R I n H → va_S (AA E) s.heap H locs → hv ls 7 [(0, .ref a0), (1, .int x1), (2, .int y2_51), (3, .int y3_51), (4, .int y4_51)] → W p l e (rmM 1 21 0 0) s m args below meth c H locs 0 0 (MQ below (QcM E (Qi K R n Q)) args s 0 0 (AA E)) (F0 m 51 ls []), fun _ _ _ _ => Iff.rfl⟩
    refine (hX51 y2_51 y3_51 y4_51 I).mp (h X51 ?_) H locs ls hR hS hl
    clear h hR hS hl
    clear ls locs H I y2_51 y3_51 y4_51
    have hJ150 : ∀ (y3_150 : Int32) (y4_150 : Int32) (z0_150 : Int32) (I : MI) (H : Heap) (locs : List Loc) (ls : Array Slot), w_X7_answering_b150 K R a0 x1 Q X51 y3_150 y4_150 z0_150 I → Rep E K R I n H → va_S (AA E) s.heap H locs → hv ls 7 [(0, .ref a0), (1, .int x1), (3, .int y3_150), (4, .int y4_150)] → W p l e (rmM 1 21 0 0) s m args below meth c H locs 0 0 (MQ below (QcM E (Qi K R n Q)) args s 0 0 (AA E)) (F0 m 150 ls [.int z0_150]) := by
      intro y3_150 y4_150 z0_150 I H locs ls h hR hS hl
      unfold w_X7_answering_b150 at h
      refine v_istore_n (lv' := [(2, .int z0_150), (0, .ref a0), (1, .int x1), (3, .int y3_150), (4, .int y4_150)]) hx hb dX7_answering_150 rfl hl (by decide) rfl (fun ls hl => ?_)
      refine v_iinc (v := y4_150 + (1:Int32)) (k := 4) (lv' := [(4, .int (y4_150 + (1:Int32))), (2, .int z0_150), (0, .ref a0), (1, .int x1), (3, .int y3_150)]) hx hb dX7_answering_151 hl rfl rfl (by decide) rfl (fun ls hl => ?_)
      refine lv_goto (tgt := 51) hx hb dX7_answering_154 (by decide) ?_
      exact (hX51 z0_150 y3_150 (y4_150 + (1:Int32)) I).mp h _ _ _ hR hS (hv_sub hl [2, 3, 1, 4, 0] rfl)
    have hJ149 : ∀ (y2_149 : Int32) (y3_149 : Int32) (y4_149 : Int32) (I : MI) (H : Heap) (locs : List Loc) (ls : Array Slot), w_X7_answering_b149 K R a0 x1 Q X51 y2_149 y3_149 y4_149 I → Rep E K R I n H → va_S (AA E) s.heap H locs → hv ls 7 [(0, .ref a0), (1, .int x1), (2, .int y2_149), (3, .int y3_149), (4, .int y4_149)] → W p l e (rmM 1 21 0 0) s m args below meth c H locs 0 0 (MQ below (QcM E (Qi K R n Q)) args s 0 0 (AA E)) (F0 m 149 ls []) := by
      intro y2_149 y3_149 y4_149 I H locs ls h hR hS hl
      unfold w_X7_answering_b149 at h
      refine lv_iload_n hx hb dX7_answering_149 rfl (hv_at hl 2 rfl) ?_
      exact hJ150 y3_149 y4_149 y2_149 I _ _ _ h hR hS (hv_sub hl [0, 1, 3, 4] rfl)
    have hJ122 : ∀ (y2_122 : Int32) (y3_122 : Int32) (y4_122 : Int32) (y5_122 : Int32) (z0_122 : Int32) (I : MI) (H : Heap) (locs : List Loc) (ls : Array Slot), w_X7_answering_b122 K R a0 x1 Q X51 y2_122 y3_122 y4_122 y5_122 z0_122 I → Rep E K R I n H → va_S (AA E) s.heap H locs → hv ls 7 [(0, .ref a0), (1, .int x1), (2, .int y2_122), (3, .int y3_122), (4, .int y4_122), (5, .int y5_122)] → W p l e (rmM 1 21 0 0) s m args below meth c H locs 0 0 (MQ below (QcM E (Qi K R n Q)) args s 0 0 (AA E)) (F0 m 122 ls [.int z0_122]) := by
      intro y2_122 y3_122 y4_122 y5_122 z0_122 I H locs ls h hR hS hl
      unfold w_X7_answering_b122 at h
      refine v_istore (lv' := [(6, .int z0_122), (0, .ref a0), (1, .int x1), (2, .int y2_122), (3, .int y3_122), (4, .int y4_122), (5, .int y5_122)]) hx hb dX7_answering_122 hl (by decide) rfl (fun ls hl => ?_)
      refine lv_aload_n hx hb dX7_answering_124 rfl (hv_at hl 1 rfl) ?_
      obtain ⟨hf1, h⟩ := h
      refine v_get (T := TX7) (v := .ref (a0 + 1)) C hR 0 kfl_X7_7 rfl inG7 (by decide) rfl (IsModel.k hf1) (rf_of (IsModel.r0 hf1 (I a0 0))) dX7_answering_125 ?_
      refine lv_iload hx hb dX7_answering_128 (hv_at hl 6 rfl) ?_
      refine lv_iconst (v := (4:Int32)) hx hb dX7_answering_130 rfl ?_
      refine v_cSi (As := [.int y5_122, .int (4:Int32)]) C hR hS hl.1.1 ca_X7_of kml_X7_59 (L_X7_of E l y5_122 (4:Int32) I _ h) rfl rfl (Nat.le_of_ble_eq_true rfl) ⟨Nat.le_of_ble_eq_true rfl, Nat.le_of_ble_eq_true rfl⟩ ⟨Nat.zero_le _, Nat.zero_le _⟩ dX7_answering_131 (fun v3 I2 H locs h hR hS => ?_)
      obtain ⟨hi4, h⟩ := h
      refine w_iald C hR (IsModel.a0 hf1) hi4 (j := (ix v3)) rfl dX7_answering_134 ?_
      refine lv_iconst (v := (2:Int32)) hx hb dX7_answering_135 rfl ?_
      refine lv_icmp_ne (tgt := 149) hx hb dX7_answering_136 (by decide) (fun c6 => ?_) (fun c6 => ?_)
      · replace h := h.1 c6
        exact hJ149 y2_122 y3_122 y4_122 I2 _ _ _ h hR hS (hv_sub hl [1, 2, 3, 4, 5] rfl)
      · replace h := h.2 c6
        refine lv_iload hx hb dX7_answering_139 (hv_at hl 0 rfl) ?_
        refine lv_if_eq (tgt := 149) hx hb dX7_answering_141 (by decide) (fun c5 => ?_) (fun c5 => ?_)
        · replace h := h.1 c5
          exact hJ149 y2_122 y3_122 y4_122 I2 _ _ _ h hR hS (hv_sub hl [1, 2, 3, 4, 5] rfl)
        · replace h := h.2 c5
          refine lv_iload hx hb dX7_answering_144 (hv_at hl 5 rfl) ?_
          refine lv_goto (tgt := 150) hx hb dX7_answering_146 (by decide) ?_
          exact hJ150 y3_122 y4_122 y4_122 I2 _ _ _ h hR hS (hv_sub hl [1, 2, 4, 5] rfl)
    have hJ117 : ∀ (y2_117 : Int32) (y3_117 : Int32) (y4_117 : Int32) (y5_117 : Int32) (I : MI) (H : Heap) (locs : List Loc) (ls : Array Slot), w_X7_answering_b117 K R a0 x1 Q X51 y2_117 y3_117 y4_117 y5_117 I → Rep E K R I n H → va_S (AA E) s.heap H locs → hv ls 7 [(0, .ref a0), (1, .int x1), (2, .int y2_117), (3, .int y3_117), (4, .int y4_117), (5, .int y5_117)] → W p l e (rmM 1 21 0 0) s m args below meth c H locs 0 0 (MQ below (QcM E (Qi K R n Q)) args s 0 0 (AA E)) (F0 m 117 ls []) := by
      intro y2_117 y3_117 y4_117 y5_117 I H locs ls h hR hS hl
      unfold w_X7_answering_b117 at h
      refine lv_iconst (v := (1:Int32)) hx hb dX7_answering_117 rfl ?_
      refine lv_goto (tgt := 122) hx hb dX7_answering_118 (by decide) ?_
      exact hJ122 y2_117 y3_117 y4_117 y5_117 (1:Int32) I _ _ _ h hR hS (hv_sub hl [0, 1, 2, 3, 4, 5] rfl)
    intro y2_51 y3_51 y4_51 I h
    refine (hX51 y2_51 y3_51 y4_51 I).mpr ?_
    intro H locs ls hR hS hl
    unfold w_X7_answering_b51_body at h
    refine lv_iload hx hb dX7_answering_51 (hv_at hl 4 rfl) ?_
    refine lv_iload_n hx hb dX7_answering_53 rfl (hv_at hl 3 rfl) ?_
    refine lv_icmp_ge (tgt := 157) hx hb dX7_answering_54 (by decide) (fun c22 => ?_) (fun c22 => ?_)
    · replace h := h.1 c22
      refine lv_iload_n hx hb dX7_answering_157 rfl (hv_at hl 2 rfl) ?_
      exact w_ireti C rfl rfl hR hS h dX7_answering_158
    · replace h := h.2 c22
      refine lv_aload_n hx hb dX7_answering_57 rfl (hv_at hl 0 rfl) ?_
      obtain ⟨hf7, h⟩ := h
      refine v_get (T := TX7) (v := .ref (a0 + 1)) C hR 0 kfl_X7_7 rfl inG7 (by decide) rfl (IsModel.k hf7) (rf_of (IsModel.r0 hf7 (I a0 0))) dX7_answering_58 ?_
      refine lv_iload_n hx hb dX7_answering_61 rfl (hv_at hl 1 rfl) ?_
      refine lv_bipush (v := (20:Int32)) hx hb dX7_answering_62 (by decide) ?_
      refine lv_iload hx hb dX7_answering_64 (hv_at hl 4 rfl) ?_
      refine lv_iadd hx hb dX7_answering_66 ?_
      refine v_cSi (As := [.int x1, .int ((20:Int32) + y4_51)]) C hR hS hl.1.1 ca_X7_ofTarget kml_X7_35 (L_X7_ofTarget E l x1 ((20:Int32) + y4_51) I _ h) rfl rfl (Nat.le_of_ble_eq_true rfl) ⟨Nat.le_of_ble_eq_true rfl, Nat.le_of_ble_eq_true rfl⟩ ⟨Nat.zero_le _, Nat.zero_le _⟩ dX7_answering_67 (fun v9 I8 H locs h hR hS => ?_)
      obtain ⟨hi10, h⟩ := h
      refine w_iald C hR (IsModel.a0 hf7) hi10 (j := (ix v9)) rfl dX7_answering_70 ?_
      refine v_istore (lv' := [(5, .int (I8 (a0 + 1) (ix v9))), (0, .ref a0), (1, .int x1), (2, .int y2_51), (3, .int y3_51), (4, .int y4_51)]) hx hb dX7_answering_71 hl (by decide) rfl (fun ls hl => ?_)
      refine lv_iload_n hx hb dX7_answering_73 rfl (hv_at hl 3 rfl) ?_
      refine lv_bipush (v := (-5:Int32)) hx hb dX7_answering_74 (by decide) ?_
      refine lv_icmp_eq (tgt := 117) hx hb dX7_answering_76 (by decide) (fun c21 => ?_) (fun c21 => ?_)
      · replace h := h.1 c21
        exact hJ117 y2_51 y3_51 y4_51 (I8 (a0 + 1) (ix v9)) I8 _ _ _ h hR hS (hv_sub hl [1, 2, 3, 4, 5, 0] rfl)
      · replace h := h.2 c21
        refine lv_aload_n hx hb dX7_answering_79 rfl (hv_at hl 1 rfl) ?_
        refine v_get (T := TX7) (v := .ref (a0 + 1)) C hR 0 kfl_X7_7 rfl inG7 (by decide) rfl (IsModel.k hf7) (rf_of (IsModel.r0 hf7 (I8 a0 0))) dX7_answering_80 ?_
        refine lv_iload hx hb dX7_answering_83 (hv_at hl 0 rfl) ?_
        refine lv_bipush (v := (10:Int32)) hx hb dX7_answering_85 (by decide) ?_
        refine v_cSi (As := [.int (I8 (a0 + 1) (ix v9)), .int (10:Int32)]) C hR hS hl.1.1 ca_X7_of kml_X7_59 (L_X7_of E l (I8 (a0 + 1) (ix v9)) (10:Int32) I8 _ h) rfl rfl (Nat.le_of_ble_eq_true rfl) ⟨Nat.le_of_ble_eq_true rfl, Nat.le_of_ble_eq_true rfl⟩ ⟨Nat.zero_le _, Nat.zero_le _⟩ dX7_answering_87 (fun v12 I11 H locs h hR hS => ?_)
        obtain ⟨hi13, h⟩ := h
        refine w_iald C hR (IsModel.a0 hf7) hi13 (j := (ix v12)) rfl dX7_answering_90 ?_
        refine lv_aload_n hx hb dX7_answering_91 rfl (hv_at hl 1 rfl) ?_
        refine v_get (T := TX7) (v := .ref (a0 + 1)) C hR 0 kfl_X7_7 rfl inG7 (by decide) rfl (IsModel.k hf7) (rf_of (IsModel.r0 hf7 (I11 a0 0))) dX7_answering_92 ?_
        refine lv_aload_n hx hb dX7_answering_95 rfl (hv_at hl 1 rfl) ?_
        refine v_get (T := TX7) (v := .ref (a0 + 1)) C hR 0 kfl_X7_7 rfl inG7 (by decide) rfl (IsModel.k hf7) (rf_of (IsModel.r0 hf7 (I11 a0 0))) dX7_answering_96 ?_
        refine lv_iload_n hx hb dX7_answering_99 rfl (hv_at hl 2 rfl) ?_
        refine lv_bipush (v := (20:Int32)) hx hb dX7_answering_100 (by decide) ?_
        refine lv_iload_n hx hb dX7_answering_102 rfl (hv_at hl 3 rfl) ?_
        refine lv_iadd hx hb dX7_answering_103 ?_
        refine v_cSi (As := [.int x1, .int ((20:Int32) + y2_51)]) C hR hS hl.1.1 ca_X7_ofTarget kml_X7_35 (L_X7_ofTarget E l x1 ((20:Int32) + y2_51) I11 _ h) rfl rfl (Nat.le_of_ble_eq_true rfl) ⟨Nat.le_of_ble_eq_true rfl, Nat.le_of_ble_eq_true rfl⟩ ⟨Nat.zero_le _, Nat.zero_le _⟩ dX7_answering_104 (fun v15 I14 H locs h hR hS => ?_)
        obtain ⟨hi16, h⟩ := h
        refine w_iald C hR (IsModel.a0 hf7) hi16 (j := (ix v15)) rfl dX7_answering_107 ?_
        refine lv_bipush (v := (10:Int32)) hx hb dX7_answering_108 (by decide) ?_
        refine v_cSi (As := [.int (I14 (a0 + 1) (ix v15)), .int (10:Int32)]) C hR hS hl.1.1 ca_X7_of kml_X7_59 (L_X7_of E l (I14 (a0 + 1) (ix v15)) (10:Int32) I14 _ h) rfl rfl (Nat.le_of_ble_eq_true rfl) ⟨Nat.le_of_ble_eq_true rfl, Nat.le_of_ble_eq_true rfl⟩ ⟨Nat.zero_le _, Nat.zero_le _⟩ dX7_answering_110 (fun v18 I17 H locs h hR hS => ?_)
        obtain ⟨hi19, h⟩ := h
        refine w_iald C hR (IsModel.a0 hf7) hi19 (j := (ix v18)) rfl dX7_answering_113 ?_
        refine lv_icmp_ge (tgt := 121) hx hb dX7_answering_114 (by decide) (fun c20 => ?_) (fun c20 => ?_)
        · replace h := h.1 c20
          refine lv_iconst (v := (0:Int32)) hx hb dX7_answering_121 rfl ?_
          exact hJ122 y2_51 y3_51 y4_51 (I8 (a0 + 1) (ix v9)) (0:Int32) I17 _ _ _ h hR hS (hv_sub hl [1, 2, 3, 4, 5, 0] rfl)
        · replace h := h.2 c20
          exact hJ117 y2_51 y3_51 y4_51 (I8 (a0 + 1) (ix v9)) I17 _ _ _ h hR hS (hv_sub hl [1, 2, 3, 4, 5, 0] rfl)
  have hJ47 : ∀ (y2_47 : Int32) (z0_47 : Int32) (I : MI) (H : Heap) (locs : List Loc) (ls : Array Slot), w_X7_answering_b47 K R a0 x1 Q y2_47 z0_47 I → Rep E K R I n H → va_S (AA E) s.heap H locs → hv ls 7 [(0, .ref a0), (1, .int x1), (2, .int y2_47)] → W p l e (rmM 1 21 0 0) s m args below meth c H locs 0 0 (MQ below (QcM E (Qi K R n Q)) args s 0 0 (AA E)) (F0 m 47 ls [.int z0_47]) := by
    intro y2_47 z0_47 I H locs ls h hR hS hl
    unfold w_X7_answering_b47 at h
    refine v_istore_n (lv' := [(3, .int z0_47), (0, .ref a0), (1, .int x1), (2, .int y2_47)]) hx hb dX7_answering_47 rfl hl (by decide) rfl (fun ls hl => ?_)
    refine lv_iconst (v := (0:Int32)) hx hb dX7_answering_48 rfl ?_
    refine v_istore (lv' := [(4, .int (0:Int32)), (3, .int z0_47), (0, .ref a0), (1, .int x1), (2, .int y2_47)]) hx hb dX7_answering_49 hl (by decide) rfl (fun ls hl => ?_)
    exact hJ51 y2_47 z0_47 (0:Int32) I _ _ _ h hR hS (hv_sub hl [2, 3, 4, 1, 0] rfl)
  have hJ36 : ∀ (y2_36 : Int32) (I : MI) (H : Heap) (locs : List Loc) (ls : Array Slot), w_X7_answering_b36 K R a0 x1 Q y2_36 I → Rep E K R I n H → va_S (AA E) s.heap H locs → hv ls 7 [(0, .ref a0), (1, .int x1), (2, .int y2_36)] → W p l e (rmM 1 21 0 0) s m args below meth c H locs 0 0 (MQ below (QcM E (Qi K R n Q)) args s 0 0 (AA E)) (F0 m 36 ls []) := by
    intro y2_36 I H locs ls h hR hS hl
    unfold w_X7_answering_b36 at h
    refine lv_aload_n hx hb dX7_answering_36 rfl (hv_at hl 0 rfl) ?_
    obtain ⟨hf23, h⟩ := h
    refine v_get (T := TX7) (v := .ref (a0 + 1)) C hR 0 kfl_X7_7 rfl inG7 (by decide) rfl (IsModel.k hf23) (rf_of (IsModel.r0 hf23 (I a0 0))) dX7_answering_37 ?_
    refine lv_iload_n hx hb dX7_answering_40 rfl (hv_at hl 1 rfl) ?_
    refine lv_bipush (v := (19:Int32)) hx hb dX7_answering_41 (by decide) ?_
    refine v_cSi (As := [.int x1, .int (19:Int32)]) C hR hS hl.1.1 ca_X7_ofTarget kml_X7_35 (L_X7_ofTarget E l x1 (19:Int32) I _ h) rfl rfl (Nat.le_of_ble_eq_true rfl) ⟨Nat.le_of_ble_eq_true rfl, Nat.le_of_ble_eq_true rfl⟩ ⟨Nat.zero_le _, Nat.zero_le _⟩ dX7_answering_43 (fun v25 I24 H locs h hR hS => ?_)
    obtain ⟨hi26, h⟩ := h
    refine w_iald C hR (IsModel.a0 hf23) hi26 (j := (ix v25)) rfl dX7_answering_46 ?_
    exact hJ47 y2_36 (I24 (a0 + 1) (ix v25)) I24 _ _ _ h hR hS (hv_sub hl [0, 1, 2] rfl)
  unfold w_X7_answering at h
  refine lv_bipush (v := (-5:Int32)) hx hb dX7_answering_0 (by decide) ?_
  refine v_istore_n (lv' := [(2, .int (-5:Int32)), (0, .ref a0), (1, .int x1)]) hx hb dX7_answering_2 rfl hl (by decide) rfl (fun ls hl => ?_)
  refine lv_aload_n hx hb dX7_answering_3 rfl (hv_at hl 1 rfl) ?_
  obtain ⟨hf27, h⟩ := h
  refine v_get (T := TX7) (v := .ref (a0 + 1)) C hR 0 kfl_X7_7 rfl inG7 (by decide) rfl (IsModel.k hf27) (rf_of (IsModel.r0 hf27 (I a0 0))) dX7_answering_4 ?_
  refine lv_iload_n hx hb dX7_answering_7 rfl (hv_at hl 2 rfl) ?_
  refine lv_bipush (v := (18:Int32)) hx hb dX7_answering_8 (by decide) ?_
  refine v_cSi (As := [.int x1, .int (18:Int32)]) C hR hS hl.1.1 ca_X7_ofTarget kml_X7_35 (L_X7_ofTarget E l x1 (18:Int32) I _ h) rfl rfl (Nat.le_of_ble_eq_true rfl) ⟨Nat.le_of_ble_eq_true rfl, Nat.le_of_ble_eq_true rfl⟩ ⟨Nat.zero_le _, Nat.zero_le _⟩ dX7_answering_10 (fun v29 I28 H locs h hR hS => ?_)
  obtain ⟨hi30, h⟩ := h
  refine w_iald C hR (IsModel.a0 hf27) hi30 (j := (ix v29)) rfl dX7_answering_13 ?_
  refine lv_if_ne (tgt := 36) hx hb dX7_answering_14 (by decide) (fun c35 => ?_) (fun c35 => ?_)
  · replace h := h.1 c35
    exact hJ36 (-5:Int32) I28 _ _ _ h hR hS (hv_sub hl [1, 2, 0] rfl)
  · replace h := h.2 c35
    refine lv_aload_n hx hb dX7_answering_17 rfl (hv_at hl 1 rfl) ?_
    refine v_get (T := TX7) (v := .ref (a0 + 1)) C hR 0 kfl_X7_7 rfl inG7 (by decide) rfl (IsModel.k hf27) (rf_of (IsModel.r0 hf27 (I28 a0 0))) dX7_answering_18 ?_
    refine lv_iload_n hx hb dX7_answering_21 rfl (hv_at hl 2 rfl) ?_
    refine lv_bipush (v := (19:Int32)) hx hb dX7_answering_22 (by decide) ?_
    refine v_cSi (As := [.int x1, .int (19:Int32)]) C hR hS hl.1.1 ca_X7_ofTarget kml_X7_35 (L_X7_ofTarget E l x1 (19:Int32) I28 _ h) rfl rfl (Nat.le_of_ble_eq_true rfl) ⟨Nat.le_of_ble_eq_true rfl, Nat.le_of_ble_eq_true rfl⟩ ⟨Nat.zero_le _, Nat.zero_le _⟩ dX7_answering_24 (fun v32 I31 H locs h hR hS => ?_)
    obtain ⟨hi33, h⟩ := h
    refine w_iald C hR (IsModel.a0 hf27) hi33 (j := (ix v32)) rfl dX7_answering_27 ?_
    refine lv_iconst (v := (1:Int32)) hx hb dX7_answering_28 rfl ?_
    refine lv_icmp_le (tgt := 36) hx hb dX7_answering_29 (by decide) (fun c34 => ?_) (fun c34 => ?_)
    · replace h := h.1 c34
      exact hJ36 (-5:Int32) I31 _ _ _ h hR hS (hv_sub hl [1, 2, 0] rfl)
    · replace h := h.2 c34
      refine lv_iconst (v := (1:Int32)) hx hb dX7_answering_32 rfl ?_
      refine lv_goto (tgt := 47) hx hb dX7_answering_33 (by decide) ?_
      exact hJ47 (-5:Int32) (1:Int32) I31 _ _ _ h hR hS (hv_sub hl [1, 2, 0] rfl)
set_option maxHeartbeats 4000000 in
set_option maxRecDepth 100000 in
theorem L_X7_targetThatGoes (E : Ev) (l : Launch) {K : MK} {R : MR} {n : Nat} (a0 : Nat) (I : MI) (Q : Int32 → MI → Prop) (h : w_X7_targetThatGoes K R a0 I Q) : MM E l yX7_targetThatGoes cX7_targetThatGoes 3 (some Jvm.ClassFile.FieldType.int) 2 47 0 0 [.ref a0] K R I n (Qi K R n Q) := by
  refine MM.of1 (by decide) RX7 rfl (cR cN) (Nat.le_of_ble_eq_true rfl) ?_
  intro p e s m args below meth c ls C hin hR hS hl
  have hx := C.1
  have hb := C.2.1
  have hml := C.2.2.1
  have hown := C.2.2.2.1
  have hts := C.2.2.2.2.1
  have hl : hv ls 3 [(0, .ref a0)] := hl
  clear hin
  have hJ2 : ∀ (y1_2 : Int32) (I : MI) (H : Heap) (locs : List Loc) (ls : Array Slot), w_X7_targetThatGoes_b2 K R a0 Q y1_2 I → Rep E K R I n H → va_S (AA E) s.heap H locs → hv ls 3 [(0, .ref a0), (1, .int y1_2)] → W p l e (rmM 2 47 0 0) s m args below meth c H locs 0 0 (MQ below (QcM E (Qi K R n Q)) args s 0 0 (AA E)) (F0 m 2 ls []) := by
    intro y1_2 I H locs ls h hR hS hl
    obtain ⟨X2, hX2⟩ : ∃ X : Int32 → MI → Prop, ∀ (y1_2 : Int32) (I : MI), X y1_2 I ↔ (∀ (H : Heap) (locs : List Loc) (ls : Array Slot), Rep E K R I n H → va_S (AA E) s.heap H locs → hv ls 3 [(0, .ref a0), (1, .int y1_2)] → W p l e (rmM 2 47 0 0) s m args below meth c H locs 0 0 (MQ below (QcM E (Qi K R n Q)) args s 0 0 (AA E)) (F0 m 2 ls [])) := ⟨fun y1_2 I => ∀ (H : Heap) (locs : List Loc) (ls : Array Slot), Rep E K R I n H → va_S (AA E) s.heap H locs → hv ls 3 [(0, .ref a0), (1, .int y1_2)] → W p l e (rmM 2 47 0 0) s m args below meth c H locs 0 0 (MQ below (QcM E (Qi K R n Q)) args s 0 0 (AA E)) (F0 m 2 ls []), fun _ _ => Iff.rfl⟩
    refine (hX2 y1_2 I).mp (h X2 ?_) H locs ls hR hS hl
    clear h hR hS hl
    clear ls locs H I y1_2
    intro y1_2 I h
    refine (hX2 y1_2 I).mpr ?_
    intro H locs ls hR hS hl
    unfold w_X7_targetThatGoes_b2_body at h
    refine lv_iload_n hx hb dX7_targetThatGoes_2 rfl (hv_at hl 1 rfl) ?_
    refine lv_iconst (v := (4:Int32)) hx hb dX7_targetThatGoes_3 rfl ?_
    refine lv_icmp_ge (tgt := 37) hx hb dX7_targetThatGoes_4 (by decide) (fun c5 => ?_) (fun c5 => ?_)
    · replace h := h.1 c5
      refine lv_bipush (v := (-5:Int32)) hx hb dX7_targetThatGoes_37 (by decide) ?_
      exact w_ireti C rfl rfl hR hS h dX7_targetThatGoes_39
    · replace h := h.2 c5
      refine lv_aload_n hx hb dX7_targetThatGoes_7 rfl (hv_at hl 0 rfl) ?_
      obtain ⟨hf1, h⟩ := h
      refine v_get (T := TX7) (v := .ref (a0 + 1)) C hR 0 kfl_X7_7 rfl inG7 (by decide) rfl (IsModel.k hf1) (rf_of (IsModel.r0 hf1 (I a0 0))) dX7_targetThatGoes_8 ?_
      refine lv_bipush (v := (6:Int32)) hx hb dX7_targetThatGoes_11 (by decide) ?_
      refine w_iald C hR (IsModel.a0 hf1) (show vp_in (6:Int32) 2361 by unfold vp_in; decide) (j := 6) (by decide) dX7_targetThatGoes_13 ?_
      refine lv_iload_n hx hb dX7_targetThatGoes_14 rfl (hv_at hl 1 rfl) ?_
      refine lv_iadd hx hb dX7_targetThatGoes_15 ?_
      refine lv_iconst (v := (4:Int32)) hx hb dX7_targetThatGoes_16 rfl ?_
      refine lv_irem hx hb dX7_targetThatGoes_17 (by decide) ?_
      refine v_istore_n (lv' := [(2, .int (((I (a0 + 1) 6) + y1_2) - ((I (a0 + 1) 6) + y1_2) / (4:Int32) * (4:Int32))), (0, .ref a0), (1, .int y1_2)]) hx hb dX7_targetThatGoes_18 rfl hl (by decide) rfl (fun ls hl => ?_)
      refine lv_aload_n hx hb dX7_targetThatGoes_19 rfl (hv_at hl 1 rfl) ?_
      refine lv_iload_n hx hb dX7_targetThatGoes_20 rfl (hv_at hl 0 rfl) ?_
      refine v_cVi (As := [.int (((I (a0 + 1) 6) + y1_2) - ((I (a0 + 1) 6) + y1_2) / (4:Int32) * (4:Int32))]) C hR hS hl.1.1 ca_X7_answering kml_X7_93 (L_X7_answering E l a0 (((I (a0 + 1) 6) + y1_2) - ((I (a0 + 1) 6) + y1_2) / (4:Int32) * (4:Int32)) I _ h) (IsModel.k hf1) rfl rfl rfl rfl (Nat.le_of_ble_eq_true rfl) ⟨Nat.le_of_ble_eq_true rfl, Nat.le_of_ble_eq_true rfl⟩ ⟨Nat.zero_le _, Nat.zero_le _⟩ dX7_targetThatGoes_21 (fun v3 I2 H locs h hR hS => ?_)
      refine lv_bipush (v := (-5:Int32)) hx hb dX7_targetThatGoes_24 (by decide) ?_
      refine lv_icmp_eq (tgt := 31) hx hb dX7_targetThatGoes_26 (by decide) (fun c4 => ?_) (fun c4 => ?_)
      · replace h := h.1 c4
        refine v_iinc (v := y1_2 + (1:Int32)) (k := 2) (lv' := [(1, .int (y1_2 + (1:Int32))), (2, .int (((I (a0 + 1) 6) + y1_2) - ((I (a0 + 1) 6) + y1_2) / (4:Int32) * (4:Int32))), (0, .ref a0)]) hx hb dX7_targetThatGoes_31 hl rfl rfl (by decide) rfl (fun ls hl => ?_)
        refine lv_goto (tgt := 2) hx hb dX7_targetThatGoes_34 (by decide) ?_
        exact (hX2 (y1_2 + (1:Int32)) I2).mp h _ _ _ hR hS (hv_sub hl [2, 0] rfl)
      · replace h := h.2 c4
        refine lv_iload_n hx hb dX7_targetThatGoes_29 rfl (hv_at hl 0 rfl) ?_
        exact w_ireti C rfl rfl hR hS h dX7_targetThatGoes_30
  unfold w_X7_targetThatGoes at h
  refine lv_iconst (v := (0:Int32)) hx hb dX7_targetThatGoes_0 rfl ?_
  refine v_istore_n (lv' := [(1, .int (0:Int32)), (0, .ref a0)]) hx hb dX7_targetThatGoes_1 rfl hl (by decide) rfl (fun ls hl => ?_)
  exact hJ2 (0:Int32) I _ _ _ h hR hS (hv_sub hl [1, 0] rfl)
set_option maxHeartbeats 4000000 in
set_option maxRecDepth 100000 in
theorem L_X7_canSend (E : Ev) (l : Launch) {K : MK} {R : MR} {n : Nat} (a0 : Nat) (x1 : Int32) (I : MI) (Q : Int32 → MI → Prop) (h : w_X7_canSend K R a0 x1 I Q) : MM E l yX7_canSend cX7_canSend 2 (some Jvm.ClassFile.FieldType.boolean) 2 44 0 0 [.ref a0, .int x1] K R I n (Qi K R n Q) := by
  refine MM.of1 (by decide) RX7 rfl (cR (cI cN)) (Nat.le_of_ble_eq_true rfl) ?_
  intro p e s m args below meth c ls C hin hR hS hl
  have hx := C.1
  have hb := C.2.1
  have hml := C.2.2.1
  have hown := C.2.2.2.1
  have hts := C.2.2.2.2.1
  have hl : hv ls 2 [(0, .ref a0), (1, .int x1)] := hl
  clear hin
  have hJ66 : ∀ (z0_66 : Int32) (I : MI) (H : Heap) (locs : List Loc) (ls : Array Slot), w_X7_canSend_b66 K R a0 x1 Q z0_66 I → Rep E K R I n H → va_S (AA E) s.heap H locs → hv ls 2 [] → W p l e (rmM 2 44 0 0) s m args below meth c H locs 0 0 (MQ below (QcM E (Qi K R n Q)) args s 0 0 (AA E)) (F0 m 66 ls [.int z0_66]) := by
    intro z0_66 I H locs ls h hR hS hl
    unfold w_X7_canSend_b66 at h
    obtain ⟨hb1, h⟩ := h
    exact w_ireti C rfl (bz_nar hb1) hR hS h dX7_canSend_66
  have hJ65 : ∀ (I : MI) (H : Heap) (locs : List Loc) (ls : Array Slot), w_X7_canSend_b65 K R a0 x1 Q  I → Rep E K R I n H → va_S (AA E) s.heap H locs → hv ls 2 [] → W p l e (rmM 2 44 0 0) s m args below meth c H locs 0 0 (MQ below (QcM E (Qi K R n Q)) args s 0 0 (AA E)) (F0 m 65 ls []) := by
    intro  I H locs ls h hR hS hl
    unfold w_X7_canSend_b65 at h
    refine lv_iconst (v := (0:Int32)) hx hb dX7_canSend_65 rfl ?_
    exact hJ66 (0:Int32) I _ _ _ h hR hS (hv_sub hl [] rfl)
  unfold w_X7_canSend at h
  refine lv_aload_n hx hb dX7_canSend_0 rfl (hv_at hl 0 rfl) ?_
  obtain ⟨hf2, h⟩ := h
  refine v_get (T := TX7) (v := .ref (a0 + 1)) C hR 0 kfl_X7_7 rfl inG7 (by decide) rfl (IsModel.k hf2) (rf_of (IsModel.r0 hf2 (I a0 0))) dX7_canSend_1 ?_
  refine lv_iload_n hx hb dX7_canSend_4 rfl (hv_at hl 1 rfl) ?_
  refine lv_iconst (v := (0:Int32)) hx hb dX7_canSend_5 rfl ?_
  refine v_cSi (As := [.int x1, .int (0:Int32)]) C hR hS hl.1.1 ca_X7_ofMaster kml_X7_31 (L_X7_ofMaster E l x1 (0:Int32) I _ h) rfl rfl (Nat.le_of_ble_eq_true rfl) ⟨Nat.le_of_ble_eq_true rfl, Nat.le_of_ble_eq_true rfl⟩ ⟨Nat.zero_le _, Nat.zero_le _⟩ dX7_canSend_6 (fun v4 I3 H locs h hR hS => ?_)
  obtain ⟨hi5, h⟩ := h
  refine w_iald C hR (IsModel.a0 hf2) hi5 (j := (ix v4)) rfl dX7_canSend_9 ?_
  refine lv_if_le (tgt := 65) hx hb dX7_canSend_10 (by decide) (fun c19 => ?_) (fun c19 => ?_)
  · replace h := h.1 c19
    exact hJ65 I3 _ _ _ h hR hS (hv_sub hl [] rfl)
  · replace h := h.2 c19
    refine lv_aload_n hx hb dX7_canSend_13 rfl (hv_at hl 0 rfl) ?_
    refine v_get (T := TX7) (v := .ref (a0 + 1)) C hR 0 kfl_X7_7 rfl inG7 (by decide) rfl (IsModel.k hf2) (rf_of (IsModel.r0 hf2 (I3 a0 0))) dX7_canSend_14 ?_
    refine lv_iconst (v := (0:Int32)) hx hb dX7_canSend_17 rfl ?_
    refine w_iald C hR (IsModel.a0 hf2) (show vp_in (0:Int32) 2361 by unfold vp_in; decide) (j := 0) (by decide) dX7_canSend_18 ?_
    refine lv_aload_n hx hb dX7_canSend_19 rfl (hv_at hl 0 rfl) ?_
    refine v_get (T := TX7) (v := .ref (a0 + 1)) C hR 0 kfl_X7_7 rfl inG7 (by decide) rfl (IsModel.k hf2) (rf_of (IsModel.r0 hf2 (I3 a0 0))) dX7_canSend_20 ?_
    refine lv_iload_n hx hb dX7_canSend_23 rfl (hv_at hl 1 rfl) ?_
    refine lv_bipush (v := (9:Int32)) hx hb dX7_canSend_24 (by decide) ?_
    refine v_cSi (As := [.int x1, .int (9:Int32)]) C hR hS hl.1.1 ca_X7_ofMaster kml_X7_31 (L_X7_ofMaster E l x1 (9:Int32) I3 _ h) rfl rfl (Nat.le_of_ble_eq_true rfl) ⟨Nat.le_of_ble_eq_true rfl, Nat.le_of_ble_eq_true rfl⟩ ⟨Nat.zero_le _, Nat.zero_le _⟩ dX7_canSend_26 (fun v7 I6 H locs h hR hS => ?_)
    obtain ⟨hi8, h⟩ := h
    refine w_iald C hR (IsModel.a0 hf2) hi8 (j := (ix v7)) rfl dX7_canSend_29 ?_
    refine lv_icmp_lt (tgt := 65) hx hb dX7_canSend_30 (by decide) (fun c18 => ?_) (fun c18 => ?_)
    · replace h := h.1 c18
      exact hJ65 I6 _ _ _ h hR hS (hv_sub hl [] rfl)
    · replace h := h.2 c18
      refine lv_aload_n hx hb dX7_canSend_33 rfl (hv_at hl 0 rfl) ?_
      refine v_cVi (As := []) C hR hS hl.1.1 ca_X7_freeTag kml_X7_96 (L_X7_freeTag E l a0 I6 _ h) (IsModel.k hf2) rfl rfl rfl rfl (Nat.le_of_ble_eq_true rfl) ⟨Nat.le_of_ble_eq_true rfl, Nat.le_of_ble_eq_true rfl⟩ ⟨Nat.zero_le _, Nat.zero_le _⟩ dX7_canSend_34 (fun v10 I9 H locs h hR hS => ?_)
      refine lv_bipush (v := (-5:Int32)) hx hb dX7_canSend_37 (by decide) ?_
      refine lv_icmp_eq (tgt := 65) hx hb dX7_canSend_39 (by decide) (fun c17 => ?_) (fun c17 => ?_)
      · replace h := h.1 c17
        exact hJ65 I9 _ _ _ h hR hS (hv_sub hl [] rfl)
      · replace h := h.2 c17
        refine lv_aload_n hx hb dX7_canSend_42 rfl (hv_at hl 0 rfl) ?_
        refine lv_iload_n hx hb dX7_canSend_43 rfl (hv_at hl 1 rfl) ?_
        refine v_cVi (As := [.int x1]) C hR hS hl.1.1 ca_X7_holds kml_X7_100 (L_X7_holds E l a0 x1 I9 _ h) (IsModel.k hf2) rfl rfl rfl rfl (Nat.le_of_ble_eq_true rfl) ⟨Nat.le_of_ble_eq_true rfl, Nat.le_of_ble_eq_true rfl⟩ ⟨Nat.zero_le _, Nat.zero_le _⟩ dX7_canSend_44 (fun v12 I11 H locs h hR hS => ?_)
        refine lv_aload_n hx hb dX7_canSend_47 rfl (hv_at hl 0 rfl) ?_
        refine v_get (T := TX7) (v := .ref (a0 + 1)) C hR 0 kfl_X7_7 rfl inG7 (by decide) rfl (IsModel.k hf2) (rf_of (IsModel.r0 hf2 (I11 a0 0))) dX7_canSend_48 ?_
        refine lv_iload_n hx hb dX7_canSend_51 rfl (hv_at hl 1 rfl) ?_
        refine lv_bipush (v := (7:Int32)) hx hb dX7_canSend_52 (by decide) ?_
        refine v_cSi (As := [.int x1, .int (7:Int32)]) C hR hS hl.1.1 ca_X7_ofMaster kml_X7_31 (L_X7_ofMaster E l x1 (7:Int32) I11 _ h) rfl rfl (Nat.le_of_ble_eq_true rfl) ⟨Nat.le_of_ble_eq_true rfl, Nat.le_of_ble_eq_true rfl⟩ ⟨Nat.zero_le _, Nat.zero_le _⟩ dX7_canSend_54 (fun v14 I13 H locs h hR hS => ?_)
        obtain ⟨hi15, h⟩ := h
        refine w_iald C hR (IsModel.a0 hf2) hi15 (j := (ix v14)) rfl dX7_canSend_57 ?_
        refine lv_icmp_ge (tgt := 65) hx hb dX7_canSend_58 (by decide) (fun c16 => ?_) (fun c16 => ?_)
        · replace h := h.1 c16
          exact hJ65 I13 _ _ _ h hR hS (hv_sub hl [] rfl)
        · replace h := h.2 c16
          refine lv_iconst (v := (1:Int32)) hx hb dX7_canSend_61 rfl ?_
          refine lv_goto (tgt := 66) hx hb dX7_canSend_62 (by decide) ?_
          exact hJ66 (1:Int32) I13 _ _ _ h hR hS (hv_sub hl [] rfl)
set_option maxHeartbeats 4000000 in
set_option maxRecDepth 100000 in
theorem L_X7_masterThatGoes (E : Ev) (l : Launch) {K : MK} {R : MR} {n : Nat} (a0 : Nat) (I : MI) (Q : Int32 → MI → Prop) (h : w_X7_masterThatGoes K R a0 I Q) : MM E l yX7_masterThatGoes cX7_masterThatGoes 4 (some Jvm.ClassFile.FieldType.int) 3 65 0 0 [.ref a0] K R I n (Qi K R n Q) := by
  refine MM.of1 (by decide) RX7 rfl (cR cN) (Nat.le_of_ble_eq_true rfl) ?_
  intro p e s m args below meth c ls C hin hR hS hl
  have hx := C.1
  have hb := C.2.1
  have hml := C.2.2.1
  have hown := C.2.2.2.1
  have hts := C.2.2.2.2.1
  have hl : hv ls 4 [(0, .ref a0)] := hl
  clear hin
  have hJ118 : ∀ (y1_118 : Int32) (I : MI) (H : Heap) (locs : List Loc) (ls : Array Slot), w_X7_masterThatGoes_b118 K R a0 Q y1_118 I → Rep E K R I n H → va_S (AA E) s.heap H locs → hv ls 4 [(1, .int y1_118)] → W p l e (rmM 3 65 0 0) s m args below meth c H locs 0 0 (MQ below (QcM E (Qi K R n Q)) args s 0 0 (AA E)) (F0 m 118 ls []) := by
    intro y1_118 I H locs ls h hR hS hl
    unfold w_X7_masterThatGoes_b118 at h
    refine lv_iload_n hx hb dX7_masterThatGoes_118 rfl (hv_at hl 0 rfl) ?_
    exact w_ireti C rfl rfl hR hS h dX7_masterThatGoes_119
  have hJ75 : ∀ (y1_75 : Int32) (y2_75 : Int32) (I : MI) (H : Heap) (locs : List Loc) (ls : Array Slot), w_X7_masterThatGoes_b75 K R a0 Q y1_75 y2_75 I → Rep E K R I n H → va_S (AA E) s.heap H locs → hv ls 4 [(0, .ref a0), (1, .int y1_75), (2, .int y2_75)] → W p l e (rmM 3 65 0 0) s m args below meth c H locs 0 0 (MQ below (QcM E (Qi K R n Q)) args s 0 0 (AA E)) (F0 m 75 ls []) := by
    intro y1_75 y2_75 I H locs ls h hR hS hl
    obtain ⟨X75, hX75⟩ : ∃ X : Int32 → Int32 → MI → Prop, ∀ (y1_75 : Int32) (y2_75 : Int32) (I : MI), X y1_75 y2_75 I ↔ (∀ (H : Heap) (locs : List Loc) (ls : Array Slot), Rep E K R I n H → va_S (AA E) s.heap H locs → hv ls 4 [(0, .ref a0), (1, .int y1_75), (2, .int y2_75)] → W p l e (rmM 3 65 0 0) s m args below meth c H locs 0 0 (MQ below (QcM E (Qi K R n Q)) args s 0 0 (AA E)) (F0 m 75 ls [])) := ⟨fun y1_75 y2_75 I => ∀ (H : Heap) (locs : List Loc) (ls : Array Slot), Rep E K R I n H → va_S (AA E) s.heap H locs → hv ls 4 [(0, .ref a0), (1, .int y1_75), (2, .int y2_75)] → W p l e (rmM 3 65 0 0) s m args below meth c H locs 0 0 (MQ below (QcM E (Qi K R n Q)) args s 0 0 (AA E)) (F0 m 75 ls []), fun _ _ _ => Iff.rfl⟩
    refine (hX75 y1_75 y2_75 I).mp (h X75 ?_) H locs ls hR hS hl
    clear h hR hS hl
    clear ls locs H I y1_75 y2_75
    have hJ111 : ∀ (y2_111 : Int32) (z0_111 : Int32) (I : MI) (H : Heap) (locs : List Loc) (ls : Array Slot), w_X7_masterThatGoes_b111 K R a0 Q X75 y2_111 z0_111 I → Rep E K R I n H → va_S (AA E) s.heap H locs → hv ls 4 [(0, .ref a0), (2, .int y2_111)] → W p l e (rmM 3 65 0 0) s m args below meth c H locs 0 0 (MQ below (QcM E (Qi K R n Q)) args s 0 0 (AA E)) (F0 m 111 ls [.int z0_111]) := by
      intro y2_111 z0_111 I H locs ls h hR hS hl
      unfold w_X7_masterThatGoes_b111 at h
      refine v_istore_n (lv' := [(1, .int z0_111), (0, .ref a0), (2, .int y2_111)]) hx hb dX7_masterThatGoes_111 rfl hl (by decide) rfl (fun ls hl => ?_)
      refine v_iinc (v := y2_111 + (1:Int32)) (k := 2) (lv' := [(2, .int (y2_111 + (1:Int32))), (1, .int z0_111), (0, .ref a0)]) hx hb dX7_masterThatGoes_112 hl rfl rfl (by decide) rfl (fun ls hl => ?_)
      refine lv_goto (tgt := 75) hx hb dX7_masterThatGoes_115 (by decide) ?_
      exact (hX75 z0_111 (y2_111 + (1:Int32)) I).mp h _ _ _ hR hS (hv_sub hl [2, 1, 0] rfl)
    intro y1_75 y2_75 I h
    refine (hX75 y1_75 y2_75 I).mpr ?_
    intro H locs ls hR hS hl
    unfold w_X7_masterThatGoes_b75_body at h
    refine lv_iload_n hx hb dX7_masterThatGoes_75 rfl (hv_at hl 2 rfl) ?_
    refine lv_iconst (v := (4:Int32)) hx hb dX7_masterThatGoes_76 rfl ?_
    refine lv_icmp_ge (tgt := 118) hx hb dX7_masterThatGoes_77 (by decide) (fun c6 => ?_) (fun c6 => ?_)
    · replace h := h.1 c6
      exact hJ118 y1_75 I _ _ _ h hR hS (hv_sub hl [1] rfl)
    · replace h := h.2 c6
      refine lv_iload_n hx hb dX7_masterThatGoes_80 rfl (hv_at hl 1 rfl) ?_
      refine lv_bipush (v := (-5:Int32)) hx hb dX7_masterThatGoes_81 (by decide) ?_
      refine lv_icmp_ne (tgt := 118) hx hb dX7_masterThatGoes_83 (by decide) (fun c5 => ?_) (fun c5 => ?_)
      · replace h := h.1 c5
        exact hJ118 y1_75 I _ _ _ h hR hS (hv_sub hl [1] rfl)
      · replace h := h.2 c5
        refine lv_aload_n hx hb dX7_masterThatGoes_86 rfl (hv_at hl 0 rfl) ?_
        obtain ⟨hf1, h⟩ := h
        refine v_get (T := TX7) (v := .ref (a0 + 1)) C hR 0 kfl_X7_7 rfl inG7 (by decide) rfl (IsModel.k hf1) (rf_of (IsModel.r0 hf1 (I a0 0))) dX7_masterThatGoes_87 ?_
        refine lv_bipush (v := (7:Int32)) hx hb dX7_masterThatGoes_90 (by decide) ?_
        refine w_iald C hR (IsModel.a0 hf1) (show vp_in (7:Int32) 2361 by unfold vp_in; decide) (j := 7) (by decide) dX7_masterThatGoes_92 ?_
        refine lv_iload_n hx hb dX7_masterThatGoes_93 rfl (hv_at hl 2 rfl) ?_
        refine lv_iadd hx hb dX7_masterThatGoes_94 ?_
        refine lv_iconst (v := (4:Int32)) hx hb dX7_masterThatGoes_95 rfl ?_
        refine lv_irem hx hb dX7_masterThatGoes_96 (by decide) ?_
        refine v_istore_n (lv' := [(3, .int (((I (a0 + 1) 7) + y2_75) - ((I (a0 + 1) 7) + y2_75) / (4:Int32) * (4:Int32))), (0, .ref a0), (1, .int y1_75), (2, .int y2_75)]) hx hb dX7_masterThatGoes_97 rfl hl (by decide) rfl (fun ls hl => ?_)
        refine lv_aload_n hx hb dX7_masterThatGoes_98 rfl (hv_at hl 1 rfl) ?_
        refine lv_iload_n hx hb dX7_masterThatGoes_99 rfl (hv_at hl 0 rfl) ?_
        refine v_cVi (As := [.int (((I (a0 + 1) 7) + y2_75) - ((I (a0 + 1) 7) + y2_75) / (4:Int32) * (4:Int32))]) C hR hS hl.1.1 ca_X7_canSend kml_X7_103 (L_X7_canSend E l a0 (((I (a0 + 1) 7) + y2_75) - ((I (a0 + 1) 7) + y2_75) / (4:Int32) * (4:Int32)) I _ h) (IsModel.k hf1) rfl rfl rfl rfl (Nat.le_of_ble_eq_true rfl) ⟨Nat.le_of_ble_eq_true rfl, Nat.le_of_ble_eq_true rfl⟩ ⟨Nat.zero_le _, Nat.zero_le _⟩ dX7_masterThatGoes_100 (fun v3 I2 H locs h hR hS => ?_)
        refine lv_if_eq (tgt := 110) hx hb dX7_masterThatGoes_103 (by decide) (fun c4 => ?_) (fun c4 => ?_)
        · replace h := h.1 c4
          refine lv_iload_n hx hb dX7_masterThatGoes_110 rfl (hv_at hl 2 rfl) ?_
          exact hJ111 y2_75 y1_75 I2 _ _ _ h hR hS (hv_sub hl [1, 3] rfl)
        · replace h := h.2 c4
          refine lv_iload_n hx hb dX7_masterThatGoes_106 rfl (hv_at hl 0 rfl) ?_
          refine lv_goto (tgt := 111) hx hb dX7_masterThatGoes_107 (by decide) ?_
          exact hJ111 y2_75 (((I (a0 + 1) 7) + y2_75) - ((I (a0 + 1) 7) + y2_75) / (4:Int32) * (4:Int32)) I2 _ _ _ h hR hS (hv_sub hl [1, 3] rfl)
  have hJ5 : ∀ (y1_5 : Int32) (y2_5 : Int32) (I : MI) (H : Heap) (locs : List Loc) (ls : Array Slot), w_X7_masterThatGoes_b5 K R a0 Q y1_5 y2_5 I → Rep E K R I n H → va_S (AA E) s.heap H locs → hv ls 4 [(0, .ref a0), (1, .int y1_5), (2, .int y2_5)] → W p l e (rmM 3 65 0 0) s m args below meth c H locs 0 0 (MQ below (QcM E (Qi K R n Q)) args s 0 0 (AA E)) (F0 m 5 ls []) := by
    intro y1_5 y2_5 I H locs ls h hR hS hl
    obtain ⟨X5, hX5⟩ : ∃ X : Int32 → Int32 → MI → Prop, ∀ (y1_5 : Int32) (y2_5 : Int32) (I : MI), X y1_5 y2_5 I ↔ (∀ (H : Heap) (locs : List Loc) (ls : Array Slot), Rep E K R I n H → va_S (AA E) s.heap H locs → hv ls 4 [(0, .ref a0), (1, .int y1_5), (2, .int y2_5)] → W p l e (rmM 3 65 0 0) s m args below meth c H locs 0 0 (MQ below (QcM E (Qi K R n Q)) args s 0 0 (AA E)) (F0 m 5 ls [])) := ⟨fun y1_5 y2_5 I => ∀ (H : Heap) (locs : List Loc) (ls : Array Slot), Rep E K R I n H → va_S (AA E) s.heap H locs → hv ls 4 [(0, .ref a0), (1, .int y1_5), (2, .int y2_5)] → W p l e (rmM 3 65 0 0) s m args below meth c H locs 0 0 (MQ below (QcM E (Qi K R n Q)) args s 0 0 (AA E)) (F0 m 5 ls []), fun _ _ _ => Iff.rfl⟩
    refine (hX5 y1_5 y2_5 I).mp (h X5 ?_) H locs ls hR hS hl
    clear h hR hS hl
    clear ls locs H I y1_5 y2_5
    have hJ66 : ∀ (y2_66 : Int32) (z0_66 : Int32) (I : MI) (H : Heap) (locs : List Loc) (ls : Array Slot), w_X7_masterThatGoes_b66 K R a0 Q X5 y2_66 z0_66 I → Rep E K R I n H → va_S (AA E) s.heap H locs → hv ls 4 [(0, .ref a0), (2, .int y2_66)] → W p l e (rmM 3 65 0 0) s m args below meth c H locs 0 0 (MQ below (QcM E (Qi K R n Q)) args s 0 0 (AA E)) (F0 m 66 ls [.int z0_66]) := by
      intro y2_66 z0_66 I H locs ls h hR hS hl
      unfold w_X7_masterThatGoes_b66 at h
      refine v_istore_n (lv' := [(1, .int z0_66), (0, .ref a0), (2, .int y2_66)]) hx hb dX7_masterThatGoes_66 rfl hl (by decide) rfl (fun ls hl => ?_)
      refine v_iinc (v := y2_66 + (1:Int32)) (k := 2) (lv' := [(2, .int (y2_66 + (1:Int32))), (1, .int z0_66), (0, .ref a0)]) hx hb dX7_masterThatGoes_67 hl rfl rfl (by decide) rfl (fun ls hl => ?_)
      refine lv_goto (tgt := 5) hx hb dX7_masterThatGoes_70 (by decide) ?_
      exact (hX5 z0_66 (y2_66 + (1:Int32)) I).mp h _ _ _ hR hS (hv_sub hl [2, 1, 0] rfl)
    have hJ61 : ∀ (y2_61 : Int32) (I : MI) (H : Heap) (locs : List Loc) (ls : Array Slot), w_X7_masterThatGoes_b61 K R a0 Q X5 y2_61 I → Rep E K R I n H → va_S (AA E) s.heap H locs → hv ls 4 [(0, .ref a0), (2, .int y2_61)] → W p l e (rmM 3 65 0 0) s m args below meth c H locs 0 0 (MQ below (QcM E (Qi K R n Q)) args s 0 0 (AA E)) (F0 m 61 ls []) := by
      intro y2_61 I H locs ls h hR hS hl
      unfold w_X7_masterThatGoes_b61 at h
      refine lv_iload_n hx hb dX7_masterThatGoes_61 rfl (hv_at hl 1 rfl) ?_
      refine lv_goto (tgt := 66) hx hb dX7_masterThatGoes_62 (by decide) ?_
      exact hJ66 y2_61 y2_61 I _ _ _ h hR hS (hv_sub hl [0, 1] rfl)
    have hJ65 : ∀ (y1_65 : Int32) (y2_65 : Int32) (I : MI) (H : Heap) (locs : List Loc) (ls : Array Slot), w_X7_masterThatGoes_b65 K R a0 Q X5 y1_65 y2_65 I → Rep E K R I n H → va_S (AA E) s.heap H locs → hv ls 4 [(0, .ref a0), (1, .int y1_65), (2, .int y2_65)] → W p l e (rmM 3 65 0 0) s m args below meth c H locs 0 0 (MQ below (QcM E (Qi K R n Q)) args s 0 0 (AA E)) (F0 m 65 ls []) := by
      intro y1_65 y2_65 I H locs ls h hR hS hl
      unfold w_X7_masterThatGoes_b65 at h
      refine lv_iload_n hx hb dX7_masterThatGoes_65 rfl (hv_at hl 1 rfl) ?_
      exact hJ66 y2_65 y1_65 I _ _ _ h hR hS (hv_sub hl [0, 2] rfl)
    intro y1_5 y2_5 I h
    refine (hX5 y1_5 y2_5 I).mpr ?_
    intro H locs ls hR hS hl
    unfold w_X7_masterThatGoes_b5_body at h
    refine lv_iload_n hx hb dX7_masterThatGoes_5 rfl (hv_at hl 2 rfl) ?_
    refine lv_iconst (v := (4:Int32)) hx hb dX7_masterThatGoes_6 rfl ?_
    refine lv_icmp_ge (tgt := 73) hx hb dX7_masterThatGoes_7 (by decide) (fun c20 => ?_) (fun c20 => ?_)
    · replace h := h.1 c20
      refine lv_iconst (v := (0:Int32)) hx hb dX7_masterThatGoes_73 rfl ?_
      refine v_istore_n (lv' := [(2, .int (0:Int32)), (0, .ref a0), (1, .int y1_5)]) hx hb dX7_masterThatGoes_74 rfl hl (by decide) rfl (fun ls hl => ?_)
      exact hJ75 y1_5 (0:Int32) I _ _ _ h hR hS (hv_sub hl [1, 2, 0] rfl)
    · replace h := h.2 c20
      refine lv_aload_n hx hb dX7_masterThatGoes_10 rfl (hv_at hl 0 rfl) ?_
      obtain ⟨hf7, h⟩ := h
      refine v_get (T := TX7) (v := .ref (a0 + 1)) C hR 0 kfl_X7_7 rfl inG7 (by decide) rfl (IsModel.k hf7) (rf_of (IsModel.r0 hf7 (I a0 0))) dX7_masterThatGoes_11 ?_
      refine lv_iload_n hx hb dX7_masterThatGoes_14 rfl (hv_at hl 2 rfl) ?_
      refine lv_bipush (v := (10:Int32)) hx hb dX7_masterThatGoes_15 (by decide) ?_
      refine v_cSi (As := [.int y2_5, .int (10:Int32)]) C hR hS hl.1.1 ca_X7_ofMaster kml_X7_31 (L_X7_ofMaster E l y2_5 (10:Int32) I _ h) rfl rfl (Nat.le_of_ble_eq_true rfl) ⟨Nat.le_of_ble_eq_true rfl, Nat.le_of_ble_eq_true rfl⟩ ⟨Nat.zero_le _, Nat.zero_le _⟩ dX7_masterThatGoes_17 (fun v9 I8 H locs h hR hS => ?_)
      obtain ⟨hi10, h⟩ := h
      refine w_iald C hR (IsModel.a0 hf7) hi10 (j := (ix v9)) rfl dX7_masterThatGoes_20 ?_
      refine v_istore_n (lv' := [(3, .int (I8 (a0 + 1) (ix v9))), (0, .ref a0), (1, .int y1_5), (2, .int y2_5)]) hx hb dX7_masterThatGoes_21 rfl hl (by decide) rfl (fun ls hl => ?_)
      refine lv_aload_n hx hb dX7_masterThatGoes_22 rfl (hv_at hl 1 rfl) ?_
      refine lv_iload_n hx hb dX7_masterThatGoes_23 rfl (hv_at hl 3 rfl) ?_
      refine v_cVi (As := [.int y2_5]) C hR hS hl.1.1 ca_X7_canSend kml_X7_103 (L_X7_canSend E l a0 y2_5 I8 _ h) (IsModel.k hf7) rfl rfl rfl rfl (Nat.le_of_ble_eq_true rfl) ⟨Nat.le_of_ble_eq_true rfl, Nat.le_of_ble_eq_true rfl⟩ ⟨Nat.zero_le _, Nat.zero_le _⟩ dX7_masterThatGoes_24 (fun v12 I11 H locs h hR hS => ?_)
      refine lv_if_eq (tgt := 65) hx hb dX7_masterThatGoes_27 (by decide) (fun c19 => ?_) (fun c19 => ?_)
      · replace h := h.1 c19
        exact hJ65 y1_5 y2_5 I11 _ _ _ h hR hS (hv_sub hl [1, 2, 3] rfl)
      · replace h := h.2 c19
        refine lv_iload_n hx hb dX7_masterThatGoes_30 rfl (hv_at hl 0 rfl) ?_
        refine lv_aload_n hx hb dX7_masterThatGoes_31 rfl (hv_at hl 1 rfl) ?_
        refine v_get (T := TX7) (v := .ref (a0 + 1)) C hR 0 kfl_X7_7 rfl inG7 (by decide) rfl (IsModel.k hf7) (rf_of (IsModel.r0 hf7 (I11 a0 0))) dX7_masterThatGoes_32 ?_
        refine lv_iconst (v := (3:Int32)) hx hb dX7_masterThatGoes_35 rfl ?_
        refine w_iald C hR (IsModel.a0 hf7) (show vp_in (3:Int32) 2361 by unfold vp_in; decide) (j := 3) (by decide) dX7_masterThatGoes_36 ?_
        refine lv_icmp_lt (tgt := 65) hx hb dX7_masterThatGoes_37 (by decide) (fun c18 => ?_) (fun c18 => ?_)
        · replace h := h.1 c18
          exact hJ65 y1_5 y2_5 I11 _ _ _ h hR hS (hv_sub hl [1, 2, 3] rfl)
        · replace h := h.2 c18
          refine lv_iload_n hx hb dX7_masterThatGoes_40 rfl (hv_at hl 2 rfl) ?_
          refine lv_bipush (v := (-5:Int32)) hx hb dX7_masterThatGoes_41 (by decide) ?_
          refine lv_icmp_eq (tgt := 61) hx hb dX7_masterThatGoes_43 (by decide) (fun c17 => ?_) (fun c17 => ?_)
          · replace h := h.1 c17
            exact hJ61 y2_5 I11 _ _ _ h hR hS (hv_sub hl [1, 3] rfl)
          · replace h := h.2 c17
            refine lv_iload_n hx hb dX7_masterThatGoes_46 rfl (hv_at hl 0 rfl) ?_
            refine lv_aload_n hx hb dX7_masterThatGoes_47 rfl (hv_at hl 1 rfl) ?_
            refine v_get (T := TX7) (v := .ref (a0 + 1)) C hR 0 kfl_X7_7 rfl inG7 (by decide) rfl (IsModel.k hf7) (rf_of (IsModel.r0 hf7 (I11 a0 0))) dX7_masterThatGoes_48 ?_
            refine lv_iload_n hx hb dX7_masterThatGoes_51 rfl (hv_at hl 2 rfl) ?_
            refine lv_bipush (v := (10:Int32)) hx hb dX7_masterThatGoes_52 (by decide) ?_
            refine v_cSi (As := [.int y1_5, .int (10:Int32)]) C hR hS hl.1.1 ca_X7_ofMaster kml_X7_31 (L_X7_ofMaster E l y1_5 (10:Int32) I11 _ h) rfl rfl (Nat.le_of_ble_eq_true rfl) ⟨Nat.le_of_ble_eq_true rfl, Nat.le_of_ble_eq_true rfl⟩ ⟨Nat.zero_le _, Nat.zero_le _⟩ dX7_masterThatGoes_54 (fun v14 I13 H locs h hR hS => ?_)
            obtain ⟨hi15, h⟩ := h
            refine w_iald C hR (IsModel.a0 hf7) hi15 (j := (ix v14)) rfl dX7_masterThatGoes_57 ?_
            refine lv_icmp_le (tgt := 65) hx hb dX7_masterThatGoes_58 (by decide) (fun c16 => ?_) (fun c16 => ?_)
            · replace h := h.1 c16
              exact hJ65 y1_5 y2_5 I13 _ _ _ h hR hS (hv_sub hl [1, 2, 3] rfl)
            · replace h := h.2 c16
              exact hJ61 y2_5 I13 _ _ _ h hR hS (hv_sub hl [1, 3] rfl)
  unfold w_X7_masterThatGoes at h
  refine lv_bipush (v := (-5:Int32)) hx hb dX7_masterThatGoes_0 (by decide) ?_
  refine v_istore_n (lv' := [(1, .int (-5:Int32)), (0, .ref a0)]) hx hb dX7_masterThatGoes_2 rfl hl (by decide) rfl (fun ls hl => ?_)
  refine lv_iconst (v := (0:Int32)) hx hb dX7_masterThatGoes_3 rfl ?_
  refine v_istore_n (lv' := [(2, .int (0:Int32)), (1, .int (-5:Int32)), (0, .ref a0)]) hx hb dX7_masterThatGoes_4 rfl hl (by decide) rfl (fun ls hl => ?_)
  exact hJ5 (-5:Int32) (0:Int32) I _ _ _ h hR hS (hv_sub hl [2, 1, 0] rfl)
set_option maxHeartbeats 4000000 in
set_option maxRecDepth 100000 in
theorem L_X7_answers (E : Ev) (l : Launch) {K : MK} {R : MR} {n : Nat} (a0 : Nat) (x1 : Int32) (I : MI) (Q : Int32 → MI → Prop) (h : w_X7_answers K R a0 x1 I Q) : MM E l yX7_answers cX7_answers 5 (some Jvm.ClassFile.FieldType.int) 2 47 0 0 [.ref a0, .int x1] K R I n (Qi K R n Q) := by
  refine MM.of1 (by decide) RX7 rfl (cR (cI cN)) (Nat.le_of_ble_eq_true rfl) ?_
  intro p e s m args below meth c ls C hin hR hS hl
  have hx := C.1
  have hb := C.2.1
  have hml := C.2.2.1
  have hown := C.2.2.2.1
  have hts := C.2.2.2.2.1
  have hl : hv ls 5 [(0, .ref a0), (1, .int x1)] := hl
  clear hin
  have hJ77 : ∀ (y3_77 : Int32) (y4_77 : Int32) (I : MI) (H : Heap) (locs : List Loc) (ls : Array Slot), w_X7_answers_b77 K R a0 x1 Q y3_77 y4_77 I → Rep E K R I n H → va_S (AA E) s.heap H locs → hv ls 5 [(0, .ref a0), (1, .int x1), (3, .int y3_77), (4, .int y4_77)] → W p l e (rmM 2 47 0 0) s m args below meth c H locs 0 0 (MQ below (QcM E (Qi K R n Q)) args s 0 0 (AA E)) (F0 m 77 ls []) := by
    intro y3_77 y4_77 I H locs ls h hR hS hl
    obtain ⟨X77, hX77⟩ : ∃ X : Int32 → Int32 → MI → Prop, ∀ (y3_77 : Int32) (y4_77 : Int32) (I : MI), X y3_77 y4_77 I ↔ (∀ (H : Heap) (locs : List Loc) (ls : Array Slot), Rep E K R I n H → va_S (AA E) s.heap H locs → hv ls 5 [(0, .ref a0), (1, .int x1), (3, .int y3_77), (4, .int y4_77)] → W p l e (rmM 2 47 0 0) s m args below meth c H locs 0 0 (MQ below (QcM E (Qi K R n Q)) args s 0 0 (AA E)) (F0 m 77 ls [])) := ⟨fun y3_77 y4_77 I => ∀ (H : Heap) (locs : List Loc) (ls : Array Slot), Rep E K R I n H → va_S (AA E) s.heap H locs → hv ls 5 [(0, .ref a0), (1, .int x1), (3, .int y3_77), (4, .int y4_77)] → W p l e (rmM 2 47 0 0) s m args below meth c H locs 0 0 (MQ below (QcM E (Qi K R n Q)) args s 0 0 (AA E)) (F0 m 77 ls []), fun _ _ _ => Iff.rfl⟩
    refine (hX77 y3_77 y4_77 I).mp (h X77 ?_) H locs ls hR hS hl
    clear h hR hS hl
    clear ls locs H I y3_77 y4_77
    intro y3_77 y4_77 I h
    refine (hX77 y3_77 y4_77 I).mpr ?_
    intro H locs ls hR hS hl
    unfold w_X7_answers_b77_body at h
    refine lv_iload hx hb dX7_answers_77 (hv_at hl 3 rfl) ?_
    refine lv_iconst (v := (1:Int32)) hx hb dX7_answers_79 rfl ?_
    refine lv_iadd hx hb dX7_answers_80 ?_
    refine lv_aload_n hx hb dX7_answers_81 rfl (hv_at hl 0 rfl) ?_
    obtain ⟨hf1, h⟩ := h
    refine v_get (T := TX7) (v := .ref (a0 + 1)) C hR 0 kfl_X7_7 rfl inG7 (by decide) rfl (IsModel.k hf1) (rf_of (IsModel.r0 hf1 (I a0 0))) dX7_answers_82 ?_
    refine lv_iload_n hx hb dX7_answers_85 rfl (hv_at hl 1 rfl) ?_
    refine lv_bipush (v := (19:Int32)) hx hb dX7_answers_86 (by decide) ?_
    refine v_cSi (As := [.int x1, .int (19:Int32)]) C hR hS hl.1.1 ca_X7_ofTarget kml_X7_35 (L_X7_ofTarget E l x1 (19:Int32) I _ h) rfl rfl (Nat.le_of_ble_eq_true rfl) ⟨Nat.le_of_ble_eq_true rfl, Nat.le_of_ble_eq_true rfl⟩ ⟨Nat.zero_le _, Nat.zero_le _⟩ dX7_answers_88 (fun v3 I2 H locs h hR hS => ?_)
    obtain ⟨hi4, h⟩ := h
    refine w_iald C hR (IsModel.a0 hf1) hi4 (j := (ix v3)) rfl dX7_answers_91 ?_
    refine lv_icmp_ge (tgt := 131) hx hb dX7_answers_92 (by decide) (fun c37 => ?_) (fun c37 => ?_)
    · replace h := h.1 c37
      refine lv_aload_n hx hb dX7_answers_131 rfl (hv_at hl 0 rfl) ?_
      refine v_get (T := TX7) (v := .ref (a0 + 1)) C hR 0 kfl_X7_7 rfl inG7 (by decide) rfl (IsModel.k hf1) (rf_of (IsModel.r0 hf1 (I2 a0 0))) dX7_answers_132 ?_
      refine lv_iload_n hx hb dX7_answers_135 rfl (hv_at hl 1 rfl) ?_
      refine lv_bipush (v := (19:Int32)) hx hb dX7_answers_136 (by decide) ?_
      refine v_cSi (As := [.int x1, .int (19:Int32)]) C hR hS hl.1.1 ca_X7_ofTarget kml_X7_35 (L_X7_ofTarget E l x1 (19:Int32) I2 _ h) rfl rfl (Nat.le_of_ble_eq_true rfl) ⟨Nat.le_of_ble_eq_true rfl, Nat.le_of_ble_eq_true rfl⟩ ⟨Nat.zero_le _, Nat.zero_le _⟩ dX7_answers_138 (fun v6 I5 H locs h hR hS => ?_)
      refine lv_dup2_11 hx hb dX7_answers_141 rfl rfl ?_
      obtain ⟨hi7, h⟩ := h
      refine w_iald C hR (IsModel.a0 hf1) hi7 (j := (ix v6)) rfl dX7_answers_142 ?_
      refine lv_iconst (v := (1:Int32)) hx hb dX7_answers_143 rfl ?_
      refine lv_isub hx hb dX7_answers_144 ?_
      obtain ⟨hi8, h⟩ := h
      obtain ⟨I9, hI9⟩ := ex_eq (upI I5 (a0 + 1) (ix v6) ((I5 (a0 + 1) (ix v6)) - (1:Int32)))
      replace h := h I9 hI9
      refine w_iast C hR hS (IsModel.a0 hf1) hi8 (j := (ix v6)) rfl hI9 dX7_answers_145 (fun H locs hR hS => ?_)
      refine lv_aload_n hx hb dX7_answers_146 rfl (hv_at hl 0 rfl) ?_
      refine v_get (T := TX7) (v := .ref (a0 + 1)) C hR 0 kfl_X7_7 rfl inG7 (by decide) rfl (IsModel.k hf1) (rf_of (IsModel.r0 hf1 (I9 a0 0))) dX7_answers_147 ?_
      refine lv_bipush (v := (13:Int32)) hx hb dX7_answers_150 (by decide) ?_
      refine lv_aload_n hx hb dX7_answers_152 rfl (hv_at hl 0 rfl) ?_
      refine v_get (T := TX7) (v := .ref (a0 + 1)) C hR 0 kfl_X7_7 rfl inG7 (by decide) rfl (IsModel.k hf1) (rf_of (IsModel.r0 hf1 (I9 a0 0))) dX7_answers_153 ?_
      refine lv_iload_n hx hb dX7_answers_156 rfl (hv_at hl 2 rfl) ?_
      refine lv_iconst (v := (5:Int32)) hx hb dX7_answers_157 rfl ?_
      refine v_cSi (As := [.int y3_77, .int (5:Int32)]) C hR hS hl.1.1 ca_X7_of kml_X7_59 (L_X7_of E l y3_77 (5:Int32) I9 _ h) rfl rfl (Nat.le_of_ble_eq_true rfl) ⟨Nat.le_of_ble_eq_true rfl, Nat.le_of_ble_eq_true rfl⟩ ⟨Nat.zero_le _, Nat.zero_le _⟩ dX7_answers_158 (fun v11 I10 H locs h hR hS => ?_)
      obtain ⟨hi12, h⟩ := h
      refine w_iald C hR (IsModel.a0 hf1) hi12 (j := (ix v11)) rfl dX7_answers_161 ?_
      refine lv_iadd hx hb dX7_answers_162 ?_
      refine lv_bipush (v := (-5:Int32)) hx hb dX7_answers_163 (by decide) ?_
      obtain ⟨hi13, h⟩ := h
      obtain ⟨I14, hI14⟩ := ex_eq (upI I10 (a0 + 1) (ix ((13:Int32) + (I10 (a0 + 1) (ix v11)))) (-5:Int32))
      replace h := h I14 hI14
      refine w_iast C hR hS (IsModel.a0 hf1) hi13 (j := (ix ((13:Int32) + (I10 (a0 + 1) (ix v11))))) rfl hI14 dX7_answers_165 (fun H locs hR hS => ?_)
      refine lv_aload_n hx hb dX7_answers_166 rfl (hv_at hl 0 rfl) ?_
      refine v_get (T := TX7) (v := .ref (a0 + 1)) C hR 0 kfl_X7_7 rfl inG7 (by decide) rfl (IsModel.k hf1) (rf_of (IsModel.r0 hf1 (I14 a0 0))) dX7_answers_167 ?_
      refine lv_iload_n hx hb dX7_answers_170 rfl (hv_at hl 2 rfl) ?_
      refine lv_iconst (v := (5:Int32)) hx hb dX7_answers_171 rfl ?_
      refine v_cSi (As := [.int y3_77, .int (5:Int32)]) C hR hS hl.1.1 ca_X7_of kml_X7_59 (L_X7_of E l y3_77 (5:Int32) I14 _ h) rfl rfl (Nat.le_of_ble_eq_true rfl) ⟨Nat.le_of_ble_eq_true rfl, Nat.le_of_ble_eq_true rfl⟩ ⟨Nat.zero_le _, Nat.zero_le _⟩ dX7_answers_172 (fun v16 I15 H locs h hR hS => ?_)
      refine lv_bipush (v := (-5:Int32)) hx hb dX7_answers_175 (by decide) ?_
      obtain ⟨hi17, h⟩ := h
      obtain ⟨I18, hI18⟩ := ex_eq (upI I15 (a0 + 1) (ix v16) (-5:Int32))
      replace h := h I18 hI18
      refine w_iast C hR hS (IsModel.a0 hf1) hi17 (j := (ix v16)) rfl hI18 dX7_answers_177 (fun H locs hR hS => ?_)
      refine lv_aload_n hx hb dX7_answers_178 rfl (hv_at hl 0 rfl) ?_
      refine v_get (T := TX7) (v := .ref (a0 + 1)) C hR 0 kfl_X7_7 rfl inG7 (by decide) rfl (IsModel.k hf1) (rf_of (IsModel.r0 hf1 (I18 a0 0))) dX7_answers_179 ?_
      refine lv_iload_n hx hb dX7_answers_182 rfl (hv_at hl 2 rfl) ?_
      refine lv_iconst (v := (4:Int32)) hx hb dX7_answers_183 rfl ?_
      refine v_cSi (As := [.int y3_77, .int (4:Int32)]) C hR hS hl.1.1 ca_X7_of kml_X7_59 (L_X7_of E l y3_77 (4:Int32) I18 _ h) rfl rfl (Nat.le_of_ble_eq_true rfl) ⟨Nat.le_of_ble_eq_true rfl, Nat.le_of_ble_eq_true rfl⟩ ⟨Nat.zero_le _, Nat.zero_le _⟩ dX7_answers_184 (fun v20 I19 H locs h hR hS => ?_)
      refine lv_iconst (v := (3:Int32)) hx hb dX7_answers_187 rfl ?_
      obtain ⟨hi21, h⟩ := h
      obtain ⟨I22, hI22⟩ := ex_eq (upI I19 (a0 + 1) (ix v20) (3:Int32))
      replace h := h I22 hI22
      refine w_iast C hR hS (IsModel.a0 hf1) hi21 (j := (ix v20)) rfl hI22 dX7_answers_188 (fun H locs hR hS => ?_)
      refine lv_aload_n hx hb dX7_answers_189 rfl (hv_at hl 0 rfl) ?_
      refine v_get (T := TX7) (v := .ref (a0 + 1)) C hR 0 kfl_X7_7 rfl inG7 (by decide) rfl (IsModel.k hf1) (rf_of (IsModel.r0 hf1 (I22 a0 0))) dX7_answers_190 ?_
      refine lv_iload_n hx hb dX7_answers_193 rfl (hv_at hl 2 rfl) ?_
      refine lv_bipush (v := (8:Int32)) hx hb dX7_answers_194 (by decide) ?_
      refine v_cSi (As := [.int y3_77, .int (8:Int32)]) C hR hS hl.1.1 ca_X7_of kml_X7_59 (L_X7_of E l y3_77 (8:Int32) I22 _ h) rfl rfl (Nat.le_of_ble_eq_true rfl) ⟨Nat.le_of_ble_eq_true rfl, Nat.le_of_ble_eq_true rfl⟩ ⟨Nat.zero_le _, Nat.zero_le _⟩ dX7_answers_196 (fun v24 I23 H locs h hR hS => ?_)
      refine lv_aload_n hx hb dX7_answers_199 rfl (hv_at hl 0 rfl) ?_
      refine v_get (T := TX7) (v := .ref (a0 + 1)) C hR 0 kfl_X7_7 rfl inG7 (by decide) rfl (IsModel.k hf1) (rf_of (IsModel.r0 hf1 (I23 a0 0))) dX7_answers_200 ?_
      refine lv_iconst (v := (0:Int32)) hx hb dX7_answers_203 rfl ?_
      refine w_iald C hR (IsModel.a0 hf1) (show vp_in (0:Int32) 2361 by unfold vp_in; decide) (j := 0) (by decide) dX7_answers_204 ?_
      refine lv_aload_n hx hb dX7_answers_205 rfl (hv_at hl 0 rfl) ?_
      refine v_get (T := TX7) (v := .ref (a0 + 1)) C hR 0 kfl_X7_7 rfl inG7 (by decide) rfl (IsModel.k hf1) (rf_of (IsModel.r0 hf1 (I23 a0 0))) dX7_answers_206 ?_
      refine lv_iload_n hx hb dX7_answers_209 rfl (hv_at hl 2 rfl) ?_
      refine lv_bipush (v := (7:Int32)) hx hb dX7_answers_210 (by decide) ?_
      refine v_cSi (As := [.int y3_77, .int (7:Int32)]) C hR hS hl.1.1 ca_X7_of kml_X7_59 (L_X7_of E l y3_77 (7:Int32) I23 _ h) rfl rfl (Nat.le_of_ble_eq_true rfl) ⟨Nat.le_of_ble_eq_true rfl, Nat.le_of_ble_eq_true rfl⟩ ⟨Nat.zero_le _, Nat.zero_le _⟩ dX7_answers_212 (fun v26 I25 H locs h hR hS => ?_)
      obtain ⟨hi27, h⟩ := h
      refine w_iald C hR (IsModel.a0 hf1) hi27 (j := (ix v26)) rfl dX7_answers_215 ?_
      refine lv_isub hx hb dX7_answers_216 ?_
      obtain ⟨hi28, h⟩ := h
      obtain ⟨I29, hI29⟩ := ex_eq (upI I25 (a0 + 1) (ix v24) ((I23 (a0 + 1) 0) - (I25 (a0 + 1) (ix v26))))
      replace h := h I29 hI29
      refine w_iast C hR hS (IsModel.a0 hf1) hi28 (j := (ix v24)) rfl hI29 dX7_answers_217 (fun H locs hR hS => ?_)
      refine lv_iconst (v := (1:Int32)) hx hb dX7_answers_218 rfl ?_
      exact w_ireti C rfl rfl hR hS h dX7_answers_219
    · replace h := h.2 c37
      refine lv_aload_n hx hb dX7_answers_95 rfl (hv_at hl 0 rfl) ?_
      refine v_get (T := TX7) (v := .ref (a0 + 1)) C hR 0 kfl_X7_7 rfl inG7 (by decide) rfl (IsModel.k hf1) (rf_of (IsModel.r0 hf1 (I2 a0 0))) dX7_answers_96 ?_
      refine lv_iload_n hx hb dX7_answers_99 rfl (hv_at hl 1 rfl) ?_
      refine lv_bipush (v := (20:Int32)) hx hb dX7_answers_100 (by decide) ?_
      refine lv_iload hx hb dX7_answers_102 (hv_at hl 3 rfl) ?_
      refine lv_iadd hx hb dX7_answers_104 ?_
      refine v_cSi (As := [.int x1, .int ((20:Int32) + y4_77)]) C hR hS hl.1.1 ca_X7_ofTarget kml_X7_35 (L_X7_ofTarget E l x1 ((20:Int32) + y4_77) I2 _ h) rfl rfl (Nat.le_of_ble_eq_true rfl) ⟨Nat.le_of_ble_eq_true rfl, Nat.le_of_ble_eq_true rfl⟩ ⟨Nat.zero_le _, Nat.zero_le _⟩ dX7_answers_105 (fun v31 I30 H locs h hR hS => ?_)
      refine lv_aload_n hx hb dX7_answers_108 rfl (hv_at hl 0 rfl) ?_
      refine v_get (T := TX7) (v := .ref (a0 + 1)) C hR 0 kfl_X7_7 rfl inG7 (by decide) rfl (IsModel.k hf1) (rf_of (IsModel.r0 hf1 (I30 a0 0))) dX7_answers_109 ?_
      refine lv_iload_n hx hb dX7_answers_112 rfl (hv_at hl 1 rfl) ?_
      refine lv_bipush (v := (20:Int32)) hx hb dX7_answers_113 (by decide) ?_
      refine lv_iload hx hb dX7_answers_115 (hv_at hl 3 rfl) ?_
      refine lv_iadd hx hb dX7_answers_117 ?_
      refine lv_iconst (v := (1:Int32)) hx hb dX7_answers_118 rfl ?_
      refine lv_iadd hx hb dX7_answers_119 ?_
      refine v_cSi (As := [.int x1, .int (((20:Int32) + y4_77) + (1:Int32))]) C hR hS hl.1.1 ca_X7_ofTarget kml_X7_35 (L_X7_ofTarget E l x1 (((20:Int32) + y4_77) + (1:Int32)) I30 _ h) rfl rfl (Nat.le_of_ble_eq_true rfl) ⟨Nat.le_of_ble_eq_true rfl, Nat.le_of_ble_eq_true rfl⟩ ⟨Nat.zero_le _, Nat.zero_le _⟩ dX7_answers_120 (fun v33 I32 H locs h hR hS => ?_)
      obtain ⟨hi34, h⟩ := h
      refine w_iald C hR (IsModel.a0 hf1) hi34 (j := (ix v33)) rfl dX7_answers_123 ?_
      obtain ⟨hi35, h⟩ := h
      obtain ⟨I36, hI36⟩ := ex_eq (upI I32 (a0 + 1) (ix v31) (I32 (a0 + 1) (ix v33)))
      replace h := h I36 hI36
      refine w_iast C hR hS (IsModel.a0 hf1) hi35 (j := (ix v31)) rfl hI36 dX7_answers_124 (fun H locs hR hS => ?_)
      refine v_iinc (v := y4_77 + (1:Int32)) (k := 3) (lv' := [(4, .int (y4_77 + (1:Int32))), (0, .ref a0), (1, .int x1), (3, .int y3_77)]) hx hb dX7_answers_125 hl rfl rfl (by decide) rfl (fun ls hl => ?_)
      refine lv_goto (tgt := 77) hx hb dX7_answers_128 (by decide) ?_
      exact (hX77 y3_77 (y4_77 + (1:Int32)) I36).mp h _ _ _ hR hS (hv_sub hl [1, 2, 3, 0] rfl)
  have hJ72 : ∀ (y2_72 : Int32) (y3_72 : Int32) (z0_72 : Int32) (z1_72 : Int32) (z2_72 : Int32) (I : MI) (H : Heap) (locs : List Loc) (ls : Array Slot), w_X7_answers_b72 K R a0 x1 Q y2_72 y3_72 z0_72 z1_72 z2_72 I → Rep E K R I n H → va_S (AA E) s.heap H locs → hv ls 5 [(0, .ref a0), (1, .int x1), (2, .int y2_72), (3, .int y3_72)] → W p l e (rmM 2 47 0 0) s m args below meth c H locs 0 0 (MQ below (QcM E (Qi K R n Q)) args s 0 0 (AA E)) (F0 m 72 ls [.int z0_72, .int z1_72, .int z2_72, .ref (a0 + 1)]) := by
    intro y2_72 y3_72 z0_72 z1_72 z2_72 I H locs ls h hR hS hl
    unfold w_X7_answers_b72 at h
    refine lv_iadd hx hb dX7_answers_72 ?_
    obtain ⟨hf39, h⟩ := h
    obtain ⟨hi38, h⟩ := h
    obtain ⟨I40, hI40⟩ := ex_eq (upI I (a0 + 1) (ix z2_72) (z1_72 + z0_72))
    replace h := h I40 hI40
    refine w_iast C hR hS (IsModel.a0 hf39) hi38 (j := (ix z2_72)) rfl hI40 dX7_answers_73 (fun H locs hR hS => ?_)
    refine lv_iload_n hx hb dX7_answers_74 rfl (hv_at hl 2 rfl) ?_
    refine v_istore (lv' := [(4, .int y2_72), (0, .ref a0), (1, .int x1), (2, .int y2_72), (3, .int y3_72)]) hx hb dX7_answers_75 hl (by decide) rfl (fun ls hl => ?_)
    exact hJ77 y3_72 y2_72 I40 _ _ _ h hR hS (hv_sub hl [1, 2, 4, 0] rfl)
  unfold w_X7_answers at h
  refine lv_aload_n hx hb dX7_answers_0 rfl (hv_at hl 0 rfl) ?_
  refine lv_iload_n hx hb dX7_answers_1 rfl (hv_at hl 1 rfl) ?_
  obtain ⟨hf41, h⟩ := h
  refine v_cVi (As := [.int x1]) C hR hS hl.1.1 ca_X7_answering kml_X7_93 (L_X7_answering E l a0 x1 I _ h) (IsModel.k hf41) rfl rfl rfl rfl (Nat.le_of_ble_eq_true rfl) ⟨Nat.le_of_ble_eq_true rfl, Nat.le_of_ble_eq_true rfl⟩ ⟨Nat.zero_le _, Nat.zero_le _⟩ dX7_answers_2 (fun v43 I42 H locs h hR hS => ?_)
  refine v_istore_n (lv' := [(2, .int v43), (0, .ref a0), (1, .int x1)]) hx hb dX7_answers_5 rfl hl (by decide) rfl (fun ls hl => ?_)
  refine lv_aload_n hx hb dX7_answers_6 rfl (hv_at hl 1 rfl) ?_
  refine v_get (T := TX7) (v := .ref (a0 + 1)) C hR 0 kfl_X7_7 rfl inG7 (by decide) rfl (IsModel.k hf41) (rf_of (IsModel.r0 hf41 (I42 a0 0))) dX7_answers_7 ?_
  refine lv_iload_n hx hb dX7_answers_10 rfl (hv_at hl 2 rfl) ?_
  refine lv_bipush (v := (20:Int32)) hx hb dX7_answers_11 (by decide) ?_
  refine lv_iload_n hx hb dX7_answers_13 rfl (hv_at hl 0 rfl) ?_
  refine lv_iadd hx hb dX7_answers_14 ?_
  refine v_cSi (As := [.int x1, .int ((20:Int32) + v43)]) C hR hS hl.1.1 ca_X7_ofTarget kml_X7_35 (L_X7_ofTarget E l x1 ((20:Int32) + v43) I42 _ h) rfl rfl (Nat.le_of_ble_eq_true rfl) ⟨Nat.le_of_ble_eq_true rfl, Nat.le_of_ble_eq_true rfl⟩ ⟨Nat.zero_le _, Nat.zero_le _⟩ dX7_answers_15 (fun v45 I44 H locs h hR hS => ?_)
  obtain ⟨hi46, h⟩ := h
  refine w_iald C hR (IsModel.a0 hf41) hi46 (j := (ix v45)) rfl dX7_answers_18 ?_
  refine v_istore_n (lv' := [(3, .int (I44 (a0 + 1) (ix v45))), (2, .int v43), (0, .ref a0), (1, .int x1)]) hx hb dX7_answers_19 rfl hl (by decide) rfl (fun ls hl => ?_)
  refine lv_aload_n hx hb dX7_answers_20 rfl (hv_at hl 2 rfl) ?_
  refine lv_iload_n hx hb dX7_answers_21 rfl (hv_at hl 0 rfl) ?_
  obtain ⟨I47, hI47⟩ := ex_eq (upI I44 a0 12 (I44 (a0 + 1) (ix v45)))
  replace h := h I47 hI47
  refine v_put (T := TX7) (ty := .int) C hR hS 12 kfl_X7_106 rfl inG7 tyX7 tyX7_ok nmX7 (by decide) rfl (IsModel.k hf41) rfl (tyX7_ok 12 (by decide)) rfl rfl (fl_i_7_12 _ _ _) (Nat.le_of_ble_eq_true rfl) hI47 dX7_answers_22 (fun H locs hR hS => ?_)
  refine lv_aload_n hx hb dX7_answers_25 rfl (hv_at hl 2 rfl) ?_
  refine v_get (T := TX7) (v := .ref (a0 + 1)) C hR 0 kfl_X7_7 rfl inG7 (by decide) rfl (IsModel.k hf41) (rf_of (IsModel.r0 hf41 (I47 a0 0))) dX7_answers_26 ?_
  refine lv_bipush (v := (6:Int32)) hx hb dX7_answers_29 (by decide) ?_
  refine lv_iload_n hx hb dX7_answers_31 rfl (hv_at hl 3 rfl) ?_
  refine lv_iconst (v := (1:Int32)) hx hb dX7_answers_32 rfl ?_
  refine lv_iadd hx hb dX7_answers_33 ?_
  refine lv_iconst (v := (4:Int32)) hx hb dX7_answers_34 rfl ?_
  refine lv_irem hx hb dX7_answers_35 (by decide) ?_
  obtain ⟨I48, hI48⟩ := ex_eq (upI I47 (a0 + 1) 6 ((x1 + (1:Int32)) - (x1 + (1:Int32)) / (4:Int32) * (4:Int32)))
  replace h := h I48 hI48
  refine w_iast C hR hS (IsModel.a0 hf41) (show vp_in (6:Int32) 2361 by unfold vp_in; decide) (j := 6) (by decide) hI48 dX7_answers_36 (fun H locs hR hS => ?_)
  refine lv_aload_n hx hb dX7_answers_37 rfl (hv_at hl 2 rfl) ?_
  refine v_get (T := TX7) (v := .ref (a0 + 1)) C hR 0 kfl_X7_7 rfl inG7 (by decide) rfl (IsModel.k hf41) (rf_of (IsModel.r0 hf41 (I48 a0 0))) dX7_answers_38 ?_
  refine lv_iconst (v := (5:Int32)) hx hb dX7_answers_41 rfl ?_
  refine lv_iconst (v := (1:Int32)) hx hb dX7_answers_42 rfl ?_
  obtain ⟨I49, hI49⟩ := ex_eq (upI I48 (a0 + 1) 5 (1:Int32))
  replace h := h I49 hI49
  refine w_iast C hR hS (IsModel.a0 hf41) (show vp_in (5:Int32) 2361 by unfold vp_in; decide) (j := 5) (by decide) hI49 dX7_answers_43 (fun H locs hR hS => ?_)
  refine lv_aload_n hx hb dX7_answers_44 rfl (hv_at hl 2 rfl) ?_
  refine v_get (T := TX7) (v := .ref (a0 + 1)) C hR 0 kfl_X7_7 rfl inG7 (by decide) rfl (IsModel.k hf41) (rf_of (IsModel.r0 hf41 (I49 a0 0))) dX7_answers_45 ?_
  refine lv_bipush (v := (8:Int32)) hx hb dX7_answers_48 (by decide) ?_
  refine lv_dup2_11 hx hb dX7_answers_50 rfl rfl ?_
  refine w_iald C hR (IsModel.a0 hf41) (show vp_in (8:Int32) 2361 by unfold vp_in; decide) (j := 8) (by decide) dX7_answers_51 ?_
  refine lv_iconst (v := (1:Int32)) hx hb dX7_answers_52 rfl ?_
  refine lv_iadd hx hb dX7_answers_53 ?_
  obtain ⟨I50, hI50⟩ := ex_eq (upI I49 (a0 + 1) 8 ((I49 (a0 + 1) 8) + (1:Int32)))
  replace h := h I50 hI50
  refine w_iast C hR hS (IsModel.a0 hf41) (show vp_in (8:Int32) 2361 by unfold vp_in; decide) (j := 8) (by decide) hI50 dX7_answers_54 (fun H locs hR hS => ?_)
  refine lv_aload_n hx hb dX7_answers_55 rfl (hv_at hl 2 rfl) ?_
  refine v_get (T := TX7) (v := .ref (a0 + 1)) C hR 0 kfl_X7_7 rfl inG7 (by decide) rfl (IsModel.k hf41) (rf_of (IsModel.r0 hf41 (I50 a0 0))) dX7_answers_56 ?_
  refine lv_bipush (v := (12:Int32)) hx hb dX7_answers_59 (by decide) ?_
  refine lv_dup2_11 hx hb dX7_answers_61 rfl rfl ?_
  refine w_iald C hR (IsModel.a0 hf41) (show vp_in (12:Int32) 2361 by unfold vp_in; decide) (j := 12) (by decide) dX7_answers_62 ?_
  refine lv_iload_n hx hb dX7_answers_63 rfl (hv_at hl 1 rfl) ?_
  refine lv_if_le (tgt := 71) hx hb dX7_answers_64 (by decide) (fun c51 => ?_) (fun c51 => ?_)
  · replace h := h.1 c51
    refine lv_iconst (v := (0:Int32)) hx hb dX7_answers_71 rfl ?_
    exact hJ72 v43 (I44 (a0 + 1) (ix v45)) (0:Int32) (I50 (a0 + 1) 12) (12:Int32) I50 _ _ _ h hR hS (hv_sub hl [2, 3, 1, 0] rfl)
  · replace h := h.2 c51
    refine lv_iconst (v := (1:Int32)) hx hb dX7_answers_67 rfl ?_
    refine lv_goto (tgt := 72) hx hb dX7_answers_68 (by decide) ?_
    exact hJ72 v43 (I44 (a0 + 1) (ix v45)) (1:Int32) (I50 (a0 + 1) 12) (12:Int32) I50 _ _ _ h hR hS (hv_sub hl [2, 3, 1, 0] rfl)
set_option maxHeartbeats 4000000 in
set_option maxRecDepth 100000 in
theorem L_X7_sends (E : Ev) (l : Launch) {K : MK} {R : MR} {n : Nat} (a0 : Nat) (x1 : Int32) (I : MI) (Q : Int32 → MI → Prop) (h : w_X7_sends K R a0 x1 I Q) : MM E l yX7_sends cX7_sends 6 (some Jvm.ClassFile.FieldType.int) 1 21 0 0 [.ref a0, .int x1] K R I n (Qi K R n Q) := by
  refine MM.of1 (by decide) RX7 rfl (cR (cI cN)) (Nat.le_of_ble_eq_true rfl) ?_
  intro p e s m args below meth c ls C hin hR hS hl
  have hx := C.1
  have hb := C.2.1
  have hml := C.2.2.1
  have hown := C.2.2.2.1
  have hts := C.2.2.2.2.1
  have hl : hv ls 6 [(0, .ref a0), (1, .int x1)] := hl
  clear hin
  have hJ158 : ∀ (z0_158 : Int32) (z1_158 : Int32) (z2_158 : Int32) (I : MI) (H : Heap) (locs : List Loc) (ls : Array Slot), w_X7_sends_b158 K R a0 x1 Q z0_158 z1_158 z2_158 I → Rep E K R I n H → va_S (AA E) s.heap H locs → hv ls 6 [] → W p l e (rmM 1 21 0 0) s m args below meth c H locs 0 0 (MQ below (QcM E (Qi K R n Q)) args s 0 0 (AA E)) (F0 m 158 ls [.int z0_158, .int z1_158, .int z2_158, .ref (a0 + 1)]) := by
    intro z0_158 z1_158 z2_158 I H locs ls h hR hS hl
    unfold w_X7_sends_b158 at h
    refine lv_iadd hx hb dX7_sends_158 ?_
    obtain ⟨hf2, h⟩ := h
    obtain ⟨hi1, h⟩ := h
    obtain ⟨I3, hI3⟩ := ex_eq (upI I (a0 + 1) (ix z2_158) (z1_158 + z0_158))
    replace h := h I3 hI3
    refine w_iast C hR hS (IsModel.a0 hf2) hi1 (j := (ix z2_158)) rfl hI3 dX7_sends_159 (fun H locs hR hS => ?_)
    refine lv_iconst (v := (2:Int32)) hx hb dX7_sends_160 rfl ?_
    exact w_ireti C rfl rfl hR hS h dX7_sends_161
  have hJ171 : ∀ (y2_171 : Int32) (y3_171 : Int32) (y4_171 : Int32) (y5_171 : Int32) (I : MI) (H : Heap) (locs : List Loc) (ls : Array Slot), w_X7_sends_b171 K R a0 x1 Q y2_171 y3_171 y4_171 y5_171 I → Rep E K R I n H → va_S (AA E) s.heap H locs → hv ls 6 [(0, .ref a0), (1, .int x1), (2, .int y2_171), (3, .int y3_171), (4, .int y4_171), (5, .int y5_171)] → W p l e (rmM 1 21 0 0) s m args below meth c H locs 0 0 (MQ below (QcM E (Qi K R n Q)) args s 0 0 (AA E)) (F0 m 171 ls []) := by
    intro y2_171 y3_171 y4_171 y5_171 I H locs ls h hR hS hl
    obtain ⟨X171, hX171⟩ : ∃ X : Int32 → Int32 → Int32 → Int32 → MI → Prop, ∀ (y2_171 : Int32) (y3_171 : Int32) (y4_171 : Int32) (y5_171 : Int32) (I : MI), X y2_171 y3_171 y4_171 y5_171 I ↔ (∀ (H : Heap) (locs : List Loc) (ls : Array Slot), Rep E K R I n H → va_S (AA E) s.heap H locs → hv ls 6 [(0, .ref a0), (1, .int x1), (2, .int y2_171), (3, .int y3_171), (4, .int y4_171), (5, .int y5_171)] → W p l e (rmM 1 21 0 0) s m args below meth c H locs 0 0 (MQ below (QcM E (Qi K R n Q)) args s 0 0 (AA E)) (F0 m 171 ls [])) := ⟨fun y2_171 y3_171 y4_171 y5_171 I => ∀ (H : Heap) (locs : List Loc) (ls : Array Slot), Rep E K R I n H → va_S (AA E) s.heap H locs → hv ls 6 [(0, .ref a0), (1, .int x1), (2, .int y2_171), (3, .int y3_171), (4, .int y4_171), (5, .int y5_171)] → W p l e (rmM 1 21 0 0) s m args below meth c H locs 0 0 (MQ below (QcM E (Qi K R n Q)) args s 0 0 (AA E)) (F0 m 171 ls []), fun _ _ _ _ _ => Iff.rfl⟩
    refine (hX171 y2_171 y3_171 y4_171 y5_171 I).mp (h X171 ?_) H locs ls hR hS hl
    clear h hR hS hl
    clear ls locs H I y2_171 y3_171 y4_171 y5_171
    intro y2_171 y3_171 y4_171 y5_171 I h
    refine (hX171 y2_171 y3_171 y4_171 y5_171 I).mpr ?_
    intro H locs ls hR hS hl
    unfold w_X7_sends_b171_body at h
    refine lv_iload hx hb dX7_sends_171 (hv_at hl 5 rfl) ?_
    refine lv_iconst (v := (1:Int32)) hx hb dX7_sends_173 rfl ?_
    refine lv_iadd hx hb dX7_sends_174 ?_
    refine lv_aload_n hx hb dX7_sends_175 rfl (hv_at hl 0 rfl) ?_
    obtain ⟨hf4, h⟩ := h
    refine v_get (T := TX7) (v := .ref (a0 + 1)) C hR 0 kfl_X7_7 rfl inG7 (by decide) rfl (IsModel.k hf4) (rf_of (IsModel.r0 hf4 (I a0 0))) dX7_sends_176 ?_
    refine lv_iload_n hx hb dX7_sends_179 rfl (hv_at hl 1 rfl) ?_
    refine lv_iconst (v := (0:Int32)) hx hb dX7_sends_180 rfl ?_
    refine v_cSi (As := [.int x1, .int (0:Int32)]) C hR hS hl.1.1 ca_X7_ofMaster kml_X7_31 (L_X7_ofMaster E l x1 (0:Int32) I _ h) rfl rfl (Nat.le_of_ble_eq_true rfl) ⟨Nat.le_of_ble_eq_true rfl, Nat.le_of_ble_eq_true rfl⟩ ⟨Nat.zero_le _, Nat.zero_le _⟩ dX7_sends_181 (fun v6 I5 H locs h hR hS => ?_)
    obtain ⟨hi7, h⟩ := h
    refine w_iald C hR (IsModel.a0 hf4) hi7 (j := (ix v6)) rfl dX7_sends_184 ?_
    refine lv_icmp_ge (tgt := 222) hx hb dX7_sends_185 (by decide) (fun c57 => ?_) (fun c57 => ?_)
    · replace h := h.1 c57
      refine lv_aload_n hx hb dX7_sends_222 rfl (hv_at hl 0 rfl) ?_
      refine v_get (T := TX7) (v := .ref (a0 + 1)) C hR 0 kfl_X7_7 rfl inG7 (by decide) rfl (IsModel.k hf4) (rf_of (IsModel.r0 hf4 (I5 a0 0))) dX7_sends_223 ?_
      refine lv_iload_n hx hb dX7_sends_226 rfl (hv_at hl 1 rfl) ?_
      refine lv_iconst (v := (0:Int32)) hx hb dX7_sends_227 rfl ?_
      refine v_cSi (As := [.int x1, .int (0:Int32)]) C hR hS hl.1.1 ca_X7_ofMaster kml_X7_31 (L_X7_ofMaster E l x1 (0:Int32) I5 _ h) rfl rfl (Nat.le_of_ble_eq_true rfl) ⟨Nat.le_of_ble_eq_true rfl, Nat.le_of_ble_eq_true rfl⟩ ⟨Nat.zero_le _, Nat.zero_le _⟩ dX7_sends_228 (fun v9 I8 H locs h hR hS => ?_)
      refine lv_dup2_11 hx hb dX7_sends_231 rfl rfl ?_
      obtain ⟨hi10, h⟩ := h
      refine w_iald C hR (IsModel.a0 hf4) hi10 (j := (ix v9)) rfl dX7_sends_232 ?_
      refine lv_iconst (v := (1:Int32)) hx hb dX7_sends_233 rfl ?_
      refine lv_isub hx hb dX7_sends_234 ?_
      obtain ⟨hi11, h⟩ := h
      obtain ⟨I12, hI12⟩ := ex_eq (upI I8 (a0 + 1) (ix v9) ((I8 (a0 + 1) (ix v9)) - (1:Int32)))
      replace h := h I12 hI12
      refine w_iast C hR hS (IsModel.a0 hf4) hi11 (j := (ix v9)) rfl hI12 dX7_sends_235 (fun H locs hR hS => ?_)
      refine lv_aload_n hx hb dX7_sends_236 rfl (hv_at hl 0 rfl) ?_
      refine v_get (T := TX7) (v := .ref (a0 + 1)) C hR 0 kfl_X7_7 rfl inG7 (by decide) rfl (IsModel.k hf4) (rf_of (IsModel.r0 hf4 (I12 a0 0))) dX7_sends_237 ?_
      refine lv_iload_n hx hb dX7_sends_240 rfl (hv_at hl 1 rfl) ?_
      refine lv_bipush (v := (8:Int32)) hx hb dX7_sends_241 (by decide) ?_
      refine v_cSi (As := [.int x1, .int (8:Int32)]) C hR hS hl.1.1 ca_X7_ofMaster kml_X7_31 (L_X7_ofMaster E l x1 (8:Int32) I12 _ h) rfl rfl (Nat.le_of_ble_eq_true rfl) ⟨Nat.le_of_ble_eq_true rfl, Nat.le_of_ble_eq_true rfl⟩ ⟨Nat.zero_le _, Nat.zero_le _⟩ dX7_sends_243 (fun v14 I13 H locs h hR hS => ?_)
      refine lv_iconst (v := (0:Int32)) hx hb dX7_sends_246 rfl ?_
      obtain ⟨hi15, h⟩ := h
      obtain ⟨I16, hI16⟩ := ex_eq (upI I13 (a0 + 1) (ix v14) (0:Int32))
      replace h := h I16 hI16
      refine w_iast C hR hS (IsModel.a0 hf4) hi15 (j := (ix v14)) rfl hI16 dX7_sends_247 (fun H locs hR hS => ?_)
      refine lv_aload_n hx hb dX7_sends_248 rfl (hv_at hl 0 rfl) ?_
      refine v_get (T := TX7) (v := .ref (a0 + 1)) C hR 0 kfl_X7_7 rfl inG7 (by decide) rfl (IsModel.k hf4) (rf_of (IsModel.r0 hf4 (I16 a0 0))) dX7_sends_249 ?_
      refine lv_bipush (v := (13:Int32)) hx hb dX7_sends_252 (by decide) ?_
      refine lv_iload hx hb dX7_sends_254 (hv_at hl 4 rfl) ?_
      refine lv_iadd hx hb dX7_sends_256 ?_
      refine lv_iload_n hx hb dX7_sends_257 rfl (hv_at hl 2 rfl) ?_
      obtain ⟨hi17, h⟩ := h
      obtain ⟨I18, hI18⟩ := ex_eq (upI I16 (a0 + 1) (ix ((13:Int32) + y4_171)) y2_171)
      replace h := h I18 hI18
      refine w_iast C hR hS (IsModel.a0 hf4) hi17 (j := (ix ((13:Int32) + y4_171))) rfl hI18 dX7_sends_258 (fun H locs hR hS => ?_)
      refine lv_aload_n hx hb dX7_sends_259 rfl (hv_at hl 0 rfl) ?_
      refine v_get (T := TX7) (v := .ref (a0 + 1)) C hR 0 kfl_X7_7 rfl inG7 (by decide) rfl (IsModel.k hf4) (rf_of (IsModel.r0 hf4 (I18 a0 0))) dX7_sends_260 ?_
      refine lv_iload_n hx hb dX7_sends_263 rfl (hv_at hl 2 rfl) ?_
      refine lv_iconst (v := (5:Int32)) hx hb dX7_sends_264 rfl ?_
      refine v_cSi (As := [.int y2_171, .int (5:Int32)]) C hR hS hl.1.1 ca_X7_of kml_X7_59 (L_X7_of E l y2_171 (5:Int32) I18 _ h) rfl rfl (Nat.le_of_ble_eq_true rfl) ⟨Nat.le_of_ble_eq_true rfl, Nat.le_of_ble_eq_true rfl⟩ ⟨Nat.zero_le _, Nat.zero_le _⟩ dX7_sends_265 (fun v20 I19 H locs h hR hS => ?_)
      refine lv_iload hx hb dX7_sends_268 (hv_at hl 4 rfl) ?_
      obtain ⟨hi21, h⟩ := h
      obtain ⟨I22, hI22⟩ := ex_eq (upI I19 (a0 + 1) (ix v20) y4_171)
      replace h := h I22 hI22
      refine w_iast C hR hS (IsModel.a0 hf4) hi21 (j := (ix v20)) rfl hI22 dX7_sends_270 (fun H locs hR hS => ?_)
      refine lv_aload_n hx hb dX7_sends_271 rfl (hv_at hl 0 rfl) ?_
      refine v_get (T := TX7) (v := .ref (a0 + 1)) C hR 0 kfl_X7_7 rfl inG7 (by decide) rfl (IsModel.k hf4) (rf_of (IsModel.r0 hf4 (I22 a0 0))) dX7_sends_272 ?_
      refine lv_iload_n hx hb dX7_sends_275 rfl (hv_at hl 2 rfl) ?_
      refine lv_iconst (v := (4:Int32)) hx hb dX7_sends_276 rfl ?_
      refine v_cSi (As := [.int y2_171, .int (4:Int32)]) C hR hS hl.1.1 ca_X7_of kml_X7_59 (L_X7_of E l y2_171 (4:Int32) I22 _ h) rfl rfl (Nat.le_of_ble_eq_true rfl) ⟨Nat.le_of_ble_eq_true rfl, Nat.le_of_ble_eq_true rfl⟩ ⟨Nat.zero_le _, Nat.zero_le _⟩ dX7_sends_277 (fun v24 I23 H locs h hR hS => ?_)
      refine lv_iconst (v := (1:Int32)) hx hb dX7_sends_280 rfl ?_
      obtain ⟨hi25, h⟩ := h
      obtain ⟨I26, hI26⟩ := ex_eq (upI I23 (a0 + 1) (ix v24) (1:Int32))
      replace h := h I26 hI26
      refine w_iast C hR hS (IsModel.a0 hf4) hi25 (j := (ix v24)) rfl hI26 dX7_sends_281 (fun H locs hR hS => ?_)
      refine lv_aload_n hx hb dX7_sends_282 rfl (hv_at hl 0 rfl) ?_
      refine v_get (T := TX7) (v := .ref (a0 + 1)) C hR 0 kfl_X7_7 rfl inG7 (by decide) rfl (IsModel.k hf4) (rf_of (IsModel.r0 hf4 (I26 a0 0))) dX7_sends_283 ?_
      refine lv_iload_n hx hb dX7_sends_286 rfl (hv_at hl 2 rfl) ?_
      refine lv_bipush (v := (10:Int32)) hx hb dX7_sends_287 (by decide) ?_
      refine v_cSi (As := [.int y2_171, .int (10:Int32)]) C hR hS hl.1.1 ca_X7_of kml_X7_59 (L_X7_of E l y2_171 (10:Int32) I26 _ h) rfl rfl (Nat.le_of_ble_eq_true rfl) ⟨Nat.le_of_ble_eq_true rfl, Nat.le_of_ble_eq_true rfl⟩ ⟨Nat.zero_le _, Nat.zero_le _⟩ dX7_sends_289 (fun v28 I27 H locs h hR hS => ?_)
      refine lv_aload_n hx hb dX7_sends_292 rfl (hv_at hl 0 rfl) ?_
      refine v_get (T := TX7) (v := .ref (a0 + 1)) C hR 0 kfl_X7_7 rfl inG7 (by decide) rfl (IsModel.k hf4) (rf_of (IsModel.r0 hf4 (I27 a0 0))) dX7_sends_293 ?_
      refine lv_iconst (v := (0:Int32)) hx hb dX7_sends_296 rfl ?_
      refine w_iald C hR (IsModel.a0 hf4) (show vp_in (0:Int32) 2361 by unfold vp_in; decide) (j := 0) (by decide) dX7_sends_297 ?_
      refine lv_aload_n hx hb dX7_sends_298 rfl (hv_at hl 0 rfl) ?_
      refine v_get (T := TX7) (v := .ref (a0 + 1)) C hR 0 kfl_X7_7 rfl inG7 (by decide) rfl (IsModel.k hf4) (rf_of (IsModel.r0 hf4 (I27 a0 0))) dX7_sends_299 ?_
      refine lv_iload_n hx hb dX7_sends_302 rfl (hv_at hl 3 rfl) ?_
      refine lv_bipush (v := (17:Int32)) hx hb dX7_sends_303 (by decide) ?_
      refine v_cSi (As := [.int y3_171, .int (17:Int32)]) C hR hS hl.1.1 ca_X7_ofTarget kml_X7_35 (L_X7_ofTarget E l y3_171 (17:Int32) I27 _ h) rfl rfl (Nat.le_of_ble_eq_true rfl) ⟨Nat.le_of_ble_eq_true rfl, Nat.le_of_ble_eq_true rfl⟩ ⟨Nat.zero_le _, Nat.zero_le _⟩ dX7_sends_305 (fun v30 I29 H locs h hR hS => ?_)
      obtain ⟨hi31, h⟩ := h
      refine w_iald C hR (IsModel.a0 hf4) hi31 (j := (ix v30)) rfl dX7_sends_308 ?_
      refine lv_iadd hx hb dX7_sends_309 ?_
      refine lv_aload_n hx hb dX7_sends_310 rfl (hv_at hl 0 rfl) ?_
      refine v_get (T := TX7) (v := .ref (a0 + 1)) C hR 0 kfl_X7_7 rfl inG7 (by decide) rfl (IsModel.k hf4) (rf_of (IsModel.r0 hf4 (I29 a0 0))) dX7_sends_311 ?_
      refine lv_iload_n hx hb dX7_sends_314 rfl (hv_at hl 2 rfl) ?_
      refine lv_iconst (v := (2:Int32)) hx hb dX7_sends_315 rfl ?_
      refine v_cSi (As := [.int y2_171, .int (2:Int32)]) C hR hS hl.1.1 ca_X7_of kml_X7_59 (L_X7_of E l y2_171 (2:Int32) I29 _ h) rfl rfl (Nat.le_of_ble_eq_true rfl) ⟨Nat.le_of_ble_eq_true rfl, Nat.le_of_ble_eq_true rfl⟩ ⟨Nat.zero_le _, Nat.zero_le _⟩ dX7_sends_316 (fun v33 I32 H locs h hR hS => ?_)
      obtain ⟨hi34, h⟩ := h
      refine w_iald C hR (IsModel.a0 hf4) hi34 (j := (ix v33)) rfl dX7_sends_319 ?_
      refine lv_iconst (v := (4:Int32)) hx hb dX7_sends_320 rfl ?_
      refine lv_irem hx hb dX7_sends_321 (by decide) ?_
      refine lv_iadd hx hb dX7_sends_322 ?_
      obtain ⟨hi35, h⟩ := h
      obtain ⟨I36, hI36⟩ := ex_eq (upI I32 (a0 + 1) (ix v28) (((I27 (a0 + 1) 0) + (I29 (a0 + 1) (ix v30))) + ((I32 (a0 + 1) (ix v33)) - (I32 (a0 + 1) (ix v33)) / (4:Int32) * (4:Int32))))
      replace h := h I36 hI36
      refine w_iast C hR hS (IsModel.a0 hf4) hi35 (j := (ix v28)) rfl hI36 dX7_sends_323 (fun H locs hR hS => ?_)
      refine lv_aload_n hx hb dX7_sends_324 rfl (hv_at hl 0 rfl) ?_
      refine v_get (T := TX7) (v := .ref (a0 + 1)) C hR 0 kfl_X7_7 rfl inG7 (by decide) rfl (IsModel.k hf4) (rf_of (IsModel.r0 hf4 (I36 a0 0))) dX7_sends_325 ?_
      refine lv_iload_n hx hb dX7_sends_328 rfl (hv_at hl 3 rfl) ?_
      refine lv_bipush (v := (20:Int32)) hx hb dX7_sends_329 (by decide) ?_
      refine lv_aload_n hx hb dX7_sends_331 rfl (hv_at hl 0 rfl) ?_
      refine v_get (T := TX7) (v := .ref (a0 + 1)) C hR 0 kfl_X7_7 rfl inG7 (by decide) rfl (IsModel.k hf4) (rf_of (IsModel.r0 hf4 (I36 a0 0))) dX7_sends_332 ?_
      refine lv_iload_n hx hb dX7_sends_335 rfl (hv_at hl 3 rfl) ?_
      refine lv_bipush (v := (19:Int32)) hx hb dX7_sends_336 (by decide) ?_
      refine v_cSi (As := [.int y3_171, .int (19:Int32)]) C hR hS hl.1.1 ca_X7_ofTarget kml_X7_35 (L_X7_ofTarget E l y3_171 (19:Int32) I36 _ h) rfl rfl (Nat.le_of_ble_eq_true rfl) ⟨Nat.le_of_ble_eq_true rfl, Nat.le_of_ble_eq_true rfl⟩ ⟨Nat.zero_le _, Nat.zero_le _⟩ dX7_sends_338 (fun v38 I37 H locs h hR hS => ?_)
      obtain ⟨hi39, h⟩ := h
      refine w_iald C hR (IsModel.a0 hf4) hi39 (j := (ix v38)) rfl dX7_sends_341 ?_
      refine lv_iadd hx hb dX7_sends_342 ?_
      refine v_cSi (As := [.int y3_171, .int ((20:Int32) + (I37 (a0 + 1) (ix v38)))]) C hR hS hl.1.1 ca_X7_ofTarget kml_X7_35 (L_X7_ofTarget E l y3_171 ((20:Int32) + (I37 (a0 + 1) (ix v38))) I37 _ h) rfl rfl (Nat.le_of_ble_eq_true rfl) ⟨Nat.le_of_ble_eq_true rfl, Nat.le_of_ble_eq_true rfl⟩ ⟨Nat.zero_le _, Nat.zero_le _⟩ dX7_sends_343 (fun v41 I40 H locs h hR hS => ?_)
      refine lv_iload_n hx hb dX7_sends_346 rfl (hv_at hl 2 rfl) ?_
      obtain ⟨hi42, h⟩ := h
      obtain ⟨I43, hI43⟩ := ex_eq (upI I40 (a0 + 1) (ix v41) y2_171)
      replace h := h I43 hI43
      refine w_iast C hR hS (IsModel.a0 hf4) hi42 (j := (ix v41)) rfl hI43 dX7_sends_347 (fun H locs hR hS => ?_)
      refine lv_aload_n hx hb dX7_sends_348 rfl (hv_at hl 0 rfl) ?_
      refine v_get (T := TX7) (v := .ref (a0 + 1)) C hR 0 kfl_X7_7 rfl inG7 (by decide) rfl (IsModel.k hf4) (rf_of (IsModel.r0 hf4 (I43 a0 0))) dX7_sends_349 ?_
      refine lv_iload_n hx hb dX7_sends_352 rfl (hv_at hl 3 rfl) ?_
      refine lv_bipush (v := (19:Int32)) hx hb dX7_sends_353 (by decide) ?_
      refine v_cSi (As := [.int y3_171, .int (19:Int32)]) C hR hS hl.1.1 ca_X7_ofTarget kml_X7_35 (L_X7_ofTarget E l y3_171 (19:Int32) I43 _ h) rfl rfl (Nat.le_of_ble_eq_true rfl) ⟨Nat.le_of_ble_eq_true rfl, Nat.le_of_ble_eq_true rfl⟩ ⟨Nat.zero_le _, Nat.zero_le _⟩ dX7_sends_355 (fun v45 I44 H locs h hR hS => ?_)
      refine lv_dup2_11 hx hb dX7_sends_358 rfl rfl ?_
      obtain ⟨hi46, h⟩ := h
      refine w_iald C hR (IsModel.a0 hf4) hi46 (j := (ix v45)) rfl dX7_sends_359 ?_
      refine lv_iconst (v := (1:Int32)) hx hb dX7_sends_360 rfl ?_
      refine lv_iadd hx hb dX7_sends_361 ?_
      obtain ⟨hi47, h⟩ := h
      obtain ⟨I48, hI48⟩ := ex_eq (upI I44 (a0 + 1) (ix v45) ((I44 (a0 + 1) (ix v45)) + (1:Int32)))
      replace h := h I48 hI48
      refine w_iast C hR hS (IsModel.a0 hf4) hi47 (j := (ix v45)) rfl hI48 dX7_sends_362 (fun H locs hR hS => ?_)
      refine lv_aload_n hx hb dX7_sends_363 rfl (hv_at hl 0 rfl) ?_
      refine v_get (T := TX7) (v := .ref (a0 + 1)) C hR 0 kfl_X7_7 rfl inG7 (by decide) rfl (IsModel.k hf4) (rf_of (IsModel.r0 hf4 (I48 a0 0))) dX7_sends_364 ?_
      refine lv_bipush (v := (9:Int32)) hx hb dX7_sends_367 (by decide) ?_
      refine lv_dup2_11 hx hb dX7_sends_369 rfl rfl ?_
      refine w_iald C hR (IsModel.a0 hf4) (show vp_in (9:Int32) 2361 by unfold vp_in; decide) (j := 9) (by decide) dX7_sends_370 ?_
      refine lv_iconst (v := (1:Int32)) hx hb dX7_sends_371 rfl ?_
      refine lv_iadd hx hb dX7_sends_372 ?_
      obtain ⟨I49, hI49⟩ := ex_eq (upI I48 (a0 + 1) 9 ((I48 (a0 + 1) 9) + (1:Int32)))
      replace h := h I49 hI49
      refine w_iast C hR hS (IsModel.a0 hf4) (show vp_in (9:Int32) 2361 by unfold vp_in; decide) (j := 9) (by decide) hI49 dX7_sends_373 (fun H locs hR hS => ?_)
      refine lv_iconst (v := (0:Int32)) hx hb dX7_sends_374 rfl ?_
      exact w_ireti C rfl rfl hR hS h dX7_sends_375
    · replace h := h.2 c57
      refine lv_aload_n hx hb dX7_sends_188 rfl (hv_at hl 0 rfl) ?_
      refine v_get (T := TX7) (v := .ref (a0 + 1)) C hR 0 kfl_X7_7 rfl inG7 (by decide) rfl (IsModel.k hf4) (rf_of (IsModel.r0 hf4 (I5 a0 0))) dX7_sends_189 ?_
      refine lv_iload_n hx hb dX7_sends_192 rfl (hv_at hl 1 rfl) ?_
      refine lv_iconst (v := (1:Int32)) hx hb dX7_sends_193 rfl ?_
      refine lv_iload hx hb dX7_sends_194 (hv_at hl 5 rfl) ?_
      refine lv_iadd hx hb dX7_sends_196 ?_
      refine v_cSi (As := [.int x1, .int ((1:Int32) + y5_171)]) C hR hS hl.1.1 ca_X7_ofMaster kml_X7_31 (L_X7_ofMaster E l x1 ((1:Int32) + y5_171) I5 _ h) rfl rfl (Nat.le_of_ble_eq_true rfl) ⟨Nat.le_of_ble_eq_true rfl, Nat.le_of_ble_eq_true rfl⟩ ⟨Nat.zero_le _, Nat.zero_le _⟩ dX7_sends_197 (fun v51 I50 H locs h hR hS => ?_)
      refine lv_aload_n hx hb dX7_sends_200 rfl (hv_at hl 0 rfl) ?_
      refine v_get (T := TX7) (v := .ref (a0 + 1)) C hR 0 kfl_X7_7 rfl inG7 (by decide) rfl (IsModel.k hf4) (rf_of (IsModel.r0 hf4 (I50 a0 0))) dX7_sends_201 ?_
      refine lv_iload_n hx hb dX7_sends_204 rfl (hv_at hl 1 rfl) ?_
      refine lv_iconst (v := (1:Int32)) hx hb dX7_sends_205 rfl ?_
      refine lv_iload hx hb dX7_sends_206 (hv_at hl 5 rfl) ?_
      refine lv_iadd hx hb dX7_sends_208 ?_
      refine lv_iconst (v := (1:Int32)) hx hb dX7_sends_209 rfl ?_
      refine lv_iadd hx hb dX7_sends_210 ?_
      refine v_cSi (As := [.int x1, .int (((1:Int32) + y5_171) + (1:Int32))]) C hR hS hl.1.1 ca_X7_ofMaster kml_X7_31 (L_X7_ofMaster E l x1 (((1:Int32) + y5_171) + (1:Int32)) I50 _ h) rfl rfl (Nat.le_of_ble_eq_true rfl) ⟨Nat.le_of_ble_eq_true rfl, Nat.le_of_ble_eq_true rfl⟩ ⟨Nat.zero_le _, Nat.zero_le _⟩ dX7_sends_211 (fun v53 I52 H locs h hR hS => ?_)
      obtain ⟨hi54, h⟩ := h
      refine w_iald C hR (IsModel.a0 hf4) hi54 (j := (ix v53)) rfl dX7_sends_214 ?_
      obtain ⟨hi55, h⟩ := h
      obtain ⟨I56, hI56⟩ := ex_eq (upI I52 (a0 + 1) (ix v51) (I52 (a0 + 1) (ix v53)))
      replace h := h I56 hI56
      refine w_iast C hR hS (IsModel.a0 hf4) hi55 (j := (ix v51)) rfl hI56 dX7_sends_215 (fun H locs hR hS => ?_)
      refine v_iinc (v := y5_171 + (1:Int32)) (k := 5) (lv' := [(5, .int (y5_171 + (1:Int32))), (0, .ref a0), (1, .int x1), (2, .int y2_171), (3, .int y3_171), (4, .int y4_171)]) hx hb dX7_sends_216 hl rfl rfl (by decide) rfl (fun ls hl => ?_)
      refine lv_goto (tgt := 171) hx hb dX7_sends_219 (by decide) ?_
      exact (hX171 y2_171 y3_171 y4_171 (y5_171 + (1:Int32)) I56).mp h _ _ _ hR hS (hv_sub hl [1, 2, 3, 4, 5, 0] rfl)
  unfold w_X7_sends at h
  refine lv_aload_n hx hb dX7_sends_0 rfl (hv_at hl 0 rfl) ?_
  obtain ⟨hf58, h⟩ := h
  refine v_get (T := TX7) (v := .ref (a0 + 1)) C hR 0 kfl_X7_7 rfl inG7 (by decide) rfl (IsModel.k hf58) (rf_of (IsModel.r0 hf58 (I a0 0))) dX7_sends_1 ?_
  refine lv_iload_n hx hb dX7_sends_4 rfl (hv_at hl 1 rfl) ?_
  refine lv_iconst (v := (1:Int32)) hx hb dX7_sends_5 rfl ?_
  refine v_cSi (As := [.int x1, .int (1:Int32)]) C hR hS hl.1.1 ca_X7_ofMaster kml_X7_31 (L_X7_ofMaster E l x1 (1:Int32) I _ h) rfl rfl (Nat.le_of_ble_eq_true rfl) ⟨Nat.le_of_ble_eq_true rfl, Nat.le_of_ble_eq_true rfl⟩ ⟨Nat.zero_le _, Nat.zero_le _⟩ dX7_sends_6 (fun v60 I59 H locs h hR hS => ?_)
  obtain ⟨hi61, h⟩ := h
  refine w_iald C hR (IsModel.a0 hf58) hi61 (j := (ix v60)) rfl dX7_sends_9 ?_
  refine v_istore_n (lv' := [(2, .int (I59 (a0 + 1) (ix v60))), (0, .ref a0), (1, .int x1)]) hx hb dX7_sends_10 rfl hl (by decide) rfl (fun ls hl => ?_)
  refine lv_aload_n hx hb dX7_sends_11 rfl (hv_at hl 1 rfl) ?_
  refine v_get (T := TX7) (v := .ref (a0 + 1)) C hR 0 kfl_X7_7 rfl inG7 (by decide) rfl (IsModel.k hf58) (rf_of (IsModel.r0 hf58 (I59 a0 0))) dX7_sends_12 ?_
  refine lv_iload_n hx hb dX7_sends_15 rfl (hv_at hl 0 rfl) ?_
  refine lv_iconst (v := (1:Int32)) hx hb dX7_sends_16 rfl ?_
  refine v_cSi (As := [.int (I59 (a0 + 1) (ix v60)), .int (1:Int32)]) C hR hS hl.1.1 ca_X7_of kml_X7_59 (L_X7_of E l (I59 (a0 + 1) (ix v60)) (1:Int32) I59 _ h) rfl rfl (Nat.le_of_ble_eq_true rfl) ⟨Nat.le_of_ble_eq_true rfl, Nat.le_of_ble_eq_true rfl⟩ ⟨Nat.zero_le _, Nat.zero_le _⟩ dX7_sends_17 (fun v63 I62 H locs h hR hS => ?_)
  obtain ⟨hi64, h⟩ := h
  refine w_iald C hR (IsModel.a0 hf58) hi64 (j := (ix v63)) rfl dX7_sends_20 ?_
  refine v_istore_n (lv' := [(3, .int (I62 (a0 + 1) (ix v63))), (2, .int (I59 (a0 + 1) (ix v60))), (0, .ref a0), (1, .int x1)]) hx hb dX7_sends_21 rfl hl (by decide) rfl (fun ls hl => ?_)
  refine lv_aload_n hx hb dX7_sends_22 rfl (hv_at hl 2 rfl) ?_
  refine lv_iload_n hx hb dX7_sends_23 rfl (hv_at hl 1 rfl) ?_
  obtain ⟨I65, hI65⟩ := ex_eq (upI I62 a0 12 (I59 (a0 + 1) (ix v60)))
  replace h := h I65 hI65
  refine v_put (T := TX7) (ty := .int) C hR hS 12 kfl_X7_106 rfl inG7 tyX7 tyX7_ok nmX7 (by decide) rfl (IsModel.k hf58) rfl (tyX7_ok 12 (by decide)) rfl rfl (fl_i_7_12 _ _ _) (Nat.le_of_ble_eq_true rfl) hI65 dX7_sends_24 (fun H locs hR hS => ?_)
  refine lv_aload_n hx hb dX7_sends_27 rfl (hv_at hl 2 rfl) ?_
  refine v_get (T := TX7) (v := .ref (a0 + 1)) C hR 0 kfl_X7_7 rfl inG7 (by decide) rfl (IsModel.k hf58) (rf_of (IsModel.r0 hf58 (I65 a0 0))) dX7_sends_28 ?_
  refine lv_bipush (v := (7:Int32)) hx hb dX7_sends_31 (by decide) ?_
  refine lv_iload_n hx hb dX7_sends_33 rfl (hv_at hl 3 rfl) ?_
  refine lv_iconst (v := (1:Int32)) hx hb dX7_sends_34 rfl ?_
  refine lv_iadd hx hb dX7_sends_35 ?_
  refine lv_iconst (v := (4:Int32)) hx hb dX7_sends_36 rfl ?_
  refine lv_irem hx hb dX7_sends_37 (by decide) ?_
  obtain ⟨I66, hI66⟩ := ex_eq (upI I65 (a0 + 1) 7 ((x1 + (1:Int32)) - (x1 + (1:Int32)) / (4:Int32) * (4:Int32)))
  replace h := h I66 hI66
  refine w_iast C hR hS (IsModel.a0 hf58) (show vp_in (7:Int32) 2361 by unfold vp_in; decide) (j := 7) (by decide) hI66 dX7_sends_38 (fun H locs hR hS => ?_)
  refine lv_aload_n hx hb dX7_sends_39 rfl (hv_at hl 2 rfl) ?_
  refine v_get (T := TX7) (v := .ref (a0 + 1)) C hR 0 kfl_X7_7 rfl inG7 (by decide) rfl (IsModel.k hf58) (rf_of (IsModel.r0 hf58 (I66 a0 0))) dX7_sends_40 ?_
  refine lv_iconst (v := (5:Int32)) hx hb dX7_sends_43 rfl ?_
  refine lv_iconst (v := (0:Int32)) hx hb dX7_sends_44 rfl ?_
  obtain ⟨I67, hI67⟩ := ex_eq (upI I66 (a0 + 1) 5 (0:Int32))
  replace h := h I67 hI67
  refine w_iast C hR hS (IsModel.a0 hf58) (show vp_in (5:Int32) 2361 by unfold vp_in; decide) (j := 5) (by decide) hI67 dX7_sends_45 (fun H locs hR hS => ?_)
  refine lv_aload_n hx hb dX7_sends_46 rfl (hv_at hl 2 rfl) ?_
  refine v_get (T := TX7) (v := .ref (a0 + 1)) C hR 0 kfl_X7_7 rfl inG7 (by decide) rfl (IsModel.k hf58) (rf_of (IsModel.r0 hf58 (I67 a0 0))) dX7_sends_47 ?_
  refine lv_iload_n hx hb dX7_sends_50 rfl (hv_at hl 0 rfl) ?_
  refine lv_bipush (v := (19:Int32)) hx hb dX7_sends_51 (by decide) ?_
  refine v_cSi (As := [.int (I62 (a0 + 1) (ix v63)), .int (19:Int32)]) C hR hS hl.1.1 ca_X7_ofTarget kml_X7_35 (L_X7_ofTarget E l (I62 (a0 + 1) (ix v63)) (19:Int32) I67 _ h) rfl rfl (Nat.le_of_ble_eq_true rfl) ⟨Nat.le_of_ble_eq_true rfl, Nat.le_of_ble_eq_true rfl⟩ ⟨Nat.zero_le _, Nat.zero_le _⟩ dX7_sends_53 (fun v69 I68 H locs h hR hS => ?_)
  obtain ⟨hi70, h⟩ := h
  refine w_iald C hR (IsModel.a0 hf58) hi70 (j := (ix v69)) rfl dX7_sends_56 ?_
  refine lv_aload_n hx hb dX7_sends_57 rfl (hv_at hl 2 rfl) ?_
  refine v_get (T := TX7) (v := .ref (a0 + 1)) C hR 0 kfl_X7_7 rfl inG7 (by decide) rfl (IsModel.k hf58) (rf_of (IsModel.r0 hf58 (I68 a0 0))) dX7_sends_58 ?_
  refine lv_iload_n hx hb dX7_sends_61 rfl (hv_at hl 0 rfl) ?_
  refine lv_bipush (v := (16:Int32)) hx hb dX7_sends_62 (by decide) ?_
  refine v_cSi (As := [.int (I62 (a0 + 1) (ix v63)), .int (16:Int32)]) C hR hS hl.1.1 ca_X7_ofTarget kml_X7_35 (L_X7_ofTarget E l (I62 (a0 + 1) (ix v63)) (16:Int32) I68 _ h) rfl rfl (Nat.le_of_ble_eq_true rfl) ⟨Nat.le_of_ble_eq_true rfl, Nat.le_of_ble_eq_true rfl⟩ ⟨Nat.zero_le _, Nat.zero_le _⟩ dX7_sends_64 (fun v72 I71 H locs h hR hS => ?_)
  obtain ⟨hi73, h⟩ := h
  refine w_iald C hR (IsModel.a0 hf58) hi73 (j := (ix v72)) rfl dX7_sends_67 ?_
  refine lv_icmp_lt (tgt := 162) hx hb dX7_sends_68 (by decide) (fun c93 => ?_) (fun c93 => ?_)
  · replace h := h.1 c93
    refine lv_aload_n hx hb dX7_sends_162 rfl (hv_at hl 2 rfl) ?_
    refine v_cVi (As := []) C hR hS hl.1.1 ca_X7_freeTag kml_X7_96 (L_X7_freeTag E l a0 I71 _ h) (IsModel.k hf58) rfl rfl rfl rfl (Nat.le_of_ble_eq_true rfl) ⟨Nat.le_of_ble_eq_true rfl, Nat.le_of_ble_eq_true rfl⟩ ⟨Nat.zero_le _, Nat.zero_le _⟩ dX7_sends_163 (fun v75 I74 H locs h hR hS => ?_)
    refine v_istore (lv' := [(4, .int v75), (3, .int (I62 (a0 + 1) (ix v63))), (2, .int (I59 (a0 + 1) (ix v60))), (0, .ref a0), (1, .int x1)]) hx hb dX7_sends_166 hl (by decide) rfl (fun ls hl => ?_)
    refine lv_iconst (v := (0:Int32)) hx hb dX7_sends_168 rfl ?_
    refine v_istore (lv' := [(5, .int (0:Int32)), (4, .int v75), (3, .int (I62 (a0 + 1) (ix v63))), (2, .int (I59 (a0 + 1) (ix v60))), (0, .ref a0), (1, .int x1)]) hx hb dX7_sends_169 hl (by decide) rfl (fun ls hl => ?_)
    exact hJ171 (I59 (a0 + 1) (ix v60)) (I62 (a0 + 1) (ix v63)) v75 (0:Int32) I74 _ _ _ h hR hS (hv_sub hl [4, 5, 3, 2, 1, 0] rfl)
  · replace h := h.2 c93
    refine lv_aload_n hx hb dX7_sends_71 rfl (hv_at hl 2 rfl) ?_
    refine v_get (T := TX7) (v := .ref (a0 + 1)) C hR 0 kfl_X7_7 rfl inG7 (by decide) rfl (IsModel.k hf58) (rf_of (IsModel.r0 hf58 (I71 a0 0))) dX7_sends_72 ?_
    refine lv_iload_n hx hb dX7_sends_75 rfl (hv_at hl 3 rfl) ?_
    refine lv_bipush (v := (8:Int32)) hx hb dX7_sends_76 (by decide) ?_
    refine v_cSi (As := [.int x1, .int (8:Int32)]) C hR hS hl.1.1 ca_X7_ofMaster kml_X7_31 (L_X7_ofMaster E l x1 (8:Int32) I71 _ h) rfl rfl (Nat.le_of_ble_eq_true rfl) ⟨Nat.le_of_ble_eq_true rfl, Nat.le_of_ble_eq_true rfl⟩ ⟨Nat.zero_le _, Nat.zero_le _⟩ dX7_sends_78 (fun v77 I76 H locs h hR hS => ?_)
    refine lv_dup2_11 hx hb dX7_sends_81 rfl rfl ?_
    obtain ⟨hi78, h⟩ := h
    refine w_iald C hR (IsModel.a0 hf58) hi78 (j := (ix v77)) rfl dX7_sends_82 ?_
    refine lv_iconst (v := (1:Int32)) hx hb dX7_sends_83 rfl ?_
    refine lv_iadd hx hb dX7_sends_84 ?_
    obtain ⟨hi79, h⟩ := h
    obtain ⟨I80, hI80⟩ := ex_eq (upI I76 (a0 + 1) (ix v77) ((I76 (a0 + 1) (ix v77)) + (1:Int32)))
    replace h := h I80 hI80
    refine w_iast C hR hS (IsModel.a0 hf58) hi79 (j := (ix v77)) rfl hI80 dX7_sends_85 (fun H locs hR hS => ?_)
    refine lv_aload_n hx hb dX7_sends_86 rfl (hv_at hl 2 rfl) ?_
    refine v_get (T := TX7) (v := .ref (a0 + 1)) C hR 0 kfl_X7_7 rfl inG7 (by decide) rfl (IsModel.k hf58) (rf_of (IsModel.r0 hf58 (I80 a0 0))) dX7_sends_87 ?_
    refine lv_iload_n hx hb dX7_sends_90 rfl (hv_at hl 1 rfl) ?_
    refine lv_bipush (v := (9:Int32)) hx hb dX7_sends_91 (by decide) ?_
    refine v_cSi (As := [.int (I59 (a0 + 1) (ix v60)), .int (9:Int32)]) C hR hS hl.1.1 ca_X7_of kml_X7_59 (L_X7_of E l (I59 (a0 + 1) (ix v60)) (9:Int32) I80 _ h) rfl rfl (Nat.le_of_ble_eq_true rfl) ⟨Nat.le_of_ble_eq_true rfl, Nat.le_of_ble_eq_true rfl⟩ ⟨Nat.zero_le _, Nat.zero_le _⟩ dX7_sends_93 (fun v82 I81 H locs h hR hS => ?_)
    refine lv_dup2_11 hx hb dX7_sends_96 rfl rfl ?_
    obtain ⟨hi83, h⟩ := h
    refine w_iald C hR (IsModel.a0 hf58) hi83 (j := (ix v82)) rfl dX7_sends_97 ?_
    refine lv_iconst (v := (1:Int32)) hx hb dX7_sends_98 rfl ?_
    refine lv_iadd hx hb dX7_sends_99 ?_
    obtain ⟨hi84, h⟩ := h
    obtain ⟨I85, hI85⟩ := ex_eq (upI I81 (a0 + 1) (ix v82) ((I81 (a0 + 1) (ix v82)) + (1:Int32)))
    replace h := h I85 hI85
    refine w_iast C hR hS (IsModel.a0 hf58) hi84 (j := (ix v82)) rfl hI85 dX7_sends_100 (fun H locs hR hS => ?_)
    refine lv_aload_n hx hb dX7_sends_101 rfl (hv_at hl 2 rfl) ?_
    refine v_get (T := TX7) (v := .ref (a0 + 1)) C hR 0 kfl_X7_7 rfl inG7 (by decide) rfl (IsModel.k hf58) (rf_of (IsModel.r0 hf58 (I85 a0 0))) dX7_sends_102 ?_
    refine lv_bipush (v := (10:Int32)) hx hb dX7_sends_105 (by decide) ?_
    refine lv_dup2_11 hx hb dX7_sends_107 rfl rfl ?_
    refine w_iald C hR (IsModel.a0 hf58) (show vp_in (10:Int32) 2361 by unfold vp_in; decide) (j := 10) (by decide) dX7_sends_108 ?_
    refine lv_iconst (v := (1:Int32)) hx hb dX7_sends_109 rfl ?_
    refine lv_iadd hx hb dX7_sends_110 ?_
    obtain ⟨I86, hI86⟩ := ex_eq (upI I85 (a0 + 1) 10 ((I85 (a0 + 1) 10) + (1:Int32)))
    replace h := h I86 hI86
    refine w_iast C hR hS (IsModel.a0 hf58) (show vp_in (10:Int32) 2361 by unfold vp_in; decide) (j := 10) (by decide) hI86 dX7_sends_111 (fun H locs hR hS => ?_)
    refine lv_aload_n hx hb dX7_sends_112 rfl (hv_at hl 2 rfl) ?_
    refine v_get (T := TX7) (v := .ref (a0 + 1)) C hR 0 kfl_X7_7 rfl inG7 (by decide) rfl (IsModel.k hf58) (rf_of (IsModel.r0 hf58 (I86 a0 0))) dX7_sends_113 ?_
    refine lv_iload_n hx hb dX7_sends_116 rfl (hv_at hl 3 rfl) ?_
    refine lv_bipush (v := (8:Int32)) hx hb dX7_sends_117 (by decide) ?_
    refine v_cSi (As := [.int x1, .int (8:Int32)]) C hR hS hl.1.1 ca_X7_ofMaster kml_X7_31 (L_X7_ofMaster E l x1 (8:Int32) I86 _ h) rfl rfl (Nat.le_of_ble_eq_true rfl) ⟨Nat.le_of_ble_eq_true rfl, Nat.le_of_ble_eq_true rfl⟩ ⟨Nat.zero_le _, Nat.zero_le _⟩ dX7_sends_119 (fun v88 I87 H locs h hR hS => ?_)
    obtain ⟨hi89, h⟩ := h
    refine w_iald C hR (IsModel.a0 hf58) hi89 (j := (ix v88)) rfl dX7_sends_122 ?_
    refine v_istore (lv' := [(4, .int (I87 (a0 + 1) (ix v88))), (3, .int (I62 (a0 + 1) (ix v63))), (2, .int (I59 (a0 + 1) (ix v60))), (0, .ref a0), (1, .int x1)]) hx hb dX7_sends_123 hl (by decide) rfl (fun ls hl => ?_)
    refine lv_aload_n hx hb dX7_sends_125 rfl (hv_at hl 3 rfl) ?_
    refine v_get (T := TX7) (v := .ref (a0 + 1)) C hR 0 kfl_X7_7 rfl inG7 (by decide) rfl (IsModel.k hf58) (rf_of (IsModel.r0 hf58 (I87 a0 0))) dX7_sends_126 ?_
    refine lv_iload_n hx hb dX7_sends_129 rfl (hv_at hl 4 rfl) ?_
    refine lv_bipush (v := (9:Int32)) hx hb dX7_sends_130 (by decide) ?_
    refine v_cSi (As := [.int x1, .int (9:Int32)]) C hR hS hl.1.1 ca_X7_ofMaster kml_X7_31 (L_X7_ofMaster E l x1 (9:Int32) I87 _ h) rfl rfl (Nat.le_of_ble_eq_true rfl) ⟨Nat.le_of_ble_eq_true rfl, Nat.le_of_ble_eq_true rfl⟩ ⟨Nat.zero_le _, Nat.zero_le _⟩ dX7_sends_132 (fun v91 I90 H locs h hR hS => ?_)
    refine lv_aload_n hx hb dX7_sends_135 rfl (hv_at hl 3 rfl) ?_
    refine v_get (T := TX7) (v := .ref (a0 + 1)) C hR 0 kfl_X7_7 rfl inG7 (by decide) rfl (IsModel.k hf58) (rf_of (IsModel.r0 hf58 (I90 a0 0))) dX7_sends_136 ?_
    refine lv_iconst (v := (0:Int32)) hx hb dX7_sends_139 rfl ?_
    refine w_iald C hR (IsModel.a0 hf58) (show vp_in (0:Int32) 2361 by unfold vp_in; decide) (j := 0) (by decide) dX7_sends_140 ?_
    refine lv_iconst (v := (1:Int32)) hx hb dX7_sends_141 rfl ?_
    refine lv_iadd hx hb dX7_sends_142 ?_
    refine lv_iload hx hb dX7_sends_143 (hv_at hl 0 rfl) ?_
    refine lv_iconst (v := (3:Int32)) hx hb dX7_sends_145 rfl ?_
    refine lv_icmp_le (tgt := 154) hx hb dX7_sends_146 (by decide) (fun c92 => ?_) (fun c92 => ?_)
    · replace h := h.1 c92
      refine lv_iconst (v := (1:Int32)) hx hb dX7_sends_154 rfl ?_
      refine lv_iload hx hb dX7_sends_155 (hv_at hl 0 rfl) ?_
      refine lv_ishl hx hb dX7_sends_157 ?_
      exact hJ158 ((1:Int32) <<< ((I87 (a0 + 1) (ix v88)) &&& 31)) ((I90 (a0 + 1) 0) + (1:Int32)) v91 I90 _ _ _ h hR hS (hv_sub hl [] rfl)
    · replace h := h.2 c92
      refine lv_bipush (v := (16:Int32)) hx hb dX7_sends_149 (by decide) ?_
      refine lv_goto (tgt := 158) hx hb dX7_sends_151 (by decide) ?_
      exact hJ158 (16:Int32) ((I90 (a0 + 1) 0) + (1:Int32)) v91 I90 _ _ _ h hR hS (hv_sub hl [] rfl)
