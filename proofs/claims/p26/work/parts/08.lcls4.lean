set_option maxHeartbeats 4000000 in
set_option maxRecDepth 100000 in
theorem L_X6_count (E : Ev) (l : Launch) {K : MK} {R : MR} {n : Nat} (a0 : Nat) (x1 : Int32) (I : MI) (Q : Int32 → MI → Prop) (h : w_X6_count K R a0 x1 I Q) : MM E l yX6_count cX6_count 2 (some Jvm.ClassFile.FieldType.int) 1 22 0 0 [.ref a0, .int x1] K R I n (Qi K R n Q) := by
  refine MM.of1 (by decide) RX6 rfl (cR (cI cN)) (Nat.le_of_ble_eq_true rfl) ?_
  intro p e s m args below meth c ls C hin hR hS hl
  have hx := C.1
  have hb := C.2.1
  have hml := C.2.2.1
  have hown := C.2.2.2.1
  have hts := C.2.2.2.2.1
  have hl : hv ls 2 [(0, .ref a0), (1, .int x1)] := hl
  clear hin
  unfold w_X6_count at h
  refine lv_iload_n hx hb dX6_count_0 rfl (hv_at hl 1 rfl) ?_
  rcases sw_0_12 x1 with c1 | c1 | c1 | c1 | c1 | c1 | c1 | c1 | c1 | c1 | c1 | c1 | c1 | c1
  · replace h := h.1 c1
    refine v_tblIn (tgt := 68) hx hb (v := (0:Int32)) dX6_count_1 c1 (by decide) (by decide) rfl (by decide) ?_
    refine lv_aload_n hx hb dX6_count_68 rfl (hv_at hl 0 rfl) ?_
    obtain ⟨hf2, h⟩ := h
    refine v_get (T := TX6) (v := .ref (a0 + 1)) C hR 0 kfl_X6_10 rfl inG6 (by decide) rfl (IsTag.k hf2) (rf_of (IsTag.r0 hf2 (I a0 0))) dX6_count_69 ?_
    refine v_get (T := TX0) (v := .int (I (a0 + 1) 6)) C hR 6 kfl_X6_134 rfl inG0 (by decide) rfl (IsBus.k (IsTag.o0 hf2)) rfl dX6_count_72 ?_
    exact w_ireti C rfl rfl hR hS h dX6_count_75
  · replace h := h.2.1 c1
    refine v_tblIn (tgt := 76) hx hb (v := (1:Int32)) dX6_count_1 c1 (by decide) (by decide) rfl (by decide) ?_
    refine lv_aload_n hx hb dX6_count_76 rfl (hv_at hl 0 rfl) ?_
    obtain ⟨hf3, h⟩ := h
    refine v_get (T := TX6) (v := .ref (a0 + 1)) C hR 0 kfl_X6_10 rfl inG6 (by decide) rfl (IsTag.k hf3) (rf_of (IsTag.r0 hf3 (I a0 0))) dX6_count_77 ?_
    refine v_get (T := TX0) (v := .ref (a0 + 1 + 1)) C hR 0 kfl_X6_52 rfl inG0 (by decide) rfl (IsBus.k (IsTag.o0 hf3)) (rf_of (IsBus.r0 (IsTag.o0 hf3) (I (a0 + 1) 0))) dX6_count_80 ?_
    refine lv_iconst (v := (0:Int32)) hx hb dX6_count_83 rfl ?_
    refine w_iald C hR (IsBus.a0 (IsTag.o0 hf3)) (show vp_in (0:Int32) 3 by unfold vp_in; decide) (j := 0) (by decide) dX6_count_84 ?_
    exact w_ireti C rfl rfl hR hS h dX6_count_85
  · replace h := h.2.2.1 c1
    refine v_tblIn (tgt := 86) hx hb (v := (2:Int32)) dX6_count_1 c1 (by decide) (by decide) rfl (by decide) ?_
    refine lv_aload_n hx hb dX6_count_86 rfl (hv_at hl 0 rfl) ?_
    obtain ⟨hf4, h⟩ := h
    refine v_get (T := TX6) (v := .ref (a0 + 1)) C hR 0 kfl_X6_10 rfl inG6 (by decide) rfl (IsTag.k hf4) (rf_of (IsTag.r0 hf4 (I a0 0))) dX6_count_87 ?_
    refine v_get (T := TX0) (v := .ref (a0 + 1 + 1)) C hR 0 kfl_X6_52 rfl inG0 (by decide) rfl (IsBus.k (IsTag.o0 hf4)) (rf_of (IsBus.r0 (IsTag.o0 hf4) (I (a0 + 1) 0))) dX6_count_90 ?_
    refine lv_iconst (v := (1:Int32)) hx hb dX6_count_93 rfl ?_
    refine w_iald C hR (IsBus.a0 (IsTag.o0 hf4)) (show vp_in (1:Int32) 3 by unfold vp_in; decide) (j := 1) (by decide) dX6_count_94 ?_
    exact w_ireti C rfl rfl hR hS h dX6_count_95
  · replace h := h.2.2.2.1 c1
    refine v_tblIn (tgt := 96) hx hb (v := (3:Int32)) dX6_count_1 c1 (by decide) (by decide) rfl (by decide) ?_
    refine lv_aload_n hx hb dX6_count_96 rfl (hv_at hl 0 rfl) ?_
    obtain ⟨hf5, h⟩ := h
    refine v_get (T := TX6) (v := .ref (a0 + 1)) C hR 0 kfl_X6_10 rfl inG6 (by decide) rfl (IsTag.k hf5) (rf_of (IsTag.r0 hf5 (I a0 0))) dX6_count_97 ?_
    refine v_get (T := TX0) (v := .ref (a0 + 1 + 1)) C hR 0 kfl_X6_52 rfl inG0 (by decide) rfl (IsBus.k (IsTag.o0 hf5)) (rf_of (IsBus.r0 (IsTag.o0 hf5) (I (a0 + 1) 0))) dX6_count_100 ?_
    refine lv_iconst (v := (2:Int32)) hx hb dX6_count_103 rfl ?_
    refine w_iald C hR (IsBus.a0 (IsTag.o0 hf5)) (show vp_in (2:Int32) 3 by unfold vp_in; decide) (j := 2) (by decide) dX6_count_104 ?_
    exact w_ireti C rfl rfl hR hS h dX6_count_105
  · replace h := h.2.2.2.2.1 c1
    refine v_tblIn (tgt := 106) hx hb (v := (4:Int32)) dX6_count_1 c1 (by decide) (by decide) rfl (by decide) ?_
    refine lv_aload_n hx hb dX6_count_106 rfl (hv_at hl 0 rfl) ?_
    obtain ⟨hf6, h⟩ := h
    refine v_get (T := TX6) (v := .ref (a0 + 1)) C hR 0 kfl_X6_10 rfl inG6 (by decide) rfl (IsTag.k hf6) (rf_of (IsTag.r0 hf6 (I a0 0))) dX6_count_107 ?_
    refine v_get (T := TX0) (v := .int (I (a0 + 1) 5)) C hR 5 kfl_X6_218 rfl inG0 (by decide) rfl (IsBus.k (IsTag.o0 hf6)) rfl dX6_count_110 ?_
    exact w_ireti C rfl rfl hR hS h dX6_count_113
  · replace h := h.2.2.2.2.2.1 c1
    refine v_tblIn (tgt := 114) hx hb (v := (5:Int32)) dX6_count_1 c1 (by decide) (by decide) rfl (by decide) ?_
    refine lv_aload_n hx hb dX6_count_114 rfl (hv_at hl 0 rfl) ?_
    obtain ⟨hf7, h⟩ := h
    refine v_get (T := TX6) (v := .ref (a0 + 1)) C hR 0 kfl_X6_10 rfl inG6 (by decide) rfl (IsTag.k hf7) (rf_of (IsTag.r0 hf7 (I a0 0))) dX6_count_115 ?_
    refine v_cVi (As := []) C hR hS hl.1.1 ca_X0_freeTags kml_X6_221 (L_X0_freeTags E l (a0 + 1) I _ h) (IsBus.k (IsTag.o0 hf7)) rfl rfl rfl rfl (Nat.le_of_ble_eq_true rfl) ⟨Nat.le_of_ble_eq_true rfl, Nat.le_of_ble_eq_true rfl⟩ ⟨Nat.zero_le _, Nat.zero_le _⟩ dX6_count_118 (fun v9 I8 H locs h hR hS => ?_)
    exact w_ireti C rfl rfl hR hS h dX6_count_121
  · replace h := h.2.2.2.2.2.2.1 c1
    refine v_tblIn (tgt := 122) hx hb (v := (6:Int32)) dX6_count_1 c1 (by decide) (by decide) rfl (by decide) ?_
    refine lv_aload_n hx hb dX6_count_122 rfl (hv_at hl 0 rfl) ?_
    obtain ⟨hf10, h⟩ := h
    refine v_get (T := TX6) (v := .ref (a0 + 1)) C hR 0 kfl_X6_10 rfl inG6 (by decide) rfl (IsTag.k hf10) (rf_of (IsTag.r0 hf10 (I a0 0))) dX6_count_123 ?_
    refine v_get (T := TX0) (v := .int (I (a0 + 1) 10)) C hR 10 kfl_X6_224 rfl inG0 (by decide) rfl (IsBus.k (IsTag.o0 hf10)) rfl dX6_count_126 ?_
    exact w_ireti C rfl rfl hR hS h dX6_count_129
  · replace h := h.2.2.2.2.2.2.2.1 c1
    refine v_tblIn (tgt := 130) hx hb (v := (7:Int32)) dX6_count_1 c1 (by decide) (by decide) rfl (by decide) ?_
    refine lv_aload_n hx hb dX6_count_130 rfl (hv_at hl 0 rfl) ?_
    obtain ⟨hf11, h⟩ := h
    refine v_get (T := TX6) (v := .ref (a0 + 1)) C hR 0 kfl_X6_10 rfl inG6 (by decide) rfl (IsTag.k hf11) (rf_of (IsTag.r0 hf11 (I a0 0))) dX6_count_131 ?_
    refine v_get (T := TX0) (v := .int (I (a0 + 1) 11)) C hR 11 kfl_X6_227 rfl inG0 (by decide) rfl (IsBus.k (IsTag.o0 hf11)) rfl dX6_count_134 ?_
    exact w_ireti C rfl rfl hR hS h dX6_count_137
  · replace h := h.2.2.2.2.2.2.2.2.1 c1
    refine v_tblIn (tgt := 138) hx hb (v := (8:Int32)) dX6_count_1 c1 (by decide) (by decide) rfl (by decide) ?_
    refine lv_aload_n hx hb dX6_count_138 rfl (hv_at hl 0 rfl) ?_
    obtain ⟨hf12, h⟩ := h
    refine v_get (T := TX6) (v := .ref (a0 + 1)) C hR 0 kfl_X6_10 rfl inG6 (by decide) rfl (IsTag.k hf12) (rf_of (IsTag.r0 hf12 (I a0 0))) dX6_count_139 ?_
    refine v_get (T := TX0) (v := .int (I (a0 + 1) 12)) C hR 12 kfl_X6_230 rfl inG0 (by decide) rfl (IsBus.k (IsTag.o0 hf12)) rfl dX6_count_142 ?_
    exact w_ireti C rfl rfl hR hS h dX6_count_145
  · replace h := h.2.2.2.2.2.2.2.2.2.1 c1
    refine v_tblIn (tgt := 146) hx hb (v := (9:Int32)) dX6_count_1 c1 (by decide) (by decide) rfl (by decide) ?_
    refine lv_aload_n hx hb dX6_count_146 rfl (hv_at hl 0 rfl) ?_
    obtain ⟨hf13, h⟩ := h
    refine v_get (T := TX6) (v := .ref (a0 + 1)) C hR 0 kfl_X6_10 rfl inG6 (by decide) rfl (IsTag.k hf13) (rf_of (IsTag.r0 hf13 (I a0 0))) dX6_count_147 ?_
    refine v_get (T := TX0) (v := .int (I (a0 + 1) 13)) C hR 13 kfl_X6_233 rfl inG0 (by decide) rfl (IsBus.k (IsTag.o0 hf13)) rfl dX6_count_150 ?_
    exact w_ireti C rfl rfl hR hS h dX6_count_153
  · replace h := h.2.2.2.2.2.2.2.2.2.2.1 c1
    refine v_tblIn (tgt := 154) hx hb (v := (10:Int32)) dX6_count_1 c1 (by decide) (by decide) rfl (by decide) ?_
    refine lv_aload_n hx hb dX6_count_154 rfl (hv_at hl 0 rfl) ?_
    obtain ⟨hf14, h⟩ := h
    refine v_get (T := TX6) (v := .ref (a0 + 1)) C hR 0 kfl_X6_10 rfl inG6 (by decide) rfl (IsTag.k hf14) (rf_of (IsTag.r0 hf14 (I a0 0))) dX6_count_155 ?_
    refine v_get (T := TX0) (v := .int (I (a0 + 1) 14)) C hR 14 kfl_X6_236 rfl inG0 (by decide) rfl (IsBus.k (IsTag.o0 hf14)) rfl dX6_count_158 ?_
    exact w_ireti C rfl rfl hR hS h dX6_count_161
  · replace h := h.2.2.2.2.2.2.2.2.2.2.2.1 c1
    refine v_tblIn (tgt := 162) hx hb (v := (11:Int32)) dX6_count_1 c1 (by decide) (by decide) rfl (by decide) ?_
    refine lv_aload_n hx hb dX6_count_162 rfl (hv_at hl 0 rfl) ?_
    obtain ⟨hf15, h⟩ := h
    refine v_get (T := TX6) (v := .int (I a0 5)) C hR 5 kfl_X6_145 rfl inG6 (by decide) rfl (IsTag.k hf15) rfl dX6_count_163 ?_
    exact w_ireti C rfl rfl hR hS h dX6_count_166
  · replace h := h.2.2.2.2.2.2.2.2.2.2.2.2.1 c1
    refine v_tblIn (tgt := 167) hx hb (v := (12:Int32)) dX6_count_1 c1 (by decide) (by decide) rfl (by decide) ?_
    refine lv_aload_n hx hb dX6_count_167 rfl (hv_at hl 0 rfl) ?_
    obtain ⟨hf16, h⟩ := h
    refine v_get (T := TX6) (v := .ref (a0 + 716)) C hR 6 kfl_X6_29 rfl inG6 (by decide) rfl (IsTag.k hf16) (rf_of (IsTag.r6 hf16 (I a0 6))) dX6_count_168 ?_
    refine v_get (T := TX4) (v := .int (I (a0 + 716) 1)) C hR 1 kfl_X6_144 rfl inG4 (by decide) rfl (IsText.k (IsTag.o6 hf16)) rfl dX6_count_171 ?_
    exact w_ireti C rfl rfl hR hS h dX6_count_174
  · replace h := h.2.2.2.2.2.2.2.2.2.2.2.2.2 c1
    refine lv_tableOut (tgt := 175) hx hb dX6_count_1 c1 (by decide) ?_
    refine lv_bipush (v := (-2:Int32)) hx hb dX6_count_175 (by decide) ?_
    exact w_ireti C rfl rfl hR hS h dX6_count_177
