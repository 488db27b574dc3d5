set_option maxHeartbeats 8000000 in
set_option maxRecDepth 100000 in
theorem L_law (E : Ev) {p : Program} {e : Env} {s : State} {m : MethodId} {below : List Frame} {meth : Method} {c : Code} (l : Launch) {b L : Nat} {xs : Nat → Int32} {K : MK} {R : MR} {I : MI} {n : Nat} (C : Cx E p s m meth c code 4 RL ret #[Value.ref b]) (hX : va_X b L xs s s.heap) (hbl : b < s.heap.size) (hE : E.2.2 = s.heap.size) {Q : Prop} (h : w_L_law b L xs K R I n Q) (hR : Rep E K R I n s.heap) : W p l e room_1 s m #[Value.ref b] below meth c s.heap [] 0 0 (lw_Z below #[Value.ref b] s) (entryFrame m ([Value.ref b] : List Value).toArray 4) := by
  have hx := C.1
  have hb := C.2.1
  have hml := C.2.2.1
  have hown := C.2.2.2.1
  have hts := C.2.2.2.2.1
  have hlocks := C.2.2.2.2.2.2.1
  have hr := C.2.2.2.2.2.2.2
  have hbA : ¬ AA E b := fun q => by unfold AA at q; omega
  have hS : va_S (AA E) s.heap s.heap [] := va_S.rf
  have hl := lv_entry ([.ref b]) (n := 4) (Nat.le_of_ble_eq_true rfl)
  rw [lg_entry_eq]
  generalize (lg_sl ([.ref b]) ++ List.replicate (4 - (lg_sl ([.ref b])).length) Slot.unset).toArray = ls at hl ⊢
  have hl : hv ls 4 [(0, .ref b)] := ⟨hl, fun q hq => by simp at hq; rw [hq]; rfl⟩
  have hforget : ∀ {H : Heap} {locs : List Loc}, va_S (AA E) s.heap H locs → ∀ q ∈ locs, s.heap.size ≤ q.base := fun hS q hq => by have := hS.2.2 q hq; unfold AA at this; omega
  have hJ18 : ∀ (y1_18 : Nat) (y2_18 : Nat) (y3_18 : Int32) (kc ks n : Nat) (K : MK) (R : MR) (I : MI) (H : Heap) (locs : List Loc) (ls : Array Slot), w_L_law_b18 b L xs Q y1_18 y2_18 y3_18 kc ks n K R I → Rep E K R I n H → va_S (AA E) s.heap H locs → hv ls 4 [(0, .ref b), (1, .ref y1_18), (2, .ref y2_18), (3, .int y3_18)] → W p l e room_1 s m #[Value.ref b] below meth c H locs kc ks (lw_Z below #[Value.ref b] s) (F0 m 18 ls []) := by
    intro y1_18 y2_18 y3_18 kc ks n K R I H locs ls h hR hS hl
    obtain ⟨X18, hX18⟩ : ∃ X : Nat → Nat → Int32 → Nat → Nat → Nat → MK → MR → MI → Prop, ∀ (y1_18 : Nat) (y2_18 : Nat) (y3_18 : Int32) (kc ks n : Nat) (K : MK) (R : MR) (I : MI), X y1_18 y2_18 y3_18 kc ks n K R I ↔ (∀ (H : Heap) (locs : List Loc) (ls : Array Slot), Rep E K R I n H → va_S (AA E) s.heap H locs → hv ls 4 [(0, .ref b), (1, .ref y1_18), (2, .ref y2_18), (3, .int y3_18)] → W p l e room_1 s m #[Value.ref b] below meth c H locs kc ks (lw_Z below #[Value.ref b] s) (F0 m 18 ls [])) := ⟨fun y1_18 y2_18 y3_18 kc ks n K R I => ∀ (H : Heap) (locs : List Loc) (ls : Array Slot), Rep E K R I n H → va_S (AA E) s.heap H locs → hv ls 4 [(0, .ref b), (1, .ref y1_18), (2, .ref y2_18), (3, .int y3_18)] → W p l e room_1 s m #[Value.ref b] below meth c H locs kc ks (lw_Z below #[Value.ref b] s) (F0 m 18 ls []), fun _ _ _ _ _ _ _ _ _ => Iff.rfl⟩
    refine (hX18 y1_18 y2_18 y3_18 kc ks n K R I).mp (h X18 ?_) H locs ls hR hS hl
    clear h hR hS hl
    clear ls locs H y1_18 y2_18 y3_18 kc ks n K R I
    have hJ781 : ∀ (y1_781 : Nat) (y2_781 : Nat) (y3_781 : Int32) (kc ks n : Nat) (K : MK) (R : MR) (I : MI) (H : Heap) (locs : List Loc) (ls : Array Slot), w_L_law_b781 b L xs Q X18 y1_781 y2_781 y3_781 kc ks n K R I → Rep E K R I n H → va_S (AA E) s.heap H locs → hv ls 4 [(0, .ref b), (1, .ref y1_781), (2, .ref y2_781), (3, .int y3_781)] → W p l e room_1 s m #[Value.ref b] below meth c H locs kc ks (lw_Z below #[Value.ref b] s) (F0 m 781 ls []) := by
      intro y1_781 y2_781 y3_781 kc ks n K R I H locs ls h hR hS hl
      unfold w_L_law_b781 at h
      refine v_iinc (v := y3_781 + (5:Int32)) (k := 3) (lv' := [(3, .int (y3_781 + (5:Int32))), (0, .ref b), (1, .ref y1_781), (2, .ref y2_781)]) hx hb dL_law_781 hl rfl rfl (by decide) rfl (fun ls hl => ?_)
      refine lv_goto (tgt := 18) hx hb dL_law_784 (by decide) ?_
      exact (hX18 y1_781 y2_781 (y3_781 + (5:Int32)) kc ks n K R I).mp h _ _ _ hR hS (hv_sub hl [1, 2, 3, 0] rfl)
    intro y1_18 y2_18 y3_18 kc ks n K R I h
    refine (hX18 y1_18 y2_18 y3_18 kc ks n K R I).mpr ?_
    intro H locs ls hR hS hl
    unfold w_L_law_b18_body at h
    refine lv_iload_n hx hb dL_law_18 rfl (hv_at hl 3 rfl) ?_
    refine lv_aload_n hx hb dL_law_19 rfl (hv_at hl 0 rfl) ?_
    refine w_slen C hX hbl hbA hS dL_law_20 ?_
    refine lv_iconst (v := (5:Int32)) hx hb dL_law_21 rfl ?_
    refine lv_isub hx hb dL_law_22 ?_
    refine lv_icmp_gt (tgt := 787) hx hb dL_law_23 (by decide) (fun c326 => ?_) (fun c326 => ?_)
    · replace h := h.1 c326
      refine lv_iconst (v := (1:Int32)) hx hb dL_law_787 rfl ?_
      obtain ⟨hc1, hs2, h⟩ := h
      refine va_forget (hforget hS) ?_
      refine W.widen (k := 600000) (n := 7302250) hc1 hs2 ?_
      exact lw_ret hx hb hr hlocks dL_law_788
    · replace h := h.2 c326
      refine lv_aload_n hx hb dL_law_26 rfl (hv_at hl 0 rfl) ?_
      refine lv_iload_n hx hb dL_law_27 rfl (hv_at hl 3 rfl) ?_
      obtain ⟨hi3, h⟩ := h
      refine w_sld C hX hbl hbA hS hi3 dL_law_28 ?_
      refine lv_bipush (v := (31:Int32)) hx hb dL_law_29 (by decide) ?_
      refine lv_iand hx hb dL_law_31 ?_
      rcases sw_0_22 ((xs (ix y3_18)) &&& (31:Int32)) with c4 | c4 | c4 | c4 | c4 | c4 | c4 | c4 | c4 | c4 | c4 | c4 | c4 | c4 | c4 | c4 | c4 | c4 | c4 | c4 | c4 | c4 | c4 | c4
      · replace h := h.1 c4
        refine v_tblIn (tgt := 140) hx hb (v := (0:Int32)) dL_law_32 c4 (by decide) (by decide) rfl (by decide) ?_
        refine lv_aload_n hx hb dL_law_140 rfl (hv_at hl 1 rfl) ?_
        refine lv_aload_n hx hb dL_law_141 rfl (hv_at hl 0 rfl) ?_
        refine lv_iload_n hx hb dL_law_142 rfl (hv_at hl 3 rfl) ?_
        refine lv_iconst (v := (1:Int32)) hx hb dL_law_143 rfl ?_
        refine lv_iadd hx hb dL_law_144 ?_
        obtain ⟨hi5, h⟩ := h
        refine w_sld C hX hbl hbA hS hi5 dL_law_145 ?_
        refine lv_aload_n hx hb dL_law_146 rfl (hv_at hl 0 rfl) ?_
        refine lv_iload_n hx hb dL_law_147 rfl (hv_at hl 3 rfl) ?_
        refine lv_iconst (v := (2:Int32)) hx hb dL_law_148 rfl ?_
        refine lv_iadd hx hb dL_law_149 ?_
        obtain ⟨hi6, h⟩ := h
        refine w_sld C hX hbl hbA hS hi6 dL_law_150 ?_
        obtain ⟨hc7, hs8, h⟩ := h
        obtain ⟨hf9, h⟩ := h
        refine v_cVi (As := [.int (xs (ix (y3_18 + (1:Int32)))), .int (xs (ix (y3_18 + (2:Int32))))]) C hR hS hl.1.1 ca_X6_set kml_L_13 (L_X6_set E l y1_18 (xs (ix (y3_18 + (1:Int32)))) (xs (ix (y3_18 + (2:Int32)))) I _ h) hf9 rfl rfl rfl rfl (Nat.le_of_ble_eq_true rfl) ⟨Nat.le_of_ble_eq_true rfl, Nat.le_of_ble_eq_true rfl⟩ ⟨hc7, hs8⟩ dL_law_151 (fun v11 I10 H locs h hR hS => ?_)
        refine lv_aload_n hx hb dL_law_154 rfl (hv_at hl 2 rfl) ?_
        refine lv_aload_n hx hb dL_law_155 rfl (hv_at hl 0 rfl) ?_
        refine lv_iload_n hx hb dL_law_156 rfl (hv_at hl 3 rfl) ?_
        refine lv_iconst (v := (1:Int32)) hx hb dL_law_157 rfl ?_
        refine lv_iadd hx hb dL_law_158 ?_
        obtain ⟨hi12, h⟩ := h
        refine w_sld C hX hbl hbA hS hi12 dL_law_159 ?_
        refine lv_aload_n hx hb dL_law_160 rfl (hv_at hl 0 rfl) ?_
        refine lv_iload_n hx hb dL_law_161 rfl (hv_at hl 3 rfl) ?_
        refine lv_iconst (v := (2:Int32)) hx hb dL_law_162 rfl ?_
        refine lv_iadd hx hb dL_law_163 ?_
        obtain ⟨hi13, h⟩ := h
        refine w_sld C hX hbl hbA hS hi13 dL_law_164 ?_
        obtain ⟨hc14, hs15, h⟩ := h
        obtain ⟨hf16, h⟩ := h
        refine v_cVi (As := [.int (xs (ix (y3_18 + (1:Int32)))), .int (xs (ix (y3_18 + (2:Int32))))]) C hR hS hl.1.1 ca_X7_set kml_L_17 (L_X7_set E l y2_18 (xs (ix (y3_18 + (1:Int32)))) (xs (ix (y3_18 + (2:Int32)))) I10 _ h) hf16 rfl rfl rfl rfl (Nat.le_of_ble_eq_true rfl) ⟨Nat.le_of_ble_eq_true rfl, Nat.le_of_ble_eq_true rfl⟩ ⟨hc14, hs15⟩ dL_law_165 (fun v18 I17 H locs h hR hS => ?_)
        refine lv_icmp_eq (tgt := 781) hx hb dL_law_168 (by decide) (fun c19 => ?_) (fun c19 => ?_)
        · replace h := h.1 c19
          exact hJ781 y1_18 y2_18 y3_18 kc ks n K R I17 _ _ _ h hR hS (hv_sub hl [0, 1, 2, 3] rfl)
        · replace h := h.2 c19
          refine lv_iconst (v := (0:Int32)) hx hb dL_law_171 rfl ?_
          exact h.elim
      · replace h := h.2.1 c4
        refine v_tblIn (tgt := 173) hx hb (v := (1:Int32)) dL_law_32 c4 (by decide) (by decide) rfl (by decide) ?_
        refine lv_aload_n hx hb dL_law_173 rfl (hv_at hl 1 rfl) ?_
        refine lv_aload_n hx hb dL_law_174 rfl (hv_at hl 0 rfl) ?_
        refine lv_iload_n hx hb dL_law_175 rfl (hv_at hl 3 rfl) ?_
        refine lv_iconst (v := (1:Int32)) hx hb dL_law_176 rfl ?_
        refine lv_iadd hx hb dL_law_177 ?_
        obtain ⟨hi20, h⟩ := h
        refine w_sld C hX hbl hbA hS hi20 dL_law_178 ?_
        refine lv_aload_n hx hb dL_law_179 rfl (hv_at hl 0 rfl) ?_
        refine lv_iload_n hx hb dL_law_180 rfl (hv_at hl 3 rfl) ?_
        refine lv_iconst (v := (2:Int32)) hx hb dL_law_181 rfl ?_
        refine lv_iadd hx hb dL_law_182 ?_
        obtain ⟨hi21, h⟩ := h
        refine w_sld C hX hbl hbA hS hi21 dL_law_183 ?_
        obtain ⟨hc22, hs23, h⟩ := h
        obtain ⟨hf24, h⟩ := h
        refine v_cVi (As := [.int (xs (ix (y3_18 + (1:Int32)))), .int (xs (ix (y3_18 + (2:Int32))))]) C hR hS hl.1.1 ca_X6_setShare kml_L_18 (L_X6_setShare E l y1_18 (xs (ix (y3_18 + (1:Int32)))) (xs (ix (y3_18 + (2:Int32)))) I _ h) hf24 rfl rfl rfl rfl (Nat.le_of_ble_eq_true rfl) ⟨Nat.le_of_ble_eq_true rfl, Nat.le_of_ble_eq_true rfl⟩ ⟨hc22, hs23⟩ dL_law_184 (fun v26 I25 H locs h hR hS => ?_)
        refine lv_aload_n hx hb dL_law_187 rfl (hv_at hl 2 rfl) ?_
        refine lv_aload_n hx hb dL_law_188 rfl (hv_at hl 0 rfl) ?_
        refine lv_iload_n hx hb dL_law_189 rfl (hv_at hl 3 rfl) ?_
        refine lv_iconst (v := (1:Int32)) hx hb dL_law_190 rfl ?_
        refine lv_iadd hx hb dL_law_191 ?_
        obtain ⟨hi27, h⟩ := h
        refine w_sld C hX hbl hbA hS hi27 dL_law_192 ?_
        refine lv_aload_n hx hb dL_law_193 rfl (hv_at hl 0 rfl) ?_
        refine lv_iload_n hx hb dL_law_194 rfl (hv_at hl 3 rfl) ?_
        refine lv_iconst (v := (2:Int32)) hx hb dL_law_195 rfl ?_
        refine lv_iadd hx hb dL_law_196 ?_
        obtain ⟨hi28, h⟩ := h
        refine w_sld C hX hbl hbA hS hi28 dL_law_197 ?_
        obtain ⟨hc29, hs30, h⟩ := h
        obtain ⟨hf31, h⟩ := h
        refine v_cVi (As := [.int (xs (ix (y3_18 + (1:Int32)))), .int (xs (ix (y3_18 + (2:Int32))))]) C hR hS hl.1.1 ca_X7_setShare kml_L_21 (L_X7_setShare E l y2_18 (xs (ix (y3_18 + (1:Int32)))) (xs (ix (y3_18 + (2:Int32)))) I25 _ h) hf31 rfl rfl rfl rfl (Nat.le_of_ble_eq_true rfl) ⟨Nat.le_of_ble_eq_true rfl, Nat.le_of_ble_eq_true rfl⟩ ⟨hc29, hs30⟩ dL_law_198 (fun v33 I32 H locs h hR hS => ?_)
        refine lv_icmp_eq (tgt := 781) hx hb dL_law_201 (by decide) (fun c34 => ?_) (fun c34 => ?_)
        · replace h := h.1 c34
          exact hJ781 y1_18 y2_18 y3_18 kc ks n K R I32 _ _ _ h hR hS (hv_sub hl [0, 1, 2, 3] rfl)
        · replace h := h.2 c34
          refine lv_iconst (v := (0:Int32)) hx hb dL_law_204 rfl ?_
          exact h.elim
      · replace h := h.2.2.1 c4
        refine v_tblIn (tgt := 206) hx hb (v := (2:Int32)) dL_law_32 c4 (by decide) (by decide) rfl (by decide) ?_
        refine lv_aload_n hx hb dL_law_206 rfl (hv_at hl 1 rfl) ?_
        refine lv_aload_n hx hb dL_law_207 rfl (hv_at hl 0 rfl) ?_
        refine lv_iload_n hx hb dL_law_208 rfl (hv_at hl 3 rfl) ?_
        refine lv_iconst (v := (1:Int32)) hx hb dL_law_209 rfl ?_
        refine lv_iadd hx hb dL_law_210 ?_
        obtain ⟨hi35, h⟩ := h
        refine w_sld C hX hbl hbA hS hi35 dL_law_211 ?_
        refine lv_aload_n hx hb dL_law_212 rfl (hv_at hl 0 rfl) ?_
        refine lv_iload_n hx hb dL_law_213 rfl (hv_at hl 3 rfl) ?_
        refine lv_iconst (v := (2:Int32)) hx hb dL_law_214 rfl ?_
        refine lv_iadd hx hb dL_law_215 ?_
        obtain ⟨hi36, h⟩ := h
        refine w_sld C hX hbl hbA hS hi36 dL_law_216 ?_
        refine lv_aload_n hx hb dL_law_217 rfl (hv_at hl 0 rfl) ?_
        refine lv_iload_n hx hb dL_law_218 rfl (hv_at hl 3 rfl) ?_
        refine lv_iconst (v := (3:Int32)) hx hb dL_law_219 rfl ?_
        refine lv_iadd hx hb dL_law_220 ?_
        obtain ⟨hi37, h⟩ := h
        refine w_sld C hX hbl hbA hS hi37 dL_law_221 ?_
        obtain ⟨hc38, hs39, h⟩ := h
        obtain ⟨hf40, h⟩ := h
        refine v_cVi (As := [.int (xs (ix (y3_18 + (1:Int32)))), .int (xs (ix (y3_18 + (2:Int32)))), .int (xs (ix (y3_18 + (3:Int32))))]) C hR hS hl.1.1 ca_X6_setTarget kml_L_22 (L_X6_setTarget E l y1_18 (xs (ix (y3_18 + (1:Int32)))) (xs (ix (y3_18 + (2:Int32)))) (xs (ix (y3_18 + (3:Int32)))) I _ h) hf40 rfl rfl rfl rfl (Nat.le_of_ble_eq_true rfl) ⟨Nat.le_of_ble_eq_true rfl, Nat.le_of_ble_eq_true rfl⟩ ⟨hc38, hs39⟩ dL_law_222 (fun v42 I41 H locs h hR hS => ?_)
        refine lv_aload_n hx hb dL_law_225 rfl (hv_at hl 2 rfl) ?_
        refine lv_aload_n hx hb dL_law_226 rfl (hv_at hl 0 rfl) ?_
        refine lv_iload_n hx hb dL_law_227 rfl (hv_at hl 3 rfl) ?_
        refine lv_iconst (v := (1:Int32)) hx hb dL_law_228 rfl ?_
        refine lv_iadd hx hb dL_law_229 ?_
        obtain ⟨hi43, h⟩ := h
        refine w_sld C hX hbl hbA hS hi43 dL_law_230 ?_
        refine lv_aload_n hx hb dL_law_231 rfl (hv_at hl 0 rfl) ?_
        refine lv_iload_n hx hb dL_law_232 rfl (hv_at hl 3 rfl) ?_
        refine lv_iconst (v := (2:Int32)) hx hb dL_law_233 rfl ?_
        refine lv_iadd hx hb dL_law_234 ?_
        obtain ⟨hi44, h⟩ := h
        refine w_sld C hX hbl hbA hS hi44 dL_law_235 ?_
        refine lv_aload_n hx hb dL_law_236 rfl (hv_at hl 0 rfl) ?_
        refine lv_iload_n hx hb dL_law_237 rfl (hv_at hl 3 rfl) ?_
        refine lv_iconst (v := (3:Int32)) hx hb dL_law_238 rfl ?_
        refine lv_iadd hx hb dL_law_239 ?_
        obtain ⟨hi45, h⟩ := h
        refine w_sld C hX hbl hbA hS hi45 dL_law_240 ?_
        obtain ⟨hc46, hs47, h⟩ := h
        obtain ⟨hf48, h⟩ := h
        refine v_cVi (As := [.int (xs (ix (y3_18 + (1:Int32)))), .int (xs (ix (y3_18 + (2:Int32)))), .int (xs (ix (y3_18 + (3:Int32))))]) C hR hS hl.1.1 ca_X7_setTarget kml_L_26 (L_X7_setTarget E l y2_18 (xs (ix (y3_18 + (1:Int32)))) (xs (ix (y3_18 + (2:Int32)))) (xs (ix (y3_18 + (3:Int32)))) I41 _ h) hf48 rfl rfl rfl rfl (Nat.le_of_ble_eq_true rfl) ⟨Nat.le_of_ble_eq_true rfl, Nat.le_of_ble_eq_true rfl⟩ ⟨hc46, hs47⟩ dL_law_241 (fun v50 I49 H locs h hR hS => ?_)
        refine lv_icmp_eq (tgt := 781) hx hb dL_law_244 (by decide) (fun c51 => ?_) (fun c51 => ?_)
        · replace h := h.1 c51
          exact hJ781 y1_18 y2_18 y3_18 kc ks n K R I49 _ _ _ h hR hS (hv_sub hl [0, 1, 2, 3] rfl)
        · replace h := h.2 c51
          refine lv_iconst (v := (0:Int32)) hx hb dL_law_247 rfl ?_
          exact h.elim
      · replace h := h.2.2.2.1 c4
        refine v_tblIn (tgt := 249) hx hb (v := (3:Int32)) dL_law_32 c4 (by decide) (by decide) rfl (by decide) ?_
        refine lv_aload_n hx hb dL_law_249 rfl (hv_at hl 1 rfl) ?_
        refine lv_aload_n hx hb dL_law_250 rfl (hv_at hl 0 rfl) ?_
        refine lv_iload_n hx hb dL_law_251 rfl (hv_at hl 3 rfl) ?_
        refine lv_iconst (v := (1:Int32)) hx hb dL_law_252 rfl ?_
        refine lv_iadd hx hb dL_law_253 ?_
        obtain ⟨hi52, h⟩ := h
        refine w_sld C hX hbl hbA hS hi52 dL_law_254 ?_
        refine lv_aload_n hx hb dL_law_255 rfl (hv_at hl 0 rfl) ?_
        refine lv_iload_n hx hb dL_law_256 rfl (hv_at hl 3 rfl) ?_
        refine lv_iconst (v := (2:Int32)) hx hb dL_law_257 rfl ?_
        refine lv_iadd hx hb dL_law_258 ?_
        obtain ⟨hi53, h⟩ := h
        refine w_sld C hX hbl hbA hS hi53 dL_law_259 ?_
        refine lv_aload_n hx hb dL_law_260 rfl (hv_at hl 0 rfl) ?_
        refine lv_iload_n hx hb dL_law_261 rfl (hv_at hl 3 rfl) ?_
        refine lv_iconst (v := (3:Int32)) hx hb dL_law_262 rfl ?_
        refine lv_iadd hx hb dL_law_263 ?_
        obtain ⟨hi54, h⟩ := h
        refine w_sld C hX hbl hbA hS hi54 dL_law_264 ?_
        obtain ⟨hc55, hs56, h⟩ := h
        obtain ⟨hf57, h⟩ := h
        refine v_cVi (As := [.int (xs (ix (y3_18 + (1:Int32)))), .int (xs (ix (y3_18 + (2:Int32)))), .int (xs (ix (y3_18 + (3:Int32))))]) C hR hS hl.1.1 ca_X6_setCell kml_L_27 (L_X6_setCell E l y1_18 (xs (ix (y3_18 + (1:Int32)))) (xs (ix (y3_18 + (2:Int32)))) (xs (ix (y3_18 + (3:Int32)))) I _ h) hf57 rfl rfl rfl rfl (Nat.le_of_ble_eq_true rfl) ⟨Nat.le_of_ble_eq_true rfl, Nat.le_of_ble_eq_true rfl⟩ ⟨hc55, hs56⟩ dL_law_265 (fun v59 I58 H locs h hR hS => ?_)
        refine lv_aload_n hx hb dL_law_268 rfl (hv_at hl 2 rfl) ?_
        refine lv_aload_n hx hb dL_law_269 rfl (hv_at hl 0 rfl) ?_
        refine lv_iload_n hx hb dL_law_270 rfl (hv_at hl 3 rfl) ?_
        refine lv_iconst (v := (1:Int32)) hx hb dL_law_271 rfl ?_
        refine lv_iadd hx hb dL_law_272 ?_
        obtain ⟨hi60, h⟩ := h
        refine w_sld C hX hbl hbA hS hi60 dL_law_273 ?_
        refine lv_aload_n hx hb dL_law_274 rfl (hv_at hl 0 rfl) ?_
        refine lv_iload_n hx hb dL_law_275 rfl (hv_at hl 3 rfl) ?_
        refine lv_iconst (v := (2:Int32)) hx hb dL_law_276 rfl ?_
        refine lv_iadd hx hb dL_law_277 ?_
        obtain ⟨hi61, h⟩ := h
        refine w_sld C hX hbl hbA hS hi61 dL_law_278 ?_
        refine lv_aload_n hx hb dL_law_279 rfl (hv_at hl 0 rfl) ?_
        refine lv_iload_n hx hb dL_law_280 rfl (hv_at hl 3 rfl) ?_
        refine lv_iconst (v := (3:Int32)) hx hb dL_law_281 rfl ?_
        refine lv_iadd hx hb dL_law_282 ?_
        obtain ⟨hi62, h⟩ := h
        refine w_sld C hX hbl hbA hS hi62 dL_law_283 ?_
        obtain ⟨hc63, hs64, h⟩ := h
        obtain ⟨hf65, h⟩ := h
        refine v_cVi (As := [.int (xs (ix (y3_18 + (1:Int32)))), .int (xs (ix (y3_18 + (2:Int32)))), .int (xs (ix (y3_18 + (3:Int32))))]) C hR hS hl.1.1 ca_X7_setCell kml_L_30 (L_X7_setCell E l y2_18 (xs (ix (y3_18 + (1:Int32)))) (xs (ix (y3_18 + (2:Int32)))) (xs (ix (y3_18 + (3:Int32)))) I58 _ h) hf65 rfl rfl rfl rfl (Nat.le_of_ble_eq_true rfl) ⟨Nat.le_of_ble_eq_true rfl, Nat.le_of_ble_eq_true rfl⟩ ⟨hc63, hs64⟩ dL_law_284 (fun v67 I66 H locs h hR hS => ?_)
        refine lv_icmp_eq (tgt := 781) hx hb dL_law_287 (by decide) (fun c68 => ?_) (fun c68 => ?_)
        · replace h := h.1 c68
          exact hJ781 y1_18 y2_18 y3_18 kc ks n K R I66 _ _ _ h hR hS (hv_sub hl [0, 1, 2, 3] rfl)
        · replace h := h.2 c68
          refine lv_iconst (v := (0:Int32)) hx hb dL_law_290 rfl ?_
          exact h.elim
      · replace h := h.2.2.2.2.1 c4
        refine v_tblIn (tgt := 292) hx hb (v := (4:Int32)) dL_law_32 c4 (by decide) (by decide) rfl (by decide) ?_
        refine lv_aload_n hx hb dL_law_292 rfl (hv_at hl 1 rfl) ?_
        refine lv_aload_n hx hb dL_law_293 rfl (hv_at hl 0 rfl) ?_
        refine lv_iload_n hx hb dL_law_294 rfl (hv_at hl 3 rfl) ?_
        refine lv_iconst (v := (1:Int32)) hx hb dL_law_295 rfl ?_
        refine lv_iadd hx hb dL_law_296 ?_
        obtain ⟨hi69, h⟩ := h
        refine w_sld C hX hbl hbA hS hi69 dL_law_297 ?_
        refine lv_aload_n hx hb dL_law_298 rfl (hv_at hl 0 rfl) ?_
        refine lv_iload_n hx hb dL_law_299 rfl (hv_at hl 3 rfl) ?_
        refine lv_iconst (v := (2:Int32)) hx hb dL_law_300 rfl ?_
        refine lv_iadd hx hb dL_law_301 ?_
        obtain ⟨hi70, h⟩ := h
        refine w_sld C hX hbl hbA hS hi70 dL_law_302 ?_
        refine lv_aload_n hx hb dL_law_303 rfl (hv_at hl 0 rfl) ?_
        refine lv_iload_n hx hb dL_law_304 rfl (hv_at hl 3 rfl) ?_
        refine lv_iconst (v := (3:Int32)) hx hb dL_law_305 rfl ?_
        refine lv_iadd hx hb dL_law_306 ?_
        obtain ⟨hi71, h⟩ := h
        refine w_sld C hX hbl hbA hS hi71 dL_law_307 ?_
        obtain ⟨hc72, hs73, h⟩ := h
        obtain ⟨hf74, h⟩ := h
        refine v_cVi (As := [.int (xs (ix (y3_18 + (1:Int32)))), .int (xs (ix (y3_18 + (2:Int32)))), .int (xs (ix (y3_18 + (3:Int32))))]) C hR hS hl.1.1 ca_X6_read kml_L_31 (L_X6_read E l y1_18 (xs (ix (y3_18 + (1:Int32)))) (xs (ix (y3_18 + (2:Int32)))) (xs (ix (y3_18 + (3:Int32)))) I _ h) hf74 rfl rfl rfl rfl (Nat.le_of_ble_eq_true rfl) ⟨Nat.le_of_ble_eq_true rfl, Nat.le_of_ble_eq_true rfl⟩ ⟨hc72, hs73⟩ dL_law_308 (fun v76 I75 H locs h hR hS => ?_)
        refine lv_aload_n hx hb dL_law_311 rfl (hv_at hl 2 rfl) ?_
        refine lv_aload_n hx hb dL_law_312 rfl (hv_at hl 0 rfl) ?_
        refine lv_iload_n hx hb dL_law_313 rfl (hv_at hl 3 rfl) ?_
        refine lv_iconst (v := (1:Int32)) hx hb dL_law_314 rfl ?_
        refine lv_iadd hx hb dL_law_315 ?_
        obtain ⟨hi77, h⟩ := h
        refine w_sld C hX hbl hbA hS hi77 dL_law_316 ?_
        refine lv_aload_n hx hb dL_law_317 rfl (hv_at hl 0 rfl) ?_
        refine lv_iload_n hx hb dL_law_318 rfl (hv_at hl 3 rfl) ?_
        refine lv_iconst (v := (2:Int32)) hx hb dL_law_319 rfl ?_
        refine lv_iadd hx hb dL_law_320 ?_
        obtain ⟨hi78, h⟩ := h
        refine w_sld C hX hbl hbA hS hi78 dL_law_321 ?_
        refine lv_aload_n hx hb dL_law_322 rfl (hv_at hl 0 rfl) ?_
        refine lv_iload_n hx hb dL_law_323 rfl (hv_at hl 3 rfl) ?_
        refine lv_iconst (v := (3:Int32)) hx hb dL_law_324 rfl ?_
        refine lv_iadd hx hb dL_law_325 ?_
        obtain ⟨hi79, h⟩ := h
        refine w_sld C hX hbl hbA hS hi79 dL_law_326 ?_
        obtain ⟨hc80, hs81, h⟩ := h
        obtain ⟨hf82, h⟩ := h
        refine v_cVi (As := [.int (xs (ix (y3_18 + (1:Int32)))), .int (xs (ix (y3_18 + (2:Int32)))), .int (xs (ix (y3_18 + (3:Int32))))]) C hR hS hl.1.1 ca_X7_read kml_L_34 (L_X7_read E l y2_18 (xs (ix (y3_18 + (1:Int32)))) (xs (ix (y3_18 + (2:Int32)))) (xs (ix (y3_18 + (3:Int32)))) I75 _ h) hf82 rfl rfl rfl rfl (Nat.le_of_ble_eq_true rfl) ⟨Nat.le_of_ble_eq_true rfl, Nat.le_of_ble_eq_true rfl⟩ ⟨hc80, hs81⟩ dL_law_327 (fun v84 I83 H locs h hR hS => ?_)
        refine lv_icmp_eq (tgt := 781) hx hb dL_law_330 (by decide) (fun c85 => ?_) (fun c85 => ?_)
        · replace h := h.1 c85
          exact hJ781 y1_18 y2_18 y3_18 kc ks n K R I83 _ _ _ h hR hS (hv_sub hl [0, 1, 2, 3] rfl)
        · replace h := h.2 c85
          refine lv_iconst (v := (0:Int32)) hx hb dL_law_333 rfl ?_
          exact h.elim
      · replace h := h.2.2.2.2.2.1 c4
        refine v_tblIn (tgt := 335) hx hb (v := (5:Int32)) dL_law_32 c4 (by decide) (by decide) rfl (by decide) ?_
        refine lv_aload_n hx hb dL_law_335 rfl (hv_at hl 1 rfl) ?_
        refine lv_aload_n hx hb dL_law_336 rfl (hv_at hl 0 rfl) ?_
        refine lv_iload_n hx hb dL_law_337 rfl (hv_at hl 3 rfl) ?_
        refine lv_iconst (v := (1:Int32)) hx hb dL_law_338 rfl ?_
        refine lv_iadd hx hb dL_law_339 ?_
        obtain ⟨hi86, h⟩ := h
        refine w_sld C hX hbl hbA hS hi86 dL_law_340 ?_
        refine lv_aload_n hx hb dL_law_341 rfl (hv_at hl 0 rfl) ?_
        refine lv_iload_n hx hb dL_law_342 rfl (hv_at hl 3 rfl) ?_
        refine lv_iconst (v := (2:Int32)) hx hb dL_law_343 rfl ?_
        refine lv_iadd hx hb dL_law_344 ?_
        obtain ⟨hi87, h⟩ := h
        refine w_sld C hX hbl hbA hS hi87 dL_law_345 ?_
        refine lv_aload_n hx hb dL_law_346 rfl (hv_at hl 0 rfl) ?_
        refine lv_iload_n hx hb dL_law_347 rfl (hv_at hl 3 rfl) ?_
        refine lv_iconst (v := (3:Int32)) hx hb dL_law_348 rfl ?_
        refine lv_iadd hx hb dL_law_349 ?_
        obtain ⟨hi88, h⟩ := h
        refine w_sld C hX hbl hbA hS hi88 dL_law_350 ?_
        refine lv_aload_n hx hb dL_law_351 rfl (hv_at hl 0 rfl) ?_
        refine lv_iload_n hx hb dL_law_352 rfl (hv_at hl 3 rfl) ?_
        refine lv_iconst (v := (4:Int32)) hx hb dL_law_353 rfl ?_
        refine lv_iadd hx hb dL_law_354 ?_
        obtain ⟨hi89, h⟩ := h
        refine w_sld C hX hbl hbA hS hi89 dL_law_355 ?_
        obtain ⟨hc90, hs91, h⟩ := h
        obtain ⟨hf92, h⟩ := h
        refine v_cVi (As := [.int (xs (ix (y3_18 + (1:Int32)))), .int (xs (ix (y3_18 + (2:Int32)))), .int (xs (ix (y3_18 + (3:Int32)))), .int (xs (ix (y3_18 + (4:Int32))))]) C hR hS hl.1.1 ca_X6_write kml_L_35 (L_X6_write E l y1_18 (xs (ix (y3_18 + (1:Int32)))) (xs (ix (y3_18 + (2:Int32)))) (xs (ix (y3_18 + (3:Int32)))) (xs (ix (y3_18 + (4:Int32)))) I _ h) hf92 rfl rfl rfl rfl (Nat.le_of_ble_eq_true rfl) ⟨Nat.le_of_ble_eq_true rfl, Nat.le_of_ble_eq_true rfl⟩ ⟨hc90, hs91⟩ dL_law_356 (fun v94 I93 H locs h hR hS => ?_)
        refine lv_aload_n hx hb dL_law_359 rfl (hv_at hl 2 rfl) ?_
        refine lv_aload_n hx hb dL_law_360 rfl (hv_at hl 0 rfl) ?_
        refine lv_iload_n hx hb dL_law_361 rfl (hv_at hl 3 rfl) ?_
        refine lv_iconst (v := (1:Int32)) hx hb dL_law_362 rfl ?_
        refine lv_iadd hx hb dL_law_363 ?_
        obtain ⟨hi95, h⟩ := h
        refine w_sld C hX hbl hbA hS hi95 dL_law_364 ?_
        refine lv_aload_n hx hb dL_law_365 rfl (hv_at hl 0 rfl) ?_
        refine lv_iload_n hx hb dL_law_366 rfl (hv_at hl 3 rfl) ?_
        refine lv_iconst (v := (2:Int32)) hx hb dL_law_367 rfl ?_
        refine lv_iadd hx hb dL_law_368 ?_
        obtain ⟨hi96, h⟩ := h
        refine w_sld C hX hbl hbA hS hi96 dL_law_369 ?_
        refine lv_aload_n hx hb dL_law_370 rfl (hv_at hl 0 rfl) ?_
        refine lv_iload_n hx hb dL_law_371 rfl (hv_at hl 3 rfl) ?_
        refine lv_iconst (v := (3:Int32)) hx hb dL_law_372 rfl ?_
        refine lv_iadd hx hb dL_law_373 ?_
        obtain ⟨hi97, h⟩ := h
        refine w_sld C hX hbl hbA hS hi97 dL_law_374 ?_
        refine lv_aload_n hx hb dL_law_375 rfl (hv_at hl 0 rfl) ?_
        refine lv_iload_n hx hb dL_law_376 rfl (hv_at hl 3 rfl) ?_
        refine lv_iconst (v := (4:Int32)) hx hb dL_law_377 rfl ?_
        refine lv_iadd hx hb dL_law_378 ?_
        obtain ⟨hi98, h⟩ := h
        refine w_sld C hX hbl hbA hS hi98 dL_law_379 ?_
        obtain ⟨hc99, hs100, h⟩ := h
        obtain ⟨hf101, h⟩ := h
        refine v_cVi (As := [.int (xs (ix (y3_18 + (1:Int32)))), .int (xs (ix (y3_18 + (2:Int32)))), .int (xs (ix (y3_18 + (3:Int32)))), .int (xs (ix (y3_18 + (4:Int32))))]) C hR hS hl.1.1 ca_X7_write kml_L_39 (L_X7_write E l y2_18 (xs (ix (y3_18 + (1:Int32)))) (xs (ix (y3_18 + (2:Int32)))) (xs (ix (y3_18 + (3:Int32)))) (xs (ix (y3_18 + (4:Int32)))) I93 _ h) hf101 rfl rfl rfl rfl (Nat.le_of_ble_eq_true rfl) ⟨Nat.le_of_ble_eq_true rfl, Nat.le_of_ble_eq_true rfl⟩ ⟨hc99, hs100⟩ dL_law_380 (fun v103 I102 H locs h hR hS => ?_)
        refine lv_icmp_eq (tgt := 781) hx hb dL_law_383 (by decide) (fun c104 => ?_) (fun c104 => ?_)
        · replace h := h.1 c104
          exact hJ781 y1_18 y2_18 y3_18 kc ks n K R I102 _ _ _ h hR hS (hv_sub hl [0, 1, 2, 3] rfl)
        · replace h := h.2 c104
          refine lv_iconst (v := (0:Int32)) hx hb dL_law_386 rfl ?_
          exact h.elim
      · replace h := h.2.2.2.2.2.2.1 c4
        refine v_tblIn (tgt := 388) hx hb (v := (6:Int32)) dL_law_32 c4 (by decide) (by decide) rfl (by decide) ?_
        refine lv_aload_n hx hb dL_law_388 rfl (hv_at hl 1 rfl) ?_
        obtain ⟨hc105, hs106, h⟩ := h
        obtain ⟨hf107, h⟩ := h
        refine v_cVi (As := []) C hR hS hl.1.1 ca_X6_ask kml_L_40 (L_X6_ask E l y1_18 I _ h) hf107 rfl rfl rfl rfl (Nat.le_of_ble_eq_true rfl) ⟨Nat.le_of_ble_eq_true rfl, Nat.le_of_ble_eq_true rfl⟩ ⟨hc105, hs106⟩ dL_law_389 (fun v109 I108 H locs h hR hS => ?_)
        refine lv_aload_n hx hb dL_law_392 rfl (hv_at hl 2 rfl) ?_
        obtain ⟨hc110, hs111, h⟩ := h
        obtain ⟨hf112, h⟩ := h
        refine v_cVi (As := []) C hR hS hl.1.1 ca_X7_ask kml_L_44 (L_X7_ask E l y2_18 I108 _ h) hf112 rfl rfl rfl rfl (Nat.le_of_ble_eq_true rfl) ⟨Nat.le_of_ble_eq_true rfl, Nat.le_of_ble_eq_true rfl⟩ ⟨hc110, hs111⟩ dL_law_393 (fun v114 I113 H locs h hR hS => ?_)
        refine lv_icmp_eq (tgt := 781) hx hb dL_law_396 (by decide) (fun c115 => ?_) (fun c115 => ?_)
        · replace h := h.1 c115
          exact hJ781 y1_18 y2_18 y3_18 kc ks n K R I113 _ _ _ h hR hS (hv_sub hl [0, 1, 2, 3] rfl)
        · replace h := h.2 c115
          refine lv_iconst (v := (0:Int32)) hx hb dL_law_399 rfl ?_
          exact h.elim
      · replace h := h.2.2.2.2.2.2.2.1 c4
        refine v_tblIn (tgt := 401) hx hb (v := (7:Int32)) dL_law_32 c4 (by decide) (by decide) rfl (by decide) ?_
        refine lv_aload_n hx hb dL_law_401 rfl (hv_at hl 1 rfl) ?_
        refine lv_aload_n hx hb dL_law_402 rfl (hv_at hl 0 rfl) ?_
        refine lv_iload_n hx hb dL_law_403 rfl (hv_at hl 3 rfl) ?_
        refine lv_iconst (v := (1:Int32)) hx hb dL_law_404 rfl ?_
        refine lv_iadd hx hb dL_law_405 ?_
        obtain ⟨hi116, h⟩ := h
        refine w_sld C hX hbl hbA hS hi116 dL_law_406 ?_
        obtain ⟨hc117, hs118, h⟩ := h
        obtain ⟨hf119, h⟩ := h
        refine v_cVi (As := [.int (xs (ix (y3_18 + (1:Int32))))]) C hR hS hl.1.1 ca_X6_withdraw kml_L_45 (L_X6_withdraw E l y1_18 (xs (ix (y3_18 + (1:Int32)))) I _ h) hf119 rfl rfl rfl rfl (Nat.le_of_ble_eq_true rfl) ⟨Nat.le_of_ble_eq_true rfl, Nat.le_of_ble_eq_true rfl⟩ ⟨hc117, hs118⟩ dL_law_407 (fun v121 I120 H locs h hR hS => ?_)
        refine lv_aload_n hx hb dL_law_410 rfl (hv_at hl 2 rfl) ?_
        refine lv_aload_n hx hb dL_law_411 rfl (hv_at hl 0 rfl) ?_
        refine lv_iload_n hx hb dL_law_412 rfl (hv_at hl 3 rfl) ?_
        refine lv_iconst (v := (1:Int32)) hx hb dL_law_413 rfl ?_
        refine lv_iadd hx hb dL_law_414 ?_
        obtain ⟨hi122, h⟩ := h
        refine w_sld C hX hbl hbA hS hi122 dL_law_415 ?_
        obtain ⟨hc123, hs124, h⟩ := h
        obtain ⟨hf125, h⟩ := h
        refine v_cVi (As := [.int (xs (ix (y3_18 + (1:Int32))))]) C hR hS hl.1.1 ca_X7_withdraw kml_L_49 (L_X7_withdraw E l y2_18 (xs (ix (y3_18 + (1:Int32)))) I120 _ h) hf125 rfl rfl rfl rfl (Nat.le_of_ble_eq_true rfl) ⟨Nat.le_of_ble_eq_true rfl, Nat.le_of_ble_eq_true rfl⟩ ⟨hc123, hs124⟩ dL_law_416 (fun v127 I126 H locs h hR hS => ?_)
        refine lv_icmp_eq (tgt := 781) hx hb dL_law_419 (by decide) (fun c128 => ?_) (fun c128 => ?_)
        · replace h := h.1 c128
          exact hJ781 y1_18 y2_18 y3_18 kc ks n K R I126 _ _ _ h hR hS (hv_sub hl [0, 1, 2, 3] rfl)
        · replace h := h.2 c128
          refine lv_iconst (v := (0:Int32)) hx hb dL_law_422 rfl ?_
          exact h.elim
      · replace h := h.2.2.2.2.2.2.2.2.1 c4
        refine v_tblIn (tgt := 424) hx hb (v := (8:Int32)) dL_law_32 c4 (by decide) (by decide) rfl (by decide) ?_
        refine lv_aload_n hx hb dL_law_424 rfl (hv_at hl 1 rfl) ?_
        refine lv_aload_n hx hb dL_law_425 rfl (hv_at hl 0 rfl) ?_
        refine lv_iload_n hx hb dL_law_426 rfl (hv_at hl 3 rfl) ?_
        refine lv_iconst (v := (1:Int32)) hx hb dL_law_427 rfl ?_
        refine lv_iadd hx hb dL_law_428 ?_
        obtain ⟨hi129, h⟩ := h
        refine w_sld C hX hbl hbA hS hi129 dL_law_429 ?_
        obtain ⟨hc130, hs131, h⟩ := h
        obtain ⟨hf132, h⟩ := h
        refine v_cVi (As := [.int (xs (ix (y3_18 + (1:Int32))))]) C hR hS hl.1.1 ca_X6_pass kml_L_50 (L_X6_pass E l y1_18 (xs (ix (y3_18 + (1:Int32)))) I _ h) hf132 rfl rfl rfl rfl (Nat.le_of_ble_eq_true rfl) ⟨Nat.le_of_ble_eq_true rfl, Nat.le_of_ble_eq_true rfl⟩ ⟨hc130, hs131⟩ dL_law_430 (fun v134 I133 H locs h hR hS => ?_)
        refine lv_aload_n hx hb dL_law_433 rfl (hv_at hl 2 rfl) ?_
        refine lv_aload_n hx hb dL_law_434 rfl (hv_at hl 0 rfl) ?_
        refine lv_iload_n hx hb dL_law_435 rfl (hv_at hl 3 rfl) ?_
        refine lv_iconst (v := (1:Int32)) hx hb dL_law_436 rfl ?_
        refine lv_iadd hx hb dL_law_437 ?_
        obtain ⟨hi135, h⟩ := h
        refine w_sld C hX hbl hbA hS hi135 dL_law_438 ?_
        obtain ⟨hc136, hs137, h⟩ := h
        obtain ⟨hf138, h⟩ := h
        refine v_cVi (As := [.int (xs (ix (y3_18 + (1:Int32))))]) C hR hS hl.1.1 ca_X7_pass kml_L_53 (L_X7_pass E l y2_18 (xs (ix (y3_18 + (1:Int32)))) I133 _ h) hf138 rfl rfl rfl rfl (Nat.le_of_ble_eq_true rfl) ⟨Nat.le_of_ble_eq_true rfl, Nat.le_of_ble_eq_true rfl⟩ ⟨hc136, hs137⟩ dL_law_439 (fun v140 I139 H locs h hR hS => ?_)
        refine lv_icmp_eq (tgt := 781) hx hb dL_law_442 (by decide) (fun c141 => ?_) (fun c141 => ?_)
        · replace h := h.1 c141
          exact hJ781 y1_18 y2_18 y3_18 kc ks n K R I139 _ _ _ h hR hS (hv_sub hl [0, 1, 2, 3] rfl)
        · replace h := h.2 c141
          refine lv_iconst (v := (0:Int32)) hx hb dL_law_445 rfl ?_
          exact h.elim
      · replace h := h.2.2.2.2.2.2.2.2.2.1 c4
        refine v_tblIn (tgt := 447) hx hb (v := (9:Int32)) dL_law_32 c4 (by decide) (by decide) rfl (by decide) ?_
        refine lv_aload_n hx hb dL_law_447 rfl (hv_at hl 1 rfl) ?_
        refine lv_aload_n hx hb dL_law_448 rfl (hv_at hl 0 rfl) ?_
        refine lv_iload_n hx hb dL_law_449 rfl (hv_at hl 3 rfl) ?_
        refine lv_iconst (v := (1:Int32)) hx hb dL_law_450 rfl ?_
        refine lv_iadd hx hb dL_law_451 ?_
        obtain ⟨hi142, h⟩ := h
        refine w_sld C hX hbl hbA hS hi142 dL_law_452 ?_
        refine lv_i2c (v := i2cv (xs (ix (y3_18 + (1:Int32))))) hx hb dL_law_453 rfl ?_
        obtain ⟨hc143, hs144, h⟩ := h
        obtain ⟨hf145, h⟩ := h
        refine v_cVi (As := [.int (i2cv (xs (ix (y3_18 + (1:Int32)))))]) C hR hS hl.1.1 ca_X6_type kml_L_54 (L_X6_type E l y1_18 (i2cv (xs (ix (y3_18 + (1:Int32))))) I _ h) hf145 rfl rfl rfl rfl (Nat.le_of_ble_eq_true rfl) ⟨Nat.le_of_ble_eq_true rfl, Nat.le_of_ble_eq_true rfl⟩ ⟨hc143, hs144⟩ dL_law_454 (fun v147 I146 H locs h hR hS => ?_)
        refine lv_aload_n hx hb dL_law_457 rfl (hv_at hl 2 rfl) ?_
        refine lv_aload_n hx hb dL_law_458 rfl (hv_at hl 0 rfl) ?_
        refine lv_iload_n hx hb dL_law_459 rfl (hv_at hl 3 rfl) ?_
        refine lv_iconst (v := (1:Int32)) hx hb dL_law_460 rfl ?_
        refine lv_iadd hx hb dL_law_461 ?_
        obtain ⟨hi148, h⟩ := h
        refine w_sld C hX hbl hbA hS hi148 dL_law_462 ?_
        refine lv_i2c (v := i2cv (xs (ix (y3_18 + (1:Int32))))) hx hb dL_law_463 rfl ?_
        obtain ⟨hc149, hs150, h⟩ := h
        obtain ⟨hf151, h⟩ := h
        refine v_cVi (As := [.int (i2cv (xs (ix (y3_18 + (1:Int32)))))]) C hR hS hl.1.1 ca_X7_type kml_L_58 (L_X7_type E l y2_18 (i2cv (xs (ix (y3_18 + (1:Int32))))) I146 _ h) hf151 rfl rfl rfl rfl (Nat.le_of_ble_eq_true rfl) ⟨Nat.le_of_ble_eq_true rfl, Nat.le_of_ble_eq_true rfl⟩ ⟨hc149, hs150⟩ dL_law_464 (fun v153 I152 H locs h hR hS => ?_)
        refine lv_icmp_eq (tgt := 781) hx hb dL_law_467 (by decide) (fun c154 => ?_) (fun c154 => ?_)
        · replace h := h.1 c154
          exact hJ781 y1_18 y2_18 y3_18 kc ks n K R I152 _ _ _ h hR hS (hv_sub hl [0, 1, 2, 3] rfl)
        · replace h := h.2 c154
          refine lv_iconst (v := (0:Int32)) hx hb dL_law_470 rfl ?_
          exact h.elim
      · replace h := h.2.2.2.2.2.2.2.2.2.2.1 c4
        refine v_tblIn (tgt := 472) hx hb (v := (10:Int32)) dL_law_32 c4 (by decide) (by decide) rfl (by decide) ?_
        refine lv_aload_n hx hb dL_law_472 rfl (hv_at hl 1 rfl) ?_
        obtain ⟨hc155, hs156, h⟩ := h
        obtain ⟨hf157, h⟩ := h
        refine v_cVi (As := []) C hR hS hl.1.1 ca_X6_clearText kml_L_59 (L_X6_clearText E l y1_18 I _ h) hf157 rfl rfl rfl rfl (Nat.le_of_ble_eq_true rfl) ⟨Nat.le_of_ble_eq_true rfl, Nat.le_of_ble_eq_true rfl⟩ ⟨hc155, hs156⟩ dL_law_473 (fun v159 I158 H locs h hR hS => ?_)
        refine lv_aload_n hx hb dL_law_476 rfl (hv_at hl 2 rfl) ?_
        obtain ⟨hc160, hs161, h⟩ := h
        obtain ⟨hf162, h⟩ := h
        refine v_cVi (As := []) C hR hS hl.1.1 ca_X7_clearText kml_L_62 (L_X7_clearText E l y2_18 I158 _ h) hf162 rfl rfl rfl rfl (Nat.le_of_ble_eq_true rfl) ⟨Nat.le_of_ble_eq_true rfl, Nat.le_of_ble_eq_true rfl⟩ ⟨hc160, hs161⟩ dL_law_477 (fun v164 I163 H locs h hR hS => ?_)
        refine lv_icmp_eq (tgt := 781) hx hb dL_law_480 (by decide) (fun c165 => ?_) (fun c165 => ?_)
        · replace h := h.1 c165
          exact hJ781 y1_18 y2_18 y3_18 kc ks n K R I163 _ _ _ h hR hS (hv_sub hl [0, 1, 2, 3] rfl)
        · replace h := h.2 c165
          refine lv_iconst (v := (0:Int32)) hx hb dL_law_483 rfl ?_
          exact h.elim
      · replace h := h.2.2.2.2.2.2.2.2.2.2.2.1 c4
        refine v_tblIn (tgt := 485) hx hb (v := (11:Int32)) dL_law_32 c4 (by decide) (by decide) rfl (by decide) ?_
        refine lv_aload_n hx hb dL_law_485 rfl (hv_at hl 1 rfl) ?_
        obtain ⟨hc166, hs167, h⟩ := h
        obtain ⟨hf168, h⟩ := h
        refine v_cVi (As := []) C hR hS hl.1.1 ca_X6_undo kml_L_63 (L_X6_undo E l y1_18 I _ h) hf168 rfl rfl rfl rfl (Nat.le_of_ble_eq_true rfl) ⟨Nat.le_of_ble_eq_true rfl, Nat.le_of_ble_eq_true rfl⟩ ⟨hc166, hs167⟩ dL_law_486 (fun v170 I169 H locs h hR hS => ?_)
        refine lv_aload_n hx hb dL_law_489 rfl (hv_at hl 2 rfl) ?_
        obtain ⟨hc171, hs172, h⟩ := h
        obtain ⟨hf173, h⟩ := h
        refine v_cVi (As := []) C hR hS hl.1.1 ca_X7_undo kml_L_66 (L_X7_undo E l y2_18 I169 _ h) hf173 rfl rfl rfl rfl (Nat.le_of_ble_eq_true rfl) ⟨Nat.le_of_ble_eq_true rfl, Nat.le_of_ble_eq_true rfl⟩ ⟨hc171, hs172⟩ dL_law_490 (fun v175 I174 H locs h hR hS => ?_)
        refine lv_icmp_eq (tgt := 781) hx hb dL_law_493 (by decide) (fun c176 => ?_) (fun c176 => ?_)
        · replace h := h.1 c176
          exact hJ781 y1_18 y2_18 y3_18 kc ks n K R I174 _ _ _ h hR hS (hv_sub hl [0, 1, 2, 3] rfl)
        · replace h := h.2 c176
          refine lv_iconst (v := (0:Int32)) hx hb dL_law_496 rfl ?_
          exact h.elim
      · replace h := h.2.2.2.2.2.2.2.2.2.2.2.2.1 c4
        refine v_tblIn (tgt := 498) hx hb (v := (12:Int32)) dL_law_32 c4 (by decide) (by decide) rfl (by decide) ?_
        refine lv_aload_n hx hb dL_law_498 rfl (hv_at hl 1 rfl) ?_
        obtain ⟨hc177, hs178, h⟩ := h
        obtain ⟨hf179, h⟩ := h
        refine v_cVi (As := []) C hR hS hl.1.1 ca_X6_keep kml_L_67 (L_X6_keep E l y1_18 I _ h) hf179 rfl rfl rfl rfl (Nat.le_of_ble_eq_true rfl) ⟨Nat.le_of_ble_eq_true rfl, Nat.le_of_ble_eq_true rfl⟩ ⟨hc177, hs178⟩ dL_law_499 (fun v181 I180 H locs h hR hS => ?_)
        refine lv_aload_n hx hb dL_law_502 rfl (hv_at hl 2 rfl) ?_
        obtain ⟨hc182, hs183, h⟩ := h
        obtain ⟨hf184, h⟩ := h
        refine v_cVi (As := []) C hR hS hl.1.1 ca_X7_keep kml_L_70 (L_X7_keep E l y2_18 I180 _ h) hf184 rfl rfl rfl rfl (Nat.le_of_ble_eq_true rfl) ⟨Nat.le_of_ble_eq_true rfl, Nat.le_of_ble_eq_true rfl⟩ ⟨hc182, hs183⟩ dL_law_503 (fun v186 I185 H locs h hR hS => ?_)
        refine lv_icmp_eq (tgt := 781) hx hb dL_law_506 (by decide) (fun c187 => ?_) (fun c187 => ?_)
        · replace h := h.1 c187
          exact hJ781 y1_18 y2_18 y3_18 kc ks n K R I185 _ _ _ h hR hS (hv_sub hl [0, 1, 2, 3] rfl)
        · replace h := h.2 c187
          refine lv_iconst (v := (0:Int32)) hx hb dL_law_509 rfl ?_
          exact h.elim
      · replace h := h.2.2.2.2.2.2.2.2.2.2.2.2.2.1 c4
        refine v_tblIn (tgt := 511) hx hb (v := (13:Int32)) dL_law_32 c4 (by decide) (by decide) rfl (by decide) ?_
        refine lv_aload_n hx hb dL_law_511 rfl (hv_at hl 1 rfl) ?_
        obtain ⟨hc188, hs189, h⟩ := h
        obtain ⟨hf190, h⟩ := h
        refine v_cVi (As := []) C hR hS hl.1.1 ca_X6_restore kml_L_71 (L_X6_restore E l y1_18 I _ h) hf190 rfl rfl rfl rfl (Nat.le_of_ble_eq_true rfl) ⟨Nat.le_of_ble_eq_true rfl, Nat.le_of_ble_eq_true rfl⟩ ⟨hc188, hs189⟩ dL_law_512 (fun v192 I191 H locs h hR hS => ?_)
        refine lv_aload_n hx hb dL_law_515 rfl (hv_at hl 2 rfl) ?_
        obtain ⟨hc193, hs194, h⟩ := h
        obtain ⟨hf195, h⟩ := h
        refine v_cVi (As := []) C hR hS hl.1.1 ca_X7_restore kml_L_74 (L_X7_restore E l y2_18 I191 _ h) hf195 rfl rfl rfl rfl (Nat.le_of_ble_eq_true rfl) ⟨Nat.le_of_ble_eq_true rfl, Nat.le_of_ble_eq_true rfl⟩ ⟨hc193, hs194⟩ dL_law_516 (fun v197 I196 H locs h hR hS => ?_)
        refine lv_icmp_eq (tgt := 781) hx hb dL_law_519 (by decide) (fun c198 => ?_) (fun c198 => ?_)
        · replace h := h.1 c198
          exact hJ781 y1_18 y2_18 y3_18 kc ks n K R I196 _ _ _ h hR hS (hv_sub hl [0, 1, 2, 3] rfl)
        · replace h := h.2 c198
          refine lv_iconst (v := (0:Int32)) hx hb dL_law_522 rfl ?_
          exact h.elim
      · replace h := h.2.2.2.2.2.2.2.2.2.2.2.2.2.2.1 c4
        refine v_tblIn (tgt := 524) hx hb (v := (14:Int32)) dL_law_32 c4 (by decide) (by decide) rfl (by decide) ?_
        refine lv_aload_n hx hb dL_law_524 rfl (hv_at hl 1 rfl) ?_
        refine lv_aload_n hx hb dL_law_525 rfl (hv_at hl 0 rfl) ?_
        refine lv_iload_n hx hb dL_law_526 rfl (hv_at hl 3 rfl) ?_
        refine lv_iconst (v := (1:Int32)) hx hb dL_law_527 rfl ?_
        refine lv_iadd hx hb dL_law_528 ?_
        obtain ⟨hi199, h⟩ := h
        refine w_sld C hX hbl hbA hS hi199 dL_law_529 ?_
        refine lv_aload_n hx hb dL_law_530 rfl (hv_at hl 0 rfl) ?_
        refine lv_iload_n hx hb dL_law_531 rfl (hv_at hl 3 rfl) ?_
        refine lv_iconst (v := (2:Int32)) hx hb dL_law_532 rfl ?_
        refine lv_iadd hx hb dL_law_533 ?_
        obtain ⟨hi200, h⟩ := h
        refine w_sld C hX hbl hbA hS hi200 dL_law_534 ?_
        obtain ⟨hc201, hs202, h⟩ := h
        obtain ⟨hf203, h⟩ := h
        refine v_cVi (As := [.int (xs (ix (y3_18 + (1:Int32)))), .int (xs (ix (y3_18 + (2:Int32))))]) C hR hS hl.1.1 ca_X6_question kml_L_75 (L_X6_question E l y1_18 (xs (ix (y3_18 + (1:Int32)))) (xs (ix (y3_18 + (2:Int32)))) I _ h) hf203 rfl rfl rfl rfl (Nat.le_of_ble_eq_true rfl) ⟨Nat.le_of_ble_eq_true rfl, Nat.le_of_ble_eq_true rfl⟩ ⟨hc201, hs202⟩ dL_law_535 (fun v205 I204 H locs h hR hS => ?_)
        refine lv_aload_n hx hb dL_law_538 rfl (hv_at hl 2 rfl) ?_
        refine lv_aload_n hx hb dL_law_539 rfl (hv_at hl 0 rfl) ?_
        refine lv_iload_n hx hb dL_law_540 rfl (hv_at hl 3 rfl) ?_
        refine lv_iconst (v := (1:Int32)) hx hb dL_law_541 rfl ?_
        refine lv_iadd hx hb dL_law_542 ?_
        obtain ⟨hi206, h⟩ := h
        refine w_sld C hX hbl hbA hS hi206 dL_law_543 ?_
        refine lv_aload_n hx hb dL_law_544 rfl (hv_at hl 0 rfl) ?_
        refine lv_iload_n hx hb dL_law_545 rfl (hv_at hl 3 rfl) ?_
        refine lv_iconst (v := (2:Int32)) hx hb dL_law_546 rfl ?_
        refine lv_iadd hx hb dL_law_547 ?_
        obtain ⟨hi207, h⟩ := h
        refine w_sld C hX hbl hbA hS hi207 dL_law_548 ?_
        obtain ⟨hc208, hs209, h⟩ := h
        obtain ⟨hf210, h⟩ := h
        refine v_cVi (As := [.int (xs (ix (y3_18 + (1:Int32)))), .int (xs (ix (y3_18 + (2:Int32))))]) C hR hS hl.1.1 ca_X7_question_ kml_L_78 (L_X7_question_ E l y2_18 (xs (ix (y3_18 + (1:Int32)))) (xs (ix (y3_18 + (2:Int32)))) I204 _ h) hf210 rfl rfl rfl rfl (Nat.le_of_ble_eq_true rfl) ⟨Nat.le_of_ble_eq_true rfl, Nat.le_of_ble_eq_true rfl⟩ ⟨hc208, hs209⟩ dL_law_549 (fun v212 I211 H locs h hR hS => ?_)
        refine lv_icmp_eq (tgt := 781) hx hb dL_law_552 (by decide) (fun c213 => ?_) (fun c213 => ?_)
        · replace h := h.1 c213
          exact hJ781 y1_18 y2_18 y3_18 kc ks n K R I211 _ _ _ h hR hS (hv_sub hl [0, 1, 2, 3] rfl)
        · replace h := h.2 c213
          refine lv_iconst (v := (0:Int32)) hx hb dL_law_555 rfl ?_
          exact h.elim
      · replace h := h.2.2.2.2.2.2.2.2.2.2.2.2.2.2.2.1 c4
        refine v_tblIn (tgt := 557) hx hb (v := (15:Int32)) dL_law_32 c4 (by decide) (by decide) rfl (by decide) ?_
        refine lv_aload_n hx hb dL_law_557 rfl (hv_at hl 1 rfl) ?_
        refine lv_aload_n hx hb dL_law_558 rfl (hv_at hl 0 rfl) ?_
        refine lv_iload_n hx hb dL_law_559 rfl (hv_at hl 3 rfl) ?_
        refine lv_iconst (v := (1:Int32)) hx hb dL_law_560 rfl ?_
        refine lv_iadd hx hb dL_law_561 ?_
        obtain ⟨hi214, h⟩ := h
        refine w_sld C hX hbl hbA hS hi214 dL_law_562 ?_
        obtain ⟨hc215, hs216, h⟩ := h
        obtain ⟨hf217, h⟩ := h
        refine v_cVi (As := [.int (xs (ix (y3_18 + (1:Int32))))]) C hR hS hl.1.1 ca_X6_tag kml_L_79 (L_X6_tag E l y1_18 (xs (ix (y3_18 + (1:Int32)))) I _ h) hf217 rfl rfl rfl rfl (Nat.le_of_ble_eq_true rfl) ⟨Nat.le_of_ble_eq_true rfl, Nat.le_of_ble_eq_true rfl⟩ ⟨hc215, hs216⟩ dL_law_563 (fun v219 I218 H locs h hR hS => ?_)
        refine lv_aload_n hx hb dL_law_566 rfl (hv_at hl 2 rfl) ?_
        refine lv_aload_n hx hb dL_law_567 rfl (hv_at hl 0 rfl) ?_
        refine lv_iload_n hx hb dL_law_568 rfl (hv_at hl 3 rfl) ?_
        refine lv_iconst (v := (1:Int32)) hx hb dL_law_569 rfl ?_
        refine lv_iadd hx hb dL_law_570 ?_
        obtain ⟨hi220, h⟩ := h
        refine w_sld C hX hbl hbA hS hi220 dL_law_571 ?_
        obtain ⟨hc221, hs222, h⟩ := h
        obtain ⟨hf223, h⟩ := h
        refine v_cVi (As := [.int (xs (ix (y3_18 + (1:Int32))))]) C hR hS hl.1.1 ca_X7_tag kml_L_82 (L_X7_tag E l y2_18 (xs (ix (y3_18 + (1:Int32)))) I218 _ h) hf223 rfl rfl rfl rfl (Nat.le_of_ble_eq_true rfl) ⟨Nat.le_of_ble_eq_true rfl, Nat.le_of_ble_eq_true rfl⟩ ⟨hc221, hs222⟩ dL_law_572 (fun v225 I224 H locs h hR hS => ?_)
        refine lv_icmp_eq (tgt := 781) hx hb dL_law_575 (by decide) (fun c226 => ?_) (fun c226 => ?_)
        · replace h := h.1 c226
          exact hJ781 y1_18 y2_18 y3_18 kc ks n K R I224 _ _ _ h hR hS (hv_sub hl [0, 1, 2, 3] rfl)
        · replace h := h.2 c226
          refine lv_iconst (v := (0:Int32)) hx hb dL_law_578 rfl ?_
          exact h.elim
      · replace h := h.2.2.2.2.2.2.2.2.2.2.2.2.2.2.2.2.1 c4
        refine v_tblIn (tgt := 580) hx hb (v := (16:Int32)) dL_law_32 c4 (by decide) (by decide) rfl (by decide) ?_
        refine lv_aload_n hx hb dL_law_580 rfl (hv_at hl 1 rfl) ?_
        refine lv_aload_n hx hb dL_law_581 rfl (hv_at hl 0 rfl) ?_
        refine lv_iload_n hx hb dL_law_582 rfl (hv_at hl 3 rfl) ?_
        refine lv_iconst (v := (1:Int32)) hx hb dL_law_583 rfl ?_
        refine lv_iadd hx hb dL_law_584 ?_
        obtain ⟨hi227, h⟩ := h
        refine w_sld C hX hbl hbA hS hi227 dL_law_585 ?_
        refine lv_aload_n hx hb dL_law_586 rfl (hv_at hl 0 rfl) ?_
        refine lv_iload_n hx hb dL_law_587 rfl (hv_at hl 3 rfl) ?_
        refine lv_iconst (v := (2:Int32)) hx hb dL_law_588 rfl ?_
        refine lv_iadd hx hb dL_law_589 ?_
        obtain ⟨hi228, h⟩ := h
        refine w_sld C hX hbl hbA hS hi228 dL_law_590 ?_
        obtain ⟨hc229, hs230, h⟩ := h
        obtain ⟨hf231, h⟩ := h
        refine v_cVi (As := [.int (xs (ix (y3_18 + (1:Int32)))), .int (xs (ix (y3_18 + (2:Int32))))]) C hR hS hl.1.1 ca_X6_master kml_L_83 (L_X6_master E l y1_18 (xs (ix (y3_18 + (1:Int32)))) (xs (ix (y3_18 + (2:Int32)))) I _ h) hf231 rfl rfl rfl rfl (Nat.le_of_ble_eq_true rfl) ⟨Nat.le_of_ble_eq_true rfl, Nat.le_of_ble_eq_true rfl⟩ ⟨hc229, hs230⟩ dL_law_591 (fun v233 I232 H locs h hR hS => ?_)
        refine lv_aload_n hx hb dL_law_594 rfl (hv_at hl 2 rfl) ?_
        refine lv_aload_n hx hb dL_law_595 rfl (hv_at hl 0 rfl) ?_
        refine lv_iload_n hx hb dL_law_596 rfl (hv_at hl 3 rfl) ?_
        refine lv_iconst (v := (1:Int32)) hx hb dL_law_597 rfl ?_
        refine lv_iadd hx hb dL_law_598 ?_
        obtain ⟨hi234, h⟩ := h
        refine w_sld C hX hbl hbA hS hi234 dL_law_599 ?_
        refine lv_aload_n hx hb dL_law_600 rfl (hv_at hl 0 rfl) ?_
        refine lv_iload_n hx hb dL_law_601 rfl (hv_at hl 3 rfl) ?_
        refine lv_iconst (v := (2:Int32)) hx hb dL_law_602 rfl ?_
        refine lv_iadd hx hb dL_law_603 ?_
        obtain ⟨hi235, h⟩ := h
        refine w_sld C hX hbl hbA hS hi235 dL_law_604 ?_
        obtain ⟨hc236, hs237, h⟩ := h
        obtain ⟨hf238, h⟩ := h
        refine v_cVi (As := [.int (xs (ix (y3_18 + (1:Int32)))), .int (xs (ix (y3_18 + (2:Int32))))]) C hR hS hl.1.1 ca_X7_master kml_L_86 (L_X7_master E l y2_18 (xs (ix (y3_18 + (1:Int32)))) (xs (ix (y3_18 + (2:Int32)))) I232 _ h) hf238 rfl rfl rfl rfl (Nat.le_of_ble_eq_true rfl) ⟨Nat.le_of_ble_eq_true rfl, Nat.le_of_ble_eq_true rfl⟩ ⟨hc236, hs237⟩ dL_law_605 (fun v240 I239 H locs h hR hS => ?_)
        refine lv_icmp_eq (tgt := 781) hx hb dL_law_608 (by decide) (fun c241 => ?_) (fun c241 => ?_)
        · replace h := h.1 c241
          exact hJ781 y1_18 y2_18 y3_18 kc ks n K R I239 _ _ _ h hR hS (hv_sub hl [0, 1, 2, 3] rfl)
        · replace h := h.2 c241
          refine lv_iconst (v := (0:Int32)) hx hb dL_law_611 rfl ?_
          exact h.elim
      · replace h := h.2.2.2.2.2.2.2.2.2.2.2.2.2.2.2.2.2.1 c4
        refine v_tblIn (tgt := 613) hx hb (v := (17:Int32)) dL_law_32 c4 (by decide) (by decide) rfl (by decide) ?_
        refine lv_aload_n hx hb dL_law_613 rfl (hv_at hl 1 rfl) ?_
        refine lv_aload_n hx hb dL_law_614 rfl (hv_at hl 0 rfl) ?_
        refine lv_iload_n hx hb dL_law_615 rfl (hv_at hl 3 rfl) ?_
        refine lv_iconst (v := (1:Int32)) hx hb dL_law_616 rfl ?_
        refine lv_iadd hx hb dL_law_617 ?_
        obtain ⟨hi242, h⟩ := h
        refine w_sld C hX hbl hbA hS hi242 dL_law_618 ?_
        refine lv_aload_n hx hb dL_law_619 rfl (hv_at hl 0 rfl) ?_
        refine lv_iload_n hx hb dL_law_620 rfl (hv_at hl 3 rfl) ?_
        refine lv_iconst (v := (2:Int32)) hx hb dL_law_621 rfl ?_
        refine lv_iadd hx hb dL_law_622 ?_
        obtain ⟨hi243, h⟩ := h
        refine w_sld C hX hbl hbA hS hi243 dL_law_623 ?_
        obtain ⟨hc244, hs245, h⟩ := h
        obtain ⟨hf246, h⟩ := h
        refine v_cVi (As := [.int (xs (ix (y3_18 + (1:Int32)))), .int (xs (ix (y3_18 + (2:Int32))))]) C hR hS hl.1.1 ca_X6_row kml_L_87 (L_X6_row E l y1_18 (xs (ix (y3_18 + (1:Int32)))) (xs (ix (y3_18 + (2:Int32)))) I _ h) hf246 rfl rfl rfl rfl (Nat.le_of_ble_eq_true rfl) ⟨Nat.le_of_ble_eq_true rfl, Nat.le_of_ble_eq_true rfl⟩ ⟨hc244, hs245⟩ dL_law_624 (fun v248 I247 H locs h hR hS => ?_)
        refine lv_aload_n hx hb dL_law_627 rfl (hv_at hl 2 rfl) ?_
        refine lv_aload_n hx hb dL_law_628 rfl (hv_at hl 0 rfl) ?_
        refine lv_iload_n hx hb dL_law_629 rfl (hv_at hl 3 rfl) ?_
        refine lv_iconst (v := (1:Int32)) hx hb dL_law_630 rfl ?_
        refine lv_iadd hx hb dL_law_631 ?_
        obtain ⟨hi249, h⟩ := h
        refine w_sld C hX hbl hbA hS hi249 dL_law_632 ?_
        refine lv_aload_n hx hb dL_law_633 rfl (hv_at hl 0 rfl) ?_
        refine lv_iload_n hx hb dL_law_634 rfl (hv_at hl 3 rfl) ?_
        refine lv_iconst (v := (2:Int32)) hx hb dL_law_635 rfl ?_
        refine lv_iadd hx hb dL_law_636 ?_
        obtain ⟨hi250, h⟩ := h
        refine w_sld C hX hbl hbA hS hi250 dL_law_637 ?_
        obtain ⟨hc251, hs252, h⟩ := h
        obtain ⟨hf253, h⟩ := h
        refine v_cVi (As := [.int (xs (ix (y3_18 + (1:Int32)))), .int (xs (ix (y3_18 + (2:Int32))))]) C hR hS hl.1.1 ca_X7_row kml_L_90 (L_X7_row E l y2_18 (xs (ix (y3_18 + (1:Int32)))) (xs (ix (y3_18 + (2:Int32)))) I247 _ h) hf253 rfl rfl rfl rfl (Nat.le_of_ble_eq_true rfl) ⟨Nat.le_of_ble_eq_true rfl, Nat.le_of_ble_eq_true rfl⟩ ⟨hc251, hs252⟩ dL_law_638 (fun v255 I254 H locs h hR hS => ?_)
        refine lv_icmp_eq (tgt := 781) hx hb dL_law_641 (by decide) (fun c256 => ?_) (fun c256 => ?_)
        · replace h := h.1 c256
          exact hJ781 y1_18 y2_18 y3_18 kc ks n K R I254 _ _ _ h hR hS (hv_sub hl [0, 1, 2, 3] rfl)
        · replace h := h.2 c256
          refine lv_iconst (v := (0:Int32)) hx hb dL_law_644 rfl ?_
          exact h.elim
      · replace h := h.2.2.2.2.2.2.2.2.2.2.2.2.2.2.2.2.2.2.1 c4
        refine v_tblIn (tgt := 646) hx hb (v := (18:Int32)) dL_law_32 c4 (by decide) (by decide) rfl (by decide) ?_
        refine lv_aload_n hx hb dL_law_646 rfl (hv_at hl 1 rfl) ?_
        refine lv_aload_n hx hb dL_law_647 rfl (hv_at hl 0 rfl) ?_
        refine lv_iload_n hx hb dL_law_648 rfl (hv_at hl 3 rfl) ?_
        refine lv_iconst (v := (1:Int32)) hx hb dL_law_649 rfl ?_
        refine lv_iadd hx hb dL_law_650 ?_
        obtain ⟨hi257, h⟩ := h
        refine w_sld C hX hbl hbA hS hi257 dL_law_651 ?_
        refine lv_aload_n hx hb dL_law_652 rfl (hv_at hl 0 rfl) ?_
        refine lv_iload_n hx hb dL_law_653 rfl (hv_at hl 3 rfl) ?_
        refine lv_iconst (v := (2:Int32)) hx hb dL_law_654 rfl ?_
        refine lv_iadd hx hb dL_law_655 ?_
        obtain ⟨hi258, h⟩ := h
        refine w_sld C hX hbl hbA hS hi258 dL_law_656 ?_
        obtain ⟨hc259, hs260, h⟩ := h
        obtain ⟨hf261, h⟩ := h
        refine v_cVi (As := [.int (xs (ix (y3_18 + (1:Int32)))), .int (xs (ix (y3_18 + (2:Int32))))]) C hR hS hl.1.1 ca_X6_target kml_L_91 (L_X6_target E l y1_18 (xs (ix (y3_18 + (1:Int32)))) (xs (ix (y3_18 + (2:Int32)))) I _ h) hf261 rfl rfl rfl rfl (Nat.le_of_ble_eq_true rfl) ⟨Nat.le_of_ble_eq_true rfl, Nat.le_of_ble_eq_true rfl⟩ ⟨hc259, hs260⟩ dL_law_657 (fun v263 I262 H locs h hR hS => ?_)
        refine lv_aload_n hx hb dL_law_660 rfl (hv_at hl 2 rfl) ?_
        refine lv_aload_n hx hb dL_law_661 rfl (hv_at hl 0 rfl) ?_
        refine lv_iload_n hx hb dL_law_662 rfl (hv_at hl 3 rfl) ?_
        refine lv_iconst (v := (1:Int32)) hx hb dL_law_663 rfl ?_
        refine lv_iadd hx hb dL_law_664 ?_
        obtain ⟨hi264, h⟩ := h
        refine w_sld C hX hbl hbA hS hi264 dL_law_665 ?_
        refine lv_aload_n hx hb dL_law_666 rfl (hv_at hl 0 rfl) ?_
        refine lv_iload_n hx hb dL_law_667 rfl (hv_at hl 3 rfl) ?_
        refine lv_iconst (v := (2:Int32)) hx hb dL_law_668 rfl ?_
        refine lv_iadd hx hb dL_law_669 ?_
        obtain ⟨hi265, h⟩ := h
        refine w_sld C hX hbl hbA hS hi265 dL_law_670 ?_
        obtain ⟨hc266, hs267, h⟩ := h
        obtain ⟨hf268, h⟩ := h
        refine v_cVi (As := [.int (xs (ix (y3_18 + (1:Int32)))), .int (xs (ix (y3_18 + (2:Int32))))]) C hR hS hl.1.1 ca_X7_target kml_L_94 (L_X7_target E l y2_18 (xs (ix (y3_18 + (1:Int32)))) (xs (ix (y3_18 + (2:Int32)))) I262 _ h) hf268 rfl rfl rfl rfl (Nat.le_of_ble_eq_true rfl) ⟨Nat.le_of_ble_eq_true rfl, Nat.le_of_ble_eq_true rfl⟩ ⟨hc266, hs267⟩ dL_law_671 (fun v270 I269 H locs h hR hS => ?_)
        refine lv_icmp_eq (tgt := 781) hx hb dL_law_674 (by decide) (fun c271 => ?_) (fun c271 => ?_)
        · replace h := h.1 c271
          exact hJ781 y1_18 y2_18 y3_18 kc ks n K R I269 _ _ _ h hR hS (hv_sub hl [0, 1, 2, 3] rfl)
        · replace h := h.2 c271
          refine lv_iconst (v := (0:Int32)) hx hb dL_law_677 rfl ?_
          exact h.elim
      · replace h := h.2.2.2.2.2.2.2.2.2.2.2.2.2.2.2.2.2.2.2.1 c4
        refine v_tblIn (tgt := 679) hx hb (v := (19:Int32)) dL_law_32 c4 (by decide) (by decide) rfl (by decide) ?_
        refine lv_aload_n hx hb dL_law_679 rfl (hv_at hl 1 rfl) ?_
        refine lv_aload_n hx hb dL_law_680 rfl (hv_at hl 0 rfl) ?_
        refine lv_iload_n hx hb dL_law_681 rfl (hv_at hl 3 rfl) ?_
        refine lv_iconst (v := (1:Int32)) hx hb dL_law_682 rfl ?_
        refine lv_iadd hx hb dL_law_683 ?_
        obtain ⟨hi272, h⟩ := h
        refine w_sld C hX hbl hbA hS hi272 dL_law_684 ?_
        refine lv_aload_n hx hb dL_law_685 rfl (hv_at hl 0 rfl) ?_
        refine lv_iload_n hx hb dL_law_686 rfl (hv_at hl 3 rfl) ?_
        refine lv_iconst (v := (2:Int32)) hx hb dL_law_687 rfl ?_
        refine lv_iadd hx hb dL_law_688 ?_
        obtain ⟨hi273, h⟩ := h
        refine w_sld C hX hbl hbA hS hi273 dL_law_689 ?_
        obtain ⟨hc274, hs275, h⟩ := h
        obtain ⟨hf276, h⟩ := h
        refine v_cVi (As := [.int (xs (ix (y3_18 + (1:Int32)))), .int (xs (ix (y3_18 + (2:Int32))))]) C hR hS hl.1.1 ca_X6_cell kml_L_95 (L_X6_cell E l y1_18 (xs (ix (y3_18 + (1:Int32)))) (xs (ix (y3_18 + (2:Int32)))) I _ h) hf276 rfl rfl rfl rfl (Nat.le_of_ble_eq_true rfl) ⟨Nat.le_of_ble_eq_true rfl, Nat.le_of_ble_eq_true rfl⟩ ⟨hc274, hs275⟩ dL_law_690 (fun v278 I277 H locs h hR hS => ?_)
        refine lv_aload_n hx hb dL_law_693 rfl (hv_at hl 2 rfl) ?_
        refine lv_aload_n hx hb dL_law_694 rfl (hv_at hl 0 rfl) ?_
        refine lv_iload_n hx hb dL_law_695 rfl (hv_at hl 3 rfl) ?_
        refine lv_iconst (v := (1:Int32)) hx hb dL_law_696 rfl ?_
        refine lv_iadd hx hb dL_law_697 ?_
        obtain ⟨hi279, h⟩ := h
        refine w_sld C hX hbl hbA hS hi279 dL_law_698 ?_
        refine lv_aload_n hx hb dL_law_699 rfl (hv_at hl 0 rfl) ?_
        refine lv_iload_n hx hb dL_law_700 rfl (hv_at hl 3 rfl) ?_
        refine lv_iconst (v := (2:Int32)) hx hb dL_law_701 rfl ?_
        refine lv_iadd hx hb dL_law_702 ?_
        obtain ⟨hi280, h⟩ := h
        refine w_sld C hX hbl hbA hS hi280 dL_law_703 ?_
        obtain ⟨hc281, hs282, h⟩ := h
        obtain ⟨hf283, h⟩ := h
        refine v_cVi (As := [.int (xs (ix (y3_18 + (1:Int32)))), .int (xs (ix (y3_18 + (2:Int32))))]) C hR hS hl.1.1 ca_X7_cell kml_L_98 (L_X7_cell E l y2_18 (xs (ix (y3_18 + (1:Int32)))) (xs (ix (y3_18 + (2:Int32)))) I277 _ h) hf283 rfl rfl rfl rfl (Nat.le_of_ble_eq_true rfl) ⟨Nat.le_of_ble_eq_true rfl, Nat.le_of_ble_eq_true rfl⟩ ⟨hc281, hs282⟩ dL_law_704 (fun v285 I284 H locs h hR hS => ?_)
        refine lv_icmp_eq (tgt := 781) hx hb dL_law_707 (by decide) (fun c286 => ?_) (fun c286 => ?_)
        · replace h := h.1 c286
          exact hJ781 y1_18 y2_18 y3_18 kc ks n K R I284 _ _ _ h hR hS (hv_sub hl [0, 1, 2, 3] rfl)
        · replace h := h.2 c286
          refine lv_iconst (v := (0:Int32)) hx hb dL_law_710 rfl ?_
          exact h.elim
      · replace h := h.2.2.2.2.2.2.2.2.2.2.2.2.2.2.2.2.2.2.2.2.1 c4
        refine v_tblIn (tgt := 712) hx hb (v := (20:Int32)) dL_law_32 c4 (by decide) (by decide) rfl (by decide) ?_
        refine lv_aload_n hx hb dL_law_712 rfl (hv_at hl 1 rfl) ?_
        refine lv_aload_n hx hb dL_law_713 rfl (hv_at hl 0 rfl) ?_
        refine lv_iload_n hx hb dL_law_714 rfl (hv_at hl 3 rfl) ?_
        refine lv_iconst (v := (1:Int32)) hx hb dL_law_715 rfl ?_
        refine lv_iadd hx hb dL_law_716 ?_
        obtain ⟨hi287, h⟩ := h
        refine w_sld C hX hbl hbA hS hi287 dL_law_717 ?_
        obtain ⟨hc288, hs289, h⟩ := h
        obtain ⟨hf290, h⟩ := h
        refine v_cVi (As := [.int (xs (ix (y3_18 + (1:Int32))))]) C hR hS hl.1.1 ca_X6_next kml_L_99 (L_X6_next E l y1_18 (xs (ix (y3_18 + (1:Int32)))) I _ h) hf290 rfl rfl rfl rfl (Nat.le_of_ble_eq_true rfl) ⟨Nat.le_of_ble_eq_true rfl, Nat.le_of_ble_eq_true rfl⟩ ⟨hc288, hs289⟩ dL_law_718 (fun v292 I291 H locs h hR hS => ?_)
        refine lv_aload_n hx hb dL_law_721 rfl (hv_at hl 2 rfl) ?_
        refine lv_aload_n hx hb dL_law_722 rfl (hv_at hl 0 rfl) ?_
        refine lv_iload_n hx hb dL_law_723 rfl (hv_at hl 3 rfl) ?_
        refine lv_iconst (v := (1:Int32)) hx hb dL_law_724 rfl ?_
        refine lv_iadd hx hb dL_law_725 ?_
        obtain ⟨hi293, h⟩ := h
        refine w_sld C hX hbl hbA hS hi293 dL_law_726 ?_
        obtain ⟨hc294, hs295, h⟩ := h
        obtain ⟨hf296, h⟩ := h
        refine v_cVi (As := [.int (xs (ix (y3_18 + (1:Int32))))]) C hR hS hl.1.1 ca_X7_next kml_L_102 (L_X7_next E l y2_18 (xs (ix (y3_18 + (1:Int32)))) I291 _ h) hf296 rfl rfl rfl rfl (Nat.le_of_ble_eq_true rfl) ⟨Nat.le_of_ble_eq_true rfl, Nat.le_of_ble_eq_true rfl⟩ ⟨hc294, hs295⟩ dL_law_727 (fun v298 I297 H locs h hR hS => ?_)
        refine lv_icmp_eq (tgt := 781) hx hb dL_law_730 (by decide) (fun c299 => ?_) (fun c299 => ?_)
        · replace h := h.1 c299
          exact hJ781 y1_18 y2_18 y3_18 kc ks n K R I297 _ _ _ h hR hS (hv_sub hl [0, 1, 2, 3] rfl)
        · replace h := h.2 c299
          refine lv_iconst (v := (0:Int32)) hx hb dL_law_733 rfl ?_
          exact h.elim
      · replace h := h.2.2.2.2.2.2.2.2.2.2.2.2.2.2.2.2.2.2.2.2.2.1 c4
        refine v_tblIn (tgt := 735) hx hb (v := (21:Int32)) dL_law_32 c4 (by decide) (by decide) rfl (by decide) ?_
        refine lv_aload_n hx hb dL_law_735 rfl (hv_at hl 1 rfl) ?_
        refine lv_aload_n hx hb dL_law_736 rfl (hv_at hl 0 rfl) ?_
        refine lv_iload_n hx hb dL_law_737 rfl (hv_at hl 3 rfl) ?_
        refine lv_iconst (v := (1:Int32)) hx hb dL_law_738 rfl ?_
        refine lv_iadd hx hb dL_law_739 ?_
        obtain ⟨hi300, h⟩ := h
        refine w_sld C hX hbl hbA hS hi300 dL_law_740 ?_
        obtain ⟨hc301, hs302, h⟩ := h
        obtain ⟨hf303, h⟩ := h
        refine v_cVi (As := [.int (xs (ix (y3_18 + (1:Int32))))]) C hR hS hl.1.1 ca_X6_answeredIn kml_L_103 (L_X6_answeredIn E l y1_18 (xs (ix (y3_18 + (1:Int32)))) I _ h) hf303 rfl rfl rfl rfl (Nat.le_of_ble_eq_true rfl) ⟨Nat.le_of_ble_eq_true rfl, Nat.le_of_ble_eq_true rfl⟩ ⟨hc301, hs302⟩ dL_law_741 (fun v305 I304 H locs h hR hS => ?_)
        refine lv_aload_n hx hb dL_law_744 rfl (hv_at hl 2 rfl) ?_
        refine lv_aload_n hx hb dL_law_745 rfl (hv_at hl 0 rfl) ?_
        refine lv_iload_n hx hb dL_law_746 rfl (hv_at hl 3 rfl) ?_
        refine lv_iconst (v := (1:Int32)) hx hb dL_law_747 rfl ?_
        refine lv_iadd hx hb dL_law_748 ?_
        obtain ⟨hi306, h⟩ := h
        refine w_sld C hX hbl hbA hS hi306 dL_law_749 ?_
        obtain ⟨hc307, hs308, h⟩ := h
        obtain ⟨hf309, h⟩ := h
        refine v_cVi (As := [.int (xs (ix (y3_18 + (1:Int32))))]) C hR hS hl.1.1 ca_X7_answeredIn kml_L_106 (L_X7_answeredIn E l y2_18 (xs (ix (y3_18 + (1:Int32)))) I304 _ h) hf309 rfl rfl rfl rfl (Nat.le_of_ble_eq_true rfl) ⟨Nat.le_of_ble_eq_true rfl, Nat.le_of_ble_eq_true rfl⟩ ⟨hc307, hs308⟩ dL_law_750 (fun v311 I310 H locs h hR hS => ?_)
        refine lv_icmp_eq (tgt := 781) hx hb dL_law_753 (by decide) (fun c312 => ?_) (fun c312 => ?_)
        · replace h := h.1 c312
          exact hJ781 y1_18 y2_18 y3_18 kc ks n K R I310 _ _ _ h hR hS (hv_sub hl [0, 1, 2, 3] rfl)
        · replace h := h.2 c312
          refine lv_iconst (v := (0:Int32)) hx hb dL_law_756 rfl ?_
          exact h.elim
      · replace h := h.2.2.2.2.2.2.2.2.2.2.2.2.2.2.2.2.2.2.2.2.2.2.1 c4
        refine v_tblIn (tgt := 758) hx hb (v := (22:Int32)) dL_law_32 c4 (by decide) (by decide) rfl (by decide) ?_
        refine lv_aload_n hx hb dL_law_758 rfl (hv_at hl 1 rfl) ?_
        refine lv_aload_n hx hb dL_law_759 rfl (hv_at hl 0 rfl) ?_
        refine lv_iload_n hx hb dL_law_760 rfl (hv_at hl 3 rfl) ?_
        refine lv_iconst (v := (1:Int32)) hx hb dL_law_761 rfl ?_
        refine lv_iadd hx hb dL_law_762 ?_
        obtain ⟨hi313, h⟩ := h
        refine w_sld C hX hbl hbA hS hi313 dL_law_763 ?_
        obtain ⟨hc314, hs315, h⟩ := h
        obtain ⟨hf316, h⟩ := h
        refine v_cVi (As := [.int (xs (ix (y3_18 + (1:Int32))))]) C hR hS hl.1.1 ca_X6_count kml_L_107 (L_X6_count E l y1_18 (xs (ix (y3_18 + (1:Int32)))) I _ h) hf316 rfl rfl rfl rfl (Nat.le_of_ble_eq_true rfl) ⟨Nat.le_of_ble_eq_true rfl, Nat.le_of_ble_eq_true rfl⟩ ⟨hc314, hs315⟩ dL_law_764 (fun v318 I317 H locs h hR hS => ?_)
        refine lv_aload_n hx hb dL_law_767 rfl (hv_at hl 2 rfl) ?_
        refine lv_aload_n hx hb dL_law_768 rfl (hv_at hl 0 rfl) ?_
        refine lv_iload_n hx hb dL_law_769 rfl (hv_at hl 3 rfl) ?_
        refine lv_iconst (v := (1:Int32)) hx hb dL_law_770 rfl ?_
        refine lv_iadd hx hb dL_law_771 ?_
        obtain ⟨hi319, h⟩ := h
        refine w_sld C hX hbl hbA hS hi319 dL_law_772 ?_
        obtain ⟨hc320, hs321, h⟩ := h
        obtain ⟨hf322, h⟩ := h
        refine v_cVi (As := [.int (xs (ix (y3_18 + (1:Int32))))]) C hR hS hl.1.1 ca_X7_count kml_L_110 (L_X7_count E l y2_18 (xs (ix (y3_18 + (1:Int32)))) I317 _ h) hf322 rfl rfl rfl rfl (Nat.le_of_ble_eq_true rfl) ⟨Nat.le_of_ble_eq_true rfl, Nat.le_of_ble_eq_true rfl⟩ ⟨hc320, hs321⟩ dL_law_773 (fun v324 I323 H locs h hR hS => ?_)
        refine lv_icmp_eq (tgt := 781) hx hb dL_law_776 (by decide) (fun c325 => ?_) (fun c325 => ?_)
        · replace h := h.1 c325
          exact hJ781 y1_18 y2_18 y3_18 kc ks n K R I323 _ _ _ h hR hS (hv_sub hl [0, 1, 2, 3] rfl)
        · replace h := h.2 c325
          refine lv_iconst (v := (0:Int32)) hx hb dL_law_779 rfl ?_
          exact h.elim
      · replace h := h.2.2.2.2.2.2.2.2.2.2.2.2.2.2.2.2.2.2.2.2.2.2.2 c4
        refine lv_tableOut (tgt := 781) hx hb dL_law_32 c4 (by decide) ?_
        exact hJ781 y1_18 y2_18 y3_18 kc ks n K R I _ _ _ h hR hS (hv_sub hl [0, 1, 2, 3] rfl)
  unfold w_L_law at h
  obtain ⟨hc330, hs331, h⟩ := h
  obtain ⟨K327, hK327⟩ := ex_eq (upK K n (.inr 6))
  replace h := h K327 hK327
  obtain ⟨R328, hR328⟩ := ex_eq (clR R n)
  replace h := h R328 hR328
  obtain ⟨I329, hI329⟩ := ex_eq (clI I n)
  replace h := h I329 hI329
  refine w_new C hR hS kcl_L_7 kia_X6 kin_X6 rfl inG6 tyX6 tyX6_ok (fun j hj => by have hj2 : j = 0 ∨ j = 1 ∨ j = 2 ∨ j = 3 ∨ j = 4 ∨ j = 5 ∨ j = 6 := (by omega); rcases hj2 with rfl | rfl | rfl | rfl | rfl | rfl | rfl <;> rfl) hc330 hs331 hK327 hR328 hI329 dL_law_0 (fun H hR hS => ?_)
  refine lv_dup hx hb dL_law_3 rfl ?_
  obtain ⟨hc336, hs337, h⟩ := h
  refine w_cI (As := []) C hR hS hl.1.1 ca_X6_init kml_L_9 (L_X6_init E l n K327 R328 I329 (n + 1) _ h) rfl rfl (Nat.le_of_ble_eq_true rfl) ⟨Nat.le_of_ble_eq_true rfl, Nat.le_of_ble_eq_true rfl⟩ ⟨hc336, hs337⟩ dL_law_4 (fun K332 R333 I334 n335 H locs h hR hS => ?_)
  refine v_astore_n (o := (some n)) (lv' := [(1, .ref n), (0, .ref b)]) hx hb dL_law_7 rfl hl (by decide) rfl (fun ls hl => ?_)
  obtain ⟨hc341, hs342, h⟩ := h
  obtain ⟨K338, hK338⟩ := ex_eq (upK K332 n335 (.inr 7))
  replace h := h K338 hK338
  obtain ⟨R339, hR339⟩ := ex_eq (clR R333 n335)
  replace h := h R339 hR339
  obtain ⟨I340, hI340⟩ := ex_eq (clI I334 n335)
  replace h := h I340 hI340
  refine w_new C hR hS kcl_L_10 kia_X7 kin_X7 rfl inG7 tyX7 tyX7_ok (fun j hj => by have hj2 : j = 0 ∨ j = 1 ∨ j = 2 ∨ j = 3 ∨ j = 4 ∨ j = 5 ∨ j = 6 ∨ j = 7 ∨ j = 8 ∨ j = 9 ∨ j = 10 ∨ j = 11 ∨ j = 12 := (by omega); rcases hj2 with rfl | rfl | rfl | rfl | rfl | rfl | rfl | rfl | rfl | rfl | rfl | rfl | rfl <;> rfl) hc341 hs342 hK338 hR339 hI340 dL_law_8 (fun H hR hS => ?_)
  refine lv_dup hx hb dL_law_11 rfl ?_
  obtain ⟨hc347, hs348, h⟩ := h
  refine w_cI (As := []) C hR hS hl.1.1 ca_X7_init kml_L_12 (L_X7_init E l n335 K338 R339 I340 (n335 + 1) _ h) rfl rfl (Nat.le_of_ble_eq_true rfl) ⟨Nat.le_of_ble_eq_true rfl, Nat.le_of_ble_eq_true rfl⟩ ⟨hc347, hs348⟩ dL_law_12 (fun K343 R344 I345 n346 H locs h hR hS => ?_)
  refine v_astore_n (o := (some n335)) (lv' := [(2, .ref n335), (1, .ref n), (0, .ref b)]) hx hb dL_law_15 rfl hl (by decide) rfl (fun ls hl => ?_)
  refine lv_iconst (v := (0:Int32)) hx hb dL_law_16 rfl ?_
  refine v_istore_n (lv' := [(3, .int (0:Int32)), (2, .ref n335), (1, .ref n), (0, .ref b)]) hx hb dL_law_17 rfl hl (by decide) rfl (fun ls hl => ?_)
  obtain ⟨R', I', hgs, h⟩ := h
  replace hR := hgs _ _ _ hR
  exact hJ18 n n335 (0:Int32) (0 + 1 + 1680 + 1 + 7) (0 + 7 + 18515 + 13 + 16595) n346 K343 R' I' _ _ _ h hR hS (hv_sub hl [3, 2, 1, 0] rfl)
