set_option maxHeartbeats 8000000 in
set_option maxRecDepth 100000 in
theorem L_X3_init (E : Ev) (l : Launch) (a0 : Nat) (K : MK) (R : MR) (I : MI) (n : Nat) (Q : MK → MR → MI → Nat → Prop) (h : w_X3_init a0 K R I n Q) : MM E l yX3_init cX3_init 1 none 1 20 0 0 [.ref a0] K R I n (fun v K' R' I' n' => v = none ∧ Q K' R' I' n') := by
  refine MM.of1 (by decide) RX3 rfl (cR cN) (Nat.le_of_ble_eq_true rfl) ?_
  intro p e s m args below meth c ls C hin hR hS hl
  have hx := C.1
  have hb := C.2.1
  have hml := C.2.2.1
  have hown := C.2.2.2.1
  have hts := C.2.2.2.2.1
  have hl : hv ls 1 [(0, .ref a0)] := hl
  unfold w_X3_init at h
  refine lv_aload_n hx hb dX3_init_0 rfl (hv_at hl 0 rfl) ?_
  refine W.objInit hx hb hown (hts _ kml_X3_3) (hts _ kim_Lib_objectInit) (hts _ kco_objectInit) rfl (hl.1.1.trans hml.symm) rfl dX3_init_1 (Nat.le_of_ble_eq_true rfl) (Nat.le_of_ble_eq_true rfl) ?_
  refine W.eq (g2 := F0 m 4 ls []) rfl ?_
  obtain ⟨hc1, hs2, h⟩ := h
  exact w_vretC C rfl hR hS hc1 hs2 h dX3_init_4
set_option maxHeartbeats 8000000 in
set_option maxRecDepth 100000 in
theorem L_X1_init (E : Ev) (l : Launch) (a0 : Nat) (K : MK) (R : MR) (I : MI) (n : Nat) (Q : MK → MR → MI → Nat → Prop) (h : w_X1_init a0 K R I n Q) : MM E l yX1_init cX1_init 1 none 1 20 1 6 [.ref a0] K R I n (fun v K' R' I' n' => v = none ∧ Q K' R' I' n') := by
  refine MM.of1 (by decide) RX1 rfl (cR cN) (Nat.le_of_ble_eq_true rfl) ?_
  intro p e s m args below meth c ls C hin hR hS hl
  have hx := C.1
  have hb := C.2.1
  have hml := C.2.2.1
  have hown := C.2.2.2.1
  have hts := C.2.2.2.2.1
  have hl : hv ls 1 [(0, .ref a0)] := hl
  unfold w_X1_init at h
  refine lv_aload_n hx hb dX1_init_0 rfl (hv_at hl 0 rfl) ?_
  refine W.objInit hx hb hown (hts _ kml_X1_3) (hts _ kim_Lib_objectInit) (hts _ kco_objectInit) rfl (hl.1.1.trans hml.symm) rfl dX1_init_1 (Nat.le_of_ble_eq_true rfl) (Nat.le_of_ble_eq_true rfl) ?_
  refine W.eq (g2 := F0 m 4 ls []) rfl ?_
  refine lv_aload_n hx hb dX1_init_4 rfl (hv_at hl 0 rfl) ?_
  refine lv_bipush (v := (6:Int32)) hx hb dX1_init_5 (by decide) ?_
  obtain ⟨hc4, hs5, h⟩ := h
  obtain ⟨K1, hK1⟩ := ex_eq (upK K n (.inl (0, 6)))
  replace h := h K1 hK1
  obtain ⟨R2, hR2⟩ := ex_eq (clR R n)
  replace h := h R2 hR2
  obtain ⟨I3, hI3⟩ := ex_eq (clI I n)
  replace h := h I3 hI3
  refine w_newa (at_ := .int) (t := 0) C hR hS kac_int rfl (by decide) (by decide) (by decide) (Nat.le_of_ble_eq_true rfl) hc4 hs5 hK1 hR2 hI3 dX1_init_7 (fun H hR hS => ?_)
  obtain ⟨hf6, h⟩ := h
  obtain ⟨R7, hR7⟩ := ex_eq (upR R2 a0 0 n)
  replace h := h R7 hR7
  refine v_putF (T := TX1) (ty := tyX1 0) C hR hS 0 kfl_X1_9 rfl inG1 tyX1 tyX1_ok nmX1 (by decide) rfl (hin rfl) hf6 rfl (tyX1_ok 0 (by decide)) rfl rfl (fl_r_1_0 _ _ _) (Nat.le_of_ble_eq_true rfl) hR7 dX1_init_9 (fun H locs hR hS => ?_)
  obtain ⟨hc8, hs9, h⟩ := h
  exact w_vretC C rfl hR hS hc8 hs9 h dX1_init_12
set_option maxHeartbeats 8000000 in
set_option maxRecDepth 100000 in
theorem L_X2_init (E : Ev) (l : Launch) (a0 : Nat) (K : MK) (R : MR) (I : MI) (n : Nat) (Q : MK → MR → MI → Nat → Prop) (h : w_X2_init a0 K R I n Q) : MM E l yX2_init cX2_init 1 none 2 40 2 8 [.ref a0] K R I n (fun v K' R' I' n' => v = none ∧ Q K' R' I' n') := by
  refine MM.of1 (by decide) RX2 rfl (cR cN) (Nat.le_of_ble_eq_true rfl) ?_
  intro p e s m args below meth c ls C hin hR hS hl
  have hx := C.1
  have hb := C.2.1
  have hml := C.2.2.1
  have hown := C.2.2.2.1
  have hts := C.2.2.2.2.1
  have hl : hv ls 1 [(0, .ref a0)] := hl
  unfold w_X2_init at h
  refine lv_aload_n hx hb dX2_init_0 rfl (hv_at hl 0 rfl) ?_
  refine W.objInit hx hb hown (hts _ kml_X2_3) (hts _ kim_Lib_objectInit) (hts _ kco_objectInit) rfl (hl.1.1.trans hml.symm) rfl dX2_init_1 (Nat.le_of_ble_eq_true rfl) (Nat.le_of_ble_eq_true rfl) ?_
  refine W.eq (g2 := F0 m 4 ls []) rfl ?_
  refine lv_aload_n hx hb dX2_init_4 rfl (hv_at hl 0 rfl) ?_
  obtain ⟨hc4, hs5, h⟩ := h
  obtain ⟨K1, hK1⟩ := ex_eq (upK K n (.inr 1))
  replace h := h K1 hK1
  obtain ⟨R2, hR2⟩ := ex_eq (clR R n)
  replace h := h R2 hR2
  obtain ⟨I3, hI3⟩ := ex_eq (clI I n)
  replace h := h I3 hI3
  refine w_new C hR hS kcl_X2_9 kia_X1 kin_X1 rfl inG1 tyX1 tyX1_ok (fun j hj => by have hj2 : j = 0 ∨ j = 1 := (by omega); rcases hj2 with rfl | rfl <;> rfl) hc4 hs5 hK1 hR2 hI3 dX2_init_5 (fun H hR hS => ?_)
  refine lv_dup hx hb dX2_init_8 rfl ?_
  obtain ⟨hc10, hs11, h⟩ := h
  refine w_cIN (As := []) C hR hS hl.1.1 ca_X1_init knm_X2_11 (L_X1_init E l n K1 R2 I3 (n + 1) _ h) rfl rfl (Nat.le_of_ble_eq_true rfl) ⟨Nat.le_of_ble_eq_true rfl, Nat.le_of_ble_eq_true rfl⟩ ⟨hc10, hs11⟩ dX2_init_9 (fun K6 R7 I8 n9 H locs h hR hS => ?_)
  obtain ⟨hf12, h⟩ := h
  obtain ⟨R13, hR13⟩ := ex_eq (upR R7 a0 0 n)
  replace h := h R13 hR13
  refine v_putF (T := TX2) (ty := tyX2 0) C hR hS 0 kfl_X2_12 rfl inG2 tyX2 tyX2_ok nmX2 (by decide) rfl (hin rfl) hf12 rfl (tyX2_ok 0 (by decide)) rfl rfl (fl_r_2_0 _ _ _) (Nat.le_of_ble_eq_true rfl) hR13 dX2_init_12 (fun H locs hR hS => ?_)
  refine lv_aload_n hx hb dX2_init_15 rfl (hv_at hl 0 rfl) ?_
  refine lv_iconst (v := (2:Int32)) hx hb dX2_init_16 rfl ?_
  obtain ⟨I14, hI14⟩ := ex_eq (upI I8 a0 1 (2:Int32))
  replace h := h I14 hI14
  refine v_put (T := TX2) (ty := .int) C hR hS 1 kfl_X2_18 rfl inG2 tyX2 tyX2_ok nmX2 (by decide) rfl hf12 rfl (tyX2_ok 1 (by decide)) rfl rfl (fl_i_2_1 _ _ _) (Nat.le_of_ble_eq_true rfl) hI14 dX2_init_17 (fun H locs hR hS => ?_)
  refine lv_aload_n hx hb dX2_init_20 rfl (hv_at hl 0 rfl) ?_
  refine lv_bipush (v := (-5:Int32)) hx hb dX2_init_21 (by decide) ?_
  obtain ⟨I15, hI15⟩ := ex_eq (upI I14 a0 7 (-5:Int32))
  replace h := h I15 hI15
  refine v_put (T := TX2) (ty := .int) C hR hS 7 kfl_X2_22 rfl inG2 tyX2 tyX2_ok nmX2 (by decide) rfl hf12 rfl (tyX2_ok 7 (by decide)) rfl rfl (fl_i_2_7 _ _ _) (Nat.le_of_ble_eq_true rfl) hI15 dX2_init_23 (fun H locs hR hS => ?_)
  obtain ⟨hc16, hs17, h⟩ := h
  exact w_vretC C rfl hR hS hc16 hs17 h dX2_init_26
set_option maxHeartbeats 8000000 in
set_option maxRecDepth 100000 in
theorem L_X5_init (E : Ev) (l : Launch) (a0 : Nat) (K : MK) (R : MR) (I : MI) (n : Nat) (Q : MK → MR → MI → Nat → Prop) (h : w_X5_init a0 K R I n Q) : MM E l yX5_init cX5_init 1 none 2 40 4 27 [.ref a0] K R I n (fun v K' R' I' n' => v = none ∧ Q K' R' I' n') := by
  refine MM.of1 (by decide) RX5 rfl (cR cN) (Nat.le_of_ble_eq_true rfl) ?_
  intro p e s m args below meth c ls C hin hR hS hl
  have hx := C.1
  have hb := C.2.1
  have hml := C.2.2.1
  have hown := C.2.2.2.1
  have hts := C.2.2.2.2.1
  have hl : hv ls 1 [(0, .ref a0)] := hl
  unfold w_X5_init at h
  refine lv_aload_n hx hb dX5_init_0 rfl (hv_at hl 0 rfl) ?_
  refine W.objInit hx hb hown (hts _ kml_X5_3) (hts _ kim_Lib_objectInit) (hts _ kco_objectInit) rfl (hl.1.1.trans hml.symm) rfl dX5_init_1 (Nat.le_of_ble_eq_true rfl) (Nat.le_of_ble_eq_true rfl) ?_
  refine W.eq (g2 := F0 m 4 ls []) rfl ?_
  refine lv_aload_n hx hb dX5_init_4 rfl (hv_at hl 0 rfl) ?_
  refine lv_bipush (v := (16:Int32)) hx hb dX5_init_5 (by decide) ?_
  obtain ⟨hc4, hs5, h⟩ := h
  obtain ⟨K1, hK1⟩ := ex_eq (upK K n (.inl (0, 16)))
  replace h := h K1 hK1
  obtain ⟨R2, hR2⟩ := ex_eq (clR R n)
  replace h := h R2 hR2
  obtain ⟨I3, hI3⟩ := ex_eq (clI I n)
  replace h := h I3 hI3
  refine w_newa (at_ := .int) (t := 0) C hR hS kac_int rfl (by decide) (by decide) (by decide) (Nat.le_of_ble_eq_true rfl) hc4 hs5 hK1 hR2 hI3 dX5_init_7 (fun H hR hS => ?_)
  obtain ⟨hf6, h⟩ := h
  obtain ⟨R7, hR7⟩ := ex_eq (upR R2 a0 0 n)
  replace h := h R7 hR7
  refine v_putF (T := TX5) (ty := tyX5 0) C hR hS 0 kfl_X5_9 rfl inG5 tyX5 tyX5_ok nmX5 (by decide) rfl (hin rfl) hf6 rfl (tyX5_ok 0 (by decide)) rfl rfl (fl_r_5_0 _ _ _) (Nat.le_of_ble_eq_true rfl) hR7 dX5_init_9 (fun H locs hR hS => ?_)
  refine lv_aload_n hx hb dX5_init_12 rfl (hv_at hl 0 rfl) ?_
  refine lv_iconst (v := (3:Int32)) hx hb dX5_init_13 rfl ?_
  obtain ⟨hc11, hs12, h⟩ := h
  obtain ⟨K8, hK8⟩ := ex_eq (upK K1 (n + 1) (.inl (0, 3)))
  replace h := h K8 hK8
  obtain ⟨R9, hR9⟩ := ex_eq (clR R7 (n + 1))
  replace h := h R9 hR9
  obtain ⟨I10, hI10⟩ := ex_eq (clI I3 (n + 1))
  replace h := h I10 hI10
  refine w_newa (at_ := .int) (t := 0) C hR hS kac_int rfl (by decide) (by decide) (by decide) (Nat.le_of_ble_eq_true rfl) hc11 hs12 hK8 hR9 hI10 dX5_init_14 (fun H hR hS => ?_)
  refine lv_dup hx hb dX5_init_16 rfl ?_
  refine lv_iconst (v := (0:Int32)) hx hb dX5_init_17 rfl ?_
  refine lv_iconst (v := (2:Int32)) hx hb dX5_init_18 rfl ?_
  obtain ⟨hf13, h⟩ := h
  obtain ⟨I14, hI14⟩ := ex_eq (upI I10 (n + 1) 0 (2:Int32))
  replace h := h I14 hI14
  refine w_iast C hR hS hf13 (show vp_in (0:Int32) 3 by unfold vp_in; decide) (j := 0) (by decide) hI14 dX5_init_19 (fun H locs hR hS => ?_)
  refine lv_dup hx hb dX5_init_20 rfl ?_
  refine lv_iconst (v := (1:Int32)) hx hb dX5_init_21 rfl ?_
  refine lv_iconst (v := (3:Int32)) hx hb dX5_init_22 rfl ?_
  obtain ⟨I15, hI15⟩ := ex_eq (upI I14 (n + 1) 1 (3:Int32))
  replace h := h I15 hI15
  refine w_iast C hR hS hf13 (show vp_in (1:Int32) 3 by unfold vp_in; decide) (j := 1) (by decide) hI15 dX5_init_23 (fun H locs hR hS => ?_)
  refine lv_dup hx hb dX5_init_24 rfl ?_
  refine lv_iconst (v := (2:Int32)) hx hb dX5_init_25 rfl ?_
  refine lv_iconst (v := (0:Int32)) hx hb dX5_init_26 rfl ?_
  obtain ⟨I16, hI16⟩ := ex_eq (upI I15 (n + 1) 2 (0:Int32))
  replace h := h I16 hI16
  refine w_iast C hR hS hf13 (show vp_in (2:Int32) 3 by unfold vp_in; decide) (j := 2) (by decide) hI16 dX5_init_27 (fun H locs hR hS => ?_)
  obtain ⟨hf17, h⟩ := h
  obtain ⟨R18, hR18⟩ := ex_eq (upR R9 a0 1 (n + 1))
  replace h := h R18 hR18
  refine v_putF (T := TX5) (ty := tyX5 1) C hR hS 1 kfl_X5_15 rfl inG5 tyX5 tyX5_ok nmX5 (by decide) rfl (hin rfl) hf17 rfl (tyX5_ok 1 (by decide)) rfl rfl (fl_r_5_1 _ _ _) (Nat.le_of_ble_eq_true rfl) hR18 dX5_init_28 (fun H locs hR hS => ?_)
  refine lv_aload_n hx hb dX5_init_31 rfl (hv_at hl 0 rfl) ?_
  obtain ⟨hc22, hs23, h⟩ := h
  obtain ⟨K19, hK19⟩ := ex_eq (upK K8 (n + 1 + 1) (.inr 1))
  replace h := h K19 hK19
  obtain ⟨R20, hR20⟩ := ex_eq (clR R18 (n + 1 + 1))
  replace h := h R20 hR20
  obtain ⟨I21, hI21⟩ := ex_eq (clI I16 (n + 1 + 1))
  replace h := h I21 hI21
  refine w_new C hR hS kcl_X5_18 kia_X1 kin_X1 rfl inG1 tyX1 tyX1_ok (fun j hj => by have hj2 : j = 0 ∨ j = 1 := (by omega); rcases hj2 with rfl | rfl <;> rfl) hc22 hs23 hK19 hR20 hI21 dX5_init_32 (fun H hR hS => ?_)
  refine lv_dup hx hb dX5_init_35 rfl ?_
  obtain ⟨hc28, hs29, h⟩ := h
  refine w_cIN (As := []) C hR hS hl.1.1 ca_X1_init knm_X5_20 (L_X1_init E l (n + 1 + 1) K19 R20 I21 (n + 1 + 1 + 1) _ h) rfl rfl (Nat.le_of_ble_eq_true rfl) ⟨Nat.le_of_ble_eq_true rfl, Nat.le_of_ble_eq_true rfl⟩ ⟨hc28, hs29⟩ dX5_init_36 (fun K24 R25 I26 n27 H locs h hR hS => ?_)
  obtain ⟨hf30, h⟩ := h
  obtain ⟨R31, hR31⟩ := ex_eq (upR R25 a0 2 (n + 1 + 1))
  replace h := h R31 hR31
  refine v_putF (T := TX5) (ty := tyX5 2) C hR hS 2 kfl_X5_21 rfl inG5 tyX5 tyX5_ok nmX5 (by decide) rfl (hin rfl) hf30 rfl (tyX5_ok 2 (by decide)) rfl rfl (fl_r_5_2 _ _ _) (Nat.le_of_ble_eq_true rfl) hR31 dX5_init_39 (fun H locs hR hS => ?_)
  obtain ⟨hc32, hs33, h⟩ := h
  exact w_vretC C rfl hR hS hc32 hs33 h dX5_init_42
set_option maxHeartbeats 8000000 in
set_option maxRecDepth 100000 in
theorem L_X0_init (E : Ev) (l : Launch) (a0 : Nat) (K : MK) (R : MR) (I : MI) (n : Nat) (Q : MK → MR → MI → Nat → Prop) (h : w_X0_init a0 K R I n Q) : MM E l yX0_init cX0_init 2 none 3 60 237 2603 [.ref a0] K R I n (fun v K' R' I' n' => v = none ∧ Q K' R' I' n') := by
  refine MM.of1 (by decide) RX0 rfl (cR cN) (Nat.le_of_ble_eq_true rfl) ?_
  intro p e s m args below meth c ls C hin hR hS hl
  have hx := C.1
  have hb := C.2.1
  have hml := C.2.2.1
  have hown := C.2.2.2.1
  have hts := C.2.2.2.2.1
  have hl : hv ls 2 [(0, .ref a0)] := hl
  have hJ140 : ∀ (y1_140 : Int32) (kc ks n : Nat) (K : MK) (R : MR) (I : MI) (H : Heap) (locs : List Loc) (ls : Array Slot), w_X0_init_b140 a0 Q y1_140 kc ks n K R I → Rep E K R I n H → va_S (AA E) s.heap H locs → hv ls 2 [(0, .ref a0), (1, .int y1_140)] → W p l e (rmM 3 60 237 2603) s m args below meth c H locs kc ks (MQ below (QcM E (fun v K' R' I' n' => v = none ∧ Q K' R' I' n')) args s 237 2603 (AA E)) (F0 m 140 ls []) := by
    intro y1_140 kc ks n K R I H locs ls h hR hS hl
    obtain ⟨X140, hX140⟩ : ∃ X : Int32 → Nat → Nat → Nat → MK → MR → MI → Prop, ∀ (y1_140 : Int32) (kc ks n : Nat) (K : MK) (R : MR) (I : MI), X y1_140 kc ks n K R I ↔ (∀ (H : Heap) (locs : List Loc) (ls : Array Slot), Rep E K R I n H → va_S (AA E) s.heap H locs → hv ls 2 [(0, .ref a0), (1, .int y1_140)] → W p l e (rmM 3 60 237 2603) s m args below meth c H locs kc ks (MQ below (QcM E (fun v K' R' I' n' => v = none ∧ Q K' R' I' n')) args s 237 2603 (AA E)) (F0 m 140 ls [])) := ⟨fun y1_140 kc ks n K R I => ∀ (H : Heap) (locs : List Loc) (ls : Array Slot), Rep E K R I n H → va_S (AA E) s.heap H locs → hv ls 2 [(0, .ref a0), (1, .int y1_140)] → W p l e (rmM 3 60 237 2603) s m args below meth c H locs kc ks (MQ below (QcM E (fun v K' R' I' n' => v = none ∧ Q K' R' I' n')) args s 237 2603 (AA E)) (F0 m 140 ls []), fun _ _ _ _ _ _ _ => Iff.rfl⟩
    refine (hX140 y1_140 kc ks n K R I).mp (h X140 ?_) H locs ls hR hS hl
    clear h hR hS hl
    clear ls locs H y1_140 kc ks n K R I
    intro y1_140 kc ks n K R I h
    refine (hX140 y1_140 kc ks n K R I).mpr ?_
    intro H locs ls hR hS hl
    unfold w_X0_init_b140_body at h
    refine lv_iload_n hx hb dX0_init_140 rfl (hv_at hl 1 rfl) ?_
    refine lv_sipush (v := (200:Int32)) hx hb dX0_init_141 (by decide) ?_
    refine lv_icmp_ge (tgt := 166) hx hb dX0_init_144 (by decide) (fun c21 => ?_) (fun c21 => ?_)
    · replace h := h.1 c21
      obtain ⟨hc1, hs2, h⟩ := h
      exact w_vretC C rfl hR hS hc1 hs2 h dX0_init_166
    · replace h := h.2 c21
      refine lv_aload_n hx hb dX0_init_147 rfl (hv_at hl 0 rfl) ?_
      obtain ⟨hf3, h⟩ := h
      obtain ⟨w4, hw5, h⟩ := h
      refine w_getR (T := TX0) (w := w4) C hR 4 kfl_X0_32 rfl inG0 (by decide) rfl hf3 rfl hw5 dX0_init_148 ?_
      refine lv_iload_n hx hb dX0_init_151 rfl (hv_at hl 1 rfl) ?_
      obtain ⟨hc9, hs10, h⟩ := h
      obtain ⟨K6, hK6⟩ := ex_eq (upK K n (.inr 3))
      replace h := h K6 hK6
      obtain ⟨R7, hR7⟩ := ex_eq (clR R n)
      replace h := h R7 hR7
      obtain ⟨I8, hI8⟩ := ex_eq (clI I n)
      replace h := h I8 hI8
      refine w_new C hR hS kcl_X0_30 kia_X3 kin_X3 rfl inG3 tyX3 tyX3_ok (fun j hj => by have hj2 : j = 0 ∨ j = 1 ∨ j = 2 ∨ j = 3 ∨ j = 4 ∨ j = 5 ∨ j = 6 ∨ j = 7 ∨ j = 8 ∨ j = 9 ∨ j = 10 := (by omega); rcases hj2 with rfl | rfl | rfl | rfl | rfl | rfl | rfl | rfl | rfl | rfl | rfl <;> rfl) hc9 hs10 hK6 hR7 hI8 dX0_init_152 (fun H hR hS => ?_)
      refine lv_dup hx hb dX0_init_155 rfl ?_
      obtain ⟨hc15, hs16, h⟩ := h
      refine w_cIN (As := []) C hR hS hl.1.1 ca_X3_init knm_X0_42 (L_X3_init E l n K6 R7 I8 (n + 1) _ h) rfl rfl (Nat.le_of_ble_eq_true rfl) ⟨Nat.le_of_ble_eq_true rfl, Nat.le_of_ble_eq_true rfl⟩ ⟨hc15, hs16⟩ dX0_init_156 (fun K11 R12 I13 n14 H locs h hR hS => ?_)
      obtain ⟨hf18, h⟩ := h
      obtain ⟨hi17, h⟩ := h
      obtain ⟨hf19, h⟩ := h
      obtain ⟨R20, hR20⟩ := ex_eq (upR R12 w4 (ix y1_140) n)
      replace h := h R20 hR20
      refine w_aastR (t := 4) (ci := 3) C hR hS hf18 (by decide) rfl rfl rfl hf19 hi17 (j := (ix y1_140)) rfl hR20 dX0_init_159 (fun H locs hR hS => ?_)
      refine v_iinc (v := y1_140 + (1:Int32)) (k := 1) (lv' := [(1, .int (y1_140 + (1:Int32))), (0, .ref a0)]) hx hb dX0_init_160 hl rfl rfl (by decide) rfl (fun ls hl => ?_)
      refine lv_goto (tgt := 140) hx hb dX0_init_163 (by decide) ?_
      exact (hX140 (y1_140 + (1:Int32)) (kc + 1 + 0) (ks + 11 + 0) n14 K11 R20 I13).mp h _ _ _ hR hS (hv_sub hl [1, 0] rfl)
  have hJ114 : ∀ (y1_114 : Int32) (kc ks n : Nat) (K : MK) (R : MR) (I : MI) (H : Heap) (locs : List Loc) (ls : Array Slot), w_X0_init_b114 a0 Q y1_114 kc ks n K R I → Rep E K R I n H → va_S (AA E) s.heap H locs → hv ls 2 [(0, .ref a0), (1, .int y1_114)] → W p l e (rmM 3 60 237 2603) s m args below meth c H locs kc ks (MQ below (QcM E (fun v K' R' I' n' => v = none ∧ Q K' R' I' n')) args s 237 2603 (AA E)) (F0 m 114 ls []) := by
    intro y1_114 kc ks n K R I H locs ls h hR hS hl
    obtain ⟨X114, hX114⟩ : ∃ X : Int32 → Nat → Nat → Nat → MK → MR → MI → Prop, ∀ (y1_114 : Int32) (kc ks n : Nat) (K : MK) (R : MR) (I : MI), X y1_114 kc ks n K R I ↔ (∀ (H : Heap) (locs : List Loc) (ls : Array Slot), Rep E K R I n H → va_S (AA E) s.heap H locs → hv ls 2 [(0, .ref a0), (1, .int y1_114)] → W p l e (rmM 3 60 237 2603) s m args below meth c H locs kc ks (MQ below (QcM E (fun v K' R' I' n' => v = none ∧ Q K' R' I' n')) args s 237 2603 (AA E)) (F0 m 114 ls [])) := ⟨fun y1_114 kc ks n K R I => ∀ (H : Heap) (locs : List Loc) (ls : Array Slot), Rep E K R I n H → va_S (AA E) s.heap H locs → hv ls 2 [(0, .ref a0), (1, .int y1_114)] → W p l e (rmM 3 60 237 2603) s m args below meth c H locs kc ks (MQ below (QcM E (fun v K' R' I' n' => v = none ∧ Q K' R' I' n')) args s 237 2603 (AA E)) (F0 m 114 ls []), fun _ _ _ _ _ _ _ => Iff.rfl⟩
    refine (hX114 y1_114 kc ks n K R I).mp (h X114 ?_) H locs ls hR hS hl
    clear h hR hS hl
    clear ls locs H y1_114 kc ks n K R I
    intro y1_114 kc ks n K R I h
    refine (hX114 y1_114 kc ks n K R I).mpr ?_
    intro H locs ls hR hS hl
    unfold w_X0_init_b114_body at h
    refine lv_iload_n hx hb dX0_init_114 rfl (hv_at hl 1 rfl) ?_
    refine lv_iconst (v := (4:Int32)) hx hb dX0_init_115 rfl ?_
    refine lv_icmp_ge (tgt := 138) hx hb dX0_init_116 (by decide) (fun c40 => ?_) (fun c40 => ?_)
    · replace h := h.1 c40
      refine lv_iconst (v := (0:Int32)) hx hb dX0_init_138 rfl ?_
      refine v_istore_n (lv' := [(1, .int (0:Int32)), (0, .ref a0)]) hx hb dX0_init_139 rfl hl (by decide) rfl (fun ls hl => ?_)
      exact hJ140 (0:Int32) kc ks n K R I _ _ _ h hR hS (hv_sub hl [1, 0] rfl)
    · replace h := h.2 c40
      refine lv_aload_n hx hb dX0_init_119 rfl (hv_at hl 0 rfl) ?_
      obtain ⟨hf22, h⟩ := h
      obtain ⟨w23, hw24, h⟩ := h
      refine w_getR (T := TX0) (w := w23) C hR 3 kfl_X0_26 rfl inG0 (by decide) rfl hf22 rfl hw24 dX0_init_120 ?_
      refine lv_iload_n hx hb dX0_init_123 rfl (hv_at hl 1 rfl) ?_
      obtain ⟨hc28, hs29, h⟩ := h
      obtain ⟨K25, hK25⟩ := ex_eq (upK K n (.inr 5))
      replace h := h K25 hK25
      obtain ⟨R26, hR26⟩ := ex_eq (clR R n)
      replace h := h R26 hR26
      obtain ⟨I27, hI27⟩ := ex_eq (clI I n)
      replace h := h I27 hI27
      refine w_new C hR hS kcl_X0_24 kia_X5 kin_X5 rfl inG5 tyX5 tyX5_ok (fun j hj => by have hj2 : j = 0 ∨ j = 1 ∨ j = 2 := (by omega); rcases hj2 with rfl | rfl | rfl <;> rfl) hc28 hs29 hK25 hR26 hI27 dX0_init_124 (fun H hR hS => ?_)
      refine lv_dup hx hb dX0_init_127 rfl ?_
      obtain ⟨hc34, hs35, h⟩ := h
      refine w_cIN (As := []) C hR hS hl.1.1 ca_X5_init knm_X0_41 (L_X5_init E l n K25 R26 I27 (n + 1) _ h) rfl rfl (Nat.le_of_ble_eq_true rfl) ⟨Nat.le_of_ble_eq_true rfl, Nat.le_of_ble_eq_true rfl⟩ ⟨hc34, hs35⟩ dX0_init_128 (fun K30 R31 I32 n33 H locs h hR hS => ?_)
      obtain ⟨hf37, h⟩ := h
      obtain ⟨hi36, h⟩ := h
      obtain ⟨hf38, h⟩ := h
      obtain ⟨R39, hR39⟩ := ex_eq (upR R31 w23 (ix y1_114) n)
      replace h := h R39 hR39
      refine w_aastR (t := 3) (ci := 5) C hR hS hf37 (by decide) rfl rfl rfl hf38 hi36 (j := (ix y1_114)) rfl hR39 dX0_init_131 (fun H locs hR hS => ?_)
      refine v_iinc (v := y1_114 + (1:Int32)) (k := 1) (lv' := [(1, .int (y1_114 + (1:Int32))), (0, .ref a0)]) hx hb dX0_init_132 hl rfl rfl (by decide) rfl (fun ls hl => ?_)
      refine lv_goto (tgt := 114) hx hb dX0_init_135 (by decide) ?_
      exact (hX114 (y1_114 + (1:Int32)) (kc + 1 + 4) (ks + 3 + 27) n33 K30 R39 I32).mp h _ _ _ hR hS (hv_sub hl [1, 0] rfl)
  have hJ88 : ∀ (y1_88 : Int32) (kc ks n : Nat) (K : MK) (R : MR) (I : MI) (H : Heap) (locs : List Loc) (ls : Array Slot), w_X0_init_b88 a0 Q y1_88 kc ks n K R I → Rep E K R I n H → va_S (AA E) s.heap H locs → hv ls 2 [(0, .ref a0), (1, .int y1_88)] → W p l e (rmM 3 60 237 2603) s m args below meth c H locs kc ks (MQ below (QcM E (fun v K' R' I' n' => v = none ∧ Q K' R' I' n')) args s 237 2603 (AA E)) (F0 m 88 ls []) := by
    intro y1_88 kc ks n K R I H locs ls h hR hS hl
    obtain ⟨X88, hX88⟩ : ∃ X : Int32 → Nat → Nat → Nat → MK → MR → MI → Prop, ∀ (y1_88 : Int32) (kc ks n : Nat) (K : MK) (R : MR) (I : MI), X y1_88 kc ks n K R I ↔ (∀ (H : Heap) (locs : List Loc) (ls : Array Slot), Rep E K R I n H → va_S (AA E) s.heap H locs → hv ls 2 [(0, .ref a0), (1, .int y1_88)] → W p l e (rmM 3 60 237 2603) s m args below meth c H locs kc ks (MQ below (QcM E (fun v K' R' I' n' => v = none ∧ Q K' R' I' n')) args s 237 2603 (AA E)) (F0 m 88 ls [])) := ⟨fun y1_88 kc ks n K R I => ∀ (H : Heap) (locs : List Loc) (ls : Array Slot), Rep E K R I n H → va_S (AA E) s.heap H locs → hv ls 2 [(0, .ref a0), (1, .int y1_88)] → W p l e (rmM 3 60 237 2603) s m args below meth c H locs kc ks (MQ below (QcM E (fun v K' R' I' n' => v = none ∧ Q K' R' I' n')) args s 237 2603 (AA E)) (F0 m 88 ls []), fun _ _ _ _ _ _ _ => Iff.rfl⟩
    refine (hX88 y1_88 kc ks n K R I).mp (h X88 ?_) H locs ls hR hS hl
    clear h hR hS hl
    clear ls locs H y1_88 kc ks n K R I
    intro y1_88 kc ks n K R I h
    refine (hX88 y1_88 kc ks n K R I).mpr ?_
    intro H locs ls hR hS hl
    unfold w_X0_init_b88_body at h
    refine lv_iload_n hx hb dX0_init_88 rfl (hv_at hl 1 rfl) ?_
    refine lv_iconst (v := (4:Int32)) hx hb dX0_init_89 rfl ?_
    refine lv_icmp_ge (tgt := 112) hx hb dX0_init_90 (by decide) (fun c59 => ?_) (fun c59 => ?_)
    · replace h := h.1 c59
      refine lv_iconst (v := (0:Int32)) hx hb dX0_init_112 rfl ?_
      refine v_istore_n (lv' := [(1, .int (0:Int32)), (0, .ref a0)]) hx hb dX0_init_113 rfl hl (by decide) rfl (fun ls hl => ?_)
      exact hJ114 (0:Int32) kc ks n K R I _ _ _ h hR hS (hv_sub hl [1, 0] rfl)
    · replace h := h.2 c59
      refine lv_aload_n hx hb dX0_init_93 rfl (hv_at hl 0 rfl) ?_
      obtain ⟨hf41, h⟩ := h
      obtain ⟨w42, hw43, h⟩ := h
      refine w_getR (T := TX0) (w := w42) C hR 2 kfl_X0_20 rfl inG0 (by decide) rfl hf41 rfl hw43 dX0_init_94 ?_
      refine lv_iload_n hx hb dX0_init_97 rfl (hv_at hl 1 rfl) ?_
      obtain ⟨hc47, hs48, h⟩ := h
      obtain ⟨K44, hK44⟩ := ex_eq (upK K n (.inr 2))
      replace h := h K44 hK44
      obtain ⟨R45, hR45⟩ := ex_eq (clR R n)
      replace h := h R45 hR45
      obtain ⟨I46, hI46⟩ := ex_eq (clI I n)
      replace h := h I46 hI46
      refine w_new C hR hS kcl_X0_18 kia_X2 kin_X2 rfl inG2 tyX2 tyX2_ok (fun j hj => by have hj2 : j = 0 ∨ j = 1 ∨ j = 2 ∨ j = 3 ∨ j = 4 ∨ j = 5 ∨ j = 6 ∨ j = 7 := (by omega); rcases hj2 with rfl | rfl | rfl | rfl | rfl | rfl | rfl | rfl <;> rfl) hc47 hs48 hK44 hR45 hI46 dX0_init_98 (fun H hR hS => ?_)
      refine lv_dup hx hb dX0_init_101 rfl ?_
      obtain ⟨hc53, hs54, h⟩ := h
      refine w_cIN (As := []) C hR hS hl.1.1 ca_X2_init knm_X0_40 (L_X2_init E l n K44 R45 I46 (n + 1) _ h) rfl rfl (Nat.le_of_ble_eq_true rfl) ⟨Nat.le_of_ble_eq_true rfl, Nat.le_of_ble_eq_true rfl⟩ ⟨hc53, hs54⟩ dX0_init_102 (fun K49 R50 I51 n52 H locs h hR hS => ?_)
      obtain ⟨hf56, h⟩ := h
      obtain ⟨hi55, h⟩ := h
      obtain ⟨hf57, h⟩ := h
      obtain ⟨R58, hR58⟩ := ex_eq (upR R50 w42 (ix y1_88) n)
      replace h := h R58 hR58
      refine w_aastR (t := 2) (ci := 2) C hR hS hf56 (by decide) rfl rfl rfl hf57 hi55 (j := (ix y1_88)) rfl hR58 dX0_init_105 (fun H locs hR hS => ?_)
      refine v_iinc (v := y1_88 + (1:Int32)) (k := 1) (lv' := [(1, .int (y1_88 + (1:Int32))), (0, .ref a0)]) hx hb dX0_init_106 hl rfl rfl (by decide) rfl (fun ls hl => ?_)
      refine lv_goto (tgt := 88) hx hb dX0_init_109 (by decide) ?_
      exact (hX88 (y1_88 + (1:Int32)) (kc + 1 + 2) (ks + 8 + 8) n52 K49 R58 I51).mp h _ _ _ hR hS (hv_sub hl [1, 0] rfl)
  have hJ66 : ∀ (y1_66 : Int32) (kc ks n : Nat) (K : MK) (R : MR) (I : MI) (H : Heap) (locs : List Loc) (ls : Array Slot), w_X0_init_b66 a0 Q y1_66 kc ks n K R I → Rep E K R I n H → va_S (AA E) s.heap H locs → hv ls 2 [(0, .ref a0), (1, .int y1_66)] → W p l e (rmM 3 60 237 2603) s m args below meth c H locs kc ks (MQ below (QcM E (fun v K' R' I' n' => v = none ∧ Q K' R' I' n')) args s 237 2603 (AA E)) (F0 m 66 ls []) := by
    intro y1_66 kc ks n K R I H locs ls h hR hS hl
    obtain ⟨X66, hX66⟩ : ∃ X : Int32 → Nat → Nat → Nat → MK → MR → MI → Prop, ∀ (y1_66 : Int32) (kc ks n : Nat) (K : MK) (R : MR) (I : MI), X y1_66 kc ks n K R I ↔ (∀ (H : Heap) (locs : List Loc) (ls : Array Slot), Rep E K R I n H → va_S (AA E) s.heap H locs → hv ls 2 [(0, .ref a0), (1, .int y1_66)] → W p l e (rmM 3 60 237 2603) s m args below meth c H locs kc ks (MQ below (QcM E (fun v K' R' I' n' => v = none ∧ Q K' R' I' n')) args s 237 2603 (AA E)) (F0 m 66 ls [])) := ⟨fun y1_66 kc ks n K R I => ∀ (H : Heap) (locs : List Loc) (ls : Array Slot), Rep E K R I n H → va_S (AA E) s.heap H locs → hv ls 2 [(0, .ref a0), (1, .int y1_66)] → W p l e (rmM 3 60 237 2603) s m args below meth c H locs kc ks (MQ below (QcM E (fun v K' R' I' n' => v = none ∧ Q K' R' I' n')) args s 237 2603 (AA E)) (F0 m 66 ls []), fun _ _ _ _ _ _ _ => Iff.rfl⟩
    refine (hX66 y1_66 kc ks n K R I).mp (h X66 ?_) H locs ls hR hS hl
    clear h hR hS hl
    clear ls locs H y1_66 kc ks n K R I
    intro y1_66 kc ks n K R I h
    refine (hX66 y1_66 kc ks n K R I).mpr ?_
    intro H locs ls hR hS hl
    unfold w_X0_init_b66_body at h
    refine lv_iload_n hx hb dX0_init_66 rfl (hv_at hl 1 rfl) ?_
    refine lv_bipush (v := (8:Int32)) hx hb dX0_init_67 (by decide) ?_
    refine lv_icmp_ge (tgt := 86) hx hb dX0_init_69 (by decide) (fun c66 => ?_) (fun c66 => ?_)
    · replace h := h.1 c66
      refine lv_iconst (v := (0:Int32)) hx hb dX0_init_86 rfl ?_
      refine v_istore_n (lv' := [(1, .int (0:Int32)), (0, .ref a0)]) hx hb dX0_init_87 rfl hl (by decide) rfl (fun ls hl => ?_)
      exact hJ88 (0:Int32) kc ks n K R I _ _ _ h hR hS (hv_sub hl [1, 0] rfl)
    · replace h := h.2 c66
      refine lv_aload_n hx hb dX0_init_72 rfl (hv_at hl 0 rfl) ?_
      obtain ⟨hf60, h⟩ := h
      obtain ⟨w61, hw62, h⟩ := h
      refine w_getR (T := TX0) (w := w61) C hR 1 kfl_X0_15 rfl inG0 (by decide) rfl hf60 rfl hw62 dX0_init_73 ?_
      refine lv_iload_n hx hb dX0_init_76 rfl (hv_at hl 1 rfl) ?_
      refine lv_bipush (v := (-5:Int32)) hx hb dX0_init_77 (by decide) ?_
      obtain ⟨hf64, h⟩ := h
      obtain ⟨hi63, h⟩ := h
      obtain ⟨I65, hI65⟩ := ex_eq (upI I w61 (ix y1_66) (-5:Int32))
      replace h := h I65 hI65
      refine w_iast C hR hS hf64 hi63 (j := (ix y1_66)) rfl hI65 dX0_init_79 (fun H locs hR hS => ?_)
      refine v_iinc (v := y1_66 + (1:Int32)) (k := 1) (lv' := [(1, .int (y1_66 + (1:Int32))), (0, .ref a0)]) hx hb dX0_init_80 hl rfl rfl (by decide) rfl (fun ls hl => ?_)
      refine lv_goto (tgt := 66) hx hb dX0_init_83 (by decide) ?_
      exact (hX66 (y1_66 + (1:Int32)) kc ks n K R I65).mp h _ _ _ hR hS (hv_sub hl [1, 0] rfl)
  unfold w_X0_init at h
  refine lv_aload_n hx hb dX0_init_0 rfl (hv_at hl 0 rfl) ?_
  refine W.objInit hx hb hown (hts _ kml_X0_3) (hts _ kim_Lib_objectInit) (hts _ kco_objectInit) rfl (hl.1.1.trans hml.symm) rfl dX0_init_1 (Nat.le_of_ble_eq_true rfl) (Nat.le_of_ble_eq_true rfl) ?_
  refine W.eq (g2 := F0 m 4 ls []) rfl ?_
  refine lv_aload_n hx hb dX0_init_4 rfl (hv_at hl 0 rfl) ?_
  refine lv_iconst (v := (3:Int32)) hx hb dX0_init_5 rfl ?_
  obtain ⟨hc70, hs71, h⟩ := h
  obtain ⟨K67, hK67⟩ := ex_eq (upK K n (.inl (0, 3)))
  replace h := h K67 hK67
  obtain ⟨R68, hR68⟩ := ex_eq (clR R n)
  replace h := h R68 hR68
  obtain ⟨I69, hI69⟩ := ex_eq (clI I n)
  replace h := h I69 hI69
  refine w_newa (at_ := .int) (t := 0) C hR hS kac_int rfl (by decide) (by decide) (by decide) (Nat.le_of_ble_eq_true rfl) hc70 hs71 hK67 hR68 hI69 dX0_init_6 (fun H hR hS => ?_)
  refine lv_dup hx hb dX0_init_8 rfl ?_
  refine lv_iconst (v := (0:Int32)) hx hb dX0_init_9 rfl ?_
  refine lv_iconst (v := (4:Int32)) hx hb dX0_init_10 rfl ?_
  obtain ⟨hf72, h⟩ := h
  obtain ⟨I73, hI73⟩ := ex_eq (upI I69 n 0 (4:Int32))
  replace h := h I73 hI73
  refine w_iast C hR hS hf72 (show vp_in (0:Int32) 3 by unfold vp_in; decide) (j := 0) (by decide) hI73 dX0_init_11 (fun H locs hR hS => ?_)
  refine lv_dup hx hb dX0_init_12 rfl ?_
  refine lv_iconst (v := (1:Int32)) hx hb dX0_init_13 rfl ?_
  refine lv_iconst (v := (0:Int32)) hx hb dX0_init_14 rfl ?_
  obtain ⟨I74, hI74⟩ := ex_eq (upI I73 n 1 (0:Int32))
  replace h := h I74 hI74
  refine w_iast C hR hS hf72 (show vp_in (1:Int32) 3 by unfold vp_in; decide) (j := 1) (by decide) hI74 dX0_init_15 (fun H locs hR hS => ?_)
  refine lv_dup hx hb dX0_init_16 rfl ?_
  refine lv_iconst (v := (2:Int32)) hx hb dX0_init_17 rfl ?_
  refine lv_bipush (v := (12:Int32)) hx hb dX0_init_18 (by decide) ?_
  obtain ⟨I75, hI75⟩ := ex_eq (upI I74 n 2 (12:Int32))
  replace h := h I75 hI75
  refine w_iast C hR hS hf72 (show vp_in (2:Int32) 3 by unfold vp_in; decide) (j := 2) (by decide) hI75 dX0_init_20 (fun H locs hR hS => ?_)
  obtain ⟨hf76, h⟩ := h
  obtain ⟨R77, hR77⟩ := ex_eq (upR R68 a0 0 n)
  replace h := h R77 hR77
  refine v_putF (T := TX0) (ty := tyX0 0) C hR hS 0 kfl_X0_9 rfl inG0 tyX0 tyX0_ok nmX0 (by decide) rfl (hin rfl) hf76 rfl (tyX0_ok 0 (by decide)) rfl rfl (fl_r_0_0 _ _ _) (Nat.le_of_ble_eq_true rfl) hR77 dX0_init_21 (fun H locs hR hS => ?_)
  refine lv_aload_n hx hb dX0_init_24 rfl (hv_at hl 0 rfl) ?_
  refine lv_bipush (v := (8:Int32)) hx hb dX0_init_25 (by decide) ?_
  obtain ⟨hc81, hs82, h⟩ := h
  obtain ⟨K78, hK78⟩ := ex_eq (upK K67 (n + 1) (.inl (0, 8)))
  replace h := h K78 hK78
  obtain ⟨R79, hR79⟩ := ex_eq (clR R77 (n + 1))
  replace h := h R79 hR79
  obtain ⟨I80, hI80⟩ := ex_eq (clI I75 (n + 1))
  replace h := h I80 hI80
  refine w_newa (at_ := .int) (t := 0) C hR hS kac_int rfl (by decide) (by decide) (by decide) (Nat.le_of_ble_eq_true rfl) hc81 hs82 hK78 hR79 hI80 dX0_init_27 (fun H hR hS => ?_)
  obtain ⟨hf83, h⟩ := h
  obtain ⟨R84, hR84⟩ := ex_eq (upR R79 a0 1 (n + 1))
  replace h := h R84 hR84
  refine v_putF (T := TX0) (ty := tyX0 1) C hR hS 1 kfl_X0_15 rfl inG0 tyX0 tyX0_ok nmX0 (by decide) rfl (hin rfl) hf83 rfl (tyX0_ok 1 (by decide)) rfl rfl (fl_r_0_1 _ _ _) (Nat.le_of_ble_eq_true rfl) hR84 dX0_init_29 (fun H locs hR hS => ?_)
  refine lv_aload_n hx hb dX0_init_32 rfl (hv_at hl 0 rfl) ?_
  refine lv_iconst (v := (4:Int32)) hx hb dX0_init_33 rfl ?_
  obtain ⟨hc88, hs89, h⟩ := h
  obtain ⟨K85, hK85⟩ := ex_eq (upK K78 (n + 1 + 1) (.inl (2, 4)))
  replace h := h K85 hK85
  obtain ⟨R86, hR86⟩ := ex_eq (clR R84 (n + 1 + 1))
  replace h := h R86 hR86
  obtain ⟨I87, hI87⟩ := ex_eq (clI I80 (n + 1 + 1))
  replace h := h I87 hI87
  refine w_anew (t := 2) C hR hS kcl_X0_18 (by decide) rfl (by decide) rfl (by decide) (by decide) (Nat.le_of_ble_eq_true rfl) hc88 hs89 hK85 hR86 hI87 dX0_init_34 (fun H hR hS => ?_)
  obtain ⟨hf90, h⟩ := h
  obtain ⟨R91, hR91⟩ := ex_eq (upR R86 a0 2 (n + 1 + 1))
  replace h := h R91 hR91
  refine v_putF (T := TX0) (ty := tyX0 2) C hR hS 2 kfl_X0_20 rfl inG0 tyX0 tyX0_ok nmX0 (by decide) rfl (hin rfl) hf90 rfl (tyX0_ok 2 (by decide)) rfl rfl (fl_r_0_2 _ _ _) (Nat.le_of_ble_eq_true rfl) hR91 dX0_init_37 (fun H locs hR hS => ?_)
  refine lv_aload_n hx hb dX0_init_40 rfl (hv_at hl 0 rfl) ?_
  refine lv_iconst (v := (4:Int32)) hx hb dX0_init_41 rfl ?_
  obtain ⟨hc95, hs96, h⟩ := h
  obtain ⟨K92, hK92⟩ := ex_eq (upK K85 (n + 1 + 1 + 1) (.inl (3, 4)))
  replace h := h K92 hK92
  obtain ⟨R93, hR93⟩ := ex_eq (clR R91 (n + 1 + 1 + 1))
  replace h := h R93 hR93
  obtain ⟨I94, hI94⟩ := ex_eq (clI I87 (n + 1 + 1 + 1))
  replace h := h I94 hI94
  refine w_anew (t := 3) C hR hS kcl_X0_24 (by decide) rfl (by decide) rfl (by decide) (by decide) (Nat.le_of_ble_eq_true rfl) hc95 hs96 hK92 hR93 hI94 dX0_init_42 (fun H hR hS => ?_)
  obtain ⟨hf97, h⟩ := h
  obtain ⟨R98, hR98⟩ := ex_eq (upR R93 a0 3 (n + 1 + 1 + 1))
  replace h := h R98 hR98
  refine v_putF (T := TX0) (ty := tyX0 3) C hR hS 3 kfl_X0_26 rfl inG0 tyX0 tyX0_ok nmX0 (by decide) rfl (hin rfl) hf97 rfl (tyX0_ok 3 (by decide)) rfl rfl (fl_r_0_3 _ _ _) (Nat.le_of_ble_eq_true rfl) hR98 dX0_init_45 (fun H locs hR hS => ?_)
  refine lv_aload_n hx hb dX0_init_48 rfl (hv_at hl 0 rfl) ?_
  refine lv_sipush (v := (200:Int32)) hx hb dX0_init_49 (by decide) ?_
  obtain ⟨hc102, hs103, h⟩ := h
  obtain ⟨K99, hK99⟩ := ex_eq (upK K92 (n + 1 + 1 + 1 + 1) (.inl (4, 200)))
  replace h := h K99 hK99
  obtain ⟨R100, hR100⟩ := ex_eq (clR R98 (n + 1 + 1 + 1 + 1))
  replace h := h R100 hR100
  obtain ⟨I101, hI101⟩ := ex_eq (clI I94 (n + 1 + 1 + 1 + 1))
  replace h := h I101 hI101
  refine w_anew (t := 4) C hR hS kcl_X0_30 (by decide) rfl (by decide) rfl (by decide) (by decide) (Nat.le_of_ble_eq_true rfl) hc102 hs103 hK99 hR100 hI101 dX0_init_52 (fun H hR hS => ?_)
  obtain ⟨hf104, h⟩ := h
  obtain ⟨R105, hR105⟩ := ex_eq (upR R100 a0 4 (n + 1 + 1 + 1 + 1))
  replace h := h R105 hR105
  refine v_putF (T := TX0) (ty := tyX0 4) C hR hS 4 kfl_X0_32 rfl inG0 tyX0 tyX0_ok nmX0 (by decide) rfl (hin rfl) hf104 rfl (tyX0_ok 4 (by decide)) rfl rfl (fl_r_0_4 _ _ _) (Nat.le_of_ble_eq_true rfl) hR105 dX0_init_55 (fun H locs hR hS => ?_)
  refine lv_aload_n hx hb dX0_init_58 rfl (hv_at hl 0 rfl) ?_
  refine lv_bipush (v := (-5:Int32)) hx hb dX0_init_59 (by decide) ?_
  obtain ⟨I106, hI106⟩ := ex_eq (upI I101 a0 7 (-5:Int32))
  replace h := h I106 hI106
  refine v_put (T := TX0) (ty := .int) C hR hS 7 kfl_X0_36 rfl inG0 tyX0 tyX0_ok nmX0 (by decide) rfl hf104 rfl (tyX0_ok 7 (by decide)) rfl rfl (fl_i_0_7 _ _ _) (Nat.le_of_ble_eq_true rfl) hI106 dX0_init_61 (fun H locs hR hS => ?_)
  refine lv_iconst (v := (0:Int32)) hx hb dX0_init_64 rfl ?_
  refine v_istore_n (lv' := [(1, .int (0:Int32)), (0, .ref a0)]) hx hb dX0_init_65 rfl hl (by decide) rfl (fun ls hl => ?_)
  exact hJ66 (0:Int32) (0 + 1 + 1 + 1 + 1 + 1) (0 + 3 + 8 + 4 + 4 + 200) (n + 1 + 1 + 1 + 1 + 1) K99 R105 I106 _ _ _ h hR hS (hv_sub hl [1, 0] rfl)
set_option maxHeartbeats 8000000 in
set_option maxRecDepth 100000 in
theorem L_X4_init (E : Ev) (l : Launch) (a0 : Nat) (K : MK) (R : MR) (I : MI) (n : Nat) (Q : MK → MR → MI → Nat → Prop) (h : w_X4_init a0 K R I n Q) : MM E l yX4_init cX4_init 2 none 2 40 12 180 [.ref a0] K R I n (fun v K' R' I' n' => v = none ∧ Q K' R' I' n') := by
  refine MM.of1 (by decide) RX4 rfl (cR cN) (Nat.le_of_ble_eq_true rfl) ?_
  intro p e s m args below meth c ls C hin hR hS hl
  have hx := C.1
  have hb := C.2.1
  have hml := C.2.2.1
  have hown := C.2.2.2.1
  have hts := C.2.2.2.2.1
  have hl : hv ls 2 [(0, .ref a0)] := hl
  have hJ23 : ∀ (y1_23 : Int32) (kc ks n : Nat) (K : MK) (R : MR) (I : MI) (H : Heap) (locs : List Loc) (ls : Array Slot), w_X4_init_b23 a0 Q y1_23 kc ks n K R I → Rep E K R I n H → va_S (AA E) s.heap H locs → hv ls 2 [(0, .ref a0), (1, .int y1_23)] → W p l e (rmM 2 40 12 180) s m args below meth c H locs kc ks (MQ below (QcM E (fun v K' R' I' n' => v = none ∧ Q K' R' I' n')) args s 12 180 (AA E)) (F0 m 23 ls []) := by
    intro y1_23 kc ks n K R I H locs ls h hR hS hl
    obtain ⟨X23, hX23⟩ : ∃ X : Int32 → Nat → Nat → Nat → MK → MR → MI → Prop, ∀ (y1_23 : Int32) (kc ks n : Nat) (K : MK) (R : MR) (I : MI), X y1_23 kc ks n K R I ↔ (∀ (H : Heap) (locs : List Loc) (ls : Array Slot), Rep E K R I n H → va_S (AA E) s.heap H locs → hv ls 2 [(0, .ref a0), (1, .int y1_23)] → W p l e (rmM 2 40 12 180) s m args below meth c H locs kc ks (MQ below (QcM E (fun v K' R' I' n' => v = none ∧ Q K' R' I' n')) args s 12 180 (AA E)) (F0 m 23 ls [])) := ⟨fun y1_23 kc ks n K R I => ∀ (H : Heap) (locs : List Loc) (ls : Array Slot), Rep E K R I n H → va_S (AA E) s.heap H locs → hv ls 2 [(0, .ref a0), (1, .int y1_23)] → W p l e (rmM 2 40 12 180) s m args below meth c H locs kc ks (MQ below (QcM E (fun v K' R' I' n' => v = none ∧ Q K' R' I' n')) args s 12 180 (AA E)) (F0 m 23 ls []), fun _ _ _ _ _ _ _ => Iff.rfl⟩
    refine (hX23 y1_23 kc ks n K R I).mp (h X23 ?_) H locs ls hR hS hl
    clear h hR hS hl
    clear ls locs H y1_23 kc ks n K R I
    intro y1_23 kc ks n K R I h
    refine (hX23 y1_23 kc ks n K R I).mpr ?_
    intro H locs ls hR hS hl
    unfold w_X4_init_b23_body at h
    refine lv_iload_n hx hb dX4_init_23 rfl (hv_at hl 1 rfl) ?_
    refine lv_bipush (v := (10:Int32)) hx hb dX4_init_24 (by decide) ?_
    refine lv_icmp_ge (tgt := 48) hx hb dX4_init_26 (by decide) (fun c21 => ?_) (fun c21 => ?_)
    · replace h := h.1 c21
      obtain ⟨hc1, hs2, h⟩ := h
      exact w_vretC C rfl hR hS hc1 hs2 h dX4_init_48
    · replace h := h.2 c21
      refine lv_aload_n hx hb dX4_init_29 rfl (hv_at hl 0 rfl) ?_
      obtain ⟨hf3, h⟩ := h
      obtain ⟨w4, hw5, h⟩ := h
      refine w_getR (T := TX4) (w := w4) C hR 2 kfl_X4_17 rfl inG4 (by decide) rfl hf3 rfl hw5 dX4_init_30 ?_
      refine lv_iload_n hx hb dX4_init_33 rfl (hv_at hl 1 rfl) ?_
      obtain ⟨hc9, hs10, h⟩ := h
      obtain ⟨K6, hK6⟩ := ex_eq (upK K n (.inr 3))
      replace h := h K6 hK6
      obtain ⟨R7, hR7⟩ := ex_eq (clR R n)
      replace h := h R7 hR7
      obtain ⟨I8, hI8⟩ := ex_eq (clI I n)
      replace h := h I8 hI8
      refine w_new C hR hS kcl_X4_15 kia_X3 kin_X3 rfl inG3 tyX3 tyX3_ok (fun j hj => by have hj2 : j = 0 ∨ j = 1 ∨ j = 2 ∨ j = 3 ∨ j = 4 ∨ j = 5 ∨ j = 6 ∨ j = 7 ∨ j = 8 ∨ j = 9 ∨ j = 10 := (by omega); rcases hj2 with rfl | rfl | rfl | rfl | rfl | rfl | rfl | rfl | rfl | rfl | rfl <;> rfl) hc9 hs10 hK6 hR7 hI8 dX4_init_34 (fun H hR hS => ?_)
      refine lv_dup hx hb dX4_init_37 rfl ?_
      obtain ⟨hc15, hs16, h⟩ := h
      refine w_cIN (As := []) C hR hS hl.1.1 ca_X3_init knm_X4_21 (L_X3_init E l n K6 R7 I8 (n + 1) _ h) rfl rfl (Nat.le_of_ble_eq_true rfl) ⟨Nat.le_of_ble_eq_true rfl, Nat.le_of_ble_eq_true rfl⟩ ⟨hc15, hs16⟩ dX4_init_38 (fun K11 R12 I13 n14 H locs h hR hS => ?_)
      obtain ⟨hf18, h⟩ := h
      obtain ⟨hi17, h⟩ := h
      obtain ⟨hf19, h⟩ := h
      obtain ⟨R20, hR20⟩ := ex_eq (upR R12 w4 (ix y1_23) n)
      replace h := h R20 hR20
      refine w_aastR (t := 4) (ci := 3) C hR hS hf18 (by decide) rfl rfl rfl hf19 hi17 (j := (ix y1_23)) rfl hR20 dX4_init_41 (fun H locs hR hS => ?_)
      refine v_iinc (v := y1_23 + (1:Int32)) (k := 1) (lv' := [(1, .int (y1_23 + (1:Int32))), (0, .ref a0)]) hx hb dX4_init_42 hl rfl rfl (by decide) rfl (fun ls hl => ?_)
      refine lv_goto (tgt := 23) hx hb dX4_init_45 (by decide) ?_
      exact (hX23 (y1_23 + (1:Int32)) (kc + 1 + 0) (ks + 11 + 0) n14 K11 R20 I13).mp h _ _ _ hR hS (hv_sub hl [1, 0] rfl)
  unfold w_X4_init at h
  refine lv_aload_n hx hb dX4_init_0 rfl (hv_at hl 0 rfl) ?_
  refine W.objInit hx hb hown (hts _ kml_X4_3) (hts _ kim_Lib_objectInit) (hts _ kco_objectInit) rfl (hl.1.1.trans hml.symm) rfl dX4_init_1 (Nat.le_of_ble_eq_true rfl) (Nat.le_of_ble_eq_true rfl) ?_
  refine W.eq (g2 := F0 m 4 ls []) rfl ?_
  refine lv_aload_n hx hb dX4_init_4 rfl (hv_at hl 0 rfl) ?_
  refine lv_bipush (v := (60:Int32)) hx hb dX4_init_5 (by decide) ?_
  obtain ⟨hc25, hs26, h⟩ := h
  obtain ⟨K22, hK22⟩ := ex_eq (upK K n (.inl (1, 60)))
  replace h := h K22 hK22
  obtain ⟨R23, hR23⟩ := ex_eq (clR R n)
  replace h := h R23 hR23
  obtain ⟨I24, hI24⟩ := ex_eq (clI I n)
  replace h := h I24 hI24
  refine w_newa (at_ := .char) (t := 1) C hR hS kac_char rfl (by decide) (by decide) (by decide) (Nat.le_of_ble_eq_true rfl) hc25 hs26 hK22 hR23 hI24 dX4_init_7 (fun H hR hS => ?_)
  obtain ⟨hf27, h⟩ := h
  obtain ⟨R28, hR28⟩ := ex_eq (upR R23 a0 0 n)
  replace h := h R28 hR28
  refine v_putF (T := TX4) (ty := tyX4 0) C hR hS 0 kfl_X4_9 rfl inG4 tyX4 tyX4_ok nmX4 (by decide) rfl (hin rfl) hf27 rfl (tyX4_ok 0 (by decide)) rfl rfl (fl_r_4_0 _ _ _) (Nat.le_of_ble_eq_true rfl) hR28 dX4_init_9 (fun H locs hR hS => ?_)
  refine lv_aload_n hx hb dX4_init_12 rfl (hv_at hl 0 rfl) ?_
  refine lv_bipush (v := (10:Int32)) hx hb dX4_init_13 (by decide) ?_
  obtain ⟨hc32, hs33, h⟩ := h
  obtain ⟨K29, hK29⟩ := ex_eq (upK K22 (n + 1) (.inl (4, 10)))
  replace h := h K29 hK29
  obtain ⟨R30, hR30⟩ := ex_eq (clR R28 (n + 1))
  replace h := h R30 hR30
  obtain ⟨I31, hI31⟩ := ex_eq (clI I24 (n + 1))
  replace h := h I31 hI31
  refine w_anew (t := 4) C hR hS kcl_X4_15 (by decide) rfl (by decide) rfl (by decide) (by decide) (Nat.le_of_ble_eq_true rfl) hc32 hs33 hK29 hR30 hI31 dX4_init_15 (fun H hR hS => ?_)
  obtain ⟨hf34, h⟩ := h
  obtain ⟨R35, hR35⟩ := ex_eq (upR R30 a0 2 (n + 1))
  replace h := h R35 hR35
  refine v_putF (T := TX4) (ty := tyX4 2) C hR hS 2 kfl_X4_17 rfl inG4 tyX4 tyX4_ok nmX4 (by decide) rfl (hin rfl) hf34 rfl (tyX4_ok 2 (by decide)) rfl rfl (fl_r_4_2 _ _ _) (Nat.le_of_ble_eq_true rfl) hR35 dX4_init_18 (fun H locs hR hS => ?_)
  refine lv_iconst (v := (0:Int32)) hx hb dX4_init_21 rfl ?_
  refine v_istore_n (lv' := [(1, .int (0:Int32)), (0, .ref a0)]) hx hb dX4_init_22 rfl hl (by decide) rfl (fun ls hl => ?_)
  exact hJ23 (0:Int32) (0 + 1 + 1) (0 + 60 + 10) (n + 1 + 1) K29 R35 I31 _ _ _ h hR hS (hv_sub hl [1, 0] rfl)
set_option maxHeartbeats 8000000 in
set_option maxRecDepth 100000 in
theorem L_X6_init (E : Ev) (l : Launch) (a0 : Nat) (K : MK) (R : MR) (I : MI) (n : Nat) (Q : MK → MR → MI → Nat → Prop) (h : w_X6_init a0 K R I n Q) : MM E l yX6_init cX6_init 2 none 4 81 1680 18515 [.ref a0] K R I n (fun v K' R' I' n' => v = none ∧ Q K' R' I' n') := by
  refine MM.of1 (by decide) RX6 rfl (cR cN) (Nat.le_of_ble_eq_true rfl) ?_
  intro p e s m args below meth c ls C hin hR hS hl
  have hx := C.1
  have hb := C.2.1
  have hml := C.2.2.1
  have hown := C.2.2.2.1
  have hts := C.2.2.2.2.1
  have hl : hv ls 2 [(0, .ref a0)] := hl
  have hJ58 : ∀ (y1_58 : Int32) (kc ks n : Nat) (K : MK) (R : MR) (I : MI) (H : Heap) (locs : List Loc) (ls : Array Slot), w_X6_init_b58 a0 Q y1_58 kc ks n K R I → Rep E K R I n H → va_S (AA E) s.heap H locs → hv ls 2 [(0, .ref a0), (1, .int y1_58)] → W p l e (rmM 4 81 1680 18515) s m args below meth c H locs kc ks (MQ below (QcM E (fun v K' R' I' n' => v = none ∧ Q K' R' I' n')) args s 1680 18515 (AA E)) (F0 m 58 ls []) := by
    intro y1_58 kc ks n K R I H locs ls h hR hS hl
    obtain ⟨X58, hX58⟩ : ∃ X : Int32 → Nat → Nat → Nat → MK → MR → MI → Prop, ∀ (y1_58 : Int32) (kc ks n : Nat) (K : MK) (R : MR) (I : MI), X y1_58 kc ks n K R I ↔ (∀ (H : Heap) (locs : List Loc) (ls : Array Slot), Rep E K R I n H → va_S (AA E) s.heap H locs → hv ls 2 [(0, .ref a0), (1, .int y1_58)] → W p l e (rmM 4 81 1680 18515) s m args below meth c H locs kc ks (MQ below (QcM E (fun v K' R' I' n' => v = none ∧ Q K' R' I' n')) args s 1680 18515 (AA E)) (F0 m 58 ls [])) := ⟨fun y1_58 kc ks n K R I => ∀ (H : Heap) (locs : List Loc) (ls : Array Slot), Rep E K R I n H → va_S (AA E) s.heap H locs → hv ls 2 [(0, .ref a0), (1, .int y1_58)] → W p l e (rmM 4 81 1680 18515) s m args below meth c H locs kc ks (MQ below (QcM E (fun v K' R' I' n' => v = none ∧ Q K' R' I' n')) args s 1680 18515 (AA E)) (F0 m 58 ls []), fun _ _ _ _ _ _ _ => Iff.rfl⟩
    refine (hX58 y1_58 kc ks n K R I).mp (h X58 ?_) H locs ls hR hS hl
    clear h hR hS hl
    clear ls locs H y1_58 kc ks n K R I
    intro y1_58 kc ks n K R I h
    refine (hX58 y1_58 kc ks n K R I).mpr ?_
    intro H locs ls hR hS hl
    unfold w_X6_init_b58_body at h
    refine lv_iload_n hx hb dX6_init_58 rfl (hv_at hl 1 rfl) ?_
    refine lv_iconst (v := (4:Int32)) hx hb dX6_init_59 rfl ?_
    refine lv_icmp_ge (tgt := 82) hx hb dX6_init_60 (by decide) (fun c21 => ?_) (fun c21 => ?_)
    · replace h := h.1 c21
      obtain ⟨hc1, hs2, h⟩ := h
      exact w_vretC C rfl hR hS hc1 hs2 h dX6_init_82
    · replace h := h.2 c21
      refine lv_aload_n hx hb dX6_init_63 rfl (hv_at hl 0 rfl) ?_
      obtain ⟨hf3, h⟩ := h
      obtain ⟨w4, hw5, h⟩ := h
      refine w_getR (T := TX6) (w := w4) C hR 4 kfl_X6_22 rfl inG6 (by decide) rfl hf3 rfl hw5 dX6_init_64 ?_
      refine lv_iload_n hx hb dX6_init_67 rfl (hv_at hl 1 rfl) ?_
      obtain ⟨hc9, hs10, h⟩ := h
      obtain ⟨K6, hK6⟩ := ex_eq (upK K n (.inr 0))
      replace h := h K6 hK6
      obtain ⟨R7, hR7⟩ := ex_eq (clR R n)
      replace h := h R7 hR7
      obtain ⟨I8, hI8⟩ := ex_eq (clI I n)
      replace h := h I8 hI8
      refine w_new C hR hS kcl_X6_7 kia_X0 kin_X0 rfl inG0 tyX0 tyX0_ok (fun j hj => by have hj2 : j = 0 ∨ j = 1 ∨ j = 2 ∨ j = 3 ∨ j = 4 ∨ j = 5 ∨ j = 6 ∨ j = 7 ∨ j = 8 ∨ j = 9 ∨ j = 10 ∨ j = 11 ∨ j = 12 ∨ j = 13 ∨ j = 14 := (by omega); rcases hj2 with rfl | rfl | rfl | rfl | rfl | rfl | rfl | rfl | rfl | rfl | rfl | rfl | rfl | rfl | rfl <;> rfl) hc9 hs10 hK6 hR7 hI8 dX6_init_68 (fun H hR hS => ?_)
      refine lv_dup hx hb dX6_init_71 rfl ?_
      obtain ⟨hc15, hs16, h⟩ := h
      refine w_cI (As := []) C hR hS hl.1.1 ca_X0_init kml_X6_9 (L_X0_init E l n K6 R7 I8 (n + 1) _ h) rfl rfl (Nat.le_of_ble_eq_true rfl) ⟨Nat.le_of_ble_eq_true rfl, Nat.le_of_ble_eq_true rfl⟩ ⟨hc15, hs16⟩ dX6_init_72 (fun K11 R12 I13 n14 H locs h hR hS => ?_)
      obtain ⟨hf18, h⟩ := h
      obtain ⟨hi17, h⟩ := h
      obtain ⟨hf19, h⟩ := h
      obtain ⟨R20, hR20⟩ := ex_eq (upR R12 w4 (ix y1_58) n)
      replace h := h R20 hR20
      refine w_aastR (t := 5) (ci := 0) C hR hS hf18 (by decide) rfl rfl rfl hf19 hi17 (j := (ix y1_58)) rfl hR20 dX6_init_75 (fun H locs hR hS => ?_)
      refine v_iinc (v := y1_58 + (1:Int32)) (k := 1) (lv' := [(1, .int (y1_58 + (1:Int32))), (0, .ref a0)]) hx hb dX6_init_76 hl rfl rfl (by decide) rfl (fun ls hl => ?_)
      refine lv_goto (tgt := 58) hx hb dX6_init_79 (by decide) ?_
      exact (hX58 (y1_58 + (1:Int32)) (kc + 1 + 237) (ks + 15 + 2603) n14 K11 R20 I13).mp h _ _ _ hR hS (hv_sub hl [1, 0] rfl)
  unfold w_X6_init at h
  refine lv_aload_n hx hb dX6_init_0 rfl (hv_at hl 0 rfl) ?_
  refine W.objInit hx hb hown (hts _ kml_X6_1) (hts _ kim_Lib_objectInit) (hts _ kco_objectInit) rfl (hl.1.1.trans hml.symm) rfl dX6_init_1 (Nat.le_of_ble_eq_true rfl) (Nat.le_of_ble_eq_true rfl) ?_
  refine W.eq (g2 := F0 m 4 ls []) rfl ?_
  refine lv_aload_n hx hb dX6_init_4 rfl (hv_at hl 0 rfl) ?_
  obtain ⟨hc25, hs26, h⟩ := h
  obtain ⟨K22, hK22⟩ := ex_eq (upK K n (.inr 0))
  replace h := h K22 hK22
  obtain ⟨R23, hR23⟩ := ex_eq (clR R n)
  replace h := h R23 hR23
  obtain ⟨I24, hI24⟩ := ex_eq (clI I n)
  replace h := h I24 hI24
  refine w_new C hR hS kcl_X6_7 kia_X0 kin_X0 rfl inG0 tyX0 tyX0_ok (fun j hj => by have hj2 : j = 0 ∨ j = 1 ∨ j = 2 ∨ j = 3 ∨ j = 4 ∨ j = 5 ∨ j = 6 ∨ j = 7 ∨ j = 8 ∨ j = 9 ∨ j = 10 ∨ j = 11 ∨ j = 12 ∨ j = 13 ∨ j = 14 := (by omega); rcases hj2 with rfl | rfl | rfl | rfl | rfl | rfl | rfl | rfl | rfl | rfl | rfl | rfl | rfl | rfl | rfl <;> rfl) hc25 hs26 hK22 hR23 hI24 dX6_init_5 (fun H hR hS => ?_)
  refine lv_dup hx hb dX6_init_8 rfl ?_
  obtain ⟨hc31, hs32, h⟩ := h
  refine w_cI (As := []) C hR hS hl.1.1 ca_X0_init kml_X6_9 (L_X0_init E l n K22 R23 I24 (n + 1) _ h) rfl rfl (Nat.le_of_ble_eq_true rfl) ⟨Nat.le_of_ble_eq_true rfl, Nat.le_of_ble_eq_true rfl⟩ ⟨hc31, hs32⟩ dX6_init_9 (fun K27 R28 I29 n30 H locs h hR hS => ?_)
  obtain ⟨hf33, h⟩ := h
  obtain ⟨R34, hR34⟩ := ex_eq (upR R28 a0 0 n)
  replace h := h R34 hR34
  refine v_putF (T := TX6) (ty := tyX6 0) C hR hS 0 kfl_X6_10 rfl inG6 tyX6 tyX6_ok nmX6 (by decide) rfl (hin rfl) hf33 rfl (tyX6_ok 0 (by decide)) rfl rfl (fl_r_6_0 _ _ _) (Nat.le_of_ble_eq_true rfl) hR34 dX6_init_12 (fun H locs hR hS => ?_)
  refine lv_aload_n hx hb dX6_init_15 rfl (hv_at hl 0 rfl) ?_
  obtain ⟨hc38, hs39, h⟩ := h
  obtain ⟨K35, hK35⟩ := ex_eq (upK K27 n30 (.inr 0))
  replace h := h K35 hK35
  obtain ⟨R36, hR36⟩ := ex_eq (clR R34 n30)
  replace h := h R36 hR36
  obtain ⟨I37, hI37⟩ := ex_eq (clI I29 n30)
  replace h := h I37 hI37
  refine w_new C hR hS kcl_X6_7 kia_X0 kin_X0 rfl inG0 tyX0 tyX0_ok (fun j hj => by have hj2 : j = 0 ∨ j = 1 ∨ j = 2 ∨ j = 3 ∨ j = 4 ∨ j = 5 ∨ j = 6 ∨ j = 7 ∨ j = 8 ∨ j = 9 ∨ j = 10 ∨ j = 11 ∨ j = 12 ∨ j = 13 ∨ j = 14 := (by omega); rcases hj2 with rfl | rfl | rfl | rfl | rfl | rfl | rfl | rfl | rfl | rfl | rfl | rfl | rfl | rfl | rfl <;> rfl) hc38 hs39 hK35 hR36 hI37 dX6_init_16 (fun H hR hS => ?_)
  refine lv_dup hx hb dX6_init_19 rfl ?_
  obtain ⟨hc44, hs45, h⟩ := h
  refine w_cI (As := []) C hR hS hl.1.1 ca_X0_init kml_X6_9 (L_X0_init E l n30 K35 R36 I37 (n30 + 1) _ h) rfl rfl (Nat.le_of_ble_eq_true rfl) ⟨Nat.le_of_ble_eq_true rfl, Nat.le_of_ble_eq_true rfl⟩ ⟨hc44, hs45⟩ dX6_init_20 (fun K40 R41 I42 n43 H locs h hR hS => ?_)
  obtain ⟨hf46, h⟩ := h
  obtain ⟨R47, hR47⟩ := ex_eq (upR R41 a0 1 n30)
  replace h := h R47 hR47
  refine v_putF (T := TX6) (ty := tyX6 1) C hR hS 1 kfl_X6_16 rfl inG6 tyX6 tyX6_ok nmX6 (by decide) rfl (hin rfl) hf46 rfl (tyX6_ok 1 (by decide)) rfl rfl (fl_r_6_1 _ _ _) (Nat.le_of_ble_eq_true rfl) hR47 dX6_init_23 (fun H locs hR hS => ?_)
  refine lv_aload_n hx hb dX6_init_26 rfl (hv_at hl 0 rfl) ?_
  obtain ⟨hc51, hs52, h⟩ := h
  obtain ⟨K48, hK48⟩ := ex_eq (upK K40 n43 (.inr 0))
  replace h := h K48 hK48
  obtain ⟨R49, hR49⟩ := ex_eq (clR R47 n43)
  replace h := h R49 hR49
  obtain ⟨I50, hI50⟩ := ex_eq (clI I42 n43)
  replace h := h I50 hI50
  refine w_new C hR hS kcl_X6_7 kia_X0 kin_X0 rfl inG0 tyX0 tyX0_ok (fun j hj => by have hj2 : j = 0 ∨ j = 1 ∨ j = 2 ∨ j = 3 ∨ j = 4 ∨ j = 5 ∨ j = 6 ∨ j = 7 ∨ j = 8 ∨ j = 9 ∨ j = 10 ∨ j = 11 ∨ j = 12 ∨ j = 13 ∨ j = 14 := (by omega); rcases hj2 with rfl | rfl | rfl | rfl | rfl | rfl | rfl | rfl | rfl | rfl | rfl | rfl | rfl | rfl | rfl <;> rfl) hc51 hs52 hK48 hR49 hI50 dX6_init_27 (fun H hR hS => ?_)
  refine lv_dup hx hb dX6_init_30 rfl ?_
  obtain ⟨hc57, hs58, h⟩ := h
  refine w_cI (As := []) C hR hS hl.1.1 ca_X0_init kml_X6_9 (L_X0_init E l n43 K48 R49 I50 (n43 + 1) _ h) rfl rfl (Nat.le_of_ble_eq_true rfl) ⟨Nat.le_of_ble_eq_true rfl, Nat.le_of_ble_eq_true rfl⟩ ⟨hc57, hs58⟩ dX6_init_31 (fun K53 R54 I55 n56 H locs h hR hS => ?_)
  obtain ⟨hf59, h⟩ := h
  obtain ⟨R60, hR60⟩ := ex_eq (upR R54 a0 2 n43)
  replace h := h R60 hR60
  refine v_putF (T := TX6) (ty := tyX6 2) C hR hS 2 kfl_X6_19 rfl inG6 tyX6 tyX6_ok nmX6 (by decide) rfl (hin rfl) hf59 rfl (tyX6_ok 2 (by decide)) rfl rfl (fl_r_6_2 _ _ _) (Nat.le_of_ble_eq_true rfl) hR60 dX6_init_34 (fun H locs hR hS => ?_)
  refine lv_aload_n hx hb dX6_init_37 rfl (hv_at hl 0 rfl) ?_
  refine lv_iconst (v := (4:Int32)) hx hb dX6_init_38 rfl ?_
  obtain ⟨hc64, hs65, h⟩ := h
  obtain ⟨K61, hK61⟩ := ex_eq (upK K53 n56 (.inl (5, 4)))
  replace h := h K61 hK61
  obtain ⟨R62, hR62⟩ := ex_eq (clR R60 n56)
  replace h := h R62 hR62
  obtain ⟨I63, hI63⟩ := ex_eq (clI I55 n56)
  replace h := h I63 hI63
  refine w_anew (t := 5) C hR hS kcl_X6_7 (by decide) rfl (by decide) rfl (by decide) (by decide) (Nat.le_of_ble_eq_true rfl) hc64 hs65 hK61 hR62 hI63 dX6_init_39 (fun H hR hS => ?_)
  obtain ⟨hf66, h⟩ := h
  obtain ⟨R67, hR67⟩ := ex_eq (upR R62 a0 4 n56)
  replace h := h R67 hR67
  refine v_putF (T := TX6) (ty := tyX6 4) C hR hS 4 kfl_X6_22 rfl inG6 tyX6 tyX6_ok nmX6 (by decide) rfl (hin rfl) hf66 rfl (tyX6_ok 4 (by decide)) rfl rfl (fl_r_6_4 _ _ _) (Nat.le_of_ble_eq_true rfl) hR67 dX6_init_42 (fun H locs hR hS => ?_)
  refine lv_aload_n hx hb dX6_init_45 rfl (hv_at hl 0 rfl) ?_
  obtain ⟨hc71, hs72, h⟩ := h
  obtain ⟨K68, hK68⟩ := ex_eq (upK K61 (n56 + 1) (.inr 4))
  replace h := h K68 hK68
  obtain ⟨R69, hR69⟩ := ex_eq (clR R67 (n56 + 1))
  replace h := h R69 hR69
  obtain ⟨I70, hI70⟩ := ex_eq (clI I63 (n56 + 1))
  replace h := h I70 hI70
  refine w_new C hR hS kcl_X6_26 kia_X4 kin_X4 rfl inG4 tyX4 tyX4_ok (fun j hj => by have hj2 : j = 0 ∨ j = 1 ∨ j = 2 ∨ j = 3 ∨ j = 4 := (by omega); rcases hj2 with rfl | rfl | rfl | rfl | rfl <;> rfl) hc71 hs72 hK68 hR69 hI70 dX6_init_46 (fun H hR hS => ?_)
  refine lv_dup hx hb dX6_init_49 rfl ?_
  obtain ⟨hc77, hs78, h⟩ := h
  refine w_cI (As := []) C hR hS hl.1.1 ca_X4_init kml_X6_28 (L_X4_init E l (n56 + 1) K68 R69 I70 (n56 + 1 + 1) _ h) rfl rfl (Nat.le_of_ble_eq_true rfl) ⟨Nat.le_of_ble_eq_true rfl, Nat.le_of_ble_eq_true rfl⟩ ⟨hc77, hs78⟩ dX6_init_50 (fun K73 R74 I75 n76 H locs h hR hS => ?_)
  obtain ⟨hf79, h⟩ := h
  obtain ⟨R80, hR80⟩ := ex_eq (upR R74 a0 6 (n56 + 1))
  replace h := h R80 hR80
  refine v_putF (T := TX6) (ty := tyX6 6) C hR hS 6 kfl_X6_29 rfl inG6 tyX6 tyX6_ok nmX6 (by decide) rfl (hin rfl) hf79 rfl (tyX6_ok 6 (by decide)) rfl rfl (fl_r_6_6 _ _ _) (Nat.le_of_ble_eq_true rfl) hR80 dX6_init_53 (fun H locs hR hS => ?_)
  refine lv_iconst (v := (0:Int32)) hx hb dX6_init_56 rfl ?_
  refine v_istore_n (lv' := [(1, .int (0:Int32)), (0, .ref a0)]) hx hb dX6_init_57 rfl hl (by decide) rfl (fun ls hl => ?_)
  exact hJ58 (0:Int32) (0 + 1 + 237 + 1 + 237 + 1 + 237 + 1 + 1 + 12) (0 + 15 + 2603 + 15 + 2603 + 15 + 2603 + 4 + 5 + 180) n76 K73 R80 I75 _ _ _ h hR hS (hv_sub hl [1, 0] rfl)
