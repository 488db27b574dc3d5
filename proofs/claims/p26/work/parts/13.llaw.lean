set_option maxHeartbeats 8000000 in
set_option maxRecDepth 100000 in
theorem L_law (E : Ev) {p : Program} {e : Env} {s : State} {m : MethodId} {below : List Frame} {meth : Method} {c : Code} (l : Launch) {b L : Nat} {xs : Nat → Int32} {K : MK} {R : MR} {I : MI} {n : Nat} (C : Cx E p s m meth c code 5 RL ret #[Value.ref b]) (hE2 : E.2.2.2 = (b, L, xs)) (hE : E.2.2.1 = s.heap.size) {Q : Prop} (h : w_L_law b L xs K R I n Q) (hR : Rep E K R I n s.heap) : W p l e room_1 s m #[Value.ref b] below meth c s.heap [] 0 0 (lw_Z below #[Value.ref b] s) (entryFrame m ([Value.ref b] : List Value).toArray 5) := by
  have hx := C.1
  have hb := C.2.1
  have hml := C.2.2.1
  have hown := C.2.2.2.1
  have hts := C.2.2.2.2.1
  have hlocks := C.2.2.2.2.2.2.1
  have hr := C.2.2.2.2.2.2.2
  obtain ⟨hX, hbl, hbA⟩ := C.scr hE2
  have hS : va_S (AA E) s.heap s.heap [] := va_S.rf
  have hl := lv_entry ([.ref b]) (n := 5) (Nat.le_of_ble_eq_true rfl)
  rw [lg_entry_eq]
  generalize (lg_sl ([.ref b]) ++ List.replicate (5 - (lg_sl ([.ref b])).length) Slot.unset).toArray = ls at hl ⊢
  have hl : hv ls 5 [(0, .ref b)] := ⟨hl, fun q hq => by simp at hq; rw [hq]; rfl⟩
  have hforget : ∀ {H : Heap} {locs : List Loc}, va_S (AA E) s.heap H locs → ∀ q ∈ locs, s.heap.size ≤ q.base := fun hS q hq => by have := hS.2.2 q hq; unfold AA at this; omega
  have hJ64 : ∀ (kc ks n : Nat) (K : MK) (R : MR) (I : MI) (H : Heap) (locs : List Loc) (ls : Array Slot), w_L_law_b64 b L xs Q kc ks n K R I → Rep E K R I n H → va_S (AA E) s.heap H locs → hv ls 5 [] → W p l e room_1 s m #[Value.ref b] below meth c H locs kc ks (lw_Z below #[Value.ref b] s) (F0 m 64 ls []) := by
    intro kc ks n K R I H locs ls h hR hS hl
    unfold w_L_law_b64 at h
    refine lv_iconst (v := (0:Int32)) hx hb dL_law_64 rfl ?_
    exact h.elim
  have hJ10 : ∀ (y1_10 : Nat) (y2_10 : Int32) (kc ks n : Nat) (K : MK) (R : MR) (I : MI) (H : Heap) (locs : List Loc) (ls : Array Slot), w_L_law_b10 b L xs Q y1_10 y2_10 kc ks n K R I → Rep E K R I n H → va_S (AA E) s.heap H locs → hv ls 5 [(0, .ref b), (1, .ref y1_10), (2, .int y2_10)] → W p l e room_1 s m #[Value.ref b] below meth c H locs kc ks (lw_Z below #[Value.ref b] s) (F0 m 10 ls []) := by
    intro y1_10 y2_10 kc ks n K R I H locs ls h hR hS hl
    obtain ⟨X10, hX10⟩ : ∃ X : Nat → Int32 → Nat → Nat → Nat → MK → MR → MI → Prop, ∀ (y1_10 : Nat) (y2_10 : Int32) (kc ks n : Nat) (K : MK) (R : MR) (I : MI), X y1_10 y2_10 kc ks n K R I ↔ (∀ (H : Heap) (locs : List Loc) (ls : Array Slot), Rep E K R I n H → va_S (AA E) s.heap H locs → hv ls 5 [(0, .ref b), (1, .ref y1_10), (2, .int y2_10)] → W p l e room_1 s m #[Value.ref b] below meth c H locs kc ks (lw_Z below #[Value.ref b] s) (F0 m 10 ls [])) := ⟨fun y1_10 y2_10 kc ks n K R I => ∀ (H : Heap) (locs : List Loc) (ls : Array Slot), Rep E K R I n H → va_S (AA E) s.heap H locs → hv ls 5 [(0, .ref b), (1, .ref y1_10), (2, .int y2_10)] → W p l e room_1 s m #[Value.ref b] below meth c H locs kc ks (lw_Z below #[Value.ref b] s) (F0 m 10 ls []), fun _ _ _ _ _ _ _ _ => Iff.rfl⟩
    refine (hX10 y1_10 y2_10 kc ks n K R I).mp (h X10 ?_) H locs ls hR hS hl
    clear h hR hS hl
    clear ls locs H y1_10 y2_10 kc ks n K R I
    have hJ101 : ∀ (y1_101 : Nat) (y2_101 : Int32) (kc ks n : Nat) (K : MK) (R : MR) (I : MI) (H : Heap) (locs : List Loc) (ls : Array Slot), w_L_law_b101 b L xs Q X10 y1_101 y2_101 kc ks n K R I → Rep E K R I n H → va_S (AA E) s.heap H locs → hv ls 5 [(0, .ref b), (1, .ref y1_101), (2, .int y2_101)] → W p l e room_1 s m #[Value.ref b] below meth c H locs kc ks (lw_Z below #[Value.ref b] s) (F0 m 101 ls []) := by
      intro y1_101 y2_101 kc ks n K R I H locs ls h hR hS hl
      unfold w_L_law_b101 at h
      refine v_iinc (v := y2_101 + (1:Int32)) (k := 2) (lv' := [(2, .int (y2_101 + (1:Int32))), (0, .ref b), (1, .ref y1_101)]) hx hb dL_law_101 hl rfl rfl (by decide) rfl (fun ls hl => ?_)
      refine lv_goto (tgt := 10) hx hb dL_law_104 (by decide) ?_
      exact (hX10 y1_101 (y2_101 + (1:Int32)) kc ks n K R I).mp h _ _ _ hR hS (hv_sub hl [1, 2, 0] rfl)
    have hJ66 : ∀ (y1_66 : Nat) (y2_66 : Int32) (y3_66 : Int32) (kc ks n : Nat) (K : MK) (R : MR) (I : MI) (H : Heap) (locs : List Loc) (ls : Array Slot), w_L_law_b66 b L xs Q X10 y1_66 y2_66 y3_66 kc ks n K R I → Rep E K R I n H → va_S (AA E) s.heap H locs → hv ls 5 [(0, .ref b), (1, .ref y1_66), (2, .int y2_66), (3, .int y3_66)] → W p l e room_1 s m #[Value.ref b] below meth c H locs kc ks (lw_Z below #[Value.ref b] s) (F0 m 66 ls []) := by
      intro y1_66 y2_66 y3_66 kc ks n K R I H locs ls h hR hS hl
      unfold w_L_law_b66 at h
      refine lv_iload_n hx hb dL_law_66 rfl (hv_at hl 2 rfl) ?_
      refine lv_iconst (v := (4:Int32)) hx hb dL_law_67 rfl ?_
      refine lv_irem hx hb dL_law_68 (by decide) ?_
      refine lv_iconst (v := (3:Int32)) hx hb dL_law_69 rfl ?_
      refine lv_icmp_ne (tgt := 101) hx hb dL_law_70 (by decide) (fun c20 => ?_) (fun c20 => ?_)
      · replace h := h.1 c20
        exact hJ101 y1_66 y2_66 kc ks n K R I _ _ _ h hR hS (hv_sub hl [0, 1, 2] rfl)
      · replace h := h.2 c20
        refine lv_aload_n hx hb dL_law_73 rfl (hv_at hl 1 rfl) ?_
        refine lv_iconst (v := (4:Int32)) hx hb dL_law_74 rfl ?_
        obtain ⟨hc1, hs2, h⟩ := h
        obtain ⟨hf3, h⟩ := h
        refine v_cVi (As := [.int (4:Int32)]) C hR hS hl.1.1 ca_X6_count kml_L_43 (L_X6_count E l y1_66 (4:Int32) I _ h) hf3 rfl rfl rfl rfl (Nat.le_of_ble_eq_true rfl) ⟨Nat.le_of_ble_eq_true rfl, Nat.le_of_ble_eq_true rfl⟩ ⟨hc1, hs2⟩ dL_law_75 (fun v5 I4 H locs h hR hS => ?_)
        refine lv_if_le (tgt := 101) hx hb dL_law_78 (by decide) (fun c19 => ?_) (fun c19 => ?_)
        · replace h := h.1 c19
          exact hJ101 y1_66 y2_66 kc ks n K R I4 _ _ _ h hR hS (hv_sub hl [0, 1, 2] rfl)
        · replace h := h.2 c19
          refine lv_aload_n hx hb dL_law_81 rfl (hv_at hl 1 rfl) ?_
          refine lv_iload_n hx hb dL_law_82 rfl (hv_at hl 3 rfl) ?_
          refine lv_iconst (v := (5:Int32)) hx hb dL_law_83 rfl ?_
          refine lv_ishr hx hb dL_law_84 ?_
          refine lv_aload_n hx hb dL_law_85 rfl (hv_at hl 1 rfl) ?_
          refine lv_iconst (v := (4:Int32)) hx hb dL_law_86 rfl ?_
          obtain ⟨hc6, hs7, h⟩ := h
          refine v_cVi (As := [.int (4:Int32)]) C hR hS hl.1.1 ca_X6_count kml_L_43 (L_X6_count E l y1_66 (4:Int32) I4 _ h) hf3 rfl rfl rfl rfl (Nat.le_of_ble_eq_true rfl) ⟨Nat.le_of_ble_eq_true rfl, Nat.le_of_ble_eq_true rfl⟩ ⟨hc6, hs7⟩ dL_law_87 (fun v9 I8 H locs h hR hS => ?_)
          obtain ⟨hc10, hs11, h⟩ := h
          refine v_cSi (As := [.int (y3_66 >>> ((5:Int32) &&& 31)), .int v9]) C hR hS hl.1.1 ca_L_low kml_L_14 (L_L_low E l (y3_66 >>> ((5:Int32) &&& 31)) v9 I8 _ h) rfl rfl (Nat.le_of_ble_eq_true rfl) ⟨Nat.le_of_ble_eq_true rfl, Nat.le_of_ble_eq_true rfl⟩ ⟨hc10, hs11⟩ dL_law_90 (fun v13 I12 H locs h hR hS => ?_)
          obtain ⟨hc14, hs15, h⟩ := h
          refine v_cSi (As := [.ref y1_66, .int v13]) C hR hS hl.1.1 ca_L_isAnsweredSo kml_L_90 (L_L_isAnsweredSo E l (some y1_66) v13 I12 _ h) rfl rfl (Nat.le_of_ble_eq_true rfl) ⟨Nat.le_of_ble_eq_true rfl, Nat.le_of_ble_eq_true rfl⟩ ⟨hc14, hs15⟩ dL_law_93 (fun v17 I16 H locs h hR hS => ?_)
          refine lv_if_ne (tgt := 101) hx hb dL_law_96 (by decide) (fun c18 => ?_) (fun c18 => ?_)
          · replace h := h.1 c18
            exact hJ101 y1_66 y2_66 kc ks n K R I16 _ _ _ h hR hS (hv_sub hl [0, 1, 2] rfl)
          · replace h := h.2 c18
            refine lv_iconst (v := (0:Int32)) hx hb dL_law_99 rfl ?_
            exact h.elim
    intro y1_10 y2_10 kc ks n K R I h
    refine (hX10 y1_10 y2_10 kc ks n K R I).mpr ?_
    intro H locs ls hR hS hl
    unfold w_L_law_b10_body at h
    refine lv_iload_n hx hb dL_law_10 rfl (hv_at hl 2 rfl) ?_
    refine lv_bipush (v := (48:Int32)) hx hb dL_law_11 (by decide) ?_
    refine lv_icmp_ge (tgt := 107) hx hb dL_law_13 (by decide) (fun c48 => ?_) (fun c48 => ?_)
    · replace h := h.1 c48
      refine lv_iconst (v := (1:Int32)) hx hb dL_law_107 rfl ?_
      obtain ⟨hc21, hs22, h⟩ := h
      refine va_forget (hforget hS) ?_
      refine W.widen (k := 600000) (n := 7302250) hc21 hs22 ?_
      exact lw_ret hx hb hr hlocks dL_law_108
    · replace h := h.2 c48
      refine lv_aload_n hx hb dL_law_16 rfl (hv_at hl 0 rfl) ?_
      refine lv_iload_n hx hb dL_law_17 rfl (hv_at hl 2 rfl) ?_
      obtain ⟨hc23, hs24, h⟩ := h
      refine v_cSi (As := [.ref b, .int y2_10]) C hR hS hl.1.1 ca_L_cell kml_L_72 (L_L_cell E l hE2 y2_10 I _ h) rfl rfl (Nat.le_of_ble_eq_true rfl) ⟨Nat.le_of_ble_eq_true rfl, Nat.le_of_ble_eq_true rfl⟩ ⟨hc23, hs24⟩ dL_law_18 (fun v26 I25 H locs h hR hS => ?_)
      refine v_istore_n (lv' := [(3, .int v26), (0, .ref b), (1, .ref y1_10), (2, .int y2_10)]) hx hb dL_law_21 rfl hl (by decide) rfl (fun ls hl => ?_)
      refine lv_aload_n hx hb dL_law_22 rfl (hv_at hl 2 rfl) ?_
      refine lv_iload_n hx hb dL_law_23 rfl (hv_at hl 0 rfl) ?_
      obtain ⟨hc27, hs28, h⟩ := h
      refine v_cSi (As := [.ref y1_10, .int v26]) C hR hS hl.1.1 ca_L_does kml_L_76 (L_L_does E l (some y1_10) v26 I25 _ h) rfl rfl (Nat.le_of_ble_eq_true rfl) ⟨Nat.le_of_ble_eq_true rfl, Nat.le_of_ble_eq_true rfl⟩ ⟨hc27, hs28⟩ dL_law_24 (fun v30 I29 H locs h hR hS => ?_)
      refine v_istore (lv' := [(4, .int v30), (3, .int v26), (0, .ref b), (1, .ref y1_10), (2, .int y2_10)]) hx hb dL_law_27 hl (by decide) rfl (fun ls hl => ?_)
      refine lv_iload hx hb dL_law_29 (hv_at hl 0 rfl) ?_
      refine lv_bipush (v := (-5:Int32)) hx hb dL_law_31 (by decide) ?_
      refine lv_icmp_lt (tgt := 64) hx hb dL_law_33 (by decide) (fun c47 => ?_) (fun c47 => ?_)
      · replace h := h.1 c47
        exact hJ64 kc ks n K R I29 _ _ _ h hR hS (hv_sub hl [] rfl)
      · replace h := h.2 c47
        refine lv_aload_n hx hb dL_law_36 rfl (hv_at hl 3 rfl) ?_
        obtain ⟨hc31, hs32, h⟩ := h
        refine v_cSi (As := [.ref y1_10]) C hR hS hl.1.1 ca_L_areTagsSo kml_L_80 (L_L_areTagsSo E l (some y1_10) I29 _ h) rfl rfl (Nat.le_of_ble_eq_true rfl) ⟨Nat.le_of_ble_eq_true rfl, Nat.le_of_ble_eq_true rfl⟩ ⟨hc31, hs32⟩ dL_law_37 (fun v34 I33 H locs h hR hS => ?_)
        refine lv_if_eq (tgt := 64) hx hb dL_law_40 (by decide) (fun c46 => ?_) (fun c46 => ?_)
        · replace h := h.1 c46
          exact hJ64 kc ks n K R I33 _ _ _ h hR hS (hv_sub hl [] rfl)
        · replace h := h.2 c46
          refine lv_aload_n hx hb dL_law_43 rfl (hv_at hl 3 rfl) ?_
          obtain ⟨hc35, hs36, h⟩ := h
          refine v_cSi (As := [.ref y1_10]) C hR hS hl.1.1 ca_L_areRowsSo kml_L_84 (L_L_areRowsSo E l (some y1_10) I33 _ h) rfl rfl (Nat.le_of_ble_eq_true rfl) ⟨Nat.le_of_ble_eq_true rfl, Nat.le_of_ble_eq_true rfl⟩ ⟨hc35, hs36⟩ dL_law_44 (fun v38 I37 H locs h hR hS => ?_)
          refine lv_if_eq (tgt := 64) hx hb dL_law_47 (by decide) (fun c45 => ?_) (fun c45 => ?_)
          · replace h := h.1 c45
            exact hJ64 kc ks n K R I37 _ _ _ h hR hS (hv_sub hl [] rfl)
          · replace h := h.2 c45
            refine lv_iload_n hx hb dL_law_50 rfl (hv_at hl 4 rfl) ?_
            refine lv_iconst (v := (3:Int32)) hx hb dL_law_51 rfl ?_
            refine lv_irem hx hb dL_law_52 (by decide) ?_
            refine lv_iconst (v := (2:Int32)) hx hb dL_law_53 rfl ?_
            refine lv_icmp_ne (tgt := 66) hx hb dL_law_54 (by decide) (fun c44 => ?_) (fun c44 => ?_)
            · replace h := h.1 c44
              exact hJ66 y1_10 y2_10 v26 kc ks n K R I37 _ _ _ h hR hS (hv_sub hl [2, 3, 4, 1] rfl)
            · replace h := h.2 c44
              refine lv_aload_n hx hb dL_law_57 rfl (hv_at hl 3 rfl) ?_
              obtain ⟨hc39, hs40, h⟩ := h
              refine v_cSi (As := [.ref y1_10]) C hR hS hl.1.1 ca_L_isNextSo kml_L_87 (L_L_isNextSo E l (some y1_10) I37 _ h) rfl rfl (Nat.le_of_ble_eq_true rfl) ⟨Nat.le_of_ble_eq_true rfl, Nat.le_of_ble_eq_true rfl⟩ ⟨hc39, hs40⟩ dL_law_58 (fun v42 I41 H locs h hR hS => ?_)
              refine lv_if_ne (tgt := 66) hx hb dL_law_61 (by decide) (fun c43 => ?_) (fun c43 => ?_)
              · replace h := h.1 c43
                exact hJ66 y1_10 y2_10 v26 kc ks n K R I41 _ _ _ h hR hS (hv_sub hl [2, 3, 4, 1] rfl)
              · replace h := h.2 c43
                exact hJ64 kc ks n K R I41 _ _ _ h hR hS (hv_sub hl [] rfl)
  unfold w_L_law at h
  obtain ⟨hc52, hs53, h⟩ := h
  obtain ⟨K49, hK49⟩ := ex_eq (upK K n (.inr 6))
  replace h := h K49 hK49
  obtain ⟨R50, hR50⟩ := ex_eq (clR R n)
  replace h := h R50 hR50
  obtain ⟨I51, hI51⟩ := ex_eq (clI I n)
  replace h := h I51 hI51
  refine w_new C hR hS kcl_L_9 kia_X6 kin_X6 rfl inG6 tyX6 tyX6_ok (fun j hj => by have hj2 : j = 0 ∨ j = 1 ∨ j = 2 ∨ j = 3 ∨ j = 4 ∨ j = 5 ∨ j = 6 := (by omega); rcases hj2 with rfl | rfl | rfl | rfl | rfl | rfl | rfl <;> rfl) hc52 hs53 hK49 hR50 hI51 dL_law_0 (fun H hR hS => ?_)
  refine lv_dup hx hb dL_law_3 rfl ?_
  obtain ⟨hc58, hs59, h⟩ := h
  refine w_cI (As := []) C hR hS hl.1.1 ca_X6_init kml_L_71 (L_X6_init E l n K49 R50 I51 (n + 1) _ h) rfl rfl (Nat.le_of_ble_eq_true rfl) ⟨Nat.le_of_ble_eq_true rfl, Nat.le_of_ble_eq_true rfl⟩ ⟨hc58, hs59⟩ dL_law_4 (fun K54 R55 I56 n57 H locs h hR hS => ?_)
  refine v_astore_n (o := (some n)) (lv' := [(1, .ref n), (0, .ref b)]) hx hb dL_law_7 rfl hl (by decide) rfl (fun ls hl => ?_)
  refine lv_iconst (v := (0:Int32)) hx hb dL_law_8 rfl ?_
  refine v_istore_n (lv' := [(2, .int (0:Int32)), (1, .ref n), (0, .ref b)]) hx hb dL_law_9 rfl hl (by decide) rfl (fun ls hl => ?_)
  obtain ⟨R', I', hgs, h⟩ := h
  replace hR := hgs _ _ _ hR
  exact hJ10 n (0:Int32) (0 + 1 + 1680) (0 + 7 + 18515) n57 K54 R' I' _ _ _ h hR hS (hv_sub hl [2, 1, 0] rfl)
