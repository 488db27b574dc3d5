/-! THE LAW'S START: what the tables and the statement's premises say there -/
theorem arr_st {args : Array Value} {s : State} {ty : FieldType} (h : (Cond.arrayClass ty).before args s = true) : ∃ cA, ArrOfT s cA ty ∧ s.vm.findClass ("[" ++ ty.toString) = some cA := by
  obtain ⟨cA, kA, comp, h1, h2, h3⟩ := Cond.arrayClass_spec h
  exact ⟨cA, fun N z => ⟨(fun k h => by cases h), kA, h2, comp, h3⟩, h1⟩
theorem arr_so {args : Array Value} {s : State} {C : String} (h : (Cond.arrayOver (.object C)).before args s = true) : ∃ cA, ArrOfT s cA (.object C) ∧ va_RA s cA (.object C) := by
  obtain ⟨comp, c, k, h1, h2, h3, h4, h5⟩ := Cond.arrayOver_spec h
  exact ⟨c, fun N z => ⟨(fun k h => by cases h), k, h3, comp, h4⟩, k, comp, h3, h4, h1, h5⟩
def stT (k : Nat) : Term := .static "TagBus" (stN k) "[I"
theorem st_one {args : Array Value} {s : State} {k : Nat} {A : Nat → Prop} (hA : ∀ a : Nat, a < s.heap.size → ¬ A a) (hl : (Cond.laysStatic "TagBus" (stN k) "[I").before args s = true) (hini : (Cond.initialized "TagBus").before args s = true) (h1 : (Cond.arrayOf (stT k) .int).before args s = true) (h2 : (Cond.eq (.length (stT k)) (.int 3)).before args s = true) (h3 : ∀ j, j < 3 → (Cond.eq (.elem (stT k) (.int (Int32.ofNat j))) (.int ((stL k).getD j 0))).before args s = true) : ∃ t : Nat, va_Z "TagBus" (stN k) "[I" (.ref t) A s s.heap ∧ va_T .int t 3 (stV k) A s s.heap := by
  obtain ⟨t, ht, hT⟩ := va_Tof (N := 3) (f := stV k) (A := A) (by decide) h1 (va_eqt h2) (fun j hj => va_eqt (h3 j hj)) hA
  exact ⟨t, va_Zof hl hini ht hA, hT⟩
def stW (k : Nat) : List Cond := [.arrayOf (stT k) .int, .eq (.length (stT k)) (.int 3), .eq (.elem (stT k) (.int 0)) (.int ((stL k).getD 0 0)), .eq (.elem (stT k) (.int 1)) (.int ((stL k).getD 1 0)), .eq (.elem (stT k) (.int 2)) (.int ((stL k).getD 2 0))]
set_option maxRecDepth 20000 in
theorem stW_in : ∀ k, k < 4 → ∀ w ∈ stW k, w ∈ flatC (Jvm.Cond.and given_1 narrow_1) := by decide +kernel
set_option maxRecDepth 20000 in
theorem st_all {args : Array Value} {s : State} {A : Nat → Prop} (hA : ∀ a : Nat, a < s.heap.size → ¬ A a) (hts : ∀ w ∈ lw_tbl, w.before args s = true) (hgv : (Jvm.Cond.and given_1 narrow_1).before args s = true) : ∀ k, k < 4 → ∃ t : Nat, va_Z "TagBus" (stN k) "[I" (.ref t) A s s.heap ∧ va_T .int t 3 (stV k) A s s.heap := by
  intro k hk
  have hs := flat_of_before _ hgv
  have hw : ∀ w ∈ stW k, w.before args s = true := fun w h => hs w (stW_in k hk w h)
  have hl : (Cond.laysStatic "TagBus" (stN k) "[I").before args s = true := by
    have hc : k = 0 ∨ k = 1 ∨ k = 2 ∨ k = 3 := by omega
    rcases hc with rfl | rfl | rfl | rfl
    · exact hts _ kls_LEAST_SETTING
    · exact hts _ kls_MOST_SETTING
    · exact hts _ kls_LEAST_OF_TARGET
    · exact hts _ kls_MOST_OF_TARGET
  refine st_one hA hl (hts _ (gt_tbl kin_X6)) (hw _ (List.mem_of_getElem? (i := 0) rfl)) (hw _ (List.mem_of_getElem? (i := 1) rfl)) (fun j hj => ?_)
  have hc : j = 0 ∨ j = 1 ∨ j = 2 := by omega
  rcases hc with rfl | rfl | rfl
  · exact hw _ (List.mem_of_getElem? (i := 2) rfl)
  · exact hw _ (List.mem_of_getElem? (i := 3) rfl)
  · exact hw _ (List.mem_of_getElem? (i := 4) rfl)
theorem kx_start {args : Array Value} {s : State} {b L : Nat} {xs : Nat → Int32} (hts : ∀ w ∈ lw_tbl, w.before args s = true) (hX : va_X b L xs s s.heap) (hbl : b < s.heap.size) (hgv : (Jvm.Cond.and given_1 narrow_1).before args s = true) : ∃ E : Ev, E.2.2.2 = (b, L, xs) ∧ E.2.2.1 = s.heap.size ∧ Kx E s := by
  have htG : ∀ w ∈ Gt, w.before args s = true := fun w hw => hts w (gt_tbl hw)
  obtain ⟨c0, i0, g0⟩ := u_known htG inG0 (htG _ kia_X0)
  obtain ⟨c1, i1, g1⟩ := u_known htG inG1 (htG _ kia_X1)
  obtain ⟨c2, i2, g2⟩ := u_known htG inG2 (htG _ kia_X2)
  obtain ⟨c3, i3, g3⟩ := u_known htG inG3 (htG _ kia_X3)
  obtain ⟨c4, i4, g4⟩ := u_known htG inG4 (htG _ kia_X4)
  obtain ⟨c5, i5, g5⟩ := u_known htG inG5 (htG _ kia_X5)
  obtain ⟨c6, i6, g6⟩ := u_known htG inG6 (htG _ kia_X6)
  obtain ⟨a0, b0, d0⟩ := arr_st (htG _ kac_int)
  obtain ⟨a1, b1, d1⟩ := arr_st (htG _ kac_char)
  obtain ⟨a2, b2, d2⟩ := arr_so (hts _ kao_Master)
  obtain ⟨a3, b3, d3⟩ := arr_so (hts _ kao_Target)
  obtain ⟨a4, b4, d4⟩ := arr_so (hts _ kao_Question)
  obtain ⟨a5, b5, d5⟩ := arr_so (hts _ kao_Bus)
  have hA : ∀ a : Nat, a < s.heap.size → ¬ s.heap.size ≤ a := fun a h => Nat.not_le.mpr h
  refine ⟨((fun k => [c0, c1, c2, c3, c4, c5, c6].getD k c0, fun k => [i0, i1, i2, i3, i4, i5, i6].getD k i0), fun k => [a0, a1, a2, a3, a4, a5].getD k a0, s.heap.size, b, L, xs), rfl, rfl, ⟨?_, ?_⟩, ?_, ?_, Nat.le_refl _, ⟨hX, hbl⟩, st_all hA hts hgv⟩
  · intro k q hq
    match k, hq with
    | 0, hq => cases hq; exact g0
    | 1, hq => cases hq; exact g1
    | 2, hq => cases hq; exact g2
    | 3, hq => cases hq; exact g3
    | 4, hq => cases hq; exact g4
    | 5, hq => cases hq; exact g5
    | 6, hq => cases hq; exact g6
    | k + 7, hq => simp [vwCl] at hq
  · intro k q hq
    match k, hq with
    | 0, hq => cases hq; exact ⟨b0, d0⟩
    | 1, hq => cases hq; exact ⟨b1, d1⟩
    | 2, hq => cases hq; exact ⟨b2, d2⟩
    | 3, hq => cases hq; exact ⟨b3, d3⟩
    | 4, hq => cases hq; exact ⟨b4, d4⟩
    | 5, hq => cases hq; exact ⟨b5, d5⟩
    | k + 6, hq => simp [tyL] at hq
  · intro q hq
    exact va_Nw.of rfl (hts _ (nestM_tbl q hq))
  · intro C hC
    simp only [List.mem_cons, List.not_mem_nil, or_false] at hC
    rcases hC with rfl | rfl | rfl | rfl
    · exact va_AO.of (hts _ kao_Master)
    · exact va_AO.of (hts _ kao_Target)
    · exact va_AO.of (hts _ kao_Question)
    · exact va_AO.of (hts _ kao_Bus)
set_option maxHeartbeats 1000000 in
/-- from the entry, for every script of at most 260 ints, the law comes to its end with true -/
theorem whole_start {p : Program} {e : Env} {s : State} {m : MethodId} {below : List Frame} {meth : Method} {c : Code} (l : Launch) (hflags : l.flags = flags0) {b L : Nat} {xs : Nat → Int32} (hL : L ≤ 260) (C0 : lw_At p s m meth c b L xs) : W p l e room_1 s m #[Value.ref b] below meth c s.heap [] 0 0 (lw_Z below #[Value.ref b] s) (entryFrame m ([Value.ref b] : List Value).toArray 5) := by
  obtain ⟨hx, hb, hr, hml, hown, hts, hX, hbl, hlocks, hgv⟩ := C0
  obtain ⟨E, hE2, hE, hK⟩ := kx_start hts hX hbl hgv
  exact L_law E l (K := fun _ => none) (R := fun _ _ _ => none) (I := fun _ _ => 0) (n := s.heap.size) ⟨hx, hb, hml, hown, fun w hw => hts w (gt_tbl hw), hK, hlocks, hr⟩ hE2 hE (w_start (Q := True) (by omega) trivial) ⟨rfl, fun a t h => by cases h⟩
