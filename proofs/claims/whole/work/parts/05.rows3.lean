theorem cN : ∀ v ∈ ([] : List Value), v.category = 1 := fun v h => by cases h
theorem cI {x : Int32} {vs : List Value} (h : ∀ v ∈ vs, v.category = 1) : ∀ v ∈ (Value.int x :: vs), v.category = 1 := fun v hv => by
  rcases List.mem_cons.mp hv with rfl | hv
  · rfl
  · exact h v hv
theorem cR {x : Nat} {vs : List Value} (h : ∀ v ∈ vs, v.category = 1) : ∀ v ∈ (Value.ref x :: vs), v.category = 1 := fun v hv => by
  rcases List.mem_cons.mp hv with rfl | hv
  · rfl
  · exact h v hv
theorem cO {x : Option Nat} {vs : List Value} (h : ∀ v ∈ vs, v.category = 1) : ∀ v ∈ (va_rf x :: vs), v.category = 1 := fun v hv => by
  rcases List.mem_cons.mp hv with rfl | hv
  · exact cat_rf x
  · exact h v hv
theorem bz_fit {x : Int32} (h : bz x) : fits .boolean (.int x) = true := by rcases h with rfl | rfl <;> rfl
section MR3
variable {p : Program} {l : Launch} {e : Env} {rm : Room} {s : State} {m : MethodId} {args : Array Value} {below : List Frame} {meth : Method} {c : Code} {H : Heap} {locs : List Loc} {cells slots : Nat} {Qw : State → Prop}
variable {cc : ByteArray} {nL pc : Nat} {ls : Array Slot} {rest st0 : List Value} {E : Ev} {K : MK} {R : MR} {I : MI} {n a : Nat} {own : String} {ret : Option FieldType}
theorem w_iald (C : Cx E p s m meth c cc nL own ret args) (hR : Rep E K R I n H) {N j : Nat} (hKa : K a = some (.inl (0, N))) {i : Int32} (hin : vp_in i N) (hj : ix i = j) (hdg : decode cc pc = .ok (.iaload, 1))
    (kk : W p l e rm s m args below meth c H locs cells slots Qw (F0 m (pc + 1) ls (.int (I a j) :: rest))) : W p l e rm s m args below meth c H locs cells slots Qw (F0 m pc ls (.int i :: .ref a :: rest)) := by
  subst hj
  exact v_iald C hR hKa hin hdg kk
theorem w_cald (C : Cx E p s m meth c cc nL own ret args) (hR : Rep E K R I n H) {N j : Nat} (hKa : K a = some (.inl (1, N))) {i : Int32} (hin : vp_in i N) (hj : ix i = j) (hdg : decode cc pc = .ok (.caload, 1))
    (kk : W p l e rm s m args below meth c H locs cells slots Qw (F0 m (pc + 1) ls (.int (I a j) :: rest))) : W p l e rm s m args below meth c H locs cells slots Qw (F0 m pc ls (.int i :: .ref a :: rest)) := by
  subst hj
  exact v_cald C hR hKa hin hdg kk
theorem w_aald (C : Cx E p s m meth c cc nL own ret args) (hR : Rep E K R I n H) {N t j w : Nat} (hKa : K a = some (.inl (t, N))) (ht : t < 6) (hr : isI t = false) (hty : (tyA t).isReference = true) {i : Int32} (hin : vp_in i N) (hj : ix i = j) (hv : R a j (I a j) = some w) (hdg : decode cc pc = .ok (.aaload, 1))
    (kk : W p l e rm s m args below meth c H locs cells slots Qw (F0 m (pc + 1) ls (.ref w :: rest))) : W p l e rm s m args below meth c H locs cells slots Qw (F0 m pc ls (.int i :: .ref a :: rest)) := by
  subst hj
  exact v_aald C hR hKa ht hr hty hin hv hdg kk
theorem w_iast (C : Cx E p s m meth c cc nL own ret args) (hR : Rep E K R I n H) (hS : va_S (AA E) s.heap H locs) {N j : Nat} (hKa : K a = some (.inl (0, N))) {i x : Int32} (hin : vp_in i N) (hj : ix i = j) {I1 : MI} (hI : I1 = upI I a j x) (hdg : decode cc pc = .ok (.iastore, 1))
    (kk : ∀ (H1 : Heap) (locs1 : List Loc), Rep E K R I1 n H1 → va_S (AA E) s.heap H1 locs1 → W p l e rm s m args below meth c H1 locs1 cells slots Qw (F0 m (pc + 1) ls rest)) : W p l e rm s m args below meth c H locs cells slots Qw (F0 m pc ls (.int x :: .int i :: .ref a :: rest)) := by
  subst hj
  exact v_iast C hR hS hKa hin hI hdg kk
theorem w_cast (C : Cx E p s m meth c cc nL own ret args) (hR : Rep E K R I n H) (hS : va_S (AA E) s.heap H locs) {N j : Nat} (hKa : K a = some (.inl (1, N))) {i x : Int32} (hin : vp_in i N) (hj : ix i = j) {I1 : MI} (hI : I1 = upI I a j (vp_nar .char x)) (hdg : decode cc pc = .ok (.castore, 1))
    (kk : ∀ (H1 : Heap) (locs1 : List Loc), Rep E K R I1 n H1 → va_S (AA E) s.heap H1 locs1 → W p l e rm s m args below meth c H1 locs1 cells slots Qw (F0 m (pc + 1) ls rest)) : W p l e rm s m args below meth c H locs cells slots Qw (F0 m pc ls (.int x :: .int i :: .ref a :: rest)) := by
  subst hj
  exact v_cast C hR hS hKa hin hI hdg kk
/-- a reference into the array of the past: its ghost -/
theorem w_past {b j : Nat} {g i : Int32} (C : Cx E p s m meth c cc nL own ret args) (hR : Rep E K R I n H) (hS : va_S (AA E) s.heap H locs) (hKa : K a = some (.inl (5, 4))) (hKw : K (pastA b g) = some (.inr 0)) (hin : vp_in i 4) (hj : ix i = j) (hg : R a j g = some (pastA b g)) {I1 : MI} (hI : I1 = upI I a j g) (hdg : decode cc pc = .ok (.aastore, 1))
    (kk : ∀ (H1 : Heap) (locs1 : List Loc), Rep E K R I1 n H1 → va_S (AA E) s.heap H1 locs1 → W p l e rm s m args below meth c H1 locs1 cells slots Qw (F0 m (pc + 1) ls rest)) : W p l e rm s m args below meth c H locs cells slots Qw (F0 m pc ls (.ref (pastA b g) :: .int i :: .ref a :: rest)) := by
  subst hj
  subst hI
  refine v_aast (t := 5) (ci := 0) (R1 := R) (I1 := upI I a (ix i) g) C hR hS hKa (by decide) rfl rfl rfl hKw hin ?_ (fun b h => upI_ne I _ _ h) (fun _ _ => rfl) hdg kk
  funext q
  by_cases h : q = ix i
  · subst h
    simp [upI, updV, hg, va_rf]
  · simp [upI, updV, h]
theorem w_ireti {ty : FieldType} {Q : Int32 → MI → Prop} (C : Cx E p s m meth c cc nL own ret args) (hr : ret = some ty) {v : Int32} (hn : narrow ty (.int v) = .int v) (hR : Rep E K R I n H) (hS : va_S (AA E) s.heap H locs) (hQ : Q v I) (hdg : decode cc pc = .ok (.ireturn, 1)) :
    W p l e rm s m args below meth c H locs cells slots (MQ below (QcM E (Qi K R n Q)) args s cells slots (AA E)) (F0 m pc ls [.int v]) :=
  v_iret C hr hn hR hS ⟨rfl, rfl, rfl, v, rfl, hQ⟩ hdg
theorem w_vret {Q : MI → Prop} (C : Cx E p s m meth c cc nL own ret args) (hr : ret = none) (hR : Rep E K R I n H) (hS : va_S (AA E) s.heap H locs) (hQ : Q I) (hdg : decode cc pc = .ok (.return_, 1)) :
    W p l e rm s m args below meth c H locs cells slots (MQ below (QcM E (Qv K R n Q)) args s cells slots (AA E)) (F0 m pc ls []) :=
  v_vret C hr hR hS ⟨rfl, rfl, rfl, rfl, hQ⟩ hdg
theorem w_aret {C0 : String} {o : Option Nat} {Q : Option Nat → MI → Prop} (C : Cx E p s m meth c cc nL own ret args) (hr : ret = some (.object C0)) (hR : Rep E K R I n H) (hS : va_S (AA E) s.heap H locs) (hQ : Q o I) (hdg : decode cc pc = .ok (.areturn, 1)) :
    W p l e rm s m args below meth c H locs cells slots (MQ below (QcM E (Qo K R n Q)) args s cells slots (AA E)) (F0 m pc ls [va_rf o]) :=
  v_aret C hr hR hS ⟨rfl, rfl, rfl, o, rfl, hQ⟩ hdg
end MR3
section MR4
variable {p : Program} {l : Launch} {e : Env} {rm : Room} {s : State} {m : MethodId} {args : Array Value} {below : List Frame} {meth : Method} {c : Code} {H : Heap} {locs : List Loc} {cells slots : Nat} {Qw : State → Prop}
variable {cc : ByteArray} {nL pc : Nat} {ls : Array Slot} {rest st0 : List Value} {E : Ev} {K : MK} {R : MR} {I : MI} {n a : Nat} {own : String} {ret : Option FieldType}
theorem w_new {C0 : String} {T : u_T} {N ci index : Nat} {K1 : MK} {R1 : MR} {I1 : MI} (C : Cx E p s m meth c cc nL own ret args) (hR : Rep E K R I n H) (hS : va_S (AA E) s.heap H locs) (hcl : Cond.classLink own index C0 ∈ Gt) (hinst : Cond.instantiable C0 N ∈ Gt) (hini : Cond.initialized C0 ∈ Gt) (hc : vwCl[ci]? = some (C0, T, N)) (hin : ∀ w ∈ u_ws C0 T N, w ∈ Gt) (ty0 : Nat → FieldType) (hty : ∀ k, k < N → parseFieldDescriptor (T k).2.2.1 = some (ty0 k)) (hfs : ∀ j, j < N → defaultValue (ty0 j) = vp_V (fl ci (fun _ _ => none) (fun _ => 0)) j) (hcells : cells + 1 ≤ rm.cells) (hslots : slots + N ≤ rm.slots) (hK1 : K1 = upK K n (.inr ci)) (hR1 : R1 = clR R n) (hI1 : I1 = clI I n) (hdg : decode cc pc = .ok (.new index, 3))
    (kk : ∀ (H1 : Heap), Rep E K1 R1 I1 (n + 1) H1 → va_S (AA E) s.heap H1 locs → W p l e rm s m args below meth c H1 locs (cells + 1) (slots + N) Qw (F0 m (pc + 3) ls (.ref n :: rest))) : W p l e rm s m args below meth c H locs cells slots Qw (F0 m pc ls rest) := by
  subst hK1; subst hR1; subst hI1
  exact v_new C hR hS hcl hinst hini hc hin ty0 hty hfs hcells hslots hdg kk
theorem w_newa {at_ : ArrayType} {t : Nat} {K1 : MK} {R1 : MR} {I1 : MI} (C : Cx E p s m meth c cc nL own ret args) (hR : Rep E K R I n H) (hS : va_S (AA E) s.heap H locs) (harr : Cond.arrayClass (newarray.typeOf at_) ∈ Gt) (hta : newarray.typeOf at_ = tyA t) (ht : t < 2) {k : Int32} {N : Nat} (hn : ¬ k < 0) (hN : k.toNatClampNeg = N) (hbytes : N * 4 ≤ 536870912) (hcells : cells + 1 ≤ rm.cells) (hslots : slots + N ≤ rm.slots) (hK1 : K1 = upK K n (.inl (t, N))) (hR1 : R1 = clR R n) (hI1 : I1 = clI I n) (hdg : decode cc pc = .ok (.newarray at_, 2))
    (kk : ∀ (H1 : Heap), Rep E K1 R1 I1 (n + 1) H1 → va_S (AA E) s.heap H1 locs → W p l e rm s m args below meth c H1 locs (cells + 1) (slots + N) Qw (F0 m (pc + 2) ls (.ref n :: rest))) : W p l e rm s m args below meth c H locs cells slots Qw (F0 m pc ls (.int k :: rest)) := by
  subst hK1; subst hR1; subst hI1
  exact v_newa C hR hS harr hta ht hn hN hbytes hcells hslots hdg kk
theorem w_anew {C0 : String} {t index : Nat} {K1 : MK} {R1 : MR} {I1 : MI} (C : Cx E p s m meth c cc nL own ret args) (hR : Rep E K R I n H) (hS : va_S (AA E) s.heap H locs) (hcl : Cond.classLink own index C0 ∈ Gt) (hov : C0 ∈ ["TagBus$Master", "TagBus$Target", "TagBus$Question", "TagBus$Bus"]) (hta : tyA t = .object C0) (ht : t < 6) (hr : isI t = false) {k : Int32} {N : Nat} (hn : ¬ k < 0) (hN : k.toNatClampNeg = N) (hbytes : N * 4 ≤ 536870912) (hcells : cells + 1 ≤ rm.cells) (hslots : slots + N ≤ rm.slots) (hK1 : K1 = upK K n (.inl (t, N))) (hR1 : R1 = clR R n) (hI1 : I1 = clI I n) (hdg : decode cc pc = .ok (.anewarray index, 3))
    (kk : ∀ (H1 : Heap), Rep E K1 R1 I1 (n + 1) H1 → va_S (AA E) s.heap H1 locs → W p l e rm s m args below meth c H1 locs (cells + 1) (slots + N) Qw (F0 m (pc + 3) ls (.ref n :: rest))) : W p l e rm s m args below meth c H locs cells slots Qw (F0 m pc ls (.int k :: rest)) := by
  subst hK1; subst hR1; subst hI1
  exact v_anew C hR hS hcl hov hta ht hr hn hN hbytes hcells hslots hdg kk
theorem w_aastR {t N w ci j : Nat} {q : vw_C} {R1 : MR} (C : Cx E p s m meth c cc nL own ret args) (hR : Rep E K R I n H) (hS : va_S (AA E) s.heap H locs) (hKa : K a = some (.inl (t, N))) (ht : t < 6) (hr : isI t = false) (hc : vwCl[ci]? = some q) (hty : tyA t = .object q.1) (hKw : K w = some (.inr ci)) {i : Int32} (hin : vp_in i N) (hj : ix i = j) (hR1 : R1 = upR R a j w) (hdg : decode cc pc = .ok (.aastore, 1))
    (kk : ∀ (H1 : Heap) (locs1 : List Loc), Rep E K R1 I n H1 → va_S (AA E) s.heap H1 locs1 → W p l e rm s m args below meth c H1 locs1 cells slots Qw (F0 m (pc + 1) ls rest)) : W p l e rm s m args below meth c H locs cells slots Qw (F0 m pc ls (.ref w :: .int i :: .ref a :: rest)) := by
  subst hj
  subst hR1
  refine v_aast (R1 := upR R a (ix i) w) (I1 := I) C hR hS hKa ht hr hc hty hKw hin ?_ (fun _ _ => rfl) (fun b h => upR_ne R _ _ h) hdg kk
  funext q
  by_cases h : q = ix i
  · subst h
    simp [upR, updV, va_rf]
  · simp [upR, updV, h]
theorem w_getR {C0 ref : String} {T : u_T} {N ci index w : Nat} (C : Cx E p s m meth c cc nL own ret args) (hR : Rep E K R I n H) (k : Nat) (hlink : Cond.fieldLink own index ref (T k).2.1 (T k).2.2.1 ∈ Gt) (hc : vwCl[ci]? = some (C0, T, N)) (hin : ∀ w ∈ u_ws C0 T N, w ∈ Gt) (hk : k < N) (href : (T k).1 = ref)
    (hKa : K a = some (.inr ci)) (hv : (fl ci (R a) (I a))[k]? = some (va_rf (R a k (I a k)))) (hw : R a k (I a k) = some w) (hdg : decode cc pc = .ok (.getfield index, 3))
    (kk : W p l e rm s m args below meth c H locs cells slots Qw (F0 m (pc + 3) ls (.ref w :: rest))) : W p l e rm s m args below meth c H locs cells slots Qw (F0 m pc ls (.ref a :: rest)) :=
  v_get C hR k hlink hc hin hk href hKa (hv.trans (rf_of hw)) hdg kk
/-- the end of a constructor -/
theorem w_vretC {mc ms : Nat} {Q : MK → MR → MI → Nat → Prop} (C : Cx E p s m meth c cc nL own ret args) (hr : ret = none) (hR : Rep E K R I n H) (hS : va_S (AA E) s.heap H locs) (hc : cells ≤ mc) (hs : slots ≤ ms) (hQ : Q K R I n) (hdg : decode cc pc = .ok (.return_, 1)) :
    W p l e rm s m args below meth c H locs cells slots (MQ below (QcM E (fun v K' R' I' n' => v = none ∧ Q K' R' I' n')) args s mc ms (AA E)) (F0 m pc ls []) :=
  W.widen hc hs (v_vret C hr hR hS ⟨rfl, hQ⟩ hdg)
variable {y : MethodName} {b : ByteArray} {nL' : Nat} {fr lo mc ms index na : Nat} {C0 : String} {As : List Value}
theorem w_cI {Q : MK → MR → MI → Nat → Prop} (C : Cx E p s m meth c cc nL own ret args) (hR : Rep E K R I n H) (hS : va_S (AA E) s.heap H locs) (hls : ls.size = nL) (hca : CaI y b nL' C0 na) (hlink : Cond.methodLink own index y ∈ Gt) (hM : MM E l y b nL' none fr lo mc ms (.ref a :: As) K R I n (fun v K' R' I' n' => v = none ∧ Q K' R' I' n')) (hn : As.length = na) (hst : st0 = As.reverse ++ .ref a :: rest) (hcat : (rest.map fun v => v.category).sum ≤ 8) (hrm : fr + 1 ≤ rm.frames ∧ 8 + (nL' + 11) + lo ≤ rm.locals) (hf : cells + mc ≤ rm.cells ∧ slots + ms ≤ rm.slots) (hdg : decode cc pc = .ok (.invokespecial index, 3))
    (kk : ∀ (K' : MK) (R' : MR) (I' : MI) (n' : Nat) (H1 : Heap) (locs1 : List Loc), Q K' R' I' n' → Rep E K' R' I' n' H1 → va_S (AA E) s.heap H1 locs1 → W p l e rm s m args below meth c H1 locs1 (cells + mc) (slots + ms) Qw (F0 m (pc + 3) ls rest)) : W p l e rm s m args below meth c H locs cells slots Qw (F0 m pc ls st0) :=
  v_callI C hR hS hls hca hlink hM hn hst hcat hrm hf hdg (fun v K' R' I' n' H1 locs1 h hR2 hS2 => by
    obtain ⟨rfl, h⟩ := h
    exact kk K' R' I' n' H1 locs1 h hR2 hS2)
theorem w_cIN {host : String} {Q : MK → MR → MI → Nat → Prop} (C : Cx E p s m meth c cc nL own ret args) (hR : Rep E K R I n H) (hS : va_S (AA E) s.heap H locs) (hls : ls.size = nL) (hca : CaI y b nL' C0 na) (hlink : (own, index, y, host) ∈ nestM) (hM : MM E l y b nL' none fr lo mc ms (.ref a :: As) K R I n (fun v K' R' I' n' => v = none ∧ Q K' R' I' n')) (hn : As.length = na) (hst : st0 = As.reverse ++ .ref a :: rest) (hcat : (rest.map fun v => v.category).sum ≤ 8) (hrm : fr + 1 ≤ rm.frames ∧ 8 + (nL' + 11) + lo ≤ rm.locals) (hf : cells + mc ≤ rm.cells ∧ slots + ms ≤ rm.slots) (hdg : decode cc pc = .ok (.invokespecial index, 3))
    (kk : ∀ (K' : MK) (R' : MR) (I' : MI) (n' : Nat) (H1 : Heap) (locs1 : List Loc), Q K' R' I' n' → Rep E K' R' I' n' H1 → va_S (AA E) s.heap H1 locs1 → W p l e rm s m args below meth c H1 locs1 (cells + mc) (slots + ms) Qw (F0 m (pc + 3) ls rest)) : W p l e rm s m args below meth c H locs cells slots Qw (F0 m pc ls st0) :=
  v_callIN C hR hS hls hca hlink hM hn hst hcat hrm hf hdg (fun v K' R' I' n' H1 locs1 h hR2 hS2 => by
    obtain ⟨rfl, h⟩ := h
    exact kk K' R' I' n' H1 locs1 h hR2 hS2)
/-- the script -/
theorem w_sld {b L : Nat} {xs : Nat → Int32} (C : Cx E p s m meth c cc nL own ret args) (hX : va_X b L xs s s.heap) (hbl : b < s.heap.size) (hbA : ¬ AA E b) (hS : va_S (AA E) s.heap H locs) {i : Int32} (hin : vp_in i L) (hdg : decode cc pc = .ok (.iaload, 1))
    (kk : W p l e rm s m args below meth c H locs cells slots Qw (F0 m (pc + 1) ls (.int (xs (ix i)) :: rest))) : W p l e rm s m args below meth c H locs cells slots Qw (F0 m pc ls (.int i :: .ref b :: rest)) := by
  obtain ⟨hx, hb, hml, hown, hts, hK, hlocks, hret⟩ := C
  exact va_sld hx hb hX hbl hbA hS hin hdg kk
theorem w_slen {b L : Nat} {xs : Nat → Int32} (C : Cx E p s m meth c cc nL own ret args) (hX : va_X b L xs s s.heap) (hbl : b < s.heap.size) (hbA : ¬ AA E b) (hS : va_S (AA E) s.heap H locs) (hdg : decode cc pc = .ok (.arraylength, 1))
    (kk : W p l e rm s m args below meth c H locs cells slots Qw (F0 m (pc + 1) ls (.int (nI L) :: rest))) : W p l e rm s m args below meth c H locs cells slots Qw (F0 m pc ls (.ref b :: rest)) := by
  obtain ⟨hx, hb, hml, hown, hts, hK, hlocks, hret⟩ := C
  exact va_slen hx hb hX hbl hbA hS hdg kk
end MR4
theorem sw_0_5 (x : Int32) : x = (0:Int32) ∨ x = (1:Int32) ∨ x = (2:Int32) ∨ x = (3:Int32) ∨ x = (4:Int32) ∨ x = (5:Int32) ∨ (x.toInt < 0 ∨ 5 < x.toInt) := by
  by_cases h1 : x.toInt < 0
  · simp [h1]
  · by_cases h2 : 5 < x.toInt
    · simp [h2]
    · have hh : x.toInt = 0 ∨ x.toInt = 1 ∨ x.toInt = 2 ∨ x.toInt = 3 ∨ x.toInt = 4 ∨ x.toInt = 5 := by omega
      rcases hh with hh | hh | hh | hh | hh | hh
      · exact Or.inl (Int32.toInt_inj.mp hh)
      · exact Or.inr (Or.inl (Int32.toInt_inj.mp hh))
      · exact Or.inr (Or.inr (Or.inl (Int32.toInt_inj.mp hh)))
      · exact Or.inr (Or.inr (Or.inr (Or.inl (Int32.toInt_inj.mp hh))))
      · exact Or.inr (Or.inr (Or.inr (Or.inr (Or.inl (Int32.toInt_inj.mp hh)))))
      · exact Or.inr (Or.inr (Or.inr (Or.inr (Or.inr (Or.inl (Int32.toInt_inj.mp hh))))))
theorem sw_0_8 (x : Int32) : x = (0:Int32) ∨ x = (1:Int32) ∨ x = (2:Int32) ∨ x = (3:Int32) ∨ x = (4:Int32) ∨ x = (5:Int32) ∨ x = (6:Int32) ∨ x = (7:Int32) ∨ x = (8:Int32) ∨ (x.toInt < 0 ∨ 8 < x.toInt) := by
  by_cases h1 : x.toInt < 0
  · simp [h1]
  · by_cases h2 : 8 < x.toInt
    · simp [h2]
    · have hh : x.toInt = 0 ∨ x.toInt = 1 ∨ x.toInt = 2 ∨ x.toInt = 3 ∨ x.toInt = 4 ∨ x.toInt = 5 ∨ x.toInt = 6 ∨ x.toInt = 7 ∨ x.toInt = 8 := by omega
      rcases hh with hh | hh | hh | hh | hh | hh | hh | hh | hh
      · exact Or.inl (Int32.toInt_inj.mp hh)
      · exact Or.inr (Or.inl (Int32.toInt_inj.mp hh))
      · exact Or.inr (Or.inr (Or.inl (Int32.toInt_inj.mp hh)))
      · exact Or.inr (Or.inr (Or.inr (Or.inl (Int32.toInt_inj.mp hh))))
      · exact Or.inr (Or.inr (Or.inr (Or.inr (Or.inl (Int32.toInt_inj.mp hh)))))
      · exact Or.inr (Or.inr (Or.inr (Or.inr (Or.inr (Or.inl (Int32.toInt_inj.mp hh))))))
      · exact Or.inr (Or.inr (Or.inr (Or.inr (Or.inr (Or.inr (Or.inl (Int32.toInt_inj.mp hh)))))))
      · exact Or.inr (Or.inr (Or.inr (Or.inr (Or.inr (Or.inr (Or.inr (Or.inl (Int32.toInt_inj.mp hh))))))))
      · exact Or.inr (Or.inr (Or.inr (Or.inr (Or.inr (Or.inr (Or.inr (Or.inr (Or.inl (Int32.toInt_inj.mp hh)))))))))
theorem sw_0_12 (x : Int32) : x = (0:Int32) ∨ x = (1:Int32) ∨ x = (2:Int32) ∨ x = (3:Int32) ∨ x = (4:Int32) ∨ x = (5:Int32) ∨ x = (6:Int32) ∨ x = (7:Int32) ∨ x = (8:Int32) ∨ x = (9:Int32) ∨ x = (10:Int32) ∨ x = (11:Int32) ∨ x = (12:Int32) ∨ (x.toInt < 0 ∨ 12 < x.toInt) := by
  by_cases h1 : x.toInt < 0
  · simp [h1]
  · by_cases h2 : 12 < x.toInt
    · simp [h2]
    · have hh : x.toInt = 0 ∨ x.toInt = 1 ∨ x.toInt = 2 ∨ x.toInt = 3 ∨ x.toInt = 4 ∨ x.toInt = 5 ∨ x.toInt = 6 ∨ x.toInt = 7 ∨ x.toInt = 8 ∨ x.toInt = 9 ∨ x.toInt = 10 ∨ x.toInt = 11 ∨ x.toInt = 12 := by omega
      rcases hh with hh | hh | hh | hh | hh | hh | hh | hh | hh | hh | hh | hh | hh
      · exact Or.inl (Int32.toInt_inj.mp hh)
      · exact Or.inr (Or.inl (Int32.toInt_inj.mp hh))
      · exact Or.inr (Or.inr (Or.inl (Int32.toInt_inj.mp hh)))
      · exact Or.inr (Or.inr (Or.inr (Or.inl (Int32.toInt_inj.mp hh))))
      · exact Or.inr (Or.inr (Or.inr (Or.inr (Or.inl (Int32.toInt_inj.mp hh)))))
      · exact Or.inr (Or.inr (Or.inr (Or.inr (Or.inr (Or.inl (Int32.toInt_inj.mp hh))))))
      · exact Or.inr (Or.inr (Or.inr (Or.inr (Or.inr (Or.inr (Or.inl (Int32.toInt_inj.mp hh)))))))
      · exact Or.inr (Or.inr (Or.inr (Or.inr (Or.inr (Or.inr (Or.inr (Or.inl (Int32.toInt_inj.mp hh))))))))
      · exact Or.inr (Or.inr (Or.inr (Or.inr (Or.inr (Or.inr (Or.inr (Or.inr (Or.inl (Int32.toInt_inj.mp hh)))))))))
      · exact Or.inr (Or.inr (Or.inr (Or.inr (Or.inr (Or.inr (Or.inr (Or.inr (Or.inr (Or.inl (Int32.toInt_inj.mp hh))))))))))
      · exact Or.inr (Or.inr (Or.inr (Or.inr (Or.inr (Or.inr (Or.inr (Or.inr (Or.inr (Or.inr (Or.inl (Int32.toInt_inj.mp hh)))))))))))
      · exact Or.inr (Or.inr (Or.inr (Or.inr (Or.inr (Or.inr (Or.inr (Or.inr (Or.inr (Or.inr (Or.inr (Or.inl (Int32.toInt_inj.mp hh))))))))))))
      · exact Or.inr (Or.inr (Or.inr (Or.inr (Or.inr (Or.inr (Or.inr (Or.inr (Or.inr (Or.inr (Or.inr (Or.inr (Or.inl (Int32.toInt_inj.mp hh)))))))))))))
theorem sw_0_22 (x : Int32) : x = (0:Int32) ∨ x = (1:Int32) ∨ x = (2:Int32) ∨ x = (3:Int32) ∨ x = (4:Int32) ∨ x = (5:Int32) ∨ x = (6:Int32) ∨ x = (7:Int32) ∨ x = (8:Int32) ∨ x = (9:Int32) ∨ x = (10:Int32) ∨ x = (11:Int32) ∨ x = (12:Int32) ∨ x = (13:Int32) ∨ x = (14:Int32) ∨ x = (15:Int32) ∨ x = (16:Int32) ∨ x = (17:Int32) ∨ x = (18:Int32) ∨ x = (19:Int32) ∨ x = (20:Int32) ∨ x = (21:Int32) ∨ x = (22:Int32) ∨ (x.toInt < 0 ∨ 22 < x.toInt) := by
  by_cases h1 : x.toInt < 0
  · simp [h1]
  · by_cases h2 : 22 < x.toInt
    · simp [h2]
    · have hh : x.toInt = 0 ∨ x.toInt = 1 ∨ x.toInt = 2 ∨ x.toInt = 3 ∨ x.toInt = 4 ∨ x.toInt = 5 ∨ x.toInt = 6 ∨ x.toInt = 7 ∨ x.toInt = 8 ∨ x.toInt = 9 ∨ x.toInt = 10 ∨ x.toInt = 11 ∨ x.toInt = 12 ∨ x.toInt = 13 ∨ x.toInt = 14 ∨ x.toInt = 15 ∨ x.toInt = 16 ∨ x.toInt = 17 ∨ x.toInt = 18 ∨ x.toInt = 19 ∨ x.toInt = 20 ∨ x.toInt = 21 ∨ x.toInt = 22 := by omega
      rcases hh with hh | hh | hh | hh | hh | hh | hh | hh | hh | hh | hh | hh | hh | hh | hh | hh | hh | hh | hh | hh | hh | hh | hh
      · exact Or.inl (Int32.toInt_inj.mp hh)
      · exact Or.inr (Or.inl (Int32.toInt_inj.mp hh))
      · exact Or.inr (Or.inr (Or.inl (Int32.toInt_inj.mp hh)))
      · exact Or.inr (Or.inr (Or.inr (Or.inl (Int32.toInt_inj.mp hh))))
      · exact Or.inr (Or.inr (Or.inr (Or.inr (Or.inl (Int32.toInt_inj.mp hh)))))
      · exact Or.inr (Or.inr (Or.inr (Or.inr (Or.inr (Or.inl (Int32.toInt_inj.mp hh))))))
      · exact Or.inr (Or.inr (Or.inr (Or.inr (Or.inr (Or.inr (Or.inl (Int32.toInt_inj.mp hh)))))))
      · exact Or.inr (Or.inr (Or.inr (Or.inr (Or.inr (Or.inr (Or.inr (Or.inl (Int32.toInt_inj.mp hh))))))))
      · exact Or.inr (Or.inr (Or.inr (Or.inr (Or.inr (Or.inr (Or.inr (Or.inr (Or.inl (Int32.toInt_inj.mp hh)))))))))
      · exact Or.inr (Or.inr (Or.inr (Or.inr (Or.inr (Or.inr (Or.inr (Or.inr (Or.inr (Or.inl (Int32.toInt_inj.mp hh))))))))))
      · exact Or.inr (Or.inr (Or.inr (Or.inr (Or.inr (Or.inr (Or.inr (Or.inr (Or.inr (Or.inr (Or.inl (Int32.toInt_inj.mp hh)))))))))))
      · exact Or.inr (Or.inr (Or.inr (Or.inr (Or.inr (Or.inr (Or.inr (Or.inr (Or.inr (Or.inr (Or.inr (Or.inl (Int32.toInt_inj.mp hh))))))))))))
      · exact Or.inr (Or.inr (Or.inr (Or.inr (Or.inr (Or.inr (Or.inr (Or.inr (Or.inr (Or.inr (Or.inr (Or.inr (Or.inl (Int32.toInt_inj.mp hh)))))))))))))
      · exact Or.inr (Or.inr (Or.inr (Or.inr (Or.inr (Or.inr (Or.inr (Or.inr (Or.inr (Or.inr (Or.inr (Or.inr (Or.inr (Or.inl (Int32.toInt_inj.mp hh))))))))))))))
      · exact Or.inr (Or.inr (Or.inr (Or.inr (Or.inr (Or.inr (Or.inr (Or.inr (Or.inr (Or.inr (Or.inr (Or.inr (Or.inr (Or.inr (Or.inl (Int32.toInt_inj.mp hh)))))))))))))))
      · exact Or.inr (Or.inr (Or.inr (Or.inr (Or.inr (Or.inr (Or.inr (Or.inr (Or.inr (Or.inr (Or.inr (Or.inr (Or.inr (Or.inr (Or.inr (Or.inl (Int32.toInt_inj.mp hh))))))))))))))))
      · exact Or.inr (Or.inr (Or.inr (Or.inr (Or.inr (Or.inr (Or.inr (Or.inr (Or.inr (Or.inr (Or.inr (Or.inr (Or.inr (Or.inr (Or.inr (Or.inr (Or.inl (Int32.toInt_inj.mp hh)))))))))))))))))
      · exact Or.inr (Or.inr (Or.inr (Or.inr (Or.inr (Or.inr (Or.inr (Or.inr (Or.inr (Or.inr (Or.inr (Or.inr (Or.inr (Or.inr (Or.inr (Or.inr (Or.inr (Or.inl (Int32.toInt_inj.mp hh))))))))))))))))))
      · exact Or.inr (Or.inr (Or.inr (Or.inr (Or.inr (Or.inr (Or.inr (Or.inr (Or.inr (Or.inr (Or.inr (Or.inr (Or.inr (Or.inr (Or.inr (Or.inr (Or.inr (Or.inr (Or.inl (Int32.toInt_inj.mp hh)))))))))))))))))))
      · exact Or.inr (Or.inr (Or.inr (Or.inr (Or.inr (Or.inr (Or.inr (Or.inr (Or.inr (Or.inr (Or.inr (Or.inr (Or.inr (Or.inr (Or.inr (Or.inr (Or.inr (Or.inr (Or.inr (Or.inl (Int32.toInt_inj.mp hh))))))))))))))))))))
      · exact Or.inr (Or.inr (Or.inr (Or.inr (Or.inr (Or.inr (Or.inr (Or.inr (Or.inr (Or.inr (Or.inr (Or.inr (Or.inr (Or.inr (Or.inr (Or.inr (Or.inr (Or.inr (Or.inr (Or.inr (Or.inl (Int32.toInt_inj.mp hh)))))))))))))))))))))
      · exact Or.inr (Or.inr (Or.inr (Or.inr (Or.inr (Or.inr (Or.inr (Or.inr (Or.inr (Or.inr (Or.inr (Or.inr (Or.inr (Or.inr (Or.inr (Or.inr (Or.inr (Or.inr (Or.inr (Or.inr (Or.inr (Or.inl (Int32.toInt_inj.mp hh))))))))))))))))))))))
      · exact Or.inr (Or.inr (Or.inr (Or.inr (Or.inr (Or.inr (Or.inr (Or.inr (Or.inr (Or.inr (Or.inr (Or.inr (Or.inr (Or.inr (Or.inr (Or.inr (Or.inr (Or.inr (Or.inr (Or.inr (Or.inr (Or.inr (Or.inl (Int32.toInt_inj.mp hh)))))))))))))))))))))))
theorem ca_X6_init : CaI yX6_init cX6_init 2 RX6 0 := ⟨kim_X6_init, kco_X6_init, kin_X6, rfl, rfl, by decide, by decide, by decide⟩
theorem ca_X6_set : CaV yX6_set cX6_set 4 (some Jvm.ClassFile.FieldType.int) RX6 2 := ⟨kim_X6_set, kse_X6_set, kco_X6_set, kin_X6, rfl, by decide, by decide, by decide⟩
theorem ca_X6_setShare : CaV yX6_setShare cX6_setShare 5 (some Jvm.ClassFile.FieldType.int) RX6 2 := ⟨kim_X6_setShare, kse_X6_setShare, kco_X6_setShare, kin_X6, rfl, by decide, by decide, by decide⟩
theorem ca_X6_setTarget : CaV yX6_setTarget cX6_setTarget 6 (some Jvm.ClassFile.FieldType.int) RX6 3 := ⟨kim_X6_setTarget, kse_X6_setTarget, kco_X6_setTarget, kin_X6, rfl, by decide, by decide, by decide⟩
theorem ca_X6_setCell : CaV yX6_setCell cX6_setCell 6 (some Jvm.ClassFile.FieldType.int) RX6 3 := ⟨kim_X6_setCell, kse_X6_setCell, kco_X6_setCell, kin_X6, rfl, by decide, by decide, by decide⟩
theorem ca_X6_read : CaV yX6_read cX6_read 4 (some Jvm.ClassFile.FieldType.int) RX6 3 := ⟨kim_X6_read, kse_X6_read, kco_X6_read, kin_X6, rfl, by decide, by decide, by decide⟩
theorem ca_X6_write : CaV yX6_write cX6_write 5 (some Jvm.ClassFile.FieldType.int) RX6 4 := ⟨kim_X6_write, kse_X6_write, kco_X6_write, kin_X6, rfl, by decide, by decide, by decide⟩
theorem ca_X6_ask : CaV yX6_ask cX6_ask 4 (some Jvm.ClassFile.FieldType.int) RX6 0 := ⟨kim_X6_ask, kse_X6_ask, kco_X6_ask, kin_X6, rfl, by decide, by decide, by decide⟩
theorem ca_X6_withdraw : CaV yX6_withdraw cX6_withdraw 3 (some Jvm.ClassFile.FieldType.int) RX6 1 := ⟨kim_X6_withdraw, kse_X6_withdraw, kco_X6_withdraw, kin_X6, rfl, by decide, by decide, by decide⟩
theorem ca_X6_pass : CaV yX6_pass cX6_pass 4 (some Jvm.ClassFile.FieldType.int) RX6 1 := ⟨kim_X6_pass, kse_X6_pass, kco_X6_pass, kin_X6, rfl, by decide, by decide, by decide⟩
theorem ca_X6_type : CaV yX6_type cX6_type 2 (some Jvm.ClassFile.FieldType.int) RX6 1 := ⟨kim_X6_type, kse_X6_type, kco_X6_type, kin_X6, rfl, by decide, by decide, by decide⟩
theorem ca_X6_clearText : CaV yX6_clearText cX6_clearText 2 (some Jvm.ClassFile.FieldType.int) RX6 0 := ⟨kim_X6_clearText, kse_X6_clearText, kco_X6_clearText, kin_X6, rfl, by decide, by decide, by decide⟩
theorem ca_X6_undo : CaV yX6_undo cX6_undo 2 (some Jvm.ClassFile.FieldType.int) RX6 0 := ⟨kim_X6_undo, kse_X6_undo, kco_X6_undo, kin_X6, rfl, by decide, by decide, by decide⟩
theorem ca_X6_keep : CaV yX6_keep cX6_keep 1 (some Jvm.ClassFile.FieldType.int) RX6 0 := ⟨kim_X6_keep, kse_X6_keep, kco_X6_keep, kin_X6, rfl, by decide, by decide, by decide⟩
theorem ca_X6_restore : CaV yX6_restore cX6_restore 1 (some Jvm.ClassFile.FieldType.int) RX6 0 := ⟨kim_X6_restore, kse_X6_restore, kco_X6_restore, kin_X6, rfl, by decide, by decide, by decide⟩
theorem ca_X6_question : CaV yX6_question cX6_question 4 (some Jvm.ClassFile.FieldType.int) RX6 2 := ⟨kim_X6_question, kse_X6_question, kco_X6_question, kin_X6, rfl, by decide, by decide, by decide⟩
theorem ca_X6_tag : CaV yX6_tag cX6_tag 2 (some Jvm.ClassFile.FieldType.int) RX6 1 := ⟨kim_X6_tag, kse_X6_tag, kco_X6_tag, kin_X6, rfl, by decide, by decide, by decide⟩
theorem ca_X6_master : CaV yX6_master cX6_master 4 (some Jvm.ClassFile.FieldType.int) RX6 2 := ⟨kim_X6_master, kse_X6_master, kco_X6_master, kin_X6, rfl, by decide, by decide, by decide⟩
theorem ca_X6_row : CaV yX6_row cX6_row 4 (some Jvm.ClassFile.FieldType.int) RX6 2 := ⟨kim_X6_row, kse_X6_row, kco_X6_row, kin_X6, rfl, by decide, by decide, by decide⟩
theorem ca_X6_target : CaV yX6_target cX6_target 4 (some Jvm.ClassFile.FieldType.int) RX6 2 := ⟨kim_X6_target, kse_X6_target, kco_X6_target, kin_X6, rfl, by decide, by decide, by decide⟩
theorem ca_X6_cell : CaV yX6_cell cX6_cell 4 (some Jvm.ClassFile.FieldType.int) RX6 2 := ⟨kim_X6_cell, kse_X6_cell, kco_X6_cell, kin_X6, rfl, by decide, by decide, by decide⟩
theorem ca_X6_next : CaV yX6_next cX6_next 3 (some Jvm.ClassFile.FieldType.int) RX6 1 := ⟨kim_X6_next, kse_X6_next, kco_X6_next, kin_X6, rfl, by decide, by decide, by decide⟩
theorem ca_X6_answeredIn : CaV yX6_answeredIn cX6_answeredIn 4 (some Jvm.ClassFile.FieldType.int) RX6 1 := ⟨kim_X6_answeredIn, kse_X6_answeredIn, kco_X6_answeredIn, kin_X6, rfl, by decide, by decide, by decide⟩
theorem ca_X6_count : CaV yX6_count cX6_count 2 (some Jvm.ClassFile.FieldType.int) RX6 1 := ⟨kim_X6_count, kse_X6_count, kco_X6_count, kin_X6, rfl, by decide, by decide, by decide⟩
theorem ca_X6_isIndex : CaS yX6_isIndex cX6_isIndex 2 (some Jvm.ClassFile.FieldType.boolean) RX6 2 := ⟨kst_X6_isIndex, kco_X6_isIndex, kin_X6, rfl, by decide, by decide, by decide⟩
theorem ca_X6_isBetween : CaS yX6_isBetween cX6_isBetween 3 (some Jvm.ClassFile.FieldType.boolean) RX6 3 := ⟨kst_X6_isBetween, kco_X6_isBetween, kin_X6, rfl, by decide, by decide, by decide⟩
theorem ca_X6_putOne : CaV yX6_putOne cX6_putOne 6 (some Jvm.ClassFile.FieldType.int) RX6 4 := ⟨kim_X6_putOne, kse_X6_putOne, kco_X6_putOne, kin_X6, rfl, by decide, by decide, by decide⟩
theorem ca_X6_hasRoomForText : CaV yX6_hasRoomForText cX6_hasRoomForText 3 (some Jvm.ClassFile.FieldType.boolean) RX6 0 := ⟨kim_X6_hasRoomForText, kse_X6_hasRoomForText, kco_X6_hasRoomForText, kin_X6, rfl, by decide, by decide, by decide⟩
theorem ca_X6_record : CaV yX6_record cX6_record 3 none RX6 0 := ⟨kim_X6_record, kse_X6_record, kco_X6_record, kin_X6, rfl, by decide, by decide, by decide⟩
theorem ca_X7_init : CaI yX7_init cX7_init 2 RX7 0 := ⟨kim_X7_init, kco_X7_init, kin_X7, rfl, rfl, by decide, by decide, by decide⟩
theorem ca_X7_in : CaS yX7_in cX7_in 3 (some Jvm.ClassFile.FieldType.boolean) RX7 3 := ⟨kst_X7_in, kco_X7_in, kin_X7, rfl, by decide, by decide, by decide⟩
theorem ca_X7_isPort : CaS yX7_isPort cX7_isPort 1 (some Jvm.ClassFile.FieldType.boolean) RX7 1 := ⟨kst_X7_isPort, kco_X7_isPort, kin_X7, rfl, by decide, by decide, by decide⟩
theorem ca_X7_ofMaster : CaS yX7_ofMaster cX7_ofMaster 2 (some Jvm.ClassFile.FieldType.int) RX7 2 := ⟨kst_X7_ofMaster, kco_X7_ofMaster, kin_X7, rfl, by decide, by decide, by decide⟩
theorem ca_X7_ofTarget : CaS yX7_ofTarget cX7_ofTarget 2 (some Jvm.ClassFile.FieldType.int) RX7 2 := ⟨kst_X7_ofTarget, kco_X7_ofTarget, kin_X7, rfl, by decide, by decide, by decide⟩
theorem ca_X7_of : CaS yX7_of cX7_of 2 (some Jvm.ClassFile.FieldType.int) RX7 2 := ⟨kst_X7_of, kco_X7_of, kin_X7, rfl, by decide, by decide, by decide⟩
theorem ca_X7_know : CaV yX7_know cX7_know 2 none RX7 0 := ⟨kim_X7_know, kse_X7_know, kco_X7_know, kin_X7, rfl, by decide, by decide, by decide⟩
theorem ca_X7_change : CaV yX7_change cX7_change 4 (some Jvm.ClassFile.FieldType.int) RX7 2 := ⟨kim_X7_change, kse_X7_change, kco_X7_change, kin_X7, rfl, by decide, by decide, by decide⟩
theorem ca_X7_isLentFrom : CaV yX7_isLentFrom cX7_isLentFrom 4 (some Jvm.ClassFile.FieldType.boolean) RX7 1 := ⟨kim_X7_isLentFrom, kse_X7_isLentFrom, kco_X7_isLentFrom, kin_X7, rfl, by decide, by decide, by decide⟩
theorem ca_X7_set : CaV yX7_set cX7_set 3 (some Jvm.ClassFile.FieldType.int) RX7 2 := ⟨kim_X7_set, kse_X7_set, kco_X7_set, kin_X7, rfl, by decide, by decide, by decide⟩
theorem ca_X7_setShare : CaV yX7_setShare cX7_setShare 3 (some Jvm.ClassFile.FieldType.int) RX7 2 := ⟨kim_X7_setShare, kse_X7_setShare, kco_X7_setShare, kin_X7, rfl, by decide, by decide, by decide⟩
theorem ca_X7_setTarget : CaV yX7_setTarget cX7_setTarget 4 (some Jvm.ClassFile.FieldType.int) RX7 3 := ⟨kim_X7_setTarget, kse_X7_setTarget, kco_X7_setTarget, kin_X7, rfl, by decide, by decide, by decide⟩
theorem ca_X7_setCell : CaV yX7_setCell cX7_setCell 4 (some Jvm.ClassFile.FieldType.int) RX7 3 := ⟨kim_X7_setCell, kse_X7_setCell, kco_X7_setCell, kin_X7, rfl, by decide, by decide, by decide⟩
theorem ca_X7_isRoom : CaV yX7_isRoom cX7_isRoom 2 (some Jvm.ClassFile.FieldType.boolean) RX7 1 := ⟨kim_X7_isRoom, kse_X7_isRoom, kco_X7_isRoom, kin_X7, rfl, by decide, by decide, by decide⟩
theorem ca_X7_put : CaV yX7_put cX7_put 6 (some Jvm.ClassFile.FieldType.int) RX7 4 := ⟨kim_X7_put, kse_X7_put, kco_X7_put, kin_X7, rfl, by decide, by decide, by decide⟩
theorem ca_X7_read : CaV yX7_read cX7_read 4 (some Jvm.ClassFile.FieldType.int) RX7 3 := ⟨kim_X7_read, kse_X7_read, kco_X7_read, kin_X7, rfl, by decide, by decide, by decide⟩
theorem ca_X7_write : CaV yX7_write cX7_write 5 (some Jvm.ClassFile.FieldType.int) RX7 4 := ⟨kim_X7_write, kse_X7_write, kco_X7_write, kin_X7, rfl, by decide, by decide, by decide⟩
theorem ca_X7_withdraw : CaV yX7_withdraw cX7_withdraw 4 (some Jvm.ClassFile.FieldType.int) RX7 1 := ⟨kim_X7_withdraw, kse_X7_withdraw, kco_X7_withdraw, kin_X7, rfl, by decide, by decide, by decide⟩
theorem ca_X7_sign : CaV yX7_sign cX7_sign 4 (some Jvm.ClassFile.FieldType.int) RX7 2 := ⟨kim_X7_sign, kse_X7_sign, kco_X7_sign, kin_X7, rfl, by decide, by decide, by decide⟩
theorem ca_X7_number : CaV yX7_number cX7_number 4 (some Jvm.ClassFile.FieldType.int) RX7 1 := ⟨kim_X7_number, kse_X7_number, kco_X7_number, kin_X7, rfl, by decide, by decide, by decide⟩
theorem ca_X7_question : CaV yX7_question cX7_question 5 none RX7 0 := ⟨kim_X7_question, kse_X7_question, kco_X7_question, kin_X7, rfl, by decide, by decide, by decide⟩
theorem ca_X7_go : CaV yX7_go cX7_go 5 (some Jvm.ClassFile.FieldType.int) RX7 1 := ⟨kim_X7_go, kse_X7_go, kco_X7_go, kin_X7, rfl, by decide, by decide, by decide⟩
theorem ca_X7_ask : CaV yX7_ask cX7_ask 4 (some Jvm.ClassFile.FieldType.int) RX7 0 := ⟨kim_X7_ask, kse_X7_ask, kco_X7_ask, kin_X7, rfl, by decide, by decide, by decide⟩
theorem ca_X7_type : CaV yX7_type cX7_type 2 (some Jvm.ClassFile.FieldType.int) RX7 1 := ⟨kim_X7_type, kse_X7_type, kco_X7_type, kin_X7, rfl, by decide, by decide, by decide⟩
theorem ca_X7_clearText : CaV yX7_clearText cX7_clearText 2 (some Jvm.ClassFile.FieldType.int) RX7 0 := ⟨kim_X7_clearText, kse_X7_clearText, kco_X7_clearText, kin_X7, rfl, by decide, by decide, by decide⟩
theorem ca_X7_freeTag : CaV yX7_freeTag cX7_freeTag 2 (some Jvm.ClassFile.FieldType.int) RX7 0 := ⟨kim_X7_freeTag, kse_X7_freeTag, kco_X7_freeTag, kin_X7, rfl, by decide, by decide, by decide⟩
theorem ca_X7_holds : CaV yX7_holds cX7_holds 4 (some Jvm.ClassFile.FieldType.int) RX7 1 := ⟨kim_X7_holds, kse_X7_holds, kco_X7_holds, kin_X7, rfl, by decide, by decide, by decide⟩
theorem ca_X7_doAll : CaV yX7_doAll cX7_doAll 5 none RX7 0 := ⟨kim_X7_doAll, kse_X7_doAll, kco_X7_doAll, kin_X7, rfl, by decide, by decide, by decide⟩
theorem ca_X7_answering : CaV yX7_answering cX7_answering 7 (some Jvm.ClassFile.FieldType.int) RX7 1 := ⟨kim_X7_answering, kse_X7_answering, kco_X7_answering, kin_X7, rfl, by decide, by decide, by decide⟩
theorem ca_X7_targetThatGoes : CaV yX7_targetThatGoes cX7_targetThatGoes 3 (some Jvm.ClassFile.FieldType.int) RX7 0 := ⟨kim_X7_targetThatGoes, kse_X7_targetThatGoes, kco_X7_targetThatGoes, kin_X7, rfl, by decide, by decide, by decide⟩
theorem ca_X7_canSend : CaV yX7_canSend cX7_canSend 2 (some Jvm.ClassFile.FieldType.boolean) RX7 1 := ⟨kim_X7_canSend, kse_X7_canSend, kco_X7_canSend, kin_X7, rfl, by decide, by decide, by decide⟩
theorem ca_X7_masterThatGoes : CaV yX7_masterThatGoes cX7_masterThatGoes 4 (some Jvm.ClassFile.FieldType.int) RX7 0 := ⟨kim_X7_masterThatGoes, kse_X7_masterThatGoes, kco_X7_masterThatGoes, kin_X7, rfl, by decide, by decide, by decide⟩
theorem ca_X7_answers : CaV yX7_answers cX7_answers 5 (some Jvm.ClassFile.FieldType.int) RX7 1 := ⟨kim_X7_answers, kse_X7_answers, kco_X7_answers, kin_X7, rfl, by decide, by decide, by decide⟩
theorem ca_X7_sends : CaV yX7_sends cX7_sends 6 (some Jvm.ClassFile.FieldType.int) RX7 1 := ⟨kim_X7_sends, kse_X7_sends, kco_X7_sends, kin_X7, rfl, by decide, by decide, by decide⟩
theorem ca_X7_tick : CaV yX7_tick cX7_tick 8 (some Jvm.ClassFile.FieldType.int) RX7 0 := ⟨kim_X7_tick, kse_X7_tick, kco_X7_tick, kin_X7, rfl, by decide, by decide, by decide⟩
theorem ca_X7_pass : CaV yX7_pass cX7_pass 4 (some Jvm.ClassFile.FieldType.int) RX7 1 := ⟨kim_X7_pass, kse_X7_pass, kco_X7_pass, kin_X7, rfl, by decide, by decide, by decide⟩
theorem ca_X7_undo : CaV yX7_undo cX7_undo 2 (some Jvm.ClassFile.FieldType.int) RX7 0 := ⟨kim_X7_undo, kse_X7_undo, kco_X7_undo, kin_X7, rfl, by decide, by decide, by decide⟩
theorem ca_X7_keep : CaV yX7_keep cX7_keep 2 (some Jvm.ClassFile.FieldType.int) RX7 0 := ⟨kim_X7_keep, kse_X7_keep, kco_X7_keep, kin_X7, rfl, by decide, by decide, by decide⟩
theorem ca_X7_restore : CaV yX7_restore cX7_restore 2 (some Jvm.ClassFile.FieldType.int) RX7 0 := ⟨kim_X7_restore, kse_X7_restore, kco_X7_restore, kin_X7, rfl, by decide, by decide, by decide⟩
theorem ca_X7_isQuestion : CaV yX7_isQuestion cX7_isQuestion 2 (some Jvm.ClassFile.FieldType.boolean) RX7 1 := ⟨kim_X7_isQuestion, kse_X7_isQuestion, kco_X7_isQuestion, kin_X7, rfl, by decide, by decide, by decide⟩
theorem ca_X7_question_ : CaV yX7_question_ cX7_question_ 3 (some Jvm.ClassFile.FieldType.int) RX7 2 := ⟨kim_X7_question_, kse_X7_question_, kco_X7_question_, kin_X7, rfl, by decide, by decide, by decide⟩
theorem ca_X7_tag : CaV yX7_tag cX7_tag 2 (some Jvm.ClassFile.FieldType.int) RX7 1 := ⟨kim_X7_tag, kse_X7_tag, kco_X7_tag, kin_X7, rfl, by decide, by decide, by decide⟩
theorem ca_X7_answered : CaV yX7_answered cX7_answered 6 (some Jvm.ClassFile.FieldType.int) RX7 2 := ⟨kim_X7_answered, kse_X7_answered, kco_X7_answered, kin_X7, rfl, by decide, by decide, by decide⟩
theorem ca_X7_master : CaV yX7_master cX7_master 5 (some Jvm.ClassFile.FieldType.int) RX7 2 := ⟨kim_X7_master, kse_X7_master, kco_X7_master, kin_X7, rfl, by decide, by decide, by decide⟩
theorem ca_X7_row : CaV yX7_row cX7_row 3 (some Jvm.ClassFile.FieldType.int) RX7 2 := ⟨kim_X7_row, kse_X7_row, kco_X7_row, kin_X7, rfl, by decide, by decide, by decide⟩
theorem ca_X7_doneIn : CaV yX7_doneIn cX7_doneIn 4 (some Jvm.ClassFile.FieldType.int) RX7 1 := ⟨kim_X7_doneIn, kse_X7_doneIn, kco_X7_doneIn, kin_X7, rfl, by decide, by decide, by decide⟩
theorem ca_X7_target : CaV yX7_target cX7_target 4 (some Jvm.ClassFile.FieldType.int) RX7 2 := ⟨kim_X7_target, kse_X7_target, kco_X7_target, kin_X7, rfl, by decide, by decide, by decide⟩
theorem ca_X7_cell : CaV yX7_cell cX7_cell 3 (some Jvm.ClassFile.FieldType.int) RX7 2 := ⟨kim_X7_cell, kse_X7_cell, kco_X7_cell, kin_X7, rfl, by decide, by decide, by decide⟩
theorem ca_X7_putAside : CaV yX7_putAside cX7_putAside 2 none RX7 0 := ⟨kim_X7_putAside, kse_X7_putAside, kco_X7_putAside, kin_X7, rfl, by decide, by decide, by decide⟩
theorem ca_X7_putBack : CaV yX7_putBack cX7_putBack 2 none RX7 0 := ⟨kim_X7_putBack, kse_X7_putBack, kco_X7_putBack, kin_X7, rfl, by decide, by decide, by decide⟩
theorem ca_X7_next : CaV yX7_next cX7_next 3 (some Jvm.ClassFile.FieldType.int) RX7 1 := ⟨kim_X7_next, kse_X7_next, kco_X7_next, kin_X7, rfl, by decide, by decide, by decide⟩
theorem ca_X7_answeredIn : CaV yX7_answeredIn cX7_answeredIn 4 (some Jvm.ClassFile.FieldType.int) RX7 1 := ⟨kim_X7_answeredIn, kse_X7_answeredIn, kco_X7_answeredIn, kin_X7, rfl, by decide, by decide, by decide⟩
theorem ca_X7_freeTags : CaV yX7_freeTags cX7_freeTags 3 (some Jvm.ClassFile.FieldType.int) RX7 0 := ⟨kim_X7_freeTags, kse_X7_freeTags, kco_X7_freeTags, kin_X7, rfl, by decide, by decide, by decide⟩
theorem ca_X7_count : CaV yX7_count cX7_count 2 (some Jvm.ClassFile.FieldType.int) RX7 1 := ⟨kim_X7_count, kse_X7_count, kco_X7_count, kin_X7, rfl, by decide, by decide, by decide⟩
theorem ca_X0_init : CaI yX0_init cX0_init 2 RX0 0 := ⟨kim_X0_init, kco_X0_init, kin_X0, rfl, rfl, by decide, by decide, by decide⟩
theorem ca_X0_copyFrom : CaV yX0_copyFrom cX0_copyFrom 3 none RX0 1 := ⟨kim_X0_copyFrom, kse_X0_copyFrom, kco_X0_copyFrom, kin_X0, rfl, by decide, by decide, by decide⟩
theorem ca_X0_masterAt : CaV yX0_masterAt cX0_masterAt 2 (some (Jvm.ClassFile.FieldType.object "TagBus$Master")) RX0 1 := ⟨kim_X0_masterAt, kse_X0_masterAt, kco_X0_masterAt, kin_X0, rfl, by decide, by decide, by decide⟩
theorem ca_X0_targetAt : CaV yX0_targetAt cX0_targetAt 2 (some (Jvm.ClassFile.FieldType.object "TagBus$Target")) RX0 1 := ⟨kim_X0_targetAt, kse_X0_targetAt, kco_X0_targetAt, kin_X0, rfl, by decide, by decide, by decide⟩
theorem ca_X0_questionAt : CaV yX0_questionAt cX0_questionAt 2 (some (Jvm.ClassFile.FieldType.object "TagBus$Question")) RX0 1 := ⟨kim_X0_questionAt, kse_X0_questionAt, kco_X0_questionAt, kin_X0, rfl, by decide, by decide, by decide⟩
theorem ca_X0_highestLentTag : CaV yX0_highestLentTag cX0_highestLentTag 3 (some Jvm.ClassFile.FieldType.int) RX0 0 := ⟨kim_X0_highestLentTag, kse_X0_highestLentTag, kco_X0_highestLentTag, kin_X0, rfl, by decide, by decide, by decide⟩
theorem ca_X0_freeTags : CaV yX0_freeTags cX0_freeTags 3 (some Jvm.ClassFile.FieldType.int) RX0 0 := ⟨kim_X0_freeTags, kse_X0_freeTags, kco_X0_freeTags, kin_X0, rfl, by decide, by decide, by decide⟩
theorem ca_X0_lowestFreeTag : CaV yX0_lowestFreeTag cX0_lowestFreeTag 2 (some Jvm.ClassFile.FieldType.int) RX0 0 := ⟨kim_X0_lowestFreeTag, kse_X0_lowestFreeTag, kco_X0_lowestFreeTag, kin_X0, rfl, by decide, by decide, by decide⟩
theorem ca_X0_put : CaV yX0_put cX0_put 7 (some Jvm.ClassFile.FieldType.int) RX0 4 := ⟨kim_X0_put, kse_X0_put, kco_X0_put, kin_X0, rfl, by decide, by decide, by decide⟩
theorem ca_X0_takeLastOf : CaV yX0_takeLastOf cX0_takeLastOf 5 (some Jvm.ClassFile.FieldType.int) RX0 1 := ⟨kim_X0_takeLastOf, kse_X0_takeLastOf, kco_X0_takeLastOf, kin_X0, rfl, by decide, by decide, by decide⟩
theorem ca_X0_doneIn : CaV yX0_doneIn cX0_doneIn 5 (some Jvm.ClassFile.FieldType.int) RX0 1 := ⟨kim_X0_doneIn, kse_X0_doneIn, kco_X0_doneIn, kin_X0, rfl, by decide, by decide, by decide⟩
theorem ca_X0_isOutOfPatience : CaV yX0_isOutOfPatience cX0_isOutOfPatience 2 (some Jvm.ClassFile.FieldType.boolean) RX0 1 := ⟨kim_X0_isOutOfPatience, kse_X0_isOutOfPatience, kco_X0_isOutOfPatience, kin_X0, rfl, by decide, by decide, by decide⟩
theorem ca_X0_passTick : CaV yX0_passTick cX0_passTick 3 (some Jvm.ClassFile.FieldType.int) RX0 0 := ⟨kim_X0_passTick, kse_X0_passTick, kco_X0_passTick, kin_X0, rfl, by decide, by decide, by decide⟩
theorem ca_X0_finishQuestions : CaV yX0_finishQuestions cX0_finishQuestions 7 none RX0 0 := ⟨kim_X0_finishQuestions, kse_X0_finishQuestions, kco_X0_finishQuestions, kin_X0, rfl, by decide, by decide, by decide⟩
theorem ca_X0_makeTrip : CaV yX0_makeTrip cX0_makeTrip 3 (some Jvm.ClassFile.FieldType.int) RX0 0 := ⟨kim_X0_makeTrip, kse_X0_makeTrip, kco_X0_makeTrip, kin_X0, rfl, by decide, by decide, by decide⟩
theorem ca_X0_prefersAnswer : CaV yX0_prefersAnswer cX0_prefersAnswer 2 (some Jvm.ClassFile.FieldType.boolean) RX0 0 := ⟨kim_X0_prefersAnswer, kse_X0_prefersAnswer, kco_X0_prefersAnswer, kin_X0, rfl, by decide, by decide, by decide⟩
theorem ca_X0_targetThatAnswers : CaV yX0_targetThatAnswers cX0_targetThatAnswers 4 (some Jvm.ClassFile.FieldType.int) RX0 0 := ⟨kim_X0_targetThatAnswers, kse_X0_targetThatAnswers, kco_X0_targetThatAnswers, kin_X0, rfl, by decide, by decide, by decide⟩
theorem ca_X0_placeOfAnswer : CaV yX0_placeOfAnswer cX0_placeOfAnswer 8 (some Jvm.ClassFile.FieldType.int) RX0 1 := ⟨kim_X0_placeOfAnswer, kse_X0_placeOfAnswer, kco_X0_placeOfAnswer, kin_X0, rfl, by decide, by decide, by decide⟩
theorem ca_X0_masterThatSends : CaV yX0_masterThatSends cX0_masterThatSends 5 (some Jvm.ClassFile.FieldType.int) RX0 0 := ⟨kim_X0_masterThatSends, kse_X0_masterThatSends, kco_X0_masterThatSends, kin_X0, rfl, by decide, by decide, by decide⟩
theorem ca_X0_masterThatWaitedTooLong : CaV yX0_masterThatWaitedTooLong cX0_masterThatWaitedTooLong 5 (some Jvm.ClassFile.FieldType.int) RX0 0 := ⟨kim_X0_masterThatWaitedTooLong, kse_X0_masterThatWaitedTooLong, kco_X0_masterThatWaitedTooLong, kin_X0, rfl, by decide, by decide, by decide⟩
theorem ca_X0_maySend : CaV yX0_maySend cX0_maySend 2 (some Jvm.ClassFile.FieldType.boolean) RX0 1 := ⟨kim_X0_maySend, kse_X0_maySend, kco_X0_maySend, kin_X0, rfl, by decide, by decide, by decide⟩
theorem ca_X0_sendQuestionOf : CaV yX0_sendQuestionOf cX0_sendQuestionOf 6 (some Jvm.ClassFile.FieldType.int) RX0 1 := ⟨kim_X0_sendQuestionOf, kse_X0_sendQuestionOf, kco_X0_sendQuestionOf, kin_X0, rfl, by decide, by decide, by decide⟩
theorem ca_X0_refuse : CaV yX0_refuse cX0_refuse 4 none RX0 2 := ⟨kim_X0_refuse, kse_X0_refuse, kco_X0_refuse, kin_X0, rfl, by decide, by decide, by decide⟩
theorem ca_X0_letIn : CaV yX0_letIn cX0_letIn 6 none RX0 3 := ⟨kim_X0_letIn, kse_X0_letIn, kco_X0_letIn, kin_X0, rfl, by decide, by decide, by decide⟩
theorem ca_X0_sendAnswerOf : CaV yX0_sendAnswerOf cX0_sendAnswerOf 6 (some Jvm.ClassFile.FieldType.int) RX0 1 := ⟨kim_X0_sendAnswerOf, kse_X0_sendAnswerOf, kco_X0_sendAnswerOf, kin_X0, rfl, by decide, by decide, by decide⟩
theorem ca_X0_takeTagBack : CaV yX0_takeTagBack cX0_takeTagBack 2 none RX0 1 := ⟨kim_X0_takeTagBack, kse_X0_takeTagBack, kco_X0_takeTagBack, kin_X0, rfl, by decide, by decide, by decide⟩
theorem ca_X0_noteAnswer : CaV yX0_noteAnswer cX0_noteAnswer 3 none RX0 2 := ⟨kim_X0_noteAnswer, kse_X0_noteAnswer, kco_X0_noteAnswer, kin_X0, rfl, by decide, by decide, by decide⟩
theorem ca_X0_countWaits : CaV yX0_countWaits cX0_countWaits 4 none RX0 1 := ⟨kim_X0_countWaits, kse_X0_countWaits, kco_X0_countWaits, kin_X0, rfl, by decide, by decide, by decide⟩
theorem ca_X1_init : CaI yX1_init cX1_init 1 RX1 0 := ⟨kim_X1_init, kco_X1_init, kin_X1, rfl, rfl, by decide, by decide, by decide⟩
theorem ca_X1_at : CaV yX1_at cX1_at 2 (some Jvm.ClassFile.FieldType.int) RX1 1 := ⟨kim_X1_at, kse_X1_at, kco_X1_at, kin_X1, rfl, by decide, by decide, by decide⟩
theorem ca_X1_append : CaV yX1_append cX1_append 2 none RX1 1 := ⟨kim_X1_append, kse_X1_append, kco_X1_append, kin_X1, rfl, by decide, by decide, by decide⟩
theorem ca_X1_removeAt : CaV yX1_removeAt cX1_removeAt 3 none RX1 1 := ⟨kim_X1_removeAt, kse_X1_removeAt, kco_X1_removeAt, kin_X1, rfl, by decide, by decide, by decide⟩
theorem ca_X1_copyFrom : CaV yX1_copyFrom cX1_copyFrom 2 none RX1 1 := ⟨kim_X1_copyFrom, kse_X1_copyFrom, kco_X1_copyFrom, kin_X1, rfl, by decide, by decide, by decide⟩
theorem ca_X2_init : CaI yX2_init cX2_init 1 RX2 0 := ⟨kim_X2_init, kco_X2_init, kin_X2, rfl, rfl, by decide, by decide, by decide⟩
theorem ca_X2_copyFrom : CaV yX2_copyFrom cX2_copyFrom 2 none RX2 1 := ⟨kim_X2_copyFrom, kse_X2_copyFrom, kco_X2_copyFrom, kin_X2, rfl, by decide, by decide, by decide⟩
theorem ca_X3_init : CaI yX3_init cX3_init 1 RX3 0 := ⟨kim_X3_init, kco_X3_init, kin_X3, rfl, rfl, by decide, by decide, by decide⟩
theorem ca_X3_begin : CaV yX3_begin cX3_begin 6 none RX3 5 := ⟨kim_X3_begin, kse_X3_begin, kco_X3_begin, kin_X3, rfl, by decide, by decide, by decide⟩
theorem ca_X3_copyFrom : CaV yX3_copyFrom cX3_copyFrom 2 none RX3 1 := ⟨kim_X3_copyFrom, kse_X3_copyFrom, kco_X3_copyFrom, kin_X3, rfl, by decide, by decide, by decide⟩
theorem ca_X4_init : CaI yX4_init cX4_init 2 RX4 0 := ⟨kim_X4_init, kco_X4_init, kin_X4, rfl, rfl, by decide, by decide, by decide⟩
theorem ca_X4_append : CaV yX4_append cX4_append 2 (some Jvm.ClassFile.FieldType.boolean) RX4 1 := ⟨kim_X4_append, kse_X4_append, kco_X4_append, kin_X4, rfl, by decide, by decide, by decide⟩
theorem ca_X4_questionAt : CaV yX4_questionAt cX4_questionAt 2 (some (Jvm.ClassFile.FieldType.object "TagBus$Question")) RX4 1 := ⟨kim_X4_questionAt, kse_X4_questionAt, kco_X4_questionAt, kin_X4, rfl, by decide, by decide, by decide⟩
theorem ca_X4_foundOf : CaV yX4_foundOf cX4_foundOf 4 (some Jvm.ClassFile.FieldType.int) RX4 1 := ⟨kim_X4_foundOf, kse_X4_foundOf, kco_X4_foundOf, kin_X4, rfl, by decide, by decide, by decide⟩
theorem ca_X4_findFault : CaV yX4_findFault cX4_findFault 2 (some Jvm.ClassFile.FieldType.int) RX4 0 := ⟨kim_X4_findFault, kse_X4_findFault, kco_X4_findFault, kin_X4, rfl, by decide, by decide, by decide⟩
theorem ca_X4_readQuestion : CaV yX4_readQuestion cX4_readQuestion 7 (some Jvm.ClassFile.FieldType.boolean) RX4 1 := ⟨kim_X4_readQuestion, kse_X4_readQuestion, kco_X4_readQuestion, kin_X4, rfl, by decide, by decide, by decide⟩
theorem ca_X4_skip : CaV yX4_skip cX4_skip 2 (some Jvm.ClassFile.FieldType.boolean) RX4 1 := ⟨kim_X4_skip, kse_X4_skip, kco_X4_skip, kin_X4, rfl, by decide, by decide, by decide⟩
theorem ca_X4_readNumber : CaV yX4_readNumber cX4_readNumber 4 (some Jvm.ClassFile.FieldType.int) RX4 1 := ⟨kim_X4_readNumber, kse_X4_readNumber, kco_X4_readNumber, kin_X4, rfl, by decide, by decide, by decide⟩
theorem ca_X4_digitAt : CaV yX4_digitAt cX4_digitAt 3 (some Jvm.ClassFile.FieldType.int) RX4 1 := ⟨kim_X4_digitAt, kse_X4_digitAt, kco_X4_digitAt, kin_X4, rfl, by decide, by decide, by decide⟩
theorem ca_X5_init : CaI yX5_init cX5_init 1 RX5 0 := ⟨kim_X5_init, kco_X5_init, kin_X5, rfl, rfl, by decide, by decide, by decide⟩
theorem ca_X5_isFull : CaV yX5_isFull cX5_isFull 1 (some Jvm.ClassFile.FieldType.boolean) RX5 0 := ⟨kim_X5_isFull, kse_X5_isFull, kco_X5_isFull, kin_X5, rfl, by decide, by decide, by decide⟩
theorem ca_X5_useCell : CaV yX5_useCell cX5_useCell 4 (some Jvm.ClassFile.FieldType.int) RX5 2 := ⟨kim_X5_useCell, kse_X5_useCell, kco_X5_useCell, kin_X5, rfl, by decide, by decide, by decide⟩
theorem ca_X5_copyFrom : CaV yX5_copyFrom cX5_copyFrom 2 none RX5 1 := ⟨kim_X5_copyFrom, kse_X5_copyFrom, kco_X5_copyFrom, kin_X5, rfl, by decide, by decide, by decide⟩
