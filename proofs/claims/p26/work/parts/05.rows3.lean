theorem cN : ∀ v ∈ ([] : List Value), v.category = 1 := fun v h => by cases h
theorem cI {x : Int32} {vs : List Value} (h : ∀ v ∈ vs, v.category = 1) : ∀ v ∈ (Value.int x :: vs), v.category = 1 := fun v hv => by
  rcases List.mem_cons.mp hv with rfl | hv
  · rfl
  · exact h v hv
theorem cR {x : Nat} {vs : List Value} (h : ∀ v ∈ vs, v.category = 1) : ∀ v ∈ (Value.ref x :: vs), v.category = 1 := fun v hv => by
  rcases List.mem_cons.mp hv with rfl | hv
  · rfl
  · exact h v hv
theorem cO {x : Option Nat} {vs : List Value} (h : ∀ v ∈ vs, v.category = 1) : ∀ v ∈ (va_rf x :: vs), v.category = 1 := fun v hv => by
  rcases List.mem_cons.mp hv with rfl | hv
  · exact cat_rf x
  · exact h v hv
theorem bz_fit {x : Int32} (h : bz x) : fits .boolean (.int x) = true := by rcases h with rfl | rfl <;> rfl
section MR3
variable {p : Program} {l : Launch} {e : Env} {rm : Room} {s : State} {m : MethodId} {args : Array Value} {below : List Frame} {meth : Method} {c : Code} {H : Heap} {locs : List Loc} {cells slots : Nat} {Qw : State → Prop}
variable {cc : ByteArray} {nL pc : Nat} {ls : Array Slot} {rest st0 : List Value} {E : Ev} {K : MK} {R : MR} {I : MI} {n a : Nat} {own : String} {ret : Option FieldType}
theorem w_iald (C : Cx E p s m meth c cc nL own ret args) (hR : Rep E K R I n H) {N j : Nat} (hKa : K a = some (.inl (0, N))) {i : Int32} (hin : vp_in i N) (hj : ix i = j) (hdg : decode cc pc = .ok (.iaload, 1))
    (kk : W p l e rm s m args below meth c H locs cells slots Qw (F0 m (pc + 1) ls (.int (I a j) :: rest))) : W p l e rm s m args below meth c H locs cells slots Qw (F0 m pc ls (.int i :: .ref a :: rest)) := by
  subst hj
  exact v_iald C hR hKa hin hdg kk
theorem w_cald (C : Cx E p s m meth c cc nL own ret args) (hR : Rep E K R I n H) {N j : Nat} (hKa : K a = some (.inl (1, N))) {i : Int32} (hin : vp_in i N) (hj : ix i = j) (hdg : decode cc pc = .ok (.caload, 1))
    (kk : W p l e rm s m args below meth c H locs cells slots Qw (F0 m (pc + 1) ls (.int (I a j) :: rest))) : W p l e rm s m args below meth c H locs cells slots Qw (F0 m pc ls (.int i :: .ref a :: rest)) := by
  subst hj
  exact v_cald C hR hKa hin hdg kk
theorem w_aald (C : Cx E p s m meth c cc nL own ret args) (hR : Rep E K R I n H) {N t j w : Nat} (hKa : K a = some (.inl (t, N))) (ht : t < 6) (hr : isI t = false) (hty : (tyA t).isReference = true) {i : Int32} (hin : vp_in i N) (hj : ix i = j) (hv : R a j (I a j) = some w) (hdg : decode cc pc = .ok (.aaload, 1))
    (kk : W p l e rm s m args below meth c H locs cells slots Qw (F0 m (pc + 1) ls (.ref w :: rest))) : W p l e rm s m args below meth c H locs cells slots Qw (F0 m pc ls (.int i :: .ref a :: rest)) := by
  subst hj
  exact v_aald C hR hKa ht hr hty hin hv hdg kk
theorem w_iast (C : Cx E p s m meth c cc nL own ret args) (hR : Rep E K R I n H) (hS : va_S (AA E) s.heap H locs) {N j : Nat} (hKa : K a = some (.inl (0, N))) {i x : Int32} (hin : vp_in i N) (hj : ix i = j) {I1 : MI} (hI : I1 = upI I a j x) (hdg : decode cc pc = .ok (.iastore, 1))
    (kk : ∀ (H1 : Heap) (locs1 : List Loc), Rep E K R I1 n H1 → va_S (AA E) s.heap H1 locs1 → W p l e rm s m args below meth c H1 locs1 cells slots Qw (F0 m (pc + 1) ls rest)) : W p l e rm s m args below meth c H locs cells slots Qw (F0 m pc ls (.int x :: .int i :: .ref a :: rest)) := by
  subst hj
  exact v_iast C hR hS hKa hin hI hdg kk
theorem w_cast (C : Cx E p s m meth c cc nL own ret args) (hR : Rep E K R I n H) (hS : va_S (AA E) s.heap H locs) {N j : Nat} (hKa : K a = some (.inl (1, N))) {i x : Int32} (hin : vp_in i N) (hj : ix i = j) {I1 : MI} (hI : I1 = upI I a j (vp_nar .char x)) (hdg : decode cc pc = .ok (.castore, 1))
    (kk : ∀ (H1 : Heap) (locs1 : List Loc), Rep E K R I1 n H1 → va_S (AA E) s.heap H1 locs1 → W p l e rm s m args below meth c H1 locs1 cells slots Qw (F0 m (pc + 1) ls rest)) : W p l e rm s m args below meth c H locs cells slots Qw (F0 m pc ls (.int x :: .int i :: .ref a :: rest)) := by
  subst hj
  exact v_cast C hR hS hKa hin hI hdg kk
/-- a reference into the array of the past: its ghost -/
theorem w_past {b j : Nat} {g i : Int32} (C : Cx E p s m meth c cc nL own ret args) (hR : Rep E K R I n H) (hS : va_S (AA E) s.heap H locs) (hKa : K a = some (.inl (5, 4))) (hKw : K (pastA b g) = some (.inr 0)) (hin : vp_in i 4) (hj : ix i = j) (hg : R a j g = some (pastA b g)) {I1 : MI} (hI : I1 = upI I a j g) (hdg : decode cc pc = .ok (.aastore, 1))
    (kk : ∀ (H1 : Heap) (locs1 : List Loc), Rep E K R I1 n H1 → va_S (AA E) s.heap H1 locs1 → W p l e rm s m args below meth c H1 locs1 cells slots Qw (F0 m (pc + 1) ls rest)) : W p l e rm s m args below meth c H locs cells slots Qw (F0 m pc ls (.ref (pastA b g) :: .int i :: .ref a :: rest)) := by
  subst hj
  subst hI
  refine v_aast (t := 5) (ci := 0) (R1 := R) (I1 := upI I a (ix i) g) C hR hS hKa (by decide) rfl rfl rfl hKw hin ?_ (fun b h => upI_ne I _ _ h) (fun _ _ => rfl) hdg kk
  funext q
  by_cases h : q = ix i
  · subst h
    simp [upI, updV, hg, va_rf]
  · simp [upI, updV, h]
theorem w_ireti {ty : FieldType} {Q : Int32 → MI → Prop} (C : Cx E p s m meth c cc nL own ret args) (hr : ret = some ty) {v : Int32} (hn : narrow ty (.int v) = .int v) (hR : Rep E K R I n H) (hS : va_S (AA E) s.heap H locs) (hQ : Q v I) (hdg : decode cc pc = .ok (.ireturn, 1)) :
    W p l e rm s m args below meth c H locs cells slots (MQ below (QcM E (Qi K R n Q)) args s cells slots (AA E)) (F0 m pc ls [.int v]) :=
  v_iret C hr hn hR hS ⟨rfl, rfl, rfl, v, rfl, hQ⟩ hdg
theorem w_vret {Q : MI → Prop} (C : Cx E p s m meth c cc nL own ret args) (hr : ret = none) (hR : Rep E K R I n H) (hS : va_S (AA E) s.heap H locs) (hQ : Q I) (hdg : decode cc pc = .ok (.return_, 1)) :
    W p l e rm s m args below meth c H locs cells slots (MQ below (QcM E (Qv K R n Q)) args s cells slots (AA E)) (F0 m pc ls []) :=
  v_vret C hr hR hS ⟨rfl, rfl, rfl, rfl, hQ⟩ hdg
theorem w_aret {C0 : String} {o : Option Nat} {Q : Option Nat → MI → Prop} (C : Cx E p s m meth c cc nL own ret args) (hr : ret = some (.object C0)) (hR : Rep E K R I n H) (hS : va_S (AA E) s.heap H locs) (hQ : Q o I) (hdg : decode cc pc = .ok (.areturn, 1)) :
    W p l e rm s m args below meth c H locs cells slots (MQ below (QcM E (Qo K R n Q)) args s cells slots (AA E)) (F0 m pc ls [va_rf o]) :=
  v_aret C hr hR hS ⟨rfl, rfl, rfl, o, rfl, hQ⟩ hdg
end MR3
section MR4
variable {p : Program} {l : Launch} {e : Env} {rm : Room} {s : State} {m : MethodId} {args : Array Value} {below : List Frame} {meth : Method} {c : Code} {H : Heap} {locs : List Loc} {cells slots : Nat} {Qw : State → Prop}
variable {cc : ByteArray} {nL pc : Nat} {ls : Array Slot} {rest st0 : List Value} {E : Ev} {K : MK} {R : MR} {I : MI} {n a : Nat} {own : String} {ret : Option FieldType}
theorem w_new {C0 : String} {T : u_T} {N ci index : Nat} {K1 : MK} {R1 : MR} {I1 : MI} (C : Cx E p s m meth c cc nL own ret args) (hR : Rep E K R I n H) (hS : va_S (AA E) s.heap H locs) (hcl : Cond.classLink own index C0 ∈ Gt) (hinst : Cond.instantiable C0 N ∈ Gt) (hini : Cond.initialized C0 ∈ Gt) (hc : vwCl[ci]? = some (C0, T, N)) (hin : ∀ w ∈ u_ws C0 T N, w ∈ Gt) (ty0 : Nat → FieldType) (hty : ∀ k, k < N → parseFieldDescriptor (T k).2.2.1 = some (ty0 k)) (hfs : ∀ j, j < N → defaultValue (ty0 j) = vp_V (fl ci (fun _ _ => none) (fun _ => 0)) j) (hcells : cells + 1 ≤ rm.cells) (hslots : slots + N ≤ rm.slots) (hK1 : K1 = upK K n (.inr ci)) (hR1 : R1 = clR R n) (hI1 : I1 = clI I n) (hdg : decode cc pc = .ok (.new index, 3))
    (kk : ∀ (H1 : Heap), Rep E K1 R1 I1 (n + 1) H1 → va_S (AA E) s.heap H1 locs → W p l e rm s m args below meth c H1 locs (cells + 1) (slots + N) Qw (F0 m (pc + 3) ls (.ref n :: rest))) : W p l e rm s m args below meth c H locs cells slots Qw (F0 m pc ls rest) := by
  subst hK1; subst hR1; subst hI1
  exact v_new C hR hS hcl hinst hini hc hin ty0 hty hfs hcells hslots hdg kk
theorem w_newa {at_ : ArrayType} {t : Nat} {K1 : MK} {R1 : MR} {I1 : MI} (C : Cx E p s m meth c cc nL own ret args) (hR : Rep E K R I n H) (hS : va_S (AA E) s.heap H locs) (harr : Cond.arrayClass (newarray.typeOf at_) ∈ Gt) (hta : newarray.typeOf at_ = tyA t) (ht : t < 2) {k : Int32} {N : Nat} (hn : ¬ k < 0) (hN : k.toNatClampNeg = N) (hbytes : N * 4 ≤ 536870912) (hcells : cells + 1 ≤ rm.cells) (hslots : slots + N ≤ rm.slots) (hK1 : K1 = upK K n (.inl (t, N))) (hR1 : R1 = clR R n) (hI1 : I1 = clI I n) (hdg : decode cc pc = .ok (.newarray at_, 2))
    (kk : ∀ (H1 : Heap), Rep E K1 R1 I1 (n + 1) H1 → va_S (AA E) s.heap H1 locs → W p l e rm s m args below meth c H1 locs (cells + 1) (slots + N) Qw (F0 m (pc + 2) ls (.ref n :: rest))) : W p l e rm s m args below meth c H locs cells slots Qw (F0 m pc ls (.int k :: rest)) := by
  subst hK1; subst hR1; subst hI1
  exact v_newa C hR hS harr hta ht hn hN hbytes hcells hslots hdg kk
theorem w_anew {C0 : String} {t index : Nat} {K1 : MK} {R1 : MR} {I1 : MI} (C : Cx E p s m meth c cc nL own ret args) (hR : Rep E K R I n H) (hS : va_S (AA E) s.heap H locs) (hcl : Cond.classLink own index C0 ∈ Gt) (hov : C0 ∈ ["TagBus$Master", "TagBus$Target", "TagBus$Question", "TagBus$Bus"]) (hta : tyA t = .object C0) (ht : t < 6) (hr : isI t = false) {k : Int32} {N : Nat} (hn : ¬ k < 0) (hN : k.toNatClampNeg = N) (hbytes : N * 4 ≤ 536870912) (hcells : cells + 1 ≤ rm.cells) (hslots : slots + N ≤ rm.slots) (hK1 : K1 = upK K n (.inl (t, N))) (hR1 : R1 = clR R n) (hI1 : I1 = clI I n) (hdg : decode cc pc = .ok (.anewarray index, 3))
    (kk : ∀ (H1 : Heap), Rep E K1 R1 I1 (n + 1) H1 → va_S (AA E) s.heap H1 locs → W p l e rm s m args below meth c H1 locs (cells + 1) (slots + N) Qw (F0 m (pc + 3) ls (.ref n :: rest))) : W p l e rm s m args below meth c H locs cells slots Qw (F0 m pc ls (.int k :: rest)) := by
  subst hK1; subst hR1; subst hI1
  exact v_anew C hR hS hcl hov hta ht hr hn hN hbytes hcells hslots hdg kk
theorem w_aastR {t N w ci j : Nat} {q : vw_C} {R1 : MR} (C : Cx E p s m meth c cc nL own ret args) (hR : Rep E K R I n H) (hS : va_S (AA E) s.heap H locs) (hKa : K a = some (.inl (t, N))) (ht : t < 6) (hr : isI t = false) (hc : vwCl[ci]? = some q) (hty : tyA t = .object q.1) (hKw : K w = some (.inr ci)) {i : Int32} (hin : vp_in i N) (hj : ix i = j) (hR1 : R1 = upR R a j w) (hdg : decode cc pc = .ok (.aastore, 1))
    (kk : ∀ (H1 : Heap) (locs1 : List Loc), Rep E K R1 I n H1 → va_S (AA E) s.heap H1 locs1 → W p l e rm s m args below meth c H1 locs1 cells slots Qw (F0 m (pc + 1) ls rest)) : W p l e rm s m args below meth c H locs cells slots Qw (F0 m pc ls (.ref w :: .int i :: .ref a :: rest)) := by
  subst hj
  subst hR1
  refine v_aast (R1 := upR R a (ix i) w) (I1 := I) C hR hS hKa ht hr hc hty hKw hin ?_ (fun _ _ => rfl) (fun b h => upR_ne R _ _ h) hdg kk
  funext q
  by_cases h : q = ix i
  · subst h
    simp [upR, updV, va_rf]
  · simp [upR, updV, h]
theorem w_getR {C0 ref : String} {T : u_T} {N ci index w : Nat} (C : Cx E p s m meth c cc nL own ret args) (hR : Rep E K R I n H) (k : Nat) (hlink : Cond.fieldLink own index ref (T k).2.1 (T k).2.2.1 ∈ Gt) (hc : vwCl[ci]? = some (C0, T, N)) (hin : ∀ w ∈ u_ws C0 T N, w ∈ Gt) (hk : k < N) (href : (T k).1 = ref)
    (hKa : K a = some (.inr ci)) (hv : (fl ci (R a) (I a))[k]? = some (va_rf (R a k (I a k)))) (hw : R a k (I a k) = some w) (hdg : decode cc pc = .ok (.getfield index, 3))
    (kk : W p l e rm s m args below meth c H locs cells slots Qw (F0 m (pc + 3) ls (.ref w :: rest))) : W p l e rm s m args below meth c H locs cells slots Qw (F0 m pc ls (.ref a :: rest)) :=
  v_get C hR k hlink hc hin hk href hKa (hv.trans (rf_of hw)) hdg kk
/-- the end of a constructor -/
theorem w_vretC {mc ms : Nat} {Q : MK → MR → MI → Nat → Prop} (C : Cx E p s m meth c cc nL own ret args) (hr : ret = none) (hR : Rep E K R I n H) (hS : va_S (AA E) s.heap H locs) (hc : cells ≤ mc) (hs : slots ≤ ms) (hQ : Q K R I n) (hdg : decode cc pc = .ok (.return_, 1)) :
    W p l e rm s m args below meth c H locs cells slots (MQ below (QcM E (fun v K' R' I' n' => v = none ∧ Q K' R' I' n')) args s mc ms (AA E)) (F0 m pc ls []) :=
  W.widen hc hs (v_vret C hr hR hS ⟨rfl, hQ⟩ hdg)
variable {y : MethodName} {b : ByteArray} {nL' : Nat} {fr lo mc ms index na : Nat} {C0 : String} {As : List Value}
theorem w_cI {Q : MK → MR → MI → Nat → Prop} (C : Cx E p s m meth c cc nL own ret args) (hR : Rep E K R I n H) (hS : va_S (AA E) s.heap H locs) (hls : ls.size = nL) (hca : CaI y b nL' C0 na) (hlink : Cond.methodLink own index y ∈ Gt) (hM : MM E l y b nL' none fr lo mc ms (.ref a :: As) K R I n (fun v K' R' I' n' => v = none ∧ Q K' R' I' n')) (hn : As.length = na) (hst : st0 = As.reverse ++ .ref a :: rest) (hcat : (rest.map fun v => v.category).sum ≤ 8) (hrm : fr + 1 ≤ rm.frames ∧ 8 + (nL' + 11) + lo ≤ rm.locals) (hf : cells + mc ≤ rm.cells ∧ slots + ms ≤ rm.slots) (hdg : decode cc pc = .ok (.invokespecial index, 3))
    (kk : ∀ (K' : MK) (R' : MR) (I' : MI) (n' : Nat) (H1 : Heap) (locs1 : List Loc), Q K' R' I' n' → Rep E K' R' I' n' H1 → va_S (AA E) s.heap H1 locs1 → W p l e rm s m args below meth c H1 locs1 (cells + mc) (slots + ms) Qw (F0 m (pc + 3) ls rest)) : W p l e rm s m args below meth c H locs cells slots Qw (F0 m pc ls st0) :=
  v_callI C hR hS hls hca hlink hM hn hst hcat hrm hf hdg (fun v K' R' I' n' H1 locs1 h hR2 hS2 => by
    obtain ⟨rfl, h⟩ := h
    exact kk K' R' I' n' H1 locs1 h hR2 hS2)
theorem w_cIN {host : String} {Q : MK → MR → MI → Nat → Prop} (C : Cx E p s m meth c cc nL own ret args) (hR : Rep E K R I n H) (hS : va_S (AA E) s.heap H locs) (hls : ls.size = nL) (hca : CaI y b nL' C0 na) (hlink : (own, index, y, host) ∈ nestM) (hM : MM E l y b nL' none fr lo mc ms (.ref a :: As) K R I n (fun v K' R' I' n' => v = none ∧ Q K' R' I' n')) (hn : As.length = na) (hst : st0 = As.reverse ++ .ref a :: rest) (hcat : (rest.map fun v => v.category).sum ≤ 8) (hrm : fr + 1 ≤ rm.frames ∧ 8 + (nL' + 11) + lo ≤ rm.locals) (hf : cells + mc ≤ rm.cells ∧ slots + ms ≤ rm.slots) (hdg : decode cc pc = .ok (.invokespecial index, 3))
    (kk : ∀ (K' : MK) (R' : MR) (I' : MI) (n' : Nat) (H1 : Heap) (locs1 : List Loc), Q K' R' I' n' → Rep E K' R' I' n' H1 → va_S (AA E) s.heap H1 locs1 → W p l e rm s m args below meth c H1 locs1 (cells + mc) (slots + ms) Qw (F0 m (pc + 3) ls rest)) : W p l e rm s m args below meth c H locs cells slots Qw (F0 m pc ls st0) :=
  v_callIN C hR hS hls hca hlink hM hn hst hcat hrm hf hdg (fun v K' R' I' n' H1 locs1 h hR2 hS2 => by
    obtain ⟨rfl, h⟩ := h
    exact kk K' R' I' n' H1 locs1 h hR2 hS2)
/-- the script -/
theorem w_sld {b L : Nat} {xs : Nat → Int32} (C : Cx E p s m meth c cc nL own ret args) (hX : va_X b L xs s s.heap) (hbl : b < s.heap.size) (hbA : ¬ AA E b) (hS : va_S (AA E) s.heap H locs) {i : Int32} (hin : vp_in i L) (hdg : decode cc pc = .ok (.iaload, 1))
    (kk : W p l e rm s m args below meth c H locs cells slots Qw (F0 m (pc + 1) ls (.int (xs (ix i)) :: rest))) : W p l e rm s m args below meth c H locs cells slots Qw (F0 m pc ls (.int i :: .ref b :: rest)) := by
  obtain ⟨hx, hb, hml, hown, hts, hK, hlocks, hret⟩ := C
  exact va_sld hx hb hX hbl hbA hS hin hdg kk
theorem w_slen {b L : Nat} {xs : Nat → Int32} (C : Cx E p s m meth c cc nL own ret args) (hX : va_X b L xs s s.heap) (hbl : b < s.heap.size) (hbA : ¬ AA E b) (hS : va_S (AA E) s.heap H locs) (hdg : decode cc pc = .ok (.arraylength, 1))
    (kk : W p l e rm s m args below meth c H locs cells slots Qw (F0 m (pc + 1) ls (.int (nI L) :: rest))) : W p l e rm s m args below meth c H locs cells slots Qw (F0 m pc ls (.ref b :: rest)) := by
  obtain ⟨hx, hb, hml, hown, hts, hK, hlocks, hret⟩ := C
  exact va_slen hx hb hX hbl hbA hS hdg kk
end MR4
theorem Cx.scr {E : Ev} {p : Program} {s : State} {m : MethodId} {meth : Method} {c : Code} {cc : ByteArray} {nL : Nat} {own : String} {ret : Option FieldType} {args : Array Value} (C : Cx E p s m meth c cc nL own ret args) {b L : Nat} {xs : Nat → Int32} (h : E.2.2.2 = (b, L, xs)) : va_X b L xs s s.heap ∧ b < s.heap.size ∧ ¬ AA E b := by
  obtain ⟨-, -, -, -, -, ⟨-, -, -, h4, ⟨hx, hb⟩, -⟩, -⟩ := C
  rw [h] at hx hb
  exact ⟨hx, Nat.lt_of_lt_of_le hb h4, fun z => by unfold AA at z; omega⟩
theorem sw_0_5 (x : Int32) : x = (0:Int32) ∨ x = (1:Int32) ∨ x = (2:Int32) ∨ x = (3:Int32) ∨ x = (4:Int32) ∨ x = (5:Int32) ∨ (x.toInt < 0 ∨ 5 < x.toInt) := by
  by_cases h1 : x.toInt < 0
  · simp [h1]
  · by_cases h2 : 5 < x.toInt
    · simp [h2]
    · have hh : x.toInt = 0 ∨ x.toInt = 1 ∨ x.toInt = 2 ∨ x.toInt = 3 ∨ x.toInt = 4 ∨ x.toInt = 5 := by omega
      rcases hh with hh | hh | hh | hh | hh | hh
      · exact Or.inl (Int32.toInt_inj.mp hh)
      · exact Or.inr (Or.inl (Int32.toInt_inj.mp hh))
      · exact Or.inr (Or.inr (Or.inl (Int32.toInt_inj.mp hh)))
      · exact Or.inr (Or.inr (Or.inr (Or.inl (Int32.toInt_inj.mp hh))))
      · exact Or.inr (Or.inr (Or.inr (Or.inr (Or.inl (Int32.toInt_inj.mp hh)))))
      · exact Or.inr (Or.inr (Or.inr (Or.inr (Or.inr (Or.inl (Int32.toInt_inj.mp hh))))))
theorem sw_0_8 (x : Int32) : x = (0:Int32) ∨ x = (1:Int32) ∨ x = (2:Int32) ∨ x = (3:Int32) ∨ x = (4:Int32) ∨ x = (5:Int32) ∨ x = (6:Int32) ∨ x = (7:Int32) ∨ x = (8:Int32) ∨ (x.toInt < 0 ∨ 8 < x.toInt) := by
  by_cases h1 : x.toInt < 0
  · simp [h1]
  · by_cases h2 : 8 < x.toInt
    · simp [h2]
    · have hh : x.toInt = 0 ∨ x.toInt = 1 ∨ x.toInt = 2 ∨ x.toInt = 3 ∨ x.toInt = 4 ∨ x.toInt = 5 ∨ x.toInt = 6 ∨ x.toInt = 7 ∨ x.toInt = 8 := by omega
      rcases hh with hh | hh | hh | hh | hh | hh | hh | hh | hh
      · exact Or.inl (Int32.toInt_inj.mp hh)
      · exact Or.inr (Or.inl (Int32.toInt_inj.mp hh))
      · exact Or.inr (Or.inr (Or.inl (Int32.toInt_inj.mp hh)))
      · exact Or.inr (Or.inr (Or.inr (Or.inl (Int32.toInt_inj.mp hh))))
      · exact Or.inr (Or.inr (Or.inr (Or.inr (Or.inl (Int32.toInt_inj.mp hh)))))
      · exact Or.inr (Or.inr (Or.inr (Or.inr (Or.inr (Or.inl (Int32.toInt_inj.mp hh))))))
      · exact Or.inr (Or.inr (Or.inr (Or.inr (Or.inr (Or.inr (Or.inl (Int32.toInt_inj.mp hh)))))))
      · exact Or.inr (Or.inr (Or.inr (Or.inr (Or.inr (Or.inr (Or.inr (Or.inl (Int32.toInt_inj.mp hh))))))))
      · exact Or.inr (Or.inr (Or.inr (Or.inr (Or.inr (Or.inr (Or.inr (Or.inr (Or.inl (Int32.toInt_inj.mp hh)))))))))
theorem sw_0_12 (x : Int32) : x = (0:Int32) ∨ x = (1:Int32) ∨ x = (2:Int32) ∨ x = (3:Int32) ∨ x = (4:Int32) ∨ x = (5:Int32) ∨ x = (6:Int32) ∨ x = (7:Int32) ∨ x = (8:Int32) ∨ x = (9:Int32) ∨ x = (10:Int32) ∨ x = (11:Int32) ∨ x = (12:Int32) ∨ (x.toInt < 0 ∨ 12 < x.toInt) := by
  by_cases h1 : x.toInt < 0
  · simp [h1]
  · by_cases h2 : 12 < x.toInt
    · simp [h2]
    · have hh : x.toInt = 0 ∨ x.toInt = 1 ∨ x.toInt = 2 ∨ x.toInt = 3 ∨ x.toInt = 4 ∨ x.toInt = 5 ∨ x.toInt = 6 ∨ x.toInt = 7 ∨ x.toInt = 8 ∨ x.toInt = 9 ∨ x.toInt = 10 ∨ x.toInt = 11 ∨ x.toInt = 12 := by omega
      rcases hh with hh | hh | hh | hh | hh | hh | hh | hh | hh | hh | hh | hh | hh
      · exact Or.inl (Int32.toInt_inj.mp hh)
      · exact Or.inr (Or.inl (Int32.toInt_inj.mp hh))
      · exact Or.inr (Or.inr (Or.inl (Int32.toInt_inj.mp hh)))
      · exact Or.inr (Or.inr (Or.inr (Or.inl (Int32.toInt_inj.mp hh))))
      · exact Or.inr (Or.inr (Or.inr (Or.inr (Or.inl (Int32.toInt_inj.mp hh)))))
      · exact Or.inr (Or.inr (Or.inr (Or.inr (Or.inr (Or.inl (Int32.toInt_inj.mp hh))))))
      · exact Or.inr (Or.inr (Or.inr (Or.inr (Or.inr (Or.inr (Or.inl (Int32.toInt_inj.mp hh)))))))
      · exact Or.inr (Or.inr (Or.inr (Or.inr (Or.inr (Or.inr (Or.inr (Or.inl (Int32.toInt_inj.mp hh))))))))
      · exact Or.inr (Or.inr (Or.inr (Or.inr (Or.inr (Or.inr (Or.inr (Or.inr (Or.inl (Int32.toInt_inj.mp hh)))))))))
      · exact Or.inr (Or.inr (Or.inr (Or.inr (Or.inr (Or.inr (Or.inr (Or.inr (Or.inr (Or.inl (Int32.toInt_inj.mp hh))))))))))
      · exact Or.inr (Or.inr (Or.inr (Or.inr (Or.inr (Or.inr (Or.inr (Or.inr (Or.inr (Or.inr (Or.inl (Int32.toInt_inj.mp hh)))))))))))
      · exact Or.inr (Or.inr (Or.inr (Or.inr (Or.inr (Or.inr (Or.inr (Or.inr (Or.inr (Or.inr (Or.inr (Or.inl (Int32.toInt_inj.mp hh))))))))))))
      · exact Or.inr (Or.inr (Or.inr (Or.inr (Or.inr (Or.inr (Or.inr (Or.inr (Or.inr (Or.inr (Or.inr (Or.inr (Or.inl (Int32.toInt_inj.mp hh)))))))))))))
theorem ca_X6_init : CaI yX6_init cX6_init 2 RX6 0 := ⟨kim_X6_init, kco_X6_init, kin_X6, rfl, rfl, by decide, by decide, by decide⟩
theorem ca_X6_set : CaV yX6_set cX6_set 4 (some Jvm.ClassFile.FieldType.int) RX6 2 := ⟨kim_X6_set, kse_X6_set, kco_X6_set, kin_X6, rfl, by decide, by decide, by decide⟩
theorem ca_X6_setShare : CaV yX6_setShare cX6_setShare 5 (some Jvm.ClassFile.FieldType.int) RX6 2 := ⟨kim_X6_setShare, kse_X6_setShare, kco_X6_setShare, kin_X6, rfl, by decide, by decide, by decide⟩
theorem ca_X6_setTarget : CaV yX6_setTarget cX6_setTarget 6 (some Jvm.ClassFile.FieldType.int) RX6 3 := ⟨kim_X6_setTarget, kse_X6_setTarget, kco_X6_setTarget, kin_X6, rfl, by decide, by decide, by decide⟩
theorem ca_X6_setCell : CaV yX6_setCell cX6_setCell 6 (some Jvm.ClassFile.FieldType.int) RX6 3 := ⟨kim_X6_setCell, kse_X6_setCell, kco_X6_setCell, kin_X6, rfl, by decide, by decide, by decide⟩
theorem ca_X6_read : CaV yX6_read cX6_read 4 (some Jvm.ClassFile.FieldType.int) RX6 3 := ⟨kim_X6_read, kse_X6_read, kco_X6_read, kin_X6, rfl, by decide, by decide, by decide⟩
theorem ca_X6_write : CaV yX6_write cX6_write 5 (some Jvm.ClassFile.FieldType.int) RX6 4 := ⟨kim_X6_write, kse_X6_write, kco_X6_write, kin_X6, rfl, by decide, by decide, by decide⟩
theorem ca_X6_withdraw : CaV yX6_withdraw cX6_withdraw 3 (some Jvm.ClassFile.FieldType.int) RX6 1 := ⟨kim_X6_withdraw, kse_X6_withdraw, kco_X6_withdraw, kin_X6, rfl, by decide, by decide, by decide⟩
theorem ca_X6_pass : CaV yX6_pass cX6_pass 4 (some Jvm.ClassFile.FieldType.int) RX6 1 := ⟨kim_X6_pass, kse_X6_pass, kco_X6_pass, kin_X6, rfl, by decide, by decide, by decide⟩
theorem ca_X6_undo : CaV yX6_undo cX6_undo 2 (some Jvm.ClassFile.FieldType.int) RX6 0 := ⟨kim_X6_undo, kse_X6_undo, kco_X6_undo, kin_X6, rfl, by decide, by decide, by decide⟩
theorem ca_X6_question : CaV yX6_question cX6_question 4 (some Jvm.ClassFile.FieldType.int) RX6 2 := ⟨kim_X6_question, kse_X6_question, kco_X6_question, kin_X6, rfl, by decide, by decide, by decide⟩
theorem ca_X6_tag : CaV yX6_tag cX6_tag 2 (some Jvm.ClassFile.FieldType.int) RX6 1 := ⟨kim_X6_tag, kse_X6_tag, kco_X6_tag, kin_X6, rfl, by decide, by decide, by decide⟩
theorem ca_X6_master : CaV yX6_master cX6_master 4 (some Jvm.ClassFile.FieldType.int) RX6 2 := ⟨kim_X6_master, kse_X6_master, kco_X6_master, kin_X6, rfl, by decide, by decide, by decide⟩
theorem ca_X6_row : CaV yX6_row cX6_row 4 (some Jvm.ClassFile.FieldType.int) RX6 2 := ⟨kim_X6_row, kse_X6_row, kco_X6_row, kin_X6, rfl, by decide, by decide, by decide⟩
theorem ca_X6_target : CaV yX6_target cX6_target 4 (some Jvm.ClassFile.FieldType.int) RX6 2 := ⟨kim_X6_target, kse_X6_target, kco_X6_target, kin_X6, rfl, by decide, by decide, by decide⟩
theorem ca_X6_next : CaV yX6_next cX6_next 3 (some Jvm.ClassFile.FieldType.int) RX6 1 := ⟨kim_X6_next, kse_X6_next, kco_X6_next, kin_X6, rfl, by decide, by decide, by decide⟩
theorem ca_X6_answeredIn : CaV yX6_answeredIn cX6_answeredIn 4 (some Jvm.ClassFile.FieldType.int) RX6 1 := ⟨kim_X6_answeredIn, kse_X6_answeredIn, kco_X6_answeredIn, kin_X6, rfl, by decide, by decide, by decide⟩
theorem ca_X6_count : CaV yX6_count cX6_count 2 (some Jvm.ClassFile.FieldType.int) RX6 1 := ⟨kim_X6_count, kse_X6_count, kco_X6_count, kin_X6, rfl, by decide, by decide, by decide⟩
theorem ca_X6_isIndex : CaS yX6_isIndex cX6_isIndex 2 (some Jvm.ClassFile.FieldType.boolean) RX6 2 := ⟨kst_X6_isIndex, kco_X6_isIndex, kin_X6, rfl, by decide, by decide, by decide⟩
theorem ca_X6_isBetween : CaS yX6_isBetween cX6_isBetween 3 (some Jvm.ClassFile.FieldType.boolean) RX6 3 := ⟨kst_X6_isBetween, kco_X6_isBetween, kin_X6, rfl, by decide, by decide, by decide⟩
theorem ca_X6_putOne : CaV yX6_putOne cX6_putOne 6 (some Jvm.ClassFile.FieldType.int) RX6 4 := ⟨kim_X6_putOne, kse_X6_putOne, kco_X6_putOne, kin_X6, rfl, by decide, by decide, by decide⟩
theorem ca_X6_record : CaV yX6_record cX6_record 3 none RX6 0 := ⟨kim_X6_record, kse_X6_record, kco_X6_record, kin_X6, rfl, by decide, by decide, by decide⟩
theorem ca_X0_init : CaI yX0_init cX0_init 2 RX0 0 := ⟨kim_X0_init, kco_X0_init, kin_X0, rfl, rfl, by decide, by decide, by decide⟩
theorem ca_X0_copyFrom : CaV yX0_copyFrom cX0_copyFrom 3 none RX0 1 := ⟨kim_X0_copyFrom, kse_X0_copyFrom, kco_X0_copyFrom, kin_X0, rfl, by decide, by decide, by decide⟩
theorem ca_X0_masterAt : CaV yX0_masterAt cX0_masterAt 2 (some (Jvm.ClassFile.FieldType.object "TagBus$Master")) RX0 1 := ⟨kim_X0_masterAt, kse_X0_masterAt, kco_X0_masterAt, kin_X0, rfl, by decide, by decide, by decide⟩
theorem ca_X0_targetAt : CaV yX0_targetAt cX0_targetAt 2 (some (Jvm.ClassFile.FieldType.object "TagBus$Target")) RX0 1 := ⟨kim_X0_targetAt, kse_X0_targetAt, kco_X0_targetAt, kin_X0, rfl, by decide, by decide, by decide⟩
theorem ca_X0_questionAt : CaV yX0_questionAt cX0_questionAt 2 (some (Jvm.ClassFile.FieldType.object "TagBus$Question")) RX0 1 := ⟨kim_X0_questionAt, kse_X0_questionAt, kco_X0_questionAt, kin_X0, rfl, by decide, by decide, by decide⟩
theorem ca_X0_highestLentTag : CaV yX0_highestLentTag cX0_highestLentTag 3 (some Jvm.ClassFile.FieldType.int) RX0 0 := ⟨kim_X0_highestLentTag, kse_X0_highestLentTag, kco_X0_highestLentTag, kin_X0, rfl, by decide, by decide, by decide⟩
theorem ca_X0_freeTags : CaV yX0_freeTags cX0_freeTags 3 (some Jvm.ClassFile.FieldType.int) RX0 0 := ⟨kim_X0_freeTags, kse_X0_freeTags, kco_X0_freeTags, kin_X0, rfl, by decide, by decide, by decide⟩
theorem ca_X0_lowestFreeTag : CaV yX0_lowestFreeTag cX0_lowestFreeTag 2 (some Jvm.ClassFile.FieldType.int) RX0 0 := ⟨kim_X0_lowestFreeTag, kse_X0_lowestFreeTag, kco_X0_lowestFreeTag, kin_X0, rfl, by decide, by decide, by decide⟩
theorem ca_X0_put : CaV yX0_put cX0_put 7 (some Jvm.ClassFile.FieldType.int) RX0 4 := ⟨kim_X0_put, kse_X0_put, kco_X0_put, kin_X0, rfl, by decide, by decide, by decide⟩
theorem ca_X0_takeLastOf : CaV yX0_takeLastOf cX0_takeLastOf 5 (some Jvm.ClassFile.FieldType.int) RX0 1 := ⟨kim_X0_takeLastOf, kse_X0_takeLastOf, kco_X0_takeLastOf, kin_X0, rfl, by decide, by decide, by decide⟩
theorem ca_X0_doneIn : CaV yX0_doneIn cX0_doneIn 5 (some Jvm.ClassFile.FieldType.int) RX0 1 := ⟨kim_X0_doneIn, kse_X0_doneIn, kco_X0_doneIn, kin_X0, rfl, by decide, by decide, by decide⟩
theorem ca_X0_isOutOfPatience : CaV yX0_isOutOfPatience cX0_isOutOfPatience 2 (some Jvm.ClassFile.FieldType.boolean) RX0 1 := ⟨kim_X0_isOutOfPatience, kse_X0_isOutOfPatience, kco_X0_isOutOfPatience, kin_X0, rfl, by decide, by decide, by decide⟩
theorem ca_X0_passTick : CaV yX0_passTick cX0_passTick 3 (some Jvm.ClassFile.FieldType.int) RX0 0 := ⟨kim_X0_passTick, kse_X0_passTick, kco_X0_passTick, kin_X0, rfl, by decide, by decide, by decide⟩
theorem ca_X0_finishQuestions : CaV yX0_finishQuestions cX0_finishQuestions 7 none RX0 0 := ⟨kim_X0_finishQuestions, kse_X0_finishQuestions, kco_X0_finishQuestions, kin_X0, rfl, by decide, by decide, by decide⟩
theorem ca_X0_makeTrip : CaV yX0_makeTrip cX0_makeTrip 3 (some Jvm.ClassFile.FieldType.int) RX0 0 := ⟨kim_X0_makeTrip, kse_X0_makeTrip, kco_X0_makeTrip, kin_X0, rfl, by decide, by decide, by decide⟩
theorem ca_X0_prefersAnswer : CaV yX0_prefersAnswer cX0_prefersAnswer 2 (some Jvm.ClassFile.FieldType.boolean) RX0 0 := ⟨kim_X0_prefersAnswer, kse_X0_prefersAnswer, kco_X0_prefersAnswer, kin_X0, rfl, by decide, by decide, by decide⟩
theorem ca_X0_targetThatAnswers : CaV yX0_targetThatAnswers cX0_targetThatAnswers 4 (some Jvm.ClassFile.FieldType.int) RX0 0 := ⟨kim_X0_targetThatAnswers, kse_X0_targetThatAnswers, kco_X0_targetThatAnswers, kin_X0, rfl, by decide, by decide, by decide⟩
theorem ca_X0_placeOfAnswer : CaV yX0_placeOfAnswer cX0_placeOfAnswer 8 (some Jvm.ClassFile.FieldType.int) RX0 1 := ⟨kim_X0_placeOfAnswer, kse_X0_placeOfAnswer, kco_X0_placeOfAnswer, kin_X0, rfl, by decide, by decide, by decide⟩
theorem ca_X0_masterThatSends : CaV yX0_masterThatSends cX0_masterThatSends 5 (some Jvm.ClassFile.FieldType.int) RX0 0 := ⟨kim_X0_masterThatSends, kse_X0_masterThatSends, kco_X0_masterThatSends, kin_X0, rfl, by decide, by decide, by decide⟩
theorem ca_X0_masterThatWaitedTooLong : CaV yX0_masterThatWaitedTooLong cX0_masterThatWaitedTooLong 5 (some Jvm.ClassFile.FieldType.int) RX0 0 := ⟨kim_X0_masterThatWaitedTooLong, kse_X0_masterThatWaitedTooLong, kco_X0_masterThatWaitedTooLong, kin_X0, rfl, by decide, by decide, by decide⟩
theorem ca_X0_maySend : CaV yX0_maySend cX0_maySend 2 (some Jvm.ClassFile.FieldType.boolean) RX0 1 := ⟨kim_X0_maySend, kse_X0_maySend, kco_X0_maySend, kin_X0, rfl, by decide, by decide, by decide⟩
theorem ca_X0_sendQuestionOf : CaV yX0_sendQuestionOf cX0_sendQuestionOf 6 (some Jvm.ClassFile.FieldType.int) RX0 1 := ⟨kim_X0_sendQuestionOf, kse_X0_sendQuestionOf, kco_X0_sendQuestionOf, kin_X0, rfl, by decide, by decide, by decide⟩
theorem ca_X0_refuse : CaV yX0_refuse cX0_refuse 4 none RX0 2 := ⟨kim_X0_refuse, kse_X0_refuse, kco_X0_refuse, kin_X0, rfl, by decide, by decide, by decide⟩
theorem ca_X0_letIn : CaV yX0_letIn cX0_letIn 6 none RX0 3 := ⟨kim_X0_letIn, kse_X0_letIn, kco_X0_letIn, kin_X0, rfl, by decide, by decide, by decide⟩
theorem ca_X0_sendAnswerOf : CaV yX0_sendAnswerOf cX0_sendAnswerOf 6 (some Jvm.ClassFile.FieldType.int) RX0 1 := ⟨kim_X0_sendAnswerOf, kse_X0_sendAnswerOf, kco_X0_sendAnswerOf, kin_X0, rfl, by decide, by decide, by decide⟩
theorem ca_X0_takeTagBack : CaV yX0_takeTagBack cX0_takeTagBack 2 none RX0 1 := ⟨kim_X0_takeTagBack, kse_X0_takeTagBack, kco_X0_takeTagBack, kin_X0, rfl, by decide, by decide, by decide⟩
theorem ca_X0_noteAnswer : CaV yX0_noteAnswer cX0_noteAnswer 3 none RX0 2 := ⟨kim_X0_noteAnswer, kse_X0_noteAnswer, kco_X0_noteAnswer, kin_X0, rfl, by decide, by decide, by decide⟩
theorem ca_X0_countWaits : CaV yX0_countWaits cX0_countWaits 4 none RX0 1 := ⟨kim_X0_countWaits, kse_X0_countWaits, kco_X0_countWaits, kin_X0, rfl, by decide, by decide, by decide⟩
theorem ca_X1_init : CaI yX1_init cX1_init 1 RX1 0 := ⟨kim_X1_init, kco_X1_init, kin_X1, rfl, rfl, by decide, by decide, by decide⟩
theorem ca_X1_at : CaV yX1_at cX1_at 2 (some Jvm.ClassFile.FieldType.int) RX1 1 := ⟨kim_X1_at, kse_X1_at, kco_X1_at, kin_X1, rfl, by decide, by decide, by decide⟩
theorem ca_X1_append : CaV yX1_append cX1_append 2 none RX1 1 := ⟨kim_X1_append, kse_X1_append, kco_X1_append, kin_X1, rfl, by decide, by decide, by decide⟩
theorem ca_X1_removeAt : CaV yX1_removeAt cX1_removeAt 3 none RX1 1 := ⟨kim_X1_removeAt, kse_X1_removeAt, kco_X1_removeAt, kin_X1, rfl, by decide, by decide, by decide⟩
theorem ca_X1_copyFrom : CaV yX1_copyFrom cX1_copyFrom 2 none RX1 1 := ⟨kim_X1_copyFrom, kse_X1_copyFrom, kco_X1_copyFrom, kin_X1, rfl, by decide, by decide, by decide⟩
theorem ca_X2_init : CaI yX2_init cX2_init 1 RX2 0 := ⟨kim_X2_init, kco_X2_init, kin_X2, rfl, rfl, by decide, by decide, by decide⟩
theorem ca_X2_copyFrom : CaV yX2_copyFrom cX2_copyFrom 2 none RX2 1 := ⟨kim_X2_copyFrom, kse_X2_copyFrom, kco_X2_copyFrom, kin_X2, rfl, by decide, by decide, by decide⟩
theorem ca_X3_init : CaI yX3_init cX3_init 1 RX3 0 := ⟨kim_X3_init, kco_X3_init, kin_X3, rfl, rfl, by decide, by decide, by decide⟩
theorem ca_X3_begin : CaV yX3_begin cX3_begin 6 none RX3 5 := ⟨kim_X3_begin, kse_X3_begin, kco_X3_begin, kin_X3, rfl, by decide, by decide, by decide⟩
theorem ca_X3_copyFrom : CaV yX3_copyFrom cX3_copyFrom 2 none RX3 1 := ⟨kim_X3_copyFrom, kse_X3_copyFrom, kco_X3_copyFrom, kin_X3, rfl, by decide, by decide, by decide⟩
theorem ca_X4_init : CaI yX4_init cX4_init 2 RX4 0 := ⟨kim_X4_init, kco_X4_init, kin_X4, rfl, rfl, by decide, by decide, by decide⟩
theorem ca_X5_init : CaI yX5_init cX5_init 1 RX5 0 := ⟨kim_X5_init, kco_X5_init, kin_X5, rfl, rfl, by decide, by decide, by decide⟩
theorem ca_X5_isFull : CaV yX5_isFull cX5_isFull 1 (some Jvm.ClassFile.FieldType.boolean) RX5 0 := ⟨kim_X5_isFull, kse_X5_isFull, kco_X5_isFull, kin_X5, rfl, by decide, by decide, by decide⟩
theorem ca_X5_useCell : CaV yX5_useCell cX5_useCell 4 (some Jvm.ClassFile.FieldType.int) RX5 2 := ⟨kim_X5_useCell, kse_X5_useCell, kco_X5_useCell, kin_X5, rfl, by decide, by decide, by decide⟩
theorem ca_X5_copyFrom : CaV yX5_copyFrom cX5_copyFrom 2 none RX5 1 := ⟨kim_X5_copyFrom, kse_X5_copyFrom, kco_X5_copyFrom, kin_X5, rfl, by decide, by decide, by decide⟩
theorem ca_L_cell : CaS yL_cell cL_cell 2 (some Jvm.ClassFile.FieldType.int) RL 2 := ⟨kst_L_cell, kco_L_cell, kin_L, rfl, by decide, by decide, by decide⟩
theorem ca_L_low : CaS yL_low cL_low 2 (some Jvm.ClassFile.FieldType.int) RL 2 := ⟨kst_L_low, kco_L_low, kin_L, rfl, by decide, by decide, by decide⟩
theorem ca_L_does : CaS yL_does cL_does 4 (some Jvm.ClassFile.FieldType.int) RL 2 := ⟨kst_L_does, kco_L_does, kin_L, rfl, by decide, by decide, by decide⟩
theorem ca_L_areTagsSo : CaS yL_areTagsSo cL_areTagsSo 6 (some Jvm.ClassFile.FieldType.boolean) RL 1 := ⟨kst_L_areTagsSo, kco_L_areTagsSo, kin_L, rfl, by decide, by decide, by decide⟩
theorem ca_L_areRowsSo : CaS yL_areRowsSo cL_areRowsSo 8 (some Jvm.ClassFile.FieldType.boolean) RL 1 := ⟨kst_L_areRowsSo, kco_L_areRowsSo, kin_L, rfl, by decide, by decide, by decide⟩
theorem ca_L_isNextSo : CaS yL_isNextSo cL_isNextSo 5 (some Jvm.ClassFile.FieldType.boolean) RL 1 := ⟨kst_L_isNextSo, kco_L_isNextSo, kin_L, rfl, by decide, by decide, by decide⟩
theorem ca_L_isAnsweredSo : CaS yL_isAnsweredSo cL_isAnsweredSo 4 (some Jvm.ClassFile.FieldType.boolean) RL 2 := ⟨kst_L_isAnsweredSo, kco_L_isAnsweredSo, kin_L, rfl, by decide, by decide, by decide⟩
