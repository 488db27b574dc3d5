/-! locals of one word each -/
def hv (ls : Array Slot) (nL : Nat) (l : List (Nat × Value)) : Prop := lv_has ls nL l ∧ ∀ q ∈ l, q.2.category = 1
theorem cat_rf (o : Option Nat) : (va_rf o).category = 1 := by cases o <;> rfl
theorem hv_at {ls : Array Slot} {nL : Nat} {l : List (Nat × Value)} (h : hv ls nL l) (k : Nat) {i : Nat} {v : Value} (hk : l[k]? = some (i, v)) : ls[i]? = some (.val v) := lv_at h.1 k hk
theorem hv_sub {ls : Array Slot} {nL : Nat} {l l' : List (Nat × Value)} (h : hv ls nL l) (ks : List Nat) (hl : lv_pick l ks = l') : hv ls nL l' := ⟨lv_sub h.1 ks hl, fun q hq => by
  rw [← hl] at hq
  obtain ⟨k, -, hk⟩ := List.mem_filterMap.mp hq
  exact h.2 q (List.mem_of_getElem? hk)⟩
theorem hv_fil {l : List (Nat × Value)} (h : ∀ q ∈ l, q.2.category = 1) (i : Nat) : l.filter (fun q => !(q.1 == i) && !(q.1 + 1 == i && q.2.category == 2)) = l.filter (fun q => !(q.1 == i)) := by
  apply List.filter_congr
  intro q hq
  simp [h q hq]
theorem hv_set {ls' : Array Slot} {nL i : Nat} {v : Value} {lv lv' : List (Nat × Value)} (h : ∀ q ∈ lv, q.2.category = 1) (hc : v.category = 1) (hl : (i, v) :: lv.filter (fun q => !(q.1 == i)) = lv') (g : lv_has ls' nL ((i, v) :: lv.filter (fun q => !(q.1 == i) && !(q.1 + 1 == i && q.2.category == 2)))) : hv ls' nL lv' := by
  rw [hv_fil h] at g
  subst hl
  refine ⟨g, fun q hq => ?_⟩
  rcases List.mem_cons.mp hq with rfl | hq
  · exact hc
  · exact h q ((List.mem_filter.mp hq).1)
def enA : Nat → List Value → List (Nat × Value)
  | _, [] => []
  | i, v :: vs => (i, v) :: enA (i + 1) vs
theorem enA_eq : ∀ (vs : List Value) (i : Nat), (∀ v ∈ vs, v.category = 1) → lv_args i vs = enA i vs
  | [], _, _ => rfl
  | v :: vs, i, h => by
    have hv := h v List.mem_cons_self
    simp only [lv_args, enA, hv]
    rw [if_neg (by decide), enA_eq vs (i + 1) (fun w hw => h w (List.mem_cons_of_mem _ hw))]
theorem lg_len : ∀ (vs : List Value), (∀ v ∈ vs, v.category = 1) → (lg_sl vs).length = vs.length
  | [], _ => rfl
  | v :: vs, h => by
    have hv := h v List.mem_cons_self
    have := lg_len vs (fun w hw => h w (List.mem_cons_of_mem _ hw))
    unfold lg_sl at this ⊢
    simp only [List.flatMap_cons, hv, List.length_append, List.length_cons, this]
    rw [if_neg (by decide)]
    simp
    omega
theorem enA_cat : ∀ (vs : List Value) (i : Nat), (∀ v ∈ vs, v.category = 1) → ∀ q ∈ enA i vs, q.2.category = 1
  | [], _, _, q, hq => by cases hq
  | v :: vs, i, h, q, hq => by
    rcases List.mem_cons.mp hq with rfl | hq
    · exact h v List.mem_cons_self
    · exact enA_cat vs (i + 1) (fun w hw => h w (List.mem_cons_of_mem _ hw)) q hq
theorem vp_lt {x : Int32} {n : Nat} (h : vp_in x n) : ix x < n := Nat.not_le.mp fun q => h (Or.inr q)
def bz (x : Int32) : Prop := x = 0 ∨ x = 1
theorem bz_nar {x : Int32} (h : bz x) : narrow .boolean (.int x) = .int x := by rcases h with rfl | rfl <;> rfl
theorem bz0 : bz 0 := Or.inl rfl
theorem bz1 : bz 1 := Or.inr rfl
def i2cv (x : Int32) : Int32 := (x.toUInt32 % 65536).toInt32
section MR2
variable {p : Program} {l : Launch} {e : Env} {rm : Room} {s : State} {m : MethodId} {args : Array Value} {below : List Frame} {meth : Method} {c : Code} {H : Heap} {locs : List Loc} {cells slots : Nat} {Qw : State → Prop}
variable {cc : ByteArray} {nL pc : Nat} {ls : Array Slot} {rest st0 : List Value} {E : Ev} {K : MK} {R : MR} {I : MI} {n a : Nat} {own : String} {ret : Option FieldType}
theorem v_istore_n (hexec : p.tables.exec = Jvm.exec) (hb : c.code = cc) {k : Fin 4} {i : Nat} {x : Int32} {lv lv' : List (Nat × Value)} (hdg : decode cc pc = .ok (.istore_n k, 1)) (hi : (k : Nat) = i) (h : hv ls nL lv) (hn : i < nL) (hl : (i, Value.int x) :: lv.filter (fun q => !(q.1 == i)) = lv')
    (kk : ∀ ls' : Array Slot, hv ls' nL lv' → W p l e rm s m args below meth c H locs cells slots Qw (F0 m (pc + 1) ls' rest)) : W p l e rm s m args below meth c H locs cells slots Qw (F0 m pc ls (.int x :: rest)) :=
  lv_istore_n hexec hb hdg hi h.1 hn rfl (fun ls' g => kk ls' (hv_set h.2 rfl hl g))
theorem v_istore (hexec : p.tables.exec = Jvm.exec) (hb : c.code = cc) {i : Nat} {x : Int32} {lv lv' : List (Nat × Value)} (hdg : decode cc pc = .ok (.istore i, 2)) (h : hv ls nL lv) (hn : i < nL) (hl : (i, Value.int x) :: lv.filter (fun q => !(q.1 == i)) = lv')
    (kk : ∀ ls' : Array Slot, hv ls' nL lv' → W p l e rm s m args below meth c H locs cells slots Qw (F0 m (pc + 2) ls' rest)) : W p l e rm s m args below meth c H locs cells slots Qw (F0 m pc ls (.int x :: rest)) :=
  lv_istore hexec hb hdg h.1 hn rfl (fun ls' g => kk ls' (hv_set h.2 rfl hl g))
theorem v_astore_n (hexec : p.tables.exec = Jvm.exec) (hb : c.code = cc) {k : Fin 4} {i : Nat} {o : Option Nat} {lv lv' : List (Nat × Value)} (hdg : decode cc pc = .ok (.astore_n k, 1)) (hi : (k : Nat) = i) (h : hv ls nL lv) (hn : i < nL) (hl : (i, va_rf o) :: lv.filter (fun q => !(q.1 == i)) = lv')
    (kk : ∀ ls' : Array Slot, hv ls' nL lv' → W p l e rm s m args below meth c H locs cells slots Qw (F0 m (pc + 1) ls' rest)) : W p l e rm s m args below meth c H locs cells slots Qw (F0 m pc ls (va_rf o :: rest)) := by
  cases o with
  | none => exact lv_astore_nN hexec hb hdg hi h.1 hn rfl (fun ls' g => kk ls' (hv_set h.2 rfl hl g))
  | some x => exact lv_astore_n hexec hb hdg hi h.1 hn rfl (fun ls' g => kk ls' (hv_set h.2 rfl hl g))
theorem v_astore (hexec : p.tables.exec = Jvm.exec) (hb : c.code = cc) {i : Nat} {o : Option Nat} {lv lv' : List (Nat × Value)} (hdg : decode cc pc = .ok (.astore i, 2)) (h : hv ls nL lv) (hn : i < nL) (hl : (i, va_rf o) :: lv.filter (fun q => !(q.1 == i)) = lv')
    (kk : ∀ ls' : Array Slot, hv ls' nL lv' → W p l e rm s m args below meth c H locs cells slots Qw (F0 m (pc + 2) ls' rest)) : W p l e rm s m args below meth c H locs cells slots Qw (F0 m pc ls (va_rf o :: rest)) := by
  cases o with
  | none => exact lv_astoreN hexec hb hdg h.1 hn rfl (fun ls' g => kk ls' (hv_set h.2 rfl hl g))
  | some x => exact lv_astore hexec hb hdg h.1 hn rfl (fun ls' g => kk ls' (hv_set h.2 rfl hl g))
theorem v_iinc (hexec : p.tables.exec = Jvm.exec) (hb : c.code = cc) {i k : Nat} {z : Int} {x v : Int32} {lv lv' : List (Nat × Value)} (hdg : decode cc pc = .ok (.iinc i z, 3)) (h : hv ls nL lv) (hk : lv[k]? = some (i, .int x)) (hv' : x + Int32.ofInt z = v) (hn : i < nL) (hl : (i, Value.int v) :: lv.filter (fun q => !(q.1 == i)) = lv')
    (kk : ∀ ls' : Array Slot, hv ls' nL lv' → W p l e rm s m args below meth c H locs cells slots Qw (F0 m (pc + 3) ls' rest)) : W p l e rm s m args below meth c H locs cells slots Qw (F0 m pc ls rest) :=
  lv_iinc hexec hb hdg h.1 hk hv' hn rfl (fun ls' g => kk ls' (hv_set h.2 rfl hl g))
theorem v_tblIn (hexec : p.tables.exec = Jvm.exec) (hb : c.code = cc) {dflt lo hi : Int} {offs : Array Int} {len : Nat} {x : Int32} {off : Int} {tgt : Nat} (v : Int32) (hdg : decode cc pc = .ok (.tableswitch dflt lo hi offs, len)) (hx : x = v) (h1 : ¬ v.toInt < lo) (h2 : ¬ hi < v.toInt) (ho : offs[(v.toInt - lo).toNat]? = some off) (ht : (pc : Int) + off = (tgt : Int))
    (k : W p l e rm s m args below meth c H locs cells slots Qw (F0 m tgt ls rest)) : W p l e rm s m args below meth c H locs cells slots Qw (F0 m pc ls (.int x :: rest)) := by
  subst hx
  exact lv_tableIn hexec hb hdg h1 h2 ho ht k
/-- results -/
def Qi (K : MK) (R : MR) (n : Nat) (Q : Int32 → MI → Prop) : Option Value → MK → MR → MI → Nat → Prop := fun v K' R' I' n' => K' = K ∧ R' = R ∧ n' = n ∧ ∃ r, v = some (.int r) ∧ Q r I'
def Qv (K : MK) (R : MR) (n : Nat) (Q : MI → Prop) : Option Value → MK → MR → MI → Nat → Prop := fun v K' R' I' n' => K' = K ∧ R' = R ∧ n' = n ∧ v = none ∧ Q I'
def Qo (K : MK) (R : MR) (n : Nat) (Q : Option Nat → MI → Prop) : Option Value → MK → MR → MI → Nat → Prop := fun v K' R' I' n' => K' = K ∧ R' = R ∧ n' = n ∧ ∃ o, v = some (va_rf o) ∧ Q o I'
theorem MM.of1 {y : MethodName} {b : ByteArray} {fr lo mc ms : Nat} {av : List Value} {Q : Option Value → MK → MR → MI → Nat → Prop} (hy : plainName y.cls = true) (own : String) (hown : y.cls = own) (hcat : ∀ v ∈ av, v.category = 1) (hsl : av.length ≤ nL)
    (body : ∀ (p : Program) (e : Env) (s : State) (m : MethodId) (args : Array Value) (below : List Frame) (meth : Method) (c : Code) (ls : Array Slot), Cx E p s m meth c b nL own ret args → (y.name = "<init>" → meth.name = "<init>") → Rep E K R I n s.heap → va_S (AA E) s.heap s.heap [] → hv ls nL (enA 0 av) →
      W p l e (rmM fr lo mc ms) s m args below meth c s.heap [] 0 0 (MQ below (QcM E Q) args s mc ms (AA E)) (F0 m 0 ls [])) : MM E l y b nL ret fr lo mc ms av K R I n Q := by
  refine MM.of hy own hown (by rw [lg_len av hcat]; exact hsl) ?_
  intro p e s m args below meth c ls C hin hR hl
  rw [enA_eq av 0 hcat] at hl
  exact body p e s m args below meth c ls C hin hR va_S.rf ⟨hl, enA_cat av 0 hcat⟩
variable {y : MethodName} {b : ByteArray} {nL' : Nat} {ret' : Option FieldType} {fr lo index na : Nat} {C0 : String} {As : List Value}
theorem v_cVi {Q : Int32 → MI → Prop} {ci : Nat} {q : vw_C} (C : Cx E p s m meth c cc nL own ret args) (hR : Rep E K R I n H) (hS : va_S (AA E) s.heap H locs) (hls : ls.size = nL) (hca : CaV y b nL' ret' C0 na) (hlink : Cond.methodLink own index y ∈ Gt) (hM : MM E l y b nL' ret' fr lo 0 0 (.ref a :: As) K R I n (Qi K R n Q)) (hKa : K a = some (.inr ci)) (hc : vwCl[ci]? = some q) (hq : q.1 = C0) (hn : As.length = na) (hst : st0 = As.reverse ++ .ref a :: rest) (hcat : (rest.map fun v => v.category).sum ≤ 8) (hrm : fr + 1 ≤ rm.frames ∧ 8 + (nL' + 11) + lo ≤ rm.locals) (hf : cells ≤ rm.cells ∧ slots ≤ rm.slots) (hdg : decode cc pc = .ok (.invokevirtual index, 3))
    (kk : ∀ (r : Int32) (I' : MI) (H1 : Heap) (locs1 : List Loc), Q r I' → Rep E K R I' n H1 → va_S (AA E) s.heap H1 locs1 → W p l e rm s m args below meth c H1 locs1 cells slots Qw (F0 m (pc + 3) ls (.int r :: rest))) : W p l e rm s m args below meth c H locs cells slots Qw (F0 m pc ls st0) :=
  v_callV C hR hS hls hca hlink hM hKa hc hq hn hst hcat hrm hf hdg (fun v K' R' I' n' H1 locs1 h hR2 hS2 => by
    obtain ⟨rfl, rfl, rfl, r, rfl, h⟩ := h
    exact kk r I' H1 locs1 h hR2 hS2)
theorem v_cVv {Q : MI → Prop} {ci : Nat} {q : vw_C} (C : Cx E p s m meth c cc nL own ret args) (hR : Rep E K R I n H) (hS : va_S (AA E) s.heap H locs) (hls : ls.size = nL) (hca : CaV y b nL' ret' C0 na) (hlink : Cond.methodLink own index y ∈ Gt) (hM : MM E l y b nL' ret' fr lo 0 0 (.ref a :: As) K R I n (Qv K R n Q)) (hKa : K a = some (.inr ci)) (hc : vwCl[ci]? = some q) (hq : q.1 = C0) (hn : As.length = na) (hst : st0 = As.reverse ++ .ref a :: rest) (hcat : (rest.map fun v => v.category).sum ≤ 8) (hrm : fr + 1 ≤ rm.frames ∧ 8 + (nL' + 11) + lo ≤ rm.locals) (hf : cells ≤ rm.cells ∧ slots ≤ rm.slots) (hdg : decode cc pc = .ok (.invokevirtual index, 3))
    (kk : ∀ (I' : MI) (H1 : Heap) (locs1 : List Loc), Q I' → Rep E K R I' n H1 → va_S (AA E) s.heap H1 locs1 → W p l e rm s m args below meth c H1 locs1 cells slots Qw (F0 m (pc + 3) ls rest)) : W p l e rm s m args below meth c H locs cells slots Qw (F0 m pc ls st0) :=
  v_callV C hR hS hls hca hlink hM hKa hc hq hn hst hcat hrm hf hdg (fun v K' R' I' n' H1 locs1 h hR2 hS2 => by
    obtain ⟨rfl, rfl, rfl, rfl, h⟩ := h
    exact kk I' H1 locs1 h hR2 hS2)
theorem v_cVo {Q : Option Nat → MI → Prop} {ci : Nat} {q : vw_C} (C : Cx E p s m meth c cc nL own ret args) (hR : Rep E K R I n H) (hS : va_S (AA E) s.heap H locs) (hls : ls.size = nL) (hca : CaV y b nL' ret' C0 na) (hlink : Cond.methodLink own index y ∈ Gt) (hM : MM E l y b nL' ret' fr lo 0 0 (.ref a :: As) K R I n (Qo K R n Q)) (hKa : K a = some (.inr ci)) (hc : vwCl[ci]? = some q) (hq : q.1 = C0) (hn : As.length = na) (hst : st0 = As.reverse ++ .ref a :: rest) (hcat : (rest.map fun v => v.category).sum ≤ 8) (hrm : fr + 1 ≤ rm.frames ∧ 8 + (nL' + 11) + lo ≤ rm.locals) (hf : cells ≤ rm.cells ∧ slots ≤ rm.slots) (hdg : decode cc pc = .ok (.invokevirtual index, 3))
    (kk : ∀ (o : Option Nat) (I' : MI) (H1 : Heap) (locs1 : List Loc), Q o I' → Rep E K R I' n H1 → va_S (AA E) s.heap H1 locs1 → W p l e rm s m args below meth c H1 locs1 cells slots Qw (F0 m (pc + 3) ls (va_rf o :: rest))) : W p l e rm s m args below meth c H locs cells slots Qw (F0 m pc ls st0) :=
  v_callV C hR hS hls hca hlink hM hKa hc hq hn hst hcat hrm hf hdg (fun v K' R' I' n' H1 locs1 h hR2 hS2 => by
    obtain ⟨rfl, rfl, rfl, r, rfl, h⟩ := h
    exact kk r I' H1 locs1 h hR2 hS2)
theorem v_cSi {Q : Int32 → MI → Prop} (C : Cx E p s m meth c cc nL own ret args) (hR : Rep E K R I n H) (hS : va_S (AA E) s.heap H locs) (hls : ls.size = nL) (hca : CaS y b nL' ret' C0 na) (hlink : Cond.methodLink own index y ∈ Gt) (hM : MM E l y b nL' ret' fr lo 0 0 As K R I n (Qi K R n Q)) (hn : As.length = na) (hst : st0 = As.reverse ++ rest) (hcat : (rest.map fun v => v.category).sum ≤ 8) (hrm : fr + 1 ≤ rm.frames ∧ 8 + (nL' + 11) + lo ≤ rm.locals) (hf : cells ≤ rm.cells ∧ slots ≤ rm.slots) (hdg : decode cc pc = .ok (.invokestatic index, 3))
    (kk : ∀ (r : Int32) (I' : MI) (H1 : Heap) (locs1 : List Loc), Q r I' → Rep E K R I' n H1 → va_S (AA E) s.heap H1 locs1 → W p l e rm s m args below meth c H1 locs1 cells slots Qw (F0 m (pc + 3) ls (.int r :: rest))) : W p l e rm s m args below meth c H locs cells slots Qw (F0 m pc ls st0) :=
  v_callS C hR hS hls hca hlink hM hn hst hcat hrm hf hdg (fun v K' R' I' n' H1 locs1 h hR2 hS2 => by
    obtain ⟨rfl, rfl, rfl, r, rfl, h⟩ := h
    exact kk r I' H1 locs1 h hR2 hS2)
theorem v_cNi {host : String} {Q : Int32 → MI → Prop} (C : Cx E p s m meth c cc nL own ret args) (hR : Rep E K R I n H) (hS : va_S (AA E) s.heap H locs) (hls : ls.size = nL) (hca : CaS y b nL' ret' C0 na) (hlink : (own, index, y, host) ∈ nestM) (hM : MM E l y b nL' ret' fr lo 0 0 As K R I n (Qi K R n Q)) (hn : As.length = na) (hst : st0 = As.reverse ++ rest) (hcat : (rest.map fun v => v.category).sum ≤ 8) (hrm : fr + 1 ≤ rm.frames ∧ 8 + (nL' + 11) + lo ≤ rm.locals) (hf : cells ≤ rm.cells ∧ slots ≤ rm.slots) (hdg : decode cc pc = .ok (.invokestatic index, 3))
    (kk : ∀ (r : Int32) (I' : MI) (H1 : Heap) (locs1 : List Loc), Q r I' → Rep E K R I' n H1 → va_S (AA E) s.heap H1 locs1 → W p l e rm s m args below meth c H1 locs1 cells slots Qw (F0 m (pc + 3) ls (.int r :: rest))) : W p l e rm s m args below meth c H locs cells slots Qw (F0 m pc ls st0) :=
  v_callSN C hR hS hls hca hlink hM hn hst hcat hrm hf hdg (fun v K' R' I' n' H1 locs1 h hR2 hS2 => by
    obtain ⟨rfl, rfl, rfl, r, rfl, h⟩ := h
    exact kk r I' H1 locs1 h hR2 hS2)
end MR2
/-! THE SHAPE OF THE OBJECTS: what stands where, by the order in which the constructors make it -/
def IsQ (K : MK) (R : MR) (a : Nat) : Prop := K a = some (.inr 3)
def IsLine (K : MK) (R : MR) (a : Nat) : Prop := K a = some (.inr 1) ∧ (∀ g, R a 0 g = some (a + 1)) ∧ K (a + 1) = some (.inl (0, 6))
def IsMaster (K : MK) (R : MR) (a : Nat) : Prop := K a = some (.inr 2) ∧ (∀ g, R a 0 g = some (a + 1)) ∧ IsLine K R (a + 1)
def IsTarget (K : MK) (R : MR) (a : Nat) : Prop := K a = some (.inr 5) ∧ (∀ g, R a 0 g = some (a + 1)) ∧ K (a + 1) = some (.inl (0, 16)) ∧ (∀ g, R a 1 g = some (a + 2)) ∧ K (a + 2) = some (.inl (0, 3)) ∧ (∀ g, R a 2 g = some (a + 3)) ∧ IsLine K R (a + 3)
def IsText (K : MK) (R : MR) (a : Nat) : Prop := K a = some (.inr 4) ∧ (∀ g, R a 0 g = some (a + 1)) ∧ K (a + 1) = some (.inl (1, 60)) ∧ (∀ g, R a 2 g = some (a + 2)) ∧ K (a + 2) = some (.inl (4, 10)) ∧ ∀ i, i < 10 → (∀ g, R (a + 2) i g = some (a + 3 + i)) ∧ IsQ K R (a + 3 + i)
def IsBus (K : MK) (R : MR) (a : Nat) : Prop := K a = some (.inr 0) ∧ (∀ g, R a 0 g = some (a + 1)) ∧ K (a + 1) = some (.inl (0, 3)) ∧ (∀ g, R a 1 g = some (a + 2)) ∧ K (a + 2) = some (.inl (0, 8)) ∧ (∀ g, R a 2 g = some (a + 3)) ∧ K (a + 3) = some (.inl (2, 4)) ∧ (∀ g, R a 3 g = some (a + 4)) ∧ K (a + 4) = some (.inl (3, 4)) ∧ (∀ g, R a 4 g = some (a + 5)) ∧ K (a + 5) = some (.inl (4, 200)) ∧
  (∀ i, i < 4 → (∀ g, R (a + 3) i g = some (a + 6 + 3 * i)) ∧ IsMaster K R (a + 6 + 3 * i)) ∧ (∀ i, i < 4 → (∀ g, R (a + 4) i g = some (a + 18 + 5 * i)) ∧ IsTarget K R (a + 18 + 5 * i)) ∧ (∀ i, i < 200 → (∀ g, R (a + 5) i g = some (a + 38 + i)) ∧ IsQ K R (a + 38 + i))
def pastA (a : Nat) (g : Int32) : Nat := a + 729 + 238 * ix g
def IsTag (K : MK) (R : MR) (a : Nat) : Prop := K a = some (.inr 6) ∧ (∀ g, R a 0 g = some (a + 1)) ∧ IsBus K R (a + 1) ∧ (∀ g, R a 1 g = some (a + 239)) ∧ IsBus K R (a + 239) ∧ (∀ g, R a 2 g = some (a + 477)) ∧ IsBus K R (a + 477) ∧ (∀ g, R a 4 g = some (a + 715)) ∧ K (a + 715) = some (.inl (5, 4)) ∧ (∀ g, R a 6 g = some (a + 716)) ∧ IsText K R (a + 716) ∧ (∀ i, i < 4 → ∀ g, R (a + 715) i g = some (pastA a g)) ∧ ∀ g, ix g < 4 → IsBus K R (pastA a g)
section SH
variable {K : MK} {R : MR} {a : Nat}
theorem IsLine.k (h : IsLine K R a) : K a = some (.inr 1) := h.1
theorem IsLine.r0 (h : IsLine K R a) (g : Int32) : R a 0 g = some (a + 1) := h.2.1 g
theorem IsLine.a0 (h : IsLine K R a) : K (a + 1) = some (.inl (0, 6)) := h.2.2
theorem IsMaster.k (h : IsMaster K R a) : K a = some (.inr 2) := h.1
theorem IsMaster.r0 (h : IsMaster K R a) (g : Int32) : R a 0 g = some (a + 1) := h.2.1 g
theorem IsMaster.o0 (h : IsMaster K R a) : IsLine K R (a + 1) := h.2.2
theorem IsTarget.k (h : IsTarget K R a) : K a = some (.inr 5) := h.1
theorem IsTarget.r0 (h : IsTarget K R a) (g : Int32) : R a 0 g = some (a + 1) := h.2.1 g
theorem IsTarget.a0 (h : IsTarget K R a) : K (a + 1) = some (.inl (0, 16)) := h.2.2.1
theorem IsTarget.r1 (h : IsTarget K R a) (g : Int32) : R a 1 g = some (a + 2) := h.2.2.2.1 g
theorem IsTarget.a1 (h : IsTarget K R a) : K (a + 2) = some (.inl (0, 3)) := h.2.2.2.2.1
theorem IsTarget.r2 (h : IsTarget K R a) (g : Int32) : R a 2 g = some (a + 3) := h.2.2.2.2.2.1 g
theorem IsTarget.o2 (h : IsTarget K R a) : IsLine K R (a + 3) := h.2.2.2.2.2.2
theorem IsText.k (h : IsText K R a) : K a = some (.inr 4) := h.1
theorem IsText.r0 (h : IsText K R a) (g : Int32) : R a 0 g = some (a + 1) := h.2.1 g
theorem IsText.a0 (h : IsText K R a) : K (a + 1) = some (.inl (1, 60)) := h.2.2.1
theorem IsText.r2 (h : IsText K R a) (g : Int32) : R a 2 g = some (a + 2) := h.2.2.2.1 g
theorem IsText.a2 (h : IsText K R a) : K (a + 2) = some (.inl (4, 10)) := h.2.2.2.2.1
theorem IsText.e2 (h : IsText K R a) {i : Nat} (hi : i < 10) (g : Int32) : R (a + 2) i g = some (a + 3 + i) := (h.2.2.2.2.2 i hi).1 g
theorem IsText.p2 (h : IsText K R a) {i : Nat} (hi : i < 10) : IsQ K R (a + 3 + i) := (h.2.2.2.2.2 i hi).2
theorem IsBus.k (h : IsBus K R a) : K a = some (.inr 0) := h.1
theorem IsBus.r0 (h : IsBus K R a) (g : Int32) : R a 0 g = some (a + 1) := h.2.1 g
theorem IsBus.a0 (h : IsBus K R a) : K (a + 1) = some (.inl (0, 3)) := h.2.2.1
theorem IsBus.r1 (h : IsBus K R a) (g : Int32) : R a 1 g = some (a + 2) := h.2.2.2.1 g
theorem IsBus.a1 (h : IsBus K R a) : K (a + 2) = some (.inl (0, 8)) := h.2.2.2.2.1
theorem IsBus.r2 (h : IsBus K R a) (g : Int32) : R a 2 g = some (a + 3) := h.2.2.2.2.2.1 g
theorem IsBus.a2 (h : IsBus K R a) : K (a + 3) = some (.inl (2, 4)) := h.2.2.2.2.2.2.1
theorem IsBus.r3 (h : IsBus K R a) (g : Int32) : R a 3 g = some (a + 4) := h.2.2.2.2.2.2.2.1 g
theorem IsBus.a3 (h : IsBus K R a) : K (a + 4) = some (.inl (3, 4)) := h.2.2.2.2.2.2.2.2.1
theorem IsBus.r4 (h : IsBus K R a) (g : Int32) : R a 4 g = some (a + 5) := h.2.2.2.2.2.2.2.2.2.1 g
theorem IsBus.a4 (h : IsBus K R a) : K (a + 5) = some (.inl (4, 200)) := h.2.2.2.2.2.2.2.2.2.2.1
theorem IsBus.e2 (h : IsBus K R a) {i : Nat} (hi : i < 4) (g : Int32) : R (a + 3) i g = some (a + 6 + 3 * i) := (h.2.2.2.2.2.2.2.2.2.2.2.1 i hi).1 g
theorem IsBus.p2 (h : IsBus K R a) {i : Nat} (hi : i < 4) : IsMaster K R (a + 6 + 3 * i) := (h.2.2.2.2.2.2.2.2.2.2.2.1 i hi).2
theorem IsBus.e3 (h : IsBus K R a) {i : Nat} (hi : i < 4) (g : Int32) : R (a + 4) i g = some (a + 18 + 5 * i) := (h.2.2.2.2.2.2.2.2.2.2.2.2.1 i hi).1 g
theorem IsBus.p3 (h : IsBus K R a) {i : Nat} (hi : i < 4) : IsTarget K R (a + 18 + 5 * i) := (h.2.2.2.2.2.2.2.2.2.2.2.2.1 i hi).2
theorem IsBus.e4 (h : IsBus K R a) {i : Nat} (hi : i < 200) (g : Int32) : R (a + 5) i g = some (a + 38 + i) := (h.2.2.2.2.2.2.2.2.2.2.2.2.2 i hi).1 g
theorem IsBus.p4 (h : IsBus K R a) {i : Nat} (hi : i < 200) : IsQ K R (a + 38 + i) := (h.2.2.2.2.2.2.2.2.2.2.2.2.2 i hi).2
theorem IsTag.k (h : IsTag K R a) : K a = some (.inr 6) := h.1
theorem IsTag.r0 (h : IsTag K R a) (g : Int32) : R a 0 g = some (a + 1) := h.2.1 g
theorem IsTag.o0 (h : IsTag K R a) : IsBus K R (a + 1) := h.2.2.1
theorem IsTag.r1 (h : IsTag K R a) (g : Int32) : R a 1 g = some (a + 239) := h.2.2.2.1 g
theorem IsTag.o1 (h : IsTag K R a) : IsBus K R (a + 239) := h.2.2.2.2.1
theorem IsTag.r2 (h : IsTag K R a) (g : Int32) : R a 2 g = some (a + 477) := h.2.2.2.2.2.1 g
theorem IsTag.o2 (h : IsTag K R a) : IsBus K R (a + 477) := h.2.2.2.2.2.2.1
theorem IsTag.r4 (h : IsTag K R a) (g : Int32) : R a 4 g = some (a + 715) := h.2.2.2.2.2.2.2.1 g
theorem IsTag.a4 (h : IsTag K R a) : K (a + 715) = some (.inl (5, 4)) := h.2.2.2.2.2.2.2.2.1
theorem IsTag.r6 (h : IsTag K R a) (g : Int32) : R a 6 g = some (a + 716) := h.2.2.2.2.2.2.2.2.2.1 g
theorem IsTag.o6 (h : IsTag K R a) : IsText K R (a + 716) := h.2.2.2.2.2.2.2.2.2.2.1
theorem IsTag.e4 (h : IsTag K R a) {i : Nat} (hi : i < 4) (g : Int32) : R (a + 715) i g = some (pastA a g) := h.2.2.2.2.2.2.2.2.2.2.2.1 i hi g
theorem IsTag.p4 (h : IsTag K R a) {g : Int32} (hg : ix g < 4) : IsBus K R (pastA a g) := h.2.2.2.2.2.2.2.2.2.2.2.2 g hg
end SH
/-- a known reference read out of a field -/
theorem rf_of {o : Option Nat} {a : Nat} (h : o = some a) : some (va_rf o) = some (Value.ref a) := by rw [h]; rfl
